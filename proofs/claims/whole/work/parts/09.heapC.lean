/-! WeakHeap: joining, rising, laying, leaving -/
set_option maxHeartbeats 4000000 in
set_option maxRecDepth 100000 in
theorem c_exchange (l : Launch) (G : va_G) (cI : ClassId) (hz da la saz : Nat) (Dz Lz Sz : Fn) (nz : Nat) (cz gz : Int32) (e1 j1 : Nat) (he : e1 < 63) (hj : j1 < 63) : zC_v l yX0_exchange wsX0_exchange ({ frames := 0, cells := 0, slots := 0, locals := 0 }) G [(cI, .int)] (wh cI hz da la saz (Dz, Lz, Sz, nz, cz, gz)) (wh cI hz da la saz (exF Dz e1 j1, exF Lz e1 j1, Sz, nz, cz, gz)) [.ref hz, .int (nI e1), .int (nI j1)] := by
  refine zB_v (cc := cX0_exchange) (maxL := 5) (ret := none) (by decide) rfl (Nat.le_of_ble_eq_true rfl) ?_
  intro p e s m args below meth c0 A hF hr hlk hK hA hP hD hS ls hl
  have hx := hF.1
  have hb := hF.2.1
  have hown := hF.2.2.2.1
  have hts := hF.2.2.2.2
  have hf9 := hts (.fieldLink RX0 9 "SnoringDukes$WeakHeap" "duke" "[I") (by decide +kernel)
  have hf15 := hts (.fieldLink RX0 15 "SnoringDukes$WeakHeap" "loudness" "[I") (by decide +kernel)
  have hinX0 : ∀ wz ∈ wsX00, wz ∈ wsX0_exchange := by decide +kernel
  have hl : lv_has ls 5 [(0, .ref hz), (1, .int (nI e1)), (2, .int (nI j1))] := hl
  refine lv_aload_n hx hb dX0_exchange_0 rfl (lv_at hl 0 rfl) ?_
  refine va_get (D := G) (ci := 0) (v := .ref da) (C := RX0) (T := TX0) (N := 6) hx hb hts hinX0 hown hK hP 0 rfl rfl 0 (by decide) hf9 (fun _ h9 => h9) rfl dX0_exchange_1 ?_
  refine lv_iload_n hx hb dX0_exchange_4 rfl (lv_at hl 1 rfl) ?_
  refine zA_ld hx hb hK hP 1 0 rfl rfl (by omega) (by decide) dX0_exchange_5 ?_
  refine lv_istore_n (lv' := [(3, .int (Dz e1)), (0, .ref hz), (1, .int (nI e1)), (2, .int (nI j1))]) hx hb dX0_exchange_6 rfl hl (by decide) rfl (fun ls hl => ?_)
  refine lv_aload_n hx hb dX0_exchange_7 rfl (lv_at hl 1 rfl) ?_
  refine va_get (D := G) (ci := 0) (v := .ref la) (C := RX0) (T := TX0) (N := 6) hx hb hts hinX0 hown hK hP 0 rfl rfl 1 (by decide) hf15 (fun _ h9 => h9) rfl dX0_exchange_8 ?_
  refine lv_iload_n hx hb dX0_exchange_11 rfl (lv_at hl 2 rfl) ?_
  refine zA_ld hx hb hK hP 2 0 rfl rfl (by omega) (by decide) dX0_exchange_12 ?_
  refine lv_istore (lv' := [(4, .int (Lz e1)), (3, .int (Dz e1)), (0, .ref hz), (1, .int (nI e1)), (2, .int (nI j1))]) hx hb dX0_exchange_13 hl (by decide) rfl (fun ls hl => ?_)
  refine lv_aload_n hx hb dX0_exchange_15 rfl (lv_at hl 2 rfl) ?_
  refine va_get (D := G) (ci := 0) (v := .ref da) (C := RX0) (T := TX0) (N := 6) hx hb hts hinX0 hown hK hP 0 rfl rfl 0 (by decide) hf9 (fun _ h9 => h9) rfl dX0_exchange_16 ?_
  refine lv_iload_n hx hb dX0_exchange_19 rfl (lv_at hl 3 rfl) ?_
  refine lv_aload_n hx hb dX0_exchange_20 rfl (lv_at hl 2 rfl) ?_
  refine va_get (D := G) (ci := 0) (v := .ref da) (C := RX0) (T := TX0) (N := 6) hx hb hts hinX0 hown hK hP 0 rfl rfl 0 (by decide) hf9 (fun _ h9 => h9) rfl dX0_exchange_21 ?_
  refine lv_iload_n hx hb dX0_exchange_24 rfl (lv_at hl 4 rfl) ?_
  refine zA_ld hx hb hK hP 1 0 rfl rfl (by omega) (by decide) dX0_exchange_25 ?_
  refine zA_st (x := Dz j1) hx hb hK hP hD hS 1 0 rfl rfl (by omega) (by decide) dX0_exchange_26 (fun H locs hP hD hS => ?_)
  have hP : va_P G vwCl (wh cI hz da la saz (upd Dz e1 (Dz j1), Lz, Sz, nz, cz, gz)) H := hP
  have hD : va_D A (wh cI hz da la saz (upd Dz e1 (Dz j1), Lz, Sz, nz, cz, gz)) := hD
  refine lv_aload_n hx hb dX0_exchange_27 rfl (lv_at hl 2 rfl) ?_
  refine va_get (D := G) (ci := 0) (v := .ref la) (C := RX0) (T := TX0) (N := 6) hx hb hts hinX0 hown hK hP 0 rfl rfl 1 (by decide) hf15 (fun _ h9 => h9) rfl dX0_exchange_28 ?_
  refine lv_iload_n hx hb dX0_exchange_31 rfl (lv_at hl 3 rfl) ?_
  refine lv_aload_n hx hb dX0_exchange_32 rfl (lv_at hl 2 rfl) ?_
  refine va_get (D := G) (ci := 0) (v := .ref la) (C := RX0) (T := TX0) (N := 6) hx hb hts hinX0 hown hK hP 0 rfl rfl 1 (by decide) hf15 (fun _ h9 => h9) rfl dX0_exchange_33 ?_
  refine lv_iload_n hx hb dX0_exchange_36 rfl (lv_at hl 4 rfl) ?_
  refine zA_ld hx hb hK hP 2 0 rfl rfl (by omega) (by decide) dX0_exchange_37 ?_
  refine zA_st (x := Lz j1) hx hb hK hP hD hS 2 0 rfl rfl (by omega) (by decide) dX0_exchange_38 (fun H locs hP hD hS => ?_)
  have hP : va_P G vwCl (wh cI hz da la saz (upd Dz e1 (Dz j1), upd Lz e1 (Lz j1), Sz, nz, cz, gz)) H := hP
  have hD : va_D A (wh cI hz da la saz (upd Dz e1 (Dz j1), upd Lz e1 (Lz j1), Sz, nz, cz, gz)) := hD
  refine lv_aload_n hx hb dX0_exchange_39 rfl (lv_at hl 2 rfl) ?_
  refine va_get (D := G) (ci := 0) (v := .ref da) (C := RX0) (T := TX0) (N := 6) hx hb hts hinX0 hown hK hP 0 rfl rfl 0 (by decide) hf9 (fun _ h9 => h9) rfl dX0_exchange_40 ?_
  refine lv_iload_n hx hb dX0_exchange_43 rfl (lv_at hl 4 rfl) ?_
  refine lv_iload_n hx hb dX0_exchange_44 rfl (lv_at hl 1 rfl) ?_
  refine zA_st (x := Dz e1) hx hb hK hP hD hS 1 0 rfl rfl (by omega) (by decide) dX0_exchange_45 (fun H locs hP hD hS => ?_)
  have hP : va_P G vwCl (wh cI hz da la saz (upd (upd Dz e1 (Dz j1)) j1 (Dz e1), upd Lz e1 (Lz j1), Sz, nz, cz, gz)) H := hP
  have hD : va_D A (wh cI hz da la saz (upd (upd Dz e1 (Dz j1)) j1 (Dz e1), upd Lz e1 (Lz j1), Sz, nz, cz, gz)) := hD
  refine lv_aload_n hx hb dX0_exchange_46 rfl (lv_at hl 2 rfl) ?_
  refine va_get (D := G) (ci := 0) (v := .ref la) (C := RX0) (T := TX0) (N := 6) hx hb hts hinX0 hown hK hP 0 rfl rfl 1 (by decide) hf15 (fun _ h9 => h9) rfl dX0_exchange_47 ?_
  refine lv_iload_n hx hb dX0_exchange_50 rfl (lv_at hl 4 rfl) ?_
  refine lv_iload hx hb dX0_exchange_51 (lv_at hl 0 rfl) ?_
  refine zA_st (x := Lz e1) hx hb hK hP hD hS 2 0 rfl rfl (by omega) (by decide) dX0_exchange_53 (fun H locs hP hD hS => ?_)
  have hP : va_P G vwCl (wh cI hz da la saz (upd (upd Dz e1 (Dz j1)) j1 (Dz e1), upd (upd Lz e1 (Lz j1)) j1 (Lz e1), Sz, nz, cz, gz)) H := hP
  have hD : va_D A (wh cI hz da la saz (upd (upd Dz e1 (Dz j1)) j1 (Dz e1), upd (upd Lz e1 (Lz j1)) j1 (Lz e1), Sz, nz, cz, gz)) := hD
  exact zE_v hF hr hlk hK hP hD hS dX0_exchange_54
set_option maxHeartbeats 4000000 in
set_option maxRecDepth 100000 in
theorem c_join (l : Launch) (G : va_G) (cI : ClassId) (hz da la saz : Nat) (Dz Lz Sz : Fn) (nz : Nat) (cz gz : Int32) (hn : nz ≤ 63) (e1 j1 : Nat) (he : e1 < nz) (hj : j1 < nz) : zC_i l yX0_join wsX0_join ({ frames := 1, cells := 0, slots := 0, locals := 24 }) G [(cI, .int)] (wh cI hz da la saz (Dz, Lz, Sz, nz, cz, gz)) (wh cI hz da la saz (joinF false (Dz, Lz, Sz, nz, cz, gz) e1 j1)) [.ref hz, .int (nI e1), .int (nI j1)] (bI (jc false (Dz, Lz, Sz, nz, cz, gz) e1 j1)) := by
  refine zB_i (cc := cX0_join) (maxL := 3) (ret := (some .boolean)) (by decide) rfl (Nat.le_of_ble_eq_true rfl) ?_
  intro p e s m args below meth c0 A hF hr hlk hK hA hP hD hS ls hl
  have hx := hF.1
  have hb := hF.2.1
  have hown := hF.2.2.2.1
  have hts := hF.2.2.2.2
  have hf25 := hts (.fieldLink RX0 25 "SnoringDukes$WeakHeap" "compared" "I") (by decide +kernel)
  have hf15 := hts (.fieldLink RX0 15 "SnoringDukes$WeakHeap" "loudness" "[I") (by decide +kernel)
  have hf28 := hts (.fieldLink RX0 28 "SnoringDukes$WeakHeap" "changed" "I") (by decide +kernel)
  have hf18 := hts (.fieldLink RX0 18 "SnoringDukes$WeakHeap" "side" "[I") (by decide +kernel)
  have hinX0 : ∀ wz ∈ wsX00, wz ∈ wsX0_join := by decide +kernel
  have hl : lv_has ls 3 [(0, .ref hz), (1, .int (nI e1)), (2, .int (nI j1))] := hl
  refine lv_aload_n hx hb dX0_join_0 rfl (lv_at hl 0 rfl) ?_
  refine lv_iload_n hx hb dX0_join_1 rfl (lv_at hl 1 rfl) ?_
  refine zK_vi (As := [.int (nI e1)]) (rest := []) hF (c_has l G cI hz da la saz (Dz) (Lz) (Sz) (nz) (cz) (gz) hn (nI e1)) (cwV 1 hts gX0_join_X0_has rfl rfl rfl (by decide +kernel) ⟨Nat.le_of_ble_eq_true rfl, Nat.le_of_ble_eq_true rfl⟩) hK hP hD hS hA (ci := 0) (q0 := 0) rfl rfl rfl (isC := [0, 1, 2, 3]) (isR := []) (perm := [0, 1, 2, 3]) (wr := []) (wN := wh cI hz da la saz (Dz, Lz, Sz, nz, cz, gz)) ⟨rfl, by decide, rfl, rfl, (fun _ hz => by cases hz), rfl, by decide⟩ [0] rfl rfl hl.1 rfl (Nat.le_of_ble_eq_true rfl) dX0_join_2 ⟨Nat.le_refl _, Nat.le_refl _⟩ (fun H locs hP hD hS => ?_)
  refine lv_if_eq (tgt := 16) hx hb dX0_join_5 (by decide) (fun hc5 => ?_) (fun hc5 => ?_)
  · skip
    have k5 : (hasI nz (nI e1)) = false := bI_e0.mp hc5
    rw [hasI_nI (by omega) (by omega)] at k5
    exact absurd (of_decide_eq_false k5) (by omega)
  · skip
    have k5 : (hasI nz (nI e1)) = true := bI_ne.mp hc5
    refine lv_aload_n hx hb dX0_join_8 rfl (lv_at hl 0 rfl) ?_
    refine lv_iload_n hx hb dX0_join_9 rfl (lv_at hl 2 rfl) ?_
    refine zK_vi (As := [.int (nI j1)]) (rest := []) hF (c_has l G cI hz da la saz (Dz) (Lz) (Sz) (nz) (cz) (gz) hn (nI j1)) (cwV 1 hts gX0_join_X0_has rfl rfl rfl (by decide +kernel) ⟨Nat.le_of_ble_eq_true rfl, Nat.le_of_ble_eq_true rfl⟩) hK hP hD hS hA (ci := 0) (q0 := 0) rfl rfl rfl (isC := [0, 1, 2, 3]) (isR := []) (perm := [0, 1, 2, 3]) (wr := []) (wN := wh cI hz da la saz (Dz, Lz, Sz, nz, cz, gz)) ⟨rfl, by decide, rfl, rfl, (fun _ hz => by cases hz), rfl, by decide⟩ [0] rfl rfl hl.1 rfl (Nat.le_of_ble_eq_true rfl) dX0_join_10 ⟨Nat.le_refl _, Nat.le_refl _⟩ (fun H locs hP hD hS => ?_)
    refine lv_if_ne (tgt := 18) hx hb dX0_join_13 (by decide) (fun hc13 => ?_) (fun hc13 => ?_)
    · skip
      have k13 : (hasI nz (nI j1)) = true := bI_ne.mp hc13
      refine lv_aload_n hx hb dX0_join_18 rfl (lv_at hl 0 rfl) ?_
      refine lv_dup hx hb dX0_join_19 rfl ?_
      refine va_get (D := G) (ci := 0) (v := .int cz) (C := RX0) (T := TX0) (N := 6) hx hb hts hinX0 hown hK hP 0 rfl rfl 4 (by decide) hf25 (fun _ h9 => h9) rfl dX0_join_20 ?_
      refine lv_iconst (v := nI 1) hx hb dX0_join_23 (by decide) ?_
      refine lv_iadd hx hb dX0_join_24 ?_
      refine va_put (D := G) (ci := 0) (v := .int (cz + (nI 1))) (ty := .int) (C := RX0) (T := TX0) (N := 6) hx hb hts hinX0 tyX0 tyX0_ok nmX0 hown hK hP hD hS 0 rfl rfl 4 (by decide) hf25 (fun _ h9 => h9) rfl (by decide +kernel) rfl rfl (Nat.le_of_ble_eq_true rfl) dX0_join_25 (fun H locs hP hD hS => ?_)
      have hP : va_P G vwCl (wh cI hz da la saz (Dz, Lz, Sz, nz, cz + (nI 1), gz)) H := hP
      have hD : va_D A (wh cI hz da la saz (Dz, Lz, Sz, nz, cz + (nI 1), gz)) := hD
      refine lv_aload_n hx hb dX0_join_28 rfl (lv_at hl 0 rfl) ?_
      refine va_get (D := G) (ci := 0) (v := .ref la) (C := RX0) (T := TX0) (N := 6) hx hb hts hinX0 hown hK hP 0 rfl rfl 1 (by decide) hf15 (fun _ h9 => h9) rfl dX0_join_29 ?_
      refine lv_iload_n hx hb dX0_join_32 rfl (lv_at hl 2 rfl) ?_
      refine zA_ld hx hb hK hP 2 0 rfl rfl (by omega) (by decide) dX0_join_33 ?_
      refine lv_aload_n hx hb dX0_join_34 rfl (lv_at hl 0 rfl) ?_
      refine va_get (D := G) (ci := 0) (v := .ref la) (C := RX0) (T := TX0) (N := 6) hx hb hts hinX0 hown hK hP 0 rfl rfl 1 (by decide) hf15 (fun _ h9 => h9) rfl dX0_join_35 ?_
      refine lv_iload_n hx hb dX0_join_38 rfl (lv_at hl 1 rfl) ?_
      refine zA_ld hx hb hK hP 2 0 rfl rfl (by omega) (by decide) dX0_join_39 ?_
      refine lv_icmp_lt (tgt := 45) hx hb dX0_join_40 (by decide) (fun hc40 => ?_) (fun hc40 => ?_)
      · skip
        refine lv_aload_n hx hb dX0_join_45 rfl (lv_at hl 0 rfl) ?_
        refine lv_dup hx hb dX0_join_46 rfl ?_
        refine va_get (D := G) (ci := 0) (v := .int gz) (C := RX0) (T := TX0) (N := 6) hx hb hts hinX0 hown hK hP 0 rfl rfl 5 (by decide) hf28 (fun _ h9 => h9) rfl dX0_join_47 ?_
        refine lv_iconst (v := nI 1) hx hb dX0_join_50 (by decide) ?_
        refine lv_iadd hx hb dX0_join_51 ?_
        refine va_put (D := G) (ci := 0) (v := .int (gz + (nI 1))) (ty := .int) (C := RX0) (T := TX0) (N := 6) hx hb hts hinX0 tyX0 tyX0_ok nmX0 hown hK hP hD hS 0 rfl rfl 5 (by decide) hf28 (fun _ h9 => h9) rfl (by decide +kernel) rfl rfl (Nat.le_of_ble_eq_true rfl) dX0_join_52 (fun H locs hP hD hS => ?_)
        have hP : va_P G vwCl (wh cI hz da la saz (Dz, Lz, Sz, nz, cz + (nI 1), gz + (nI 1))) H := hP
        have hD : va_D A (wh cI hz da la saz (Dz, Lz, Sz, nz, cz + (nI 1), gz + (nI 1))) := hD
        refine lv_aload_n hx hb dX0_join_55 rfl (lv_at hl 0 rfl) ?_
        refine lv_iload_n hx hb dX0_join_56 rfl (lv_at hl 1 rfl) ?_
        refine lv_iload_n hx hb dX0_join_57 rfl (lv_at hl 2 rfl) ?_
        refine zK_vv (As := [.int (nI e1), .int (nI j1)]) (rest := []) hF (c_exchange l G cI hz da la saz (Dz) (Lz) (Sz) (nz) (cz + (nI 1)) (gz + (nI 1)) e1 j1 (by omega) (by omega)) (cwV 2 hts gX0_join_X0_exchange rfl rfl rfl (by decide +kernel) ⟨Nat.le_of_ble_eq_true rfl, Nat.le_of_ble_eq_true rfl⟩) hK hP hD hS hA (ci := 0) (q0 := 0) rfl rfl rfl (isC := [0, 1, 2, 3]) (isR := []) (perm := [0, 1, 2, 3]) (wr := []) (wN := wh cI hz da la saz (exF Dz e1 j1, exF Lz e1 j1, Sz, nz, cz + (nI 1), gz + (nI 1))) ⟨rfl, by decide, rfl, rfl, (fun _ hz => by cases hz), rfl, by decide⟩ [0] rfl rfl hl.1 rfl (Nat.le_of_ble_eq_true rfl) dX0_join_58 ⟨Nat.le_refl _, Nat.le_refl _⟩ (fun H locs hP hD hS => ?_)
        refine lv_aload_n hx hb dX0_join_61 rfl (lv_at hl 0 rfl) ?_
        refine va_get (D := G) (ci := 0) (v := .ref saz) (C := RX0) (T := TX0) (N := 6) hx hb hts hinX0 hown hK hP 0 rfl rfl 2 (by decide) hf18 (fun _ h9 => h9) rfl dX0_join_62 ?_
        refine lv_iload_n hx hb dX0_join_65 rfl (lv_at hl 2 rfl) ?_
        refine lv_iconst (v := nI 1) hx hb dX0_join_66 (by decide) ?_
        refine lv_aload_n hx hb dX0_join_67 rfl (lv_at hl 0 rfl) ?_
        refine va_get (D := G) (ci := 0) (v := .ref saz) (C := RX0) (T := TX0) (N := 6) hx hb hts hinX0 hown hK hP 0 rfl rfl 2 (by decide) hf18 (fun _ h9 => h9) rfl dX0_join_68 ?_
        refine lv_iload_n hx hb dX0_join_71 rfl (lv_at hl 2 rfl) ?_
        refine zA_ld hx hb hK hP 3 0 rfl rfl (by omega) (by decide) dX0_join_72 ?_
        refine lv_isub hx hb dX0_join_73 ?_
        refine zA_st (x := (nI 1) - (Sz j1)) hx hb hK hP hD hS 3 0 rfl rfl (by omega) (by decide) dX0_join_74 (fun H locs hP hD hS => ?_)
        have hP : va_P G vwCl (wh cI hz da la saz (exF Dz e1 j1, exF Lz e1 j1, upd Sz j1 ((nI 1) - (Sz j1)), nz, cz + (nI 1), gz + (nI 1))) H := hP
        have hD : va_D A (wh cI hz da la saz (exF Dz e1 j1, exF Lz e1 j1, upd Sz j1 ((nI 1) - (Sz j1)), nz, cz + (nI 1), gz + (nI 1))) := hD
        refine lv_iconst (v := nI 1) hx hb dX0_join_75 (by decide) ?_
        have e8 : jc false (Dz, Lz, Sz, nz, cz, gz) e1 j1 = true := by unfold jc; rw [Bool.false_or]; exact decide_eq_true hc40
        have e7 : joinF false (Dz, Lz, Sz, nz, cz, gz) e1 j1 = (exF Dz e1 j1, exF Lz e1 j1, upd Sz j1 (nI 1 - Sz j1), nz, cz + nI 1, gz + nI 1) := by unfold joinF; rw [e8]; rfl
        rw [e7, e8]
        exact zE_z hF hr hlk (Or.inr rfl) hK hP hD hS dX0_join_76
      · skip
        refine lv_iconst (v := nI 0) hx hb dX0_join_43 (by decide) ?_
        have e8 : jc false (Dz, Lz, Sz, nz, cz, gz) e1 j1 = false := by unfold jc; rw [Bool.false_or]; exact decide_eq_false hc40
        have e7 : joinF false (Dz, Lz, Sz, nz, cz, gz) e1 j1 = (Dz, Lz, Sz, nz, cz + nI 1, gz) := by unfold joinF; rw [e8]; rfl
        rw [e7, e8]
        exact zE_z hF hr hlk (Or.inl rfl) hK hP hD hS dX0_join_44
    · skip
      have k13 : (hasI nz (nI j1)) = false := bI_e0.mp hc13
      rw [hasI_nI (by omega) (by omega)] at k13
      exact absurd (of_decide_eq_false k13) (by omega)
set_option maxHeartbeats 4000000 in
set_option maxRecDepth 100000 in
theorem c_rise (l : Launch) (G : va_G) (cI : ClassId) (hz da la saz : Nat) (Dz Lz Sz : Fn) (nz : Nat) (cz gz : Int32) (hn : nz ≤ 63) (hS1 : okS Sz) (bz : Nat) (hb9 : bz < nz) : zC_i l yX0_rise wsX0_rise ({ frames := 4, cells := 0, slots := 0, locals := 85 }) G [(cI, .int)] (wh cI hz da la saz (Dz, Lz, Sz, nz, cz, gz)) (wh cI hz da la saz (riseF false 63 (Dz, Lz, Sz, nz, cz, gz) bz).1) [.ref hz, .int (nI bz)] (nI (riseF false 63 (Dz, Lz, Sz, nz, cz, gz) bz).2) := by
  refine zB_i (cc := cX0_rise) (maxL := 5) (ret := (some .int)) (by decide) rfl (Nat.le_of_ble_eq_true rfl) ?_
  intro p e s m args below meth c0 A hF hr hlk hK hA hP hD hS ls hl
  have hx := hF.1
  have hb := hF.2.1
  have hown := hF.2.2.2.1
  have hts := hF.2.2.2.2
  have hl : lv_has ls 5 [(0, .ref hz), (1, .int (nI bz))] := hl
  refine lv_iload_n hx hb dX0_rise_0 rfl (lv_at hl 1 rfl) ?_
  refine lv_istore_n (lv' := [(2, .int (nI bz)), (0, .ref hz), (1, .int (nI bz))]) hx hb dX0_rise_1 rfl hl (by decide) rfl (fun ls hl => ?_)
  refine lv_iconst (v := nI 0) hx hb dX0_rise_2 (by decide) ?_
  refine lv_istore_n (lv' := [(3, .int (nI 0)), (2, .int (nI bz)), (0, .ref hz), (1, .int (nI bz))]) hx hb dX0_rise_3 rfl hl (by decide) rfl (fun ls hl => ?_)
  have loop : ∀ (f9 : Nat) (D1 : Fn) (L1 : Fn) (S1 : Fn) (x1 : Int32) (y1 : Int32) (b1 : Nat) (st1 : Nat) (f0 : Nat), (okS S1) → (riseF false f0 (D1, L1, S1, nz, x1, y1) b1 = riseF false 63 (Dz, Lz, Sz, nz, cz, gz) bz) → (b1 < nz) → (st1 + f0 = 63) → (b1 + st1 ≤ 62) → b1 < f9 → ∀ (H : Heap) (locs : List Loc) (ls : Array Slot), va_P G vwCl (wh cI hz da la saz (D1, L1, S1, nz, x1, y1)) H → va_D A (wh cI hz da la saz (D1, L1, S1, nz, x1, y1)) → va_S A s.heap H locs → lv_has ls 5 [(0, .ref hz), (1, .int (nI bz)), (2, .int (nI b1)), (3, .int (nI st1))] → W p l e ({ frames := 4, cells := 0, slots := 0, locals := 85 }) s m args below meth c0 H locs 0 0 (zQ_i below G [(cI, .int)] (wh cI hz da la saz (riseF false 63 (Dz, Lz, Sz, nz, cz, gz) bz).1) (nI (riseF false 63 (Dz, Lz, Sz, nz, cz, gz) bz).2) A args s) (F0 m 4 ls []) := by
    intro f9
    induction f9 with
    | zero => intro D1 L1 S1 x1 y1 b1 st1 f0 hS1 hr9 hb1 hs1 hs2 hf; exact absurd hf (Nat.not_lt_zero _)
    | succ f9 ih =>
      intro D1 L1 S1 x1 y1 b1 st1 f0 hS1 hr9 hb1 hs1 hs2 hf H locs ls hP hD hS hl
      obtain ⟨f1, rfl⟩ : ∃ kz, f0 = kz + 1 := ⟨f0 - 1, by omega⟩
      refine lv_iload_n hx hb dX0_rise_4 rfl (lv_at hl 3 rfl) ?_
      refine lv_bipush (v := nI 63) hx hb dX0_rise_5 (by decide) ?_
      refine lv_icmp_ge (tgt := 42) hx hb dX0_rise_7 (by decide) (fun hc7 => ?_) (fun hc7 => ?_)
      · skip
        have k7 : 63 ≤ st1 := k_le (by omega) (by omega) hc7
        exact absurd k7 (by omega)
      · skip
        have k7 : st1 < 63 := k_nle (by omega) (by omega) hc7
        refine lv_iload_n hx hb dX0_rise_10 rfl (lv_at hl 2 rfl) ?_
        refine lv_if_le (tgt := 42) hx hb dX0_rise_11 (by decide) (fun hc11 => ?_) (fun hc11 => ?_)
        · skip
          have k11 : b1 = 0 := k0_le (by omega) hc11
          refine lv_iload_n hx hb dX0_rise_42 rfl (lv_at hl 2 rfl) ?_
          obtain rfl : 0 = b1 := k11.symm
          have e8 := hr9.symm.trans riseF_0
          rw [e8]
          exact zE_i hF hr hlk hK hP hD hS dX0_rise_43
        · skip
          have k11 : 0 < b1 := k0_nle (by omega) hc11
          have ze := eld_lt (S := S1) (b := b1) k11
          refine lv_aload_n hx hb dX0_rise_14 rfl (lv_at hl 0 rfl) ?_
          refine lv_iload_n hx hb dX0_rise_15 rfl (lv_at hl 2 rfl) ?_
          refine zK_vi (As := [.int (nI b1)]) (rest := []) hF (c_elder l G cI hz da la saz (D1) (L1) (S1) (nz) (x1) (y1) hn hS1 b1 (by omega)) (cwV 1 hts gX0_rise_X0_elder rfl rfl rfl (by decide +kernel) ⟨Nat.le_of_ble_eq_true rfl, Nat.le_of_ble_eq_true rfl⟩) hK hP hD hS hA (ci := 0) (q0 := 0) rfl rfl rfl (isC := [0, 1, 2, 3]) (isR := []) (perm := [0, 1, 2, 3]) (wr := []) (wN := wh cI hz da la saz (D1, L1, S1, nz, x1, y1)) ⟨rfl, by decide, rfl, rfl, (fun _ hz => by cases hz), rfl, by decide⟩ [0] rfl rfl hl.1 rfl (Nat.le_of_ble_eq_true rfl) dX0_rise_16 ⟨Nat.le_refl _, Nat.le_refl _⟩ (fun H locs hP hD hS => ?_)
          refine lv_istore (lv' := [(4, .int (nI (eld S1 b1))), (0, .ref hz), (1, .int (nI bz)), (2, .int (nI b1)), (3, .int (nI st1))]) hx hb dX0_rise_19 hl (by decide) rfl (fun ls hl => ?_)
          refine lv_aload_n hx hb dX0_rise_21 rfl (lv_at hl 1 rfl) ?_
          refine lv_iload hx hb dX0_rise_22 (lv_at hl 0 rfl) ?_
          refine lv_iload_n hx hb dX0_rise_24 rfl (lv_at hl 3 rfl) ?_
          refine zK_vi (As := [.int (nI (eld S1 b1)), .int (nI b1)]) (rest := []) hF (c_join l G cI hz da la saz (D1) (L1) (S1) (nz) (x1) (y1) hn (eld S1 b1) b1 (by omega) (by omega)) (cwV 2 hts gX0_rise_X0_join rfl rfl rfl (by decide +kernel) ⟨Nat.le_of_ble_eq_true rfl, Nat.le_of_ble_eq_true rfl⟩) hK hP hD hS hA (ci := 0) (q0 := 0) rfl rfl rfl (isC := [0, 1, 2, 3]) (isR := []) (perm := [0, 1, 2, 3]) (wr := []) (wN := wh cI hz da la saz (joinF false (D1, L1, S1, nz, x1, y1) (eld S1 b1) b1)) ⟨rfl, by decide, rfl, rfl, (fun _ hz => by cases hz), rfl, by decide⟩ [0] rfl rfl hl.1 rfl (Nat.le_of_ble_eq_true rfl) dX0_rise_25 ⟨Nat.le_refl _, Nat.le_refl _⟩ (fun H locs hP hD hS => ?_)
          obtain ⟨D2, L2, S2, c2, g2, hu2⟩ := joinF_ex false (D1) (L1) (S1) (nz) (x1) (y1) (eld S1 b1) (b1)
          have hP : va_P G vwCl (wh cI hz da la saz (D2, L2, S2, nz, c2, g2)) H := by have qz := hP; rw [hu2] at qz; exact qz
          have hD : va_D A (wh cI hz da la saz (D2, L2, S2, nz, c2, g2)) := by have qz := hD; rw [hu2] at qz; exact qz
          refine lv_if_ne (tgt := 33) hx hb dX0_rise_28 (by decide) (fun hc28 => ?_) (fun hc28 => ?_)
          · skip
            have k28 : (jc false (D1, L1, S1, nz, x1, y1) (eld S1 b1) b1) = true := bI_ne.mp hc28
            refine lv_iload hx hb dX0_rise_33 (lv_at hl 0 rfl) ?_
            refine lv_istore_n (lv' := [(2, .int (nI (eld S1 b1))), (4, .int (nI (eld S1 b1))), (0, .ref hz), (1, .int (nI bz)), (3, .int (nI st1))]) hx hb dX0_rise_35 rfl hl (by decide) rfl (fun ls hl => ?_)
            refine lv_iinc (v := nI (st1 + 1)) (lv' := [(3, .int (nI (st1 + 1))), (2, .int (nI (eld S1 b1))), (4, .int (nI (eld S1 b1))), (0, .ref hz), (1, .int (nI bz))]) hx hb dX0_rise_36 hl (k := 4) rfl (nI_1 _) (by decide) rfl (fun ls hl => ?_)
            refine lv_goto (tgt := 4) hx hb dX0_rise_39 (by decide) ?_
            exact ih D2 L2 S2 c2 g2 (eld S1 b1) (st1 + 1) f1 (joinF_okS' hS1 k11 hu2) (by rw [← hu2]; exact (riseF_go k11 k28).symm.trans hr9) (by omega) (by omega) (by omega) (by omega) _ _ _ hP hD hS (lv_sub hl [3, 4, 1, 0] rfl)
          · skip
            have k28 : (jc false (D1, L1, S1, nz, x1, y1) (eld S1 b1) b1) = false := bI_e0.mp hc28
            refine lv_iload_n hx hb dX0_rise_31 rfl (lv_at hl 3 rfl) ?_
            have e8 := hr9.symm.trans (riseF_no k11 k28)
            rw [e8, hu2]
            exact zE_i hF hr hlk hK hP hD hS dX0_rise_32
  exact loop (bz + 1) Dz Lz Sz cz gz bz 0 63 hS1 rfl hb9 (by omega) (by omega) (by omega) _ _ _ hP hD hS (lv_sub hl [2, 3, 1, 0] rfl)
set_option maxHeartbeats 4000000 in
set_option maxRecDepth 100000 in
theorem c_lay (l : Launch) (G : va_G) (cI : ClassId) (hz da la saz : Nat) (Dz Lz Sz : Fn) (nz : Nat) (cz gz : Int32) (hn : nz < 63) (num loud : Int32) : zC_v l yX0_lay wsX0_lay ({ frames := 0, cells := 0, slots := 0, locals := 0 }) G [(cI, .int)] (wh cI hz da la saz (Dz, Lz, Sz, nz, cz, gz)) (wh cI hz da la saz (layF (Dz, Lz, Sz, nz, cz, gz) num loud)) [.ref hz, .int num, .int loud] := by
  refine zB_v (cc := cX0_lay) (maxL := 4) (ret := none) (by decide) rfl (Nat.le_of_ble_eq_true rfl) ?_
  intro p e s m args below meth c0 A hF hr hlk hK hA hP hD hS ls hl
  have hx := hF.1
  have hb := hF.2.1
  have hown := hF.2.2.2.1
  have hts := hF.2.2.2.2
  have hf21 := hts (.fieldLink RX0 21 "SnoringDukes$WeakHeap" "size" "I") (by decide +kernel)
  have hf9 := hts (.fieldLink RX0 9 "SnoringDukes$WeakHeap" "duke" "[I") (by decide +kernel)
  have hf15 := hts (.fieldLink RX0 15 "SnoringDukes$WeakHeap" "loudness" "[I") (by decide +kernel)
  have hf18 := hts (.fieldLink RX0 18 "SnoringDukes$WeakHeap" "side" "[I") (by decide +kernel)
  have hinX0 : ∀ wz ∈ wsX00, wz ∈ wsX0_lay := by decide +kernel
  have hl : lv_has ls 4 [(0, .ref hz), (1, .int num), (2, .int loud)] := hl
  refine lv_aload_n hx hb dX0_lay_0 rfl (lv_at hl 0 rfl) ?_
  refine va_get (D := G) (ci := 0) (v := .int (nI nz)) (C := RX0) (T := TX0) (N := 6) hx hb hts hinX0 hown hK hP 0 rfl rfl 3 (by decide) hf21 (fun _ h9 => h9) rfl dX0_lay_1 ?_
  refine lv_istore_n (lv' := [(3, .int (nI nz)), (0, .ref hz), (1, .int num), (2, .int loud)]) hx hb dX0_lay_4 rfl hl (by decide) rfl (fun ls hl => ?_)
  refine lv_iload_n hx hb dX0_lay_5 rfl (lv_at hl 0 rfl) ?_
  refine lv_if_lt (tgt := 15) hx hb dX0_lay_6 (by decide) (fun hc6 => ?_) (fun hc6 => ?_)
  · skip
    exact absurd hc6 (nI_pos (by omega))
  · skip
    refine lv_iload_n hx hb dX0_lay_9 rfl (lv_at hl 0 rfl) ?_
    refine lv_bipush (v := nI 63) hx hb dX0_lay_10 (by decide) ?_
    refine lv_icmp_lt (tgt := 16) hx hb dX0_lay_12 (by decide) (fun hc12 => ?_) (fun hc12 => ?_)
    · skip
      have k12 : nz < 63 := k_lt (by omega) (by omega) hc12
      refine lv_aload_n hx hb dX0_lay_16 rfl (lv_at hl 1 rfl) ?_
      refine va_get (D := G) (ci := 0) (v := .ref da) (C := RX0) (T := TX0) (N := 6) hx hb hts hinX0 hown hK hP 0 rfl rfl 0 (by decide) hf9 (fun _ h9 => h9) rfl dX0_lay_17 ?_
      refine lv_iload_n hx hb dX0_lay_20 rfl (lv_at hl 0 rfl) ?_
      refine lv_iload_n hx hb dX0_lay_21 rfl (lv_at hl 2 rfl) ?_
      refine zA_st (x := num) hx hb hK hP hD hS 1 0 rfl rfl (by omega) (by decide) dX0_lay_22 (fun H locs hP hD hS => ?_)
      have hP : va_P G vwCl (wh cI hz da la saz (upd Dz nz num, Lz, Sz, nz, cz, gz)) H := hP
      have hD : va_D A (wh cI hz da la saz (upd Dz nz num, Lz, Sz, nz, cz, gz)) := hD
      refine lv_aload_n hx hb dX0_lay_23 rfl (lv_at hl 1 rfl) ?_
      refine va_get (D := G) (ci := 0) (v := .ref la) (C := RX0) (T := TX0) (N := 6) hx hb hts hinX0 hown hK hP 0 rfl rfl 1 (by decide) hf15 (fun _ h9 => h9) rfl dX0_lay_24 ?_
      refine lv_iload_n hx hb dX0_lay_27 rfl (lv_at hl 0 rfl) ?_
      refine lv_iload_n hx hb dX0_lay_28 rfl (lv_at hl 3 rfl) ?_
      refine zA_st (x := loud) hx hb hK hP hD hS 2 0 rfl rfl (by omega) (by decide) dX0_lay_29 (fun H locs hP hD hS => ?_)
      have hP : va_P G vwCl (wh cI hz da la saz (upd Dz nz num, upd Lz nz loud, Sz, nz, cz, gz)) H := hP
      have hD : va_D A (wh cI hz da la saz (upd Dz nz num, upd Lz nz loud, Sz, nz, cz, gz)) := hD
      refine lv_aload_n hx hb dX0_lay_30 rfl (lv_at hl 1 rfl) ?_
      refine va_get (D := G) (ci := 0) (v := .ref saz) (C := RX0) (T := TX0) (N := 6) hx hb hts hinX0 hown hK hP 0 rfl rfl 2 (by decide) hf18 (fun _ h9 => h9) rfl dX0_lay_31 ?_
      refine lv_iload_n hx hb dX0_lay_34 rfl (lv_at hl 0 rfl) ?_
      refine lv_iconst (v := nI 0) hx hb dX0_lay_35 (by decide) ?_
      refine zA_st (x := nI 0) hx hb hK hP hD hS 3 0 rfl rfl (by omega) (by decide) dX0_lay_36 (fun H locs hP hD hS => ?_)
      have hP : va_P G vwCl (wh cI hz da la saz (upd Dz nz num, upd Lz nz loud, upd Sz nz (nI 0), nz, cz, gz)) H := hP
      have hD : va_D A (wh cI hz da la saz (upd Dz nz num, upd Lz nz loud, upd Sz nz (nI 0), nz, cz, gz)) := hD
      refine lv_aload_n hx hb dX0_lay_37 rfl (lv_at hl 1 rfl) ?_
      refine lv_iload_n hx hb dX0_lay_38 rfl (lv_at hl 0 rfl) ?_
      refine lv_iconst (v := nI 1) hx hb dX0_lay_39 (by decide) ?_
      refine lv_iadd hx hb dX0_lay_40 ?_
      refine zN (nI (nz + 1)) (y := ((nI nz) + (nI 1))) (nI_add _ _) ?_
      refine va_put (D := G) (ci := 0) (v := .int (nI (nz + 1))) (ty := .int) (C := RX0) (T := TX0) (N := 6) hx hb hts hinX0 tyX0 tyX0_ok nmX0 hown hK hP hD hS 0 rfl rfl 3 (by decide) hf21 (fun _ h9 => h9) rfl (by decide +kernel) rfl rfl (Nat.le_of_ble_eq_true rfl) dX0_lay_41 (fun H locs hP hD hS => ?_)
      have hP : va_P G vwCl (wh cI hz da la saz (upd Dz nz num, upd Lz nz loud, upd Sz nz (nI 0), nz + 1, cz, gz)) H := hP
      have hD : va_D A (wh cI hz da la saz (upd Dz nz num, upd Lz nz loud, upd Sz nz (nI 0), nz + 1, cz, gz)) := hD
      exact zE_v hF hr hlk hK hP hD hS dX0_lay_44
    · skip
      have k12 : 63 ≤ nz := k_nlt (by omega) (by omega) hc12
      exact absurd k12 (by omega)
set_option maxHeartbeats 4000000 in
set_option maxRecDepth 100000 in
theorem c_insert (l : Launch) (G : va_G) (cI : ClassId) (hz da la saz : Nat) (Dz Lz Sz : Fn) (nz : Nat) (cz gz : Int32) (hn : nz < 63) (hS1 : okS Sz) (num loud : Int32) : zC_v l yX0_insert wsX0_insert ({ frames := 5, cells := 0, slots := 0, locals := 109 }) G [(cI, .int)] (wh cI hz da la saz (Dz, Lz, Sz, nz, cz, gz)) (wh cI hz da la saz (comeF (Dz, Lz, Sz, nz, cz, gz) num loud)) [.ref hz, .int num, .int loud] := by
  refine zB_v (cc := cX0_insert) (maxL := 4) (ret := none) (by decide) rfl (Nat.le_of_ble_eq_true rfl) ?_
  intro p e s m args below meth c0 A hF hr hlk hK hA hP hD hS ls hl
  have hx := hF.1
  have hb := hF.2.1
  have hown := hF.2.2.2.1
  have hts := hF.2.2.2.2
  have hf21 := hts (.fieldLink RX0 21 "SnoringDukes$WeakHeap" "size" "I") (by decide +kernel)
  have hf18 := hts (.fieldLink RX0 18 "SnoringDukes$WeakHeap" "side" "[I") (by decide +kernel)
  have hinX0 : ∀ wz ∈ wsX00, wz ∈ wsX0_insert := by decide +kernel
  have hl : lv_has ls 4 [(0, .ref hz), (1, .int num), (2, .int loud)] := hl
  refine lv_aload_n hx hb dX0_insert_0 rfl (lv_at hl 0 rfl) ?_
  refine va_get (D := G) (ci := 0) (v := .int (nI nz)) (C := RX0) (T := TX0) (N := 6) hx hb hts hinX0 hown hK hP 0 rfl rfl 3 (by decide) hf21 (fun _ h9 => h9) rfl dX0_insert_1 ?_
  refine lv_istore_n (lv' := [(3, .int (nI nz)), (0, .ref hz), (1, .int num), (2, .int loud)]) hx hb dX0_insert_4 rfl hl (by decide) rfl (fun ls hl => ?_)
  refine lv_aload_n hx hb dX0_insert_5 rfl (lv_at hl 1 rfl) ?_
  refine lv_iload_n hx hb dX0_insert_6 rfl (lv_at hl 2 rfl) ?_
  refine lv_iload_n hx hb dX0_insert_7 rfl (lv_at hl 3 rfl) ?_
  refine zK_vv (As := [.int num, .int loud]) (rest := []) hF (c_lay l G cI hz da la saz (Dz) (Lz) (Sz) (nz) (cz) (gz) (by omega) num loud) (cwV 2 hts gX0_insert_X0_lay rfl rfl rfl (by decide +kernel) ⟨Nat.le_of_ble_eq_true rfl, Nat.le_of_ble_eq_true rfl⟩) hK hP hD hS hA (ci := 0) (q0 := 0) rfl rfl rfl (isC := [0, 1, 2, 3]) (isR := []) (perm := [0, 1, 2, 3]) (wr := []) (wN := wh cI hz da la saz (upd Dz nz num, upd Lz nz loud, upd Sz nz 0, nz + 1, cz, gz)) ⟨rfl, by decide, rfl, rfl, (fun _ hz => by cases hz), rfl, by decide⟩ [0] rfl rfl hl.1 rfl (Nat.le_of_ble_eq_true rfl) dX0_insert_8 ⟨Nat.le_refl _, Nat.le_refl _⟩ (fun H locs hP hD hS => ?_)
  refine lv_iload_n hx hb dX0_insert_11 rfl (lv_at hl 0 rfl) ?_
  refine lv_iconst (v := nI 2) hx hb dX0_insert_12 (by decide) ?_
  refine lv_irem hx hb dX0_insert_13 (by decide) ?_
  refine zN (nI (nz % 2)) (y := ((nI nz) - (nI nz) / (nI 2) * (nI 2))) (pk_rem (by omega) (by decide) (by decide)) ?_
  refine lv_if_ne (tgt := 36) hx hb dX0_insert_14 (by decide) (fun hc14 => ?_) (fun hc14 => ?_)
  · skip
    have k14 : 0 < (nz % 2) := k0_ne (by omega) hc14
    have e9 : newF (layF (Dz, Lz, Sz, nz, cz, gz) num loud) nz = (upd Dz nz num, upd Lz nz loud, upd Sz nz 0, nz + 1, cz, gz) := by unfold newF; rw [if_neg (by omega)]; rfl
    have e8 : comeF (Dz, Lz, Sz, nz, cz, gz) num loud = (riseF false 63 (newF (layF (Dz, Lz, Sz, nz, cz, gz) num loud) nz) nz).1 := rfl
    rw [e8, e9]
    refine lv_aload_n hx hb dX0_insert_36 rfl (lv_at hl 1 rfl) ?_
    refine lv_iload_n hx hb dX0_insert_37 rfl (lv_at hl 0 rfl) ?_
    refine zK_vi (As := [.int (nI nz)]) (rest := []) hF (c_rise l G cI hz da la saz (upd Dz nz num) (upd Lz nz loud) (upd Sz nz 0) (nz + 1) (cz) (gz) (by omega) (okS_upd0 hS1 nz) nz (by omega)) (cwV 1 hts gX0_insert_X0_rise rfl rfl rfl (by decide +kernel) ⟨Nat.le_of_ble_eq_true rfl, Nat.le_of_ble_eq_true rfl⟩) hK hP hD hS hA (ci := 0) (q0 := 0) rfl rfl rfl (isC := [0, 1, 2, 3]) (isR := []) (perm := [0, 1, 2, 3]) (wr := []) (wN := wh cI hz da la saz ((riseF false 63 (upd Dz nz num, upd Lz nz loud, upd Sz nz 0, nz + 1, cz, gz) nz).1)) ⟨rfl, by decide, rfl, rfl, (fun _ hz => by cases hz), rfl, by decide⟩ [0] rfl rfl hl.1 rfl (Nat.le_of_ble_eq_true rfl) dX0_insert_38 ⟨Nat.le_refl _, Nat.le_refl _⟩ (fun H locs hP hD hS => ?_)
    refine lv_pop hx hb dX0_insert_41 rfl ?_
    exact zE_v hF hr hlk hK hP hD hS dX0_insert_42
  · skip
    have k14 : (nz % 2) = 0 := k0_eq (by omega) hc14
    refine lv_aload_n hx hb dX0_insert_17 rfl (lv_at hl 1 rfl) ?_
    refine lv_iload_n hx hb dX0_insert_18 rfl (lv_at hl 0 rfl) ?_
    refine lv_iconst (v := nI 2) hx hb dX0_insert_19 (by decide) ?_
    refine lv_idiv hx hb dX0_insert_20 (by decide) ?_
    refine zN (nI (nz / 2)) (y := ((nI nz) / (nI 2))) (pk_div (by omega) (by decide) (by decide)) ?_
    refine zK_vi (As := [.int (nI (nz / 2))]) (rest := []) hF (c_has l G cI hz da la saz (upd Dz nz num) (upd Lz nz loud) (upd Sz nz 0) (nz + 1) (cz) (gz) (by omega) (nI (nz / 2))) (cwV 1 hts gX0_insert_X0_has rfl rfl rfl (by decide +kernel) ⟨Nat.le_of_ble_eq_true rfl, Nat.le_of_ble_eq_true rfl⟩) hK hP hD hS hA (ci := 0) (q0 := 0) rfl rfl rfl (isC := [0, 1, 2, 3]) (isR := []) (perm := [0, 1, 2, 3]) (wr := []) (wN := wh cI hz da la saz (upd Dz nz num, upd Lz nz loud, upd Sz nz 0, nz + 1, cz, gz)) ⟨rfl, by decide, rfl, rfl, (fun _ hz => by cases hz), rfl, by decide⟩ [0] rfl rfl hl.1 rfl (Nat.le_of_ble_eq_true rfl) dX0_insert_21 ⟨Nat.le_refl _, Nat.le_refl _⟩ (fun H locs hP hD hS => ?_)
    refine lv_if_eq (tgt := 36) hx hb dX0_insert_24 (by decide) (fun hc24 => ?_) (fun hc24 => ?_)
    · skip
      have k24 : (hasI (nz + 1) (nI (nz / 2))) = false := bI_e0.mp hc24
      rw [hasI_nI (by omega) (by omega)] at k24
      exact absurd (of_decide_eq_false k24) (by omega)
    · skip
      have k24 : (hasI (nz + 1) (nI (nz / 2))) = true := bI_ne.mp hc24
      refine lv_aload_n hx hb dX0_insert_27 rfl (lv_at hl 1 rfl) ?_
      refine va_get (D := G) (ci := 0) (v := .ref saz) (C := RX0) (T := TX0) (N := 6) hx hb hts hinX0 hown hK hP 0 rfl rfl 2 (by decide) hf18 (fun _ h9 => h9) rfl dX0_insert_28 ?_
      refine lv_iload_n hx hb dX0_insert_31 rfl (lv_at hl 0 rfl) ?_
      refine lv_iconst (v := nI 2) hx hb dX0_insert_32 (by decide) ?_
      refine lv_idiv hx hb dX0_insert_33 (by decide) ?_
      refine zN (nI (nz / 2)) (y := ((nI nz) / (nI 2))) (pk_div (by omega) (by decide) (by decide)) ?_
      refine lv_iconst (v := nI 0) hx hb dX0_insert_34 (by decide) ?_
      refine zA_st (x := nI 0) hx hb hK hP hD hS 3 0 rfl rfl (by omega) (by decide) dX0_insert_35 (fun H locs hP hD hS => ?_)
      have hP : va_P G vwCl (wh cI hz da la saz (upd Dz nz num, upd Lz nz loud, upd (upd Sz nz 0) (nz / 2) (nI 0), nz + 1, cz, gz)) H := hP
      have hD : va_D A (wh cI hz da la saz (upd Dz nz num, upd Lz nz loud, upd (upd Sz nz 0) (nz / 2) (nI 0), nz + 1, cz, gz)) := hD
      have e9 : newF (layF (Dz, Lz, Sz, nz, cz, gz) num loud) nz = (upd Dz nz num, upd Lz nz loud, upd (upd Sz nz 0) (nz / 2) (nI 0), nz + 1, cz, gz) := by unfold newF; rw [if_pos (by omega)]; rfl
      have e8 : comeF (Dz, Lz, Sz, nz, cz, gz) num loud = (riseF false 63 (newF (layF (Dz, Lz, Sz, nz, cz, gz) num loud) nz) nz).1 := rfl
      rw [e8, e9]
      refine lv_aload_n hx hb dX0_insert_36 rfl (lv_at hl 1 rfl) ?_
      refine lv_iload_n hx hb dX0_insert_37 rfl (lv_at hl 0 rfl) ?_
      refine zK_vi (As := [.int (nI nz)]) (rest := []) hF (c_rise l G cI hz da la saz (upd Dz nz num) (upd Lz nz loud) (upd (upd Sz nz 0) (nz / 2) (nI 0)) (nz + 1) (cz) (gz) (by omega) (okS_upd0 (okS_upd0 hS1 nz) (nz / 2)) nz (by omega)) (cwV 1 hts gX0_insert_X0_rise rfl rfl rfl (by decide +kernel) ⟨Nat.le_of_ble_eq_true rfl, Nat.le_of_ble_eq_true rfl⟩) hK hP hD hS hA (ci := 0) (q0 := 0) rfl rfl rfl (isC := [0, 1, 2, 3]) (isR := []) (perm := [0, 1, 2, 3]) (wr := []) (wN := wh cI hz da la saz ((riseF false 63 (upd Dz nz num, upd Lz nz loud, upd (upd Sz nz 0) (nz / 2) (nI 0), nz + 1, cz, gz) nz).1)) ⟨rfl, by decide, rfl, rfl, (fun _ hz => by cases hz), rfl, by decide⟩ [0] rfl rfl hl.1 rfl (Nat.le_of_ble_eq_true rfl) dX0_insert_38 ⟨Nat.le_refl _, Nat.le_refl _⟩ (fun H locs hP hD hS => ?_)
      refine lv_pop hx hb dX0_insert_41 rfl ?_
      exact zE_v hF hr hlk hK hP hD hS dX0_insert_42
set_option maxHeartbeats 4000000 in
set_option maxRecDepth 100000 in
theorem c_quieten (l : Launch) (G : va_G) (cI : ClassId) (hz da la saz : Nat) (Dz Lz Sz : Fn) (nz : Nat) (cz gz : Int32) (hn : nz ≤ 63) (hS1 : okS Sz) (bz : Nat) (hb9 : bz < nz) (loud : Int32) : zC_i l yX0_quieten wsX0_quieten ({ frames := 5, cells := 0, slots := 0, locals := 109 }) G [(cI, .int)] (wh cI hz da la saz (Dz, Lz, Sz, nz, cz, gz)) (wh cI hz da la saz (riseF false 63 (setL (Dz, Lz, Sz, nz, cz, gz) bz loud) bz).1) [.ref hz, .int (nI bz), .int loud] (nI (riseF false 63 (setL (Dz, Lz, Sz, nz, cz, gz) bz loud) bz).2) := by
  refine zB_i (cc := cX0_quieten) (maxL := 3) (ret := (some .int)) (by decide) rfl (Nat.le_of_ble_eq_true rfl) ?_
  intro p e s m args below meth c0 A hF hr hlk hK hA hP hD hS ls hl
  have hx := hF.1
  have hb := hF.2.1
  have hown := hF.2.2.2.1
  have hts := hF.2.2.2.2
  have hf15 := hts (.fieldLink RX0 15 "SnoringDukes$WeakHeap" "loudness" "[I") (by decide +kernel)
  have hinX0 : ∀ wz ∈ wsX00, wz ∈ wsX0_quieten := by decide +kernel
  have hl : lv_has ls 3 [(0, .ref hz), (1, .int (nI bz)), (2, .int loud)] := hl
  refine lv_aload_n hx hb dX0_quieten_0 rfl (lv_at hl 0 rfl) ?_
  refine lv_iload_n hx hb dX0_quieten_1 rfl (lv_at hl 1 rfl) ?_
  refine zK_vi (As := [.int (nI bz)]) (rest := []) hF (c_has l G cI hz da la saz (Dz) (Lz) (Sz) (nz) (cz) (gz) hn (nI bz)) (cwV 1 hts gX0_quieten_X0_has rfl rfl rfl (by decide +kernel) ⟨Nat.le_of_ble_eq_true rfl, Nat.le_of_ble_eq_true rfl⟩) hK hP hD hS hA (ci := 0) (q0 := 0) rfl rfl rfl (isC := [0, 1, 2, 3]) (isR := []) (perm := [0, 1, 2, 3]) (wr := []) (wN := wh cI hz da la saz (Dz, Lz, Sz, nz, cz, gz)) ⟨rfl, by decide, rfl, rfl, (fun _ hz => by cases hz), rfl, by decide⟩ [0] rfl rfl hl.1 rfl (Nat.le_of_ble_eq_true rfl) dX0_quieten_2 ⟨Nat.le_refl _, Nat.le_refl _⟩ (fun H locs hP hD hS => ?_)
  refine lv_if_eq (tgt := 15) hx hb dX0_quieten_5 (by decide) (fun hc5 => ?_) (fun hc5 => ?_)
  · skip
    have k5 : (hasI nz (nI bz)) = false := bI_e0.mp hc5
    rw [hasI_nI (by omega) (by omega)] at k5
    exact absurd (of_decide_eq_false k5) (by omega)
  · skip
    have k5 : (hasI nz (nI bz)) = true := bI_ne.mp hc5
    refine lv_aload_n hx hb dX0_quieten_8 rfl (lv_at hl 0 rfl) ?_
    refine va_get (D := G) (ci := 0) (v := .ref la) (C := RX0) (T := TX0) (N := 6) hx hb hts hinX0 hown hK hP 0 rfl rfl 1 (by decide) hf15 (fun _ h9 => h9) rfl dX0_quieten_9 ?_
    refine lv_iload_n hx hb dX0_quieten_12 rfl (lv_at hl 1 rfl) ?_
    refine lv_iload_n hx hb dX0_quieten_13 rfl (lv_at hl 2 rfl) ?_
    refine zA_st (x := loud) hx hb hK hP hD hS 2 0 rfl rfl (by omega) (by decide) dX0_quieten_14 (fun H locs hP hD hS => ?_)
    have hP : va_P G vwCl (wh cI hz da la saz (Dz, upd Lz bz loud, Sz, nz, cz, gz)) H := hP
    have hD : va_D A (wh cI hz da la saz (Dz, upd Lz bz loud, Sz, nz, cz, gz)) := hD
    refine lv_aload_n hx hb dX0_quieten_15 rfl (lv_at hl 0 rfl) ?_
    refine lv_iload_n hx hb dX0_quieten_16 rfl (lv_at hl 1 rfl) ?_
    refine zK_vi (As := [.int (nI bz)]) (rest := []) hF (c_rise l G cI hz da la saz (Dz) (upd Lz bz loud) (Sz) (nz) (cz) (gz) (by omega) hS1 bz (by omega)) (cwV 1 hts gX0_quieten_X0_rise rfl rfl rfl (by decide +kernel) ⟨Nat.le_of_ble_eq_true rfl, Nat.le_of_ble_eq_true rfl⟩) hK hP hD hS hA (ci := 0) (q0 := 0) rfl rfl rfl (isC := [0, 1, 2, 3]) (isR := []) (perm := [0, 1, 2, 3]) (wr := []) (wN := wh cI hz da la saz ((riseF false 63 (Dz, upd Lz bz loud, Sz, nz, cz, gz) bz).1)) ⟨rfl, by decide, rfl, rfl, (fun _ hz => by cases hz), rfl, by decide⟩ [0] rfl rfl hl.1 rfl (Nat.le_of_ble_eq_true rfl) dX0_quieten_17 ⟨Nat.le_refl _, Nat.le_refl _⟩ (fun H locs hP hD hS => ?_)
    exact zE_i hF hr hlk hK hP hD hS dX0_quieten_20
set_option maxHeartbeats 4000000 in
set_option maxRecDepth 100000 in
theorem c_joinAll (l : Launch) (G : va_G) (cI : ClassId) (hz da la saz : Nat) (Dz Lz Sz : Fn) (nz : Nat) (cz gz : Int32) (hn : nz ≤ 63) (hn1 : 1 ≤ nz) (hS1 : okS Sz) : zC_v l yX0_joinAll wsX0_joinAll ({ frames := 4, cells := 0, slots := 0, locals := 85 }) G [(cI, .int)] (wh cI hz da la saz (Dz, Lz, Sz, nz, cz, gz)) (wh cI hz da la saz (allF (nz - 1) (Dz, Lz, zfF 63 Sz, nz, cz, gz))) [.ref hz] := by
  refine zB_v (cc := cX0_joinAll) (maxL := 2) (ret := none) (by decide) rfl (Nat.le_of_ble_eq_true rfl) ?_
  intro p e s m args below meth c0 A hF hr hlk hK hA hP hD hS ls hl
  have hx := hF.1
  have hb := hF.2.1
  have hown := hF.2.2.2.1
  have hts := hF.2.2.2.2
  have hf18 := hts (.fieldLink RX0 18 "SnoringDukes$WeakHeap" "side" "[I") (by decide +kernel)
  have hf21 := hts (.fieldLink RX0 21 "SnoringDukes$WeakHeap" "size" "I") (by decide +kernel)
  have hinX0 : ∀ wz ∈ wsX00, wz ∈ wsX0_joinAll := by decide +kernel
  have hl : lv_has ls 2 [(0, .ref hz)] := hl
  refine lv_iconst (v := nI 0) hx hb dX0_joinAll_0 (by decide) ?_
  refine lv_istore_n (lv' := [(1, .int (nI 0)), (0, .ref hz)]) hx hb dX0_joinAll_1 rfl hl (by decide) rfl (fun ls hl => ?_)
  have e0 : (Dz, Lz, Sz, nz, cz, gz) = (Dz, Lz, zfF 0 Sz, nz, cz, gz) := by rw [zfF_0]
  have hP : va_P G vwCl (wh cI hz da la saz (Dz, Lz, zfF 0 Sz, nz, cz, gz)) s.heap := by have qz := hP; rw [e0] at qz; exact qz
  have hD : va_D A (wh cI hz da la saz (Dz, Lz, zfF 0 Sz, nz, cz, gz)) := by have qz := hD; rw [e0] at qz; exact qz
  have loop : ∀ (f9 : Nat) (iz : Nat), (iz ≤ 63) → 63 - iz < f9 → ∀ (H : Heap) (locs : List Loc) (ls : Array Slot), va_P G vwCl (wh cI hz da la saz (Dz, Lz, zfF iz Sz, nz, cz, gz)) H → va_D A (wh cI hz da la saz (Dz, Lz, zfF iz Sz, nz, cz, gz)) → va_S A s.heap H locs → lv_has ls 2 [(0, .ref hz), (1, .int (nI iz))] → W p l e ({ frames := 4, cells := 0, slots := 0, locals := 85 }) s m args below meth c0 H locs 0 0 (zQ_v below G [(cI, .int)] (wh cI hz da la saz (allF (nz - 1) (Dz, Lz, zfF 63 Sz, nz, cz, gz))) A args s) (F0 m 2 ls []) := by
    intro f9
    induction f9 with
    | zero => intro iz hi hf; exact absurd hf (Nat.not_lt_zero _)
    | succ f9 ih =>
      intro iz hi hf H locs ls hP hD hS hl
      refine lv_iload_n hx hb dX0_joinAll_2 rfl (lv_at hl 1 rfl) ?_
      refine lv_bipush (v := nI 63) hx hb dX0_joinAll_3 (by decide) ?_
      refine lv_icmp_ge (tgt := 21) hx hb dX0_joinAll_5 (by decide) (fun hc5 => ?_) (fun hc5 => ?_)
      · skip
        have k5 : 63 ≤ iz := k_le (by omega) (by omega) hc5
        obtain rfl : 63 = iz := by omega
        have hl : lv_has ls 2 [(0, .ref hz)] := lv_sub hl [0] rfl
        have hS2 : okS (zfF 63 Sz) := okS_zf hS1 63
        refine lv_aload_n hx hb dX0_joinAll_21 rfl (lv_at hl 0 rfl) ?_
        refine va_get (D := G) (ci := 0) (v := .int (nI nz)) (C := RX0) (T := TX0) (N := 6) hx hb hts hinX0 hown hK hP 0 rfl rfl 3 (by decide) hf21 (fun _ h9 => h9) rfl dX0_joinAll_22 ?_
        refine lv_iconst (v := nI 1) hx hb dX0_joinAll_25 (by decide) ?_
        refine lv_isub hx hb dX0_joinAll_26 ?_
        refine zN (nI (nz - 1)) (y := ((nI nz) - (nI 1))) (pk_sub (by omega)) ?_
        refine lv_istore_n (lv' := [(1, .int (nI (nz - 1))), (0, .ref hz)]) hx hb dX0_joinAll_27 rfl hl (by decide) rfl (fun ls hl => ?_)
        have loop2 : ∀ (f9 : Nat) (D1 : Fn) (L1 : Fn) (S1 : Fn) (x1 : Int32) (y1 : Int32) (b1 : Nat), (okS S1) → (allF b1 (D1, L1, S1, nz, x1, y1) = allF (nz - 1) (Dz, Lz, zfF 63 Sz, nz, cz, gz)) → (b1 < nz) → b1 < f9 → ∀ (H : Heap) (locs : List Loc) (ls : Array Slot), va_P G vwCl (wh cI hz da la saz (D1, L1, S1, nz, x1, y1)) H → va_D A (wh cI hz da la saz (D1, L1, S1, nz, x1, y1)) → va_S A s.heap H locs → lv_has ls 2 [(0, .ref hz), (1, .int (nI b1))] → W p l e ({ frames := 4, cells := 0, slots := 0, locals := 85 }) s m args below meth c0 H locs 0 0 (zQ_v below G [(cI, .int)] (wh cI hz da la saz (allF (nz - 1) (Dz, Lz, zfF 63 Sz, nz, cz, gz))) A args s) (F0 m 28 ls []) := by
          intro f9
          induction f9 with
          | zero => intro D1 L1 S1 x1 y1 b1 hS1 hr9 hb1 hf; exact absurd hf (Nat.not_lt_zero _)
          | succ f9 ih =>
            intro D1 L1 S1 x1 y1 b1 hS1 hr9 hb1 hf H locs ls hP hD hS hl
            refine lv_iload_n hx hb dX0_joinAll_28 rfl (lv_at hl 1 rfl) ?_
            refine lv_if_le (tgt := 49) hx hb dX0_joinAll_29 (by decide) (fun hc29 => ?_) (fun hc29 => ?_)
            · skip
              have k29 : b1 = 0 := k0_le (by omega) hc29
              obtain rfl : 0 = b1 := k29.symm
              rw [← hr9]
              exact zE_v hF hr hlk hK hP hD hS dX0_joinAll_49
            · skip
              have k29 : 0 < b1 := k0_nle (by omega) hc29
              have ze := eld_lt (S := S1) (b := b1) k29
              refine lv_aload_n hx hb dX0_joinAll_32 rfl (lv_at hl 0 rfl) ?_
              refine lv_aload_n hx hb dX0_joinAll_33 rfl (lv_at hl 0 rfl) ?_
              refine lv_iload_n hx hb dX0_joinAll_34 rfl (lv_at hl 1 rfl) ?_
              refine zK_vi (As := [.int (nI b1)]) (rest := [.ref hz]) hF (c_elder l G cI hz da la saz (D1) (L1) (S1) (nz) (x1) (y1) hn hS1 b1 (by omega)) (cwV 1 hts gX0_joinAll_X0_elder rfl rfl rfl (by decide +kernel) ⟨Nat.le_of_ble_eq_true rfl, Nat.le_of_ble_eq_true rfl⟩) hK hP hD hS hA (ci := 0) (q0 := 0) rfl rfl rfl (isC := [0, 1, 2, 3]) (isR := []) (perm := [0, 1, 2, 3]) (wr := []) (wN := wh cI hz da la saz (D1, L1, S1, nz, x1, y1)) ⟨rfl, by decide, rfl, rfl, (fun _ hz => by cases hz), rfl, by decide⟩ [0] rfl rfl hl.1 rfl (Nat.le_of_ble_eq_true rfl) dX0_joinAll_35 ⟨Nat.le_refl _, Nat.le_refl _⟩ (fun H locs hP hD hS => ?_)
              refine lv_iload_n hx hb dX0_joinAll_38 rfl (lv_at hl 1 rfl) ?_
              refine zK_vi (As := [.int (nI (eld S1 b1)), .int (nI b1)]) (rest := []) hF (c_join l G cI hz da la saz (D1) (L1) (S1) (nz) (x1) (y1) hn (eld S1 b1) b1 (by omega) (by omega)) (cwV 2 hts gX0_joinAll_X0_join rfl rfl rfl (by decide +kernel) ⟨Nat.le_of_ble_eq_true rfl, Nat.le_of_ble_eq_true rfl⟩) hK hP hD hS hA (ci := 0) (q0 := 0) rfl rfl rfl (isC := [0, 1, 2, 3]) (isR := []) (perm := [0, 1, 2, 3]) (wr := []) (wN := wh cI hz da la saz (joinF false (D1, L1, S1, nz, x1, y1) (eld S1 b1) b1)) ⟨rfl, by decide, rfl, rfl, (fun _ hz => by cases hz), rfl, by decide⟩ [0] rfl rfl hl.1 rfl (Nat.le_of_ble_eq_true rfl) dX0_joinAll_39 ⟨Nat.le_refl _, Nat.le_refl _⟩ (fun H locs hP hD hS => ?_)
              obtain ⟨D3, L3, S3, c3, g3, hu3⟩ := joinF_ex false (D1) (L1) (S1) (nz) (x1) (y1) (eld S1 b1) (b1)
              have hP : va_P G vwCl (wh cI hz da la saz (D3, L3, S3, nz, c3, g3)) H := by have qz := hP; rw [hu3] at qz; exact qz
              have hD : va_D A (wh cI hz da la saz (D3, L3, S3, nz, c3, g3)) := by have qz := hD; rw [hu3] at qz; exact qz
              refine lv_pop hx hb dX0_joinAll_42 rfl ?_
              refine lv_iinc (v := nI (b1 - 1)) (lv' := [(1, .int (nI (b1 - 1))), (0, .ref hz)]) hx hb dX0_joinAll_43 hl (k := 1) rfl (z_dec k29) (by decide) rfl (fun ls hl => ?_)
              refine lv_goto (tgt := 28) hx hb dX0_joinAll_46 (by decide) ?_
              exact ih D3 L3 S3 c3 g3 (b1 - 1) (joinF_okS' hS1 k29 hu3) (by rw [← hu3, ← hr9]; obtain ⟨b2, rfl⟩ : ∃ kz, b1 = kz + 1 := ⟨b1 - 1, by omega⟩; rfl) (by omega) (by omega) _ _ _ hP hD hS (lv_sub hl [1, 0] rfl)
        exact loop2 (nz + 1) Dz Lz (zfF 63 Sz) cz gz (nz - 1) hS2 rfl (by omega) (by omega) _ _ _ hP hD hS (lv_sub hl [1, 0] rfl)
      · skip
        have k5 : iz < 63 := k_nle (by omega) (by omega) hc5
        refine lv_aload_n hx hb dX0_joinAll_8 rfl (lv_at hl 0 rfl) ?_
        refine va_get (D := G) (ci := 0) (v := .ref saz) (C := RX0) (T := TX0) (N := 6) hx hb hts hinX0 hown hK hP 0 rfl rfl 2 (by decide) hf18 (fun _ h9 => h9) rfl dX0_joinAll_9 ?_
        refine lv_iload_n hx hb dX0_joinAll_12 rfl (lv_at hl 1 rfl) ?_
        refine lv_iconst (v := nI 0) hx hb dX0_joinAll_13 (by decide) ?_
        refine zA_st (x := nI 0) hx hb hK hP hD hS 3 0 rfl rfl (by omega) (by decide) dX0_joinAll_14 (fun H locs hP hD hS => ?_)
        have hP : va_P G vwCl (wh cI hz da la saz (Dz, Lz, upd (zfF iz Sz) iz (nI 0), nz, cz, gz)) H := hP
        have hD : va_D A (wh cI hz da la saz (Dz, Lz, upd (zfF iz Sz) iz (nI 0), nz, cz, gz)) := hD
        have hP : va_P G vwCl (wh cI hz da la saz (Dz, Lz, zfF (iz + 1) Sz, nz, cz, gz)) H := by have qz := hP; rw [zfF_succ] at qz; exact qz
        have hD : va_D A (wh cI hz da la saz (Dz, Lz, zfF (iz + 1) Sz, nz, cz, gz)) := by have qz := hD; rw [zfF_succ] at qz; exact qz
        refine lv_iinc (v := nI (iz + 1)) (lv' := [(1, .int (nI (iz + 1))), (0, .ref hz)]) hx hb dX0_joinAll_15 hl (k := 1) rfl (nI_1 _) (by decide) rfl (fun ls hl => ?_)
        refine lv_goto (tgt := 2) hx hb dX0_joinAll_18 (by decide) ?_
        exact ih (iz + 1) (by omega) (by omega) _ _ _ hP hD hS (lv_sub hl [1, 0] rfl)
  exact loop (64) 0 (by omega) (by omega) _ _ _ hP hD hS (lv_sub hl [1, 0] rfl)
set_option maxHeartbeats 4000000 in
set_option maxRecDepth 100000 in
theorem c_joinTop (l : Launch) (G : va_G) (cI : ClassId) (hz da la saz : Nat) (Dz Lz Sz : Fn) (nz : Nat) (cz gz : Int32) (hn : nz ≤ 63) (hn1 : 1 < nz) (hS1 : okS Sz) : zC_v l yX0_joinTop wsX0_joinTop ({ frames := 3, cells := 0, slots := 0, locals := 63 }) G [(cI, .int)] (wh cI hz da la saz (Dz, Lz, Sz, nz, cz, gz)) (wh cI hz da la saz (joinTopF (Dz, Lz, Sz, nz, cz, gz))) [.ref hz] := by
  refine zB_v (cc := cX0_joinTop) (maxL := 3) (ret := none) (by decide) rfl (Nat.le_of_ble_eq_true rfl) ?_
  intro p e s m args below meth c0 A hF hr hlk hK hA hP hD hS ls hl
  have hx := hF.1
  have hb := hF.2.1
  have hown := hF.2.2.2.1
  have hts := hF.2.2.2.2
  have hl : lv_has ls 3 [(0, .ref hz)] := hl
  refine lv_iconst (v := nI 1) hx hb dX0_joinTop_0 (by decide) ?_
  refine lv_istore_n (lv' := [(1, .int (nI 1)), (0, .ref hz)]) hx hb dX0_joinTop_1 rfl hl (by decide) rfl (fun ls hl => ?_)
  refine lv_iconst (v := nI 0) hx hb dX0_joinTop_2 (by decide) ?_
  refine lv_istore_n (lv' := [(2, .int (nI 0)), (1, .int (nI 1)), (0, .ref hz)]) hx hb dX0_joinTop_3 rfl hl (by decide) rfl (fun ls hl => ?_)
  have loop : ∀ (f9 : Nat) (b1 : Nat) (st1 : Nat) (f0 : Nat), (lowF Sz nz f0 b1 = lowF Sz nz 63 1) → (b1 < nz) → (st1 + f0 = 63) → (st1 + 1 ≤ b1) → nz - b1 < f9 → ∀ (H : Heap) (locs : List Loc) (ls : Array Slot), va_P G vwCl (wh cI hz da la saz (Dz, Lz, Sz, nz, cz, gz)) H → va_D A (wh cI hz da la saz (Dz, Lz, Sz, nz, cz, gz)) → va_S A s.heap H locs → lv_has ls 3 [(0, .ref hz), (1, .int (nI b1)), (2, .int (nI st1))] → W p l e ({ frames := 3, cells := 0, slots := 0, locals := 63 }) s m args below meth c0 H locs 0 0 (zQ_v below G [(cI, .int)] (wh cI hz da la saz (joinTopF (Dz, Lz, Sz, nz, cz, gz))) A args s) (F0 m 4 ls []) := by
    intro f9
    induction f9 with
    | zero => intro b1 st1 f0 hr9 hb1 hs1 hs2 hf; exact absurd hf (Nat.not_lt_zero _)
    | succ f9 ih =>
      intro b1 st1 f0 hr9 hb1 hs1 hs2 hf H locs ls hP hD hS hl
      obtain ⟨f1, rfl⟩ : ∃ kz, f0 = kz + 1 := ⟨f0 - 1, by omega⟩
      have z1 := sd_le Sz b1
      refine lv_iload_n hx hb dX0_joinTop_4 rfl (lv_at hl 2 rfl) ?_
      refine lv_bipush (v := nI 63) hx hb dX0_joinTop_5 (by decide) ?_
      refine lv_icmp_ge (tgt := 34) hx hb dX0_joinTop_7 (by decide) (fun hc7 => ?_) (fun hc7 => ?_)
      · skip
        have k7 : 63 ≤ st1 := k_le (by omega) (by omega) hc7
        exact absurd k7 (by omega)
      · skip
        have k7 : st1 < 63 := k_nle (by omega) (by omega) hc7
        refine lv_aload_n hx hb dX0_joinTop_10 rfl (lv_at hl 0 rfl) ?_
        refine lv_aload_n hx hb dX0_joinTop_11 rfl (lv_at hl 0 rfl) ?_
        refine lv_iload_n hx hb dX0_joinTop_12 rfl (lv_at hl 1 rfl) ?_
        refine zK_vi (As := [.int (nI b1)]) (rest := [.ref hz]) hF (c_left l G cI hz da la saz (Dz) (Lz) (Sz) (nz) (cz) (gz) hn hS1 b1 (by omega)) (cwV 1 hts gX0_joinTop_X0_left rfl rfl rfl (by decide +kernel) ⟨Nat.le_of_ble_eq_true rfl, Nat.le_of_ble_eq_true rfl⟩) hK hP hD hS hA (ci := 0) (q0 := 0) rfl rfl rfl (isC := [0, 1, 2, 3]) (isR := []) (perm := [0, 1, 2, 3]) (wr := []) (wN := wh cI hz da la saz (Dz, Lz, Sz, nz, cz, gz)) ⟨rfl, by decide, rfl, rfl, (fun _ hz => by cases hz), rfl, by decide⟩ [0] rfl rfl hl.1 rfl (Nat.le_of_ble_eq_true rfl) dX0_joinTop_13 ⟨Nat.le_refl _, Nat.le_refl _⟩ (fun H locs hP hD hS => ?_)
        refine zK_vi (As := [.int (nI (2 * b1 + sd Sz b1))]) (rest := []) hF (c_has l G cI hz da la saz (Dz) (Lz) (Sz) (nz) (cz) (gz) hn (nI (2 * b1 + sd Sz b1))) (cwV 1 hts gX0_joinTop_X0_has rfl rfl rfl (by decide +kernel) ⟨Nat.le_of_ble_eq_true rfl, Nat.le_of_ble_eq_true rfl⟩) hK hP hD hS hA (ci := 0) (q0 := 0) rfl rfl rfl (isC := [0, 1, 2, 3]) (isR := []) (perm := [0, 1, 2, 3]) (wr := []) (wN := wh cI hz da la saz (Dz, Lz, Sz, nz, cz, gz)) ⟨rfl, by decide, rfl, rfl, (fun _ hz => by cases hz), rfl, by decide⟩ [0] rfl rfl hl.1 rfl (Nat.le_of_ble_eq_true rfl) dX0_joinTop_16 ⟨Nat.le_refl _, Nat.le_refl _⟩ (fun H locs hP hD hS => ?_)
        refine lv_if_eq (tgt := 34) hx hb dX0_joinTop_19 (by decide) (fun hc19 => ?_) (fun hc19 => ?_)
        · skip
          have k19 : (hasI nz (nI (2 * b1 + sd Sz b1))) = false := bI_e0.mp hc19
          have e8 : lowF Sz nz 63 1 = b1 := by rw [← hr9]; exact lowF_no (by rw [hasI_nI (by omega) (by omega)] at k19; exact of_decide_eq_false k19)
          have e7 : joinTopF (Dz, Lz, Sz, nz, cz, gz) = topF 63 (Dz, Lz, Sz, nz, cz, gz) b1 := by rw [← e8]; rfl
          refine lv_iload_n hx hb dX0_joinTop_34 rfl (lv_at hl 1 rfl) ?_
          refine lv_istore_n (lv' := [(2, .int (nI b1)), (0, .ref hz), (1, .int (nI b1))]) hx hb dX0_joinTop_35 rfl hl (by decide) rfl (fun ls hl => ?_)
          have loop2 : ∀ (f9 : Nat) (D1 : Fn) (L1 : Fn) (S1 : Fn) (x1 : Int32) (y1 : Int32) (b2 : Nat) (f2 : Nat), (topF f2 (D1, L1, S1, nz, x1, y1) b2 = topF 63 (Dz, Lz, Sz, nz, cz, gz) b1) → (b2 < nz) → (b2 ≤ f2) → b2 < f9 → ∀ (H : Heap) (locs : List Loc) (ls : Array Slot), va_P G vwCl (wh cI hz da la saz (D1, L1, S1, nz, x1, y1)) H → va_D A (wh cI hz da la saz (D1, L1, S1, nz, x1, y1)) → va_S A s.heap H locs → lv_has ls 3 [(0, .ref hz), (1, .int (nI b1)), (2, .int (nI b2))] → W p l e ({ frames := 3, cells := 0, slots := 0, locals := 63 }) s m args below meth c0 H locs 0 0 (zQ_v below G [(cI, .int)] (wh cI hz da la saz (joinTopF (Dz, Lz, Sz, nz, cz, gz))) A args s) (F0 m 36 ls []) := by
            intro f9
            induction f9 with
            | zero => intro D1 L1 S1 x1 y1 b2 f2 hr8 hb2 hb3 hf; exact absurd hf (Nat.not_lt_zero _)
            | succ f9 ih =>
              intro D1 L1 S1 x1 y1 b2 f2 hr8 hb2 hb3 hf H locs ls hP hD hS hl
              refine lv_iload_n hx hb dX0_joinTop_36 rfl (lv_at hl 2 rfl) ?_
              refine lv_if_le (tgt := 54) hx hb dX0_joinTop_37 (by decide) (fun hc37 => ?_) (fun hc37 => ?_)
              · skip
                have k37 : b2 = 0 := k0_le (by omega) hc37
                obtain rfl : 0 = b2 := k37.symm
                rw [e7, ← hr8, topF_0]
                exact zE_v hF hr hlk hK hP hD hS dX0_joinTop_54
              · skip
                have k37 : 0 < b2 := k0_nle (by omega) hc37
                obtain ⟨f3, rfl⟩ : ∃ kz, f2 = kz + 1 := ⟨f2 - 1, by omega⟩
                refine lv_aload_n hx hb dX0_joinTop_40 rfl (lv_at hl 0 rfl) ?_
                refine lv_iconst (v := nI 0) hx hb dX0_joinTop_41 (by decide) ?_
                refine lv_iload_n hx hb dX0_joinTop_42 rfl (lv_at hl 2 rfl) ?_
                refine zK_vi (As := [.int (nI 0), .int (nI b2)]) (rest := []) hF (c_join l G cI hz da la saz (D1) (L1) (S1) (nz) (x1) (y1) hn 0 b2 (by omega) (by omega)) (cwV 2 hts gX0_joinTop_X0_join rfl rfl rfl (by decide +kernel) ⟨Nat.le_of_ble_eq_true rfl, Nat.le_of_ble_eq_true rfl⟩) hK hP hD hS hA (ci := 0) (q0 := 0) rfl rfl rfl (isC := [0, 1, 2, 3]) (isR := []) (perm := [0, 1, 2, 3]) (wr := []) (wN := wh cI hz da la saz (joinF false (D1, L1, S1, nz, x1, y1) 0 b2)) ⟨rfl, by decide, rfl, rfl, (fun _ hz => by cases hz), rfl, by decide⟩ [0] rfl rfl hl.1 rfl (Nat.le_of_ble_eq_true rfl) dX0_joinTop_43 ⟨Nat.le_refl _, Nat.le_refl _⟩ (fun H locs hP hD hS => ?_)
                obtain ⟨D4, L4, S4, c4, g4, hu4⟩ := joinF_ex false (D1) (L1) (S1) (nz) (x1) (y1) (0) (b2)
                have hP : va_P G vwCl (wh cI hz da la saz (D4, L4, S4, nz, c4, g4)) H := by have qz := hP; rw [hu4] at qz; exact qz
                have hD : va_D A (wh cI hz da la saz (D4, L4, S4, nz, c4, g4)) := by have qz := hD; rw [hu4] at qz; exact qz
                refine lv_pop hx hb dX0_joinTop_46 rfl ?_
                refine lv_iload_n hx hb dX0_joinTop_47 rfl (lv_at hl 2 rfl) ?_
                refine lv_iconst (v := nI 2) hx hb dX0_joinTop_48 (by decide) ?_
                refine lv_idiv hx hb dX0_joinTop_49 (by decide) ?_
                refine zN (nI (b2 / 2)) (y := ((nI b2) / (nI 2))) (pk_div (by omega) (by decide) (by decide)) ?_
                refine lv_istore_n (lv' := [(2, .int (nI (b2 / 2))), (0, .ref hz), (1, .int (nI b1))]) hx hb dX0_joinTop_50 rfl hl (by decide) rfl (fun ls hl => ?_)
                refine lv_goto (tgt := 36) hx hb dX0_joinTop_51 (by decide) ?_
                exact ih D4 L4 S4 c4 g4 (b2 / 2) f3 (by rw [← hu4]; exact (topF_go k37).symm.trans hr8) (by omega) (by omega) (by omega) _ _ _ hP hD hS (lv_sub hl [1, 2, 0] rfl)
          exact loop2 (nz + 1) Dz Lz Sz cz gz b1 63 rfl (by omega) (by omega) (by omega) _ _ _ hP hD hS (lv_sub hl [1, 2, 0] rfl)
        · skip
          have k19 : (hasI nz (nI (2 * b1 + sd Sz b1))) = true := bI_ne.mp hc19
          have k19 : 2 * b1 + sd Sz b1 < nz := by rw [hasI_nI (by omega) (by omega)] at k19; exact of_decide_eq_true k19
          refine lv_aload_n hx hb dX0_joinTop_22 rfl (lv_at hl 0 rfl) ?_
          refine lv_iload_n hx hb dX0_joinTop_23 rfl (lv_at hl 1 rfl) ?_
          refine zK_vi (As := [.int (nI b1)]) (rest := []) hF (c_left l G cI hz da la saz (Dz) (Lz) (Sz) (nz) (cz) (gz) hn hS1 b1 (by omega)) (cwV 1 hts gX0_joinTop_X0_left rfl rfl rfl (by decide +kernel) ⟨Nat.le_of_ble_eq_true rfl, Nat.le_of_ble_eq_true rfl⟩) hK hP hD hS hA (ci := 0) (q0 := 0) rfl rfl rfl (isC := [0, 1, 2, 3]) (isR := []) (perm := [0, 1, 2, 3]) (wr := []) (wN := wh cI hz da la saz (Dz, Lz, Sz, nz, cz, gz)) ⟨rfl, by decide, rfl, rfl, (fun _ hz => by cases hz), rfl, by decide⟩ [0] rfl rfl hl.1 rfl (Nat.le_of_ble_eq_true rfl) dX0_joinTop_24 ⟨Nat.le_refl _, Nat.le_refl _⟩ (fun H locs hP hD hS => ?_)
          refine lv_istore_n (lv' := [(1, .int (nI (2 * b1 + sd Sz b1))), (0, .ref hz), (2, .int (nI st1))]) hx hb dX0_joinTop_27 rfl hl (by decide) rfl (fun ls hl => ?_)
          refine lv_iinc (v := nI (st1 + 1)) (lv' := [(2, .int (nI (st1 + 1))), (1, .int (nI (2 * b1 + sd Sz b1))), (0, .ref hz)]) hx hb dX0_joinTop_28 hl (k := 2) rfl (nI_1 _) (by decide) rfl (fun ls hl => ?_)
          refine lv_goto (tgt := 4) hx hb dX0_joinTop_31 (by decide) ?_
          exact ih (2 * b1 + sd Sz b1) (st1 + 1) f1 ((lowF_go k19).symm.trans hr9) (by omega) (by omega) (by omega) (by omega) _ _ _ hP hD hS (lv_sub hl [2, 1, 0] rfl)
  exact loop (nz + 1) 1 0 63 rfl (by omega) (by omega) (by omega) (by omega) _ _ _ hP hD hS (lv_sub hl [2, 1, 0] rfl)
set_option maxHeartbeats 4000000 in
set_option maxRecDepth 100000 in
theorem c_removeTop (l : Launch) (G : va_G) (cI : ClassId) (hz da la saz : Nat) (Dz Lz Sz : Fn) (nz : Nat) (cz gz : Int32) (hn : nz ≤ 63) (hn1 : 1 ≤ nz) (hS1 : okS Sz) : zC_i l yX0_removeTop wsX0_removeTop ({ frames := 4, cells := 0, slots := 0, locals := 85 }) G [(cI, .int)] (wh cI hz da la saz (Dz, Lz, Sz, nz, cz, gz)) (wh cI hz da la saz (rmF (Dz, Lz, Sz, nz, cz, gz))) [.ref hz] (Dz 0) := by
  refine zB_i (cc := cX0_removeTop) (maxL := 3) (ret := (some .int)) (by decide) rfl (Nat.le_of_ble_eq_true rfl) ?_
  intro p e s m args below meth c0 A hF hr hlk hK hA hP hD hS ls hl
  have hx := hF.1
  have hb := hF.2.1
  have hown := hF.2.2.2.1
  have hts := hF.2.2.2.2
  have hf9 := hts (.fieldLink RX0 9 "SnoringDukes$WeakHeap" "duke" "[I") (by decide +kernel)
  have hf21 := hts (.fieldLink RX0 21 "SnoringDukes$WeakHeap" "size" "I") (by decide +kernel)
  have hf15 := hts (.fieldLink RX0 15 "SnoringDukes$WeakHeap" "loudness" "[I") (by decide +kernel)
  have hinX0 : ∀ wz ∈ wsX00, wz ∈ wsX0_removeTop := by decide +kernel
  have hl : lv_has ls 3 [(0, .ref hz)] := hl
  refine lv_aload_n hx hb dX0_removeTop_0 rfl (lv_at hl 0 rfl) ?_
  refine lv_iconst (v := nI 0) hx hb dX0_removeTop_1 (by decide) ?_
  refine zK_vi (As := [.int (nI 0)]) (rest := []) hF (c_has l G cI hz da la saz (Dz) (Lz) (Sz) (nz) (cz) (gz) hn (nI 0)) (cwV 1 hts gX0_removeTop_X0_has rfl rfl rfl (by decide +kernel) ⟨Nat.le_of_ble_eq_true rfl, Nat.le_of_ble_eq_true rfl⟩) hK hP hD hS hA (ci := 0) (q0 := 0) rfl rfl rfl (isC := [0, 1, 2, 3]) (isR := []) (perm := [0, 1, 2, 3]) (wr := []) (wN := wh cI hz da la saz (Dz, Lz, Sz, nz, cz, gz)) ⟨rfl, by decide, rfl, rfl, (fun _ hz => by cases hz), rfl, by decide⟩ [0] rfl rfl hl.1 rfl (Nat.le_of_ble_eq_true rfl) dX0_removeTop_2 ⟨Nat.le_refl _, Nat.le_refl _⟩ (fun H locs hP hD hS => ?_)
  refine lv_if_ne (tgt := 10) hx hb dX0_removeTop_5 (by decide) (fun hc5 => ?_) (fun hc5 => ?_)
  · skip
    have k5 : (hasI nz (nI 0)) = true := bI_ne.mp hc5
    refine lv_aload_n hx hb dX0_removeTop_10 rfl (lv_at hl 0 rfl) ?_
    refine va_get (D := G) (ci := 0) (v := .ref da) (C := RX0) (T := TX0) (N := 6) hx hb hts hinX0 hown hK hP 0 rfl rfl 0 (by decide) hf9 (fun _ h9 => h9) rfl dX0_removeTop_11 ?_
    refine lv_iconst (v := nI 0) hx hb dX0_removeTop_14 (by decide) ?_
    refine zA_ld hx hb hK hP 1 0 rfl rfl (by omega) (by decide) dX0_removeTop_15 ?_
    refine lv_istore_n (lv' := [(1, .int (Dz 0)), (0, .ref hz)]) hx hb dX0_removeTop_16 rfl hl (by decide) rfl (fun ls hl => ?_)
    refine lv_aload_n hx hb dX0_removeTop_17 rfl (lv_at hl 1 rfl) ?_
    refine va_get (D := G) (ci := 0) (v := .int (nI nz)) (C := RX0) (T := TX0) (N := 6) hx hb hts hinX0 hown hK hP 0 rfl rfl 3 (by decide) hf21 (fun _ h9 => h9) rfl dX0_removeTop_18 ?_
    refine lv_iconst (v := nI 1) hx hb dX0_removeTop_21 (by decide) ?_
    refine lv_isub hx hb dX0_removeTop_22 ?_
    refine zN (nI (nz - 1)) (y := ((nI nz) - (nI 1))) (pk_sub (by omega)) ?_
    refine lv_istore_n (lv' := [(2, .int (nI (nz - 1))), (1, .int (Dz 0)), (0, .ref hz)]) hx hb dX0_removeTop_23 rfl hl (by decide) rfl (fun ls hl => ?_)
    refine lv_aload_n hx hb dX0_removeTop_24 rfl (lv_at hl 2 rfl) ?_
    refine lv_iload_n hx hb dX0_removeTop_25 rfl (lv_at hl 0 rfl) ?_
    refine zK_vi (As := [.int (nI (nz - 1))]) (rest := []) hF (c_has l G cI hz da la saz (Dz) (Lz) (Sz) (nz) (cz) (gz) hn (nI (nz - 1))) (cwV 1 hts gX0_removeTop_X0_has rfl rfl rfl (by decide +kernel) ⟨Nat.le_of_ble_eq_true rfl, Nat.le_of_ble_eq_true rfl⟩) hK hP hD hS hA (ci := 0) (q0 := 0) rfl rfl rfl (isC := [0, 1, 2, 3]) (isR := []) (perm := [0, 1, 2, 3]) (wr := []) (wN := wh cI hz da la saz (Dz, Lz, Sz, nz, cz, gz)) ⟨rfl, by decide, rfl, rfl, (fun _ hz => by cases hz), rfl, by decide⟩ [0] rfl rfl hl.1 rfl (Nat.le_of_ble_eq_true rfl) dX0_removeTop_26 ⟨Nat.le_refl _, Nat.le_refl _⟩ (fun H locs hP hD hS => ?_)
    refine lv_if_eq (tgt := 56) hx hb dX0_removeTop_29 (by decide) (fun hc29 => ?_) (fun hc29 => ?_)
    · skip
      have k29 : (hasI nz (nI (nz - 1))) = false := bI_e0.mp hc29
      rw [hasI_nI (by omega) (by omega)] at k29
      exact absurd (of_decide_eq_false k29) (by omega)
    · skip
      have k29 : (hasI nz (nI (nz - 1))) = true := bI_ne.mp hc29
      refine lv_aload_n hx hb dX0_removeTop_32 rfl (lv_at hl 2 rfl) ?_
      refine va_get (D := G) (ci := 0) (v := .ref da) (C := RX0) (T := TX0) (N := 6) hx hb hts hinX0 hown hK hP 0 rfl rfl 0 (by decide) hf9 (fun _ h9 => h9) rfl dX0_removeTop_33 ?_
      refine lv_iconst (v := nI 0) hx hb dX0_removeTop_36 (by decide) ?_
      refine lv_aload_n hx hb dX0_removeTop_37 rfl (lv_at hl 2 rfl) ?_
      refine va_get (D := G) (ci := 0) (v := .ref da) (C := RX0) (T := TX0) (N := 6) hx hb hts hinX0 hown hK hP 0 rfl rfl 0 (by decide) hf9 (fun _ h9 => h9) rfl dX0_removeTop_38 ?_
      refine lv_iload_n hx hb dX0_removeTop_41 rfl (lv_at hl 0 rfl) ?_
      refine zA_ld hx hb hK hP 1 0 rfl rfl (by omega) (by decide) dX0_removeTop_42 ?_
      refine zA_st (x := Dz (nz - 1)) hx hb hK hP hD hS 1 0 rfl rfl (by omega) (by decide) dX0_removeTop_43 (fun H locs hP hD hS => ?_)
      have hP : va_P G vwCl (wh cI hz da la saz (upd Dz 0 (Dz (nz - 1)), Lz, Sz, nz, cz, gz)) H := hP
      have hD : va_D A (wh cI hz da la saz (upd Dz 0 (Dz (nz - 1)), Lz, Sz, nz, cz, gz)) := hD
      refine lv_aload_n hx hb dX0_removeTop_44 rfl (lv_at hl 2 rfl) ?_
      refine va_get (D := G) (ci := 0) (v := .ref la) (C := RX0) (T := TX0) (N := 6) hx hb hts hinX0 hown hK hP 0 rfl rfl 1 (by decide) hf15 (fun _ h9 => h9) rfl dX0_removeTop_45 ?_
      refine lv_iconst (v := nI 0) hx hb dX0_removeTop_48 (by decide) ?_
      refine lv_aload_n hx hb dX0_removeTop_49 rfl (lv_at hl 2 rfl) ?_
      refine va_get (D := G) (ci := 0) (v := .ref la) (C := RX0) (T := TX0) (N := 6) hx hb hts hinX0 hown hK hP 0 rfl rfl 1 (by decide) hf15 (fun _ h9 => h9) rfl dX0_removeTop_50 ?_
      refine lv_iload_n hx hb dX0_removeTop_53 rfl (lv_at hl 0 rfl) ?_
      refine zA_ld hx hb hK hP 2 0 rfl rfl (by omega) (by decide) dX0_removeTop_54 ?_
      refine zA_st (x := Lz (nz - 1)) hx hb hK hP hD hS 2 0 rfl rfl (by omega) (by decide) dX0_removeTop_55 (fun H locs hP hD hS => ?_)
      have hP : va_P G vwCl (wh cI hz da la saz (upd Dz 0 (Dz (nz - 1)), upd Lz 0 (Lz (nz - 1)), Sz, nz, cz, gz)) H := hP
      have hD : va_D A (wh cI hz da la saz (upd Dz 0 (Dz (nz - 1)), upd Lz 0 (Lz (nz - 1)), Sz, nz, cz, gz)) := hD
      refine lv_aload_n hx hb dX0_removeTop_56 rfl (lv_at hl 2 rfl) ?_
      refine lv_iload_n hx hb dX0_removeTop_57 rfl (lv_at hl 0 rfl) ?_
      refine va_put (D := G) (ci := 0) (v := .int (nI (nz - 1))) (ty := .int) (C := RX0) (T := TX0) (N := 6) hx hb hts hinX0 tyX0 tyX0_ok nmX0 hown hK hP hD hS 0 rfl rfl 3 (by decide) hf21 (fun _ h9 => h9) rfl (by decide +kernel) rfl rfl (Nat.le_of_ble_eq_true rfl) dX0_removeTop_58 (fun H locs hP hD hS => ?_)
      have hP : va_P G vwCl (wh cI hz da la saz (upd Dz 0 (Dz (nz - 1)), upd Lz 0 (Lz (nz - 1)), Sz, nz - 1, cz, gz)) H := hP
      have hD : va_D A (wh cI hz da la saz (upd Dz 0 (Dz (nz - 1)), upd Lz 0 (Lz (nz - 1)), Sz, nz - 1, cz, gz)) := hD
      refine lv_aload_n hx hb dX0_removeTop_61 rfl (lv_at hl 2 rfl) ?_
      refine va_get (D := G) (ci := 0) (v := .int (nI (nz - 1))) (C := RX0) (T := TX0) (N := 6) hx hb hts hinX0 hown hK hP 0 rfl rfl 3 (by decide) hf21 (fun _ h9 => h9) rfl dX0_removeTop_62 ?_
      refine lv_iconst (v := nI 1) hx hb dX0_removeTop_65 (by decide) ?_
      refine lv_icmp_le (tgt := 73) hx hb dX0_removeTop_66 (by decide) (fun hc66 => ?_) (fun hc66 => ?_)
      · skip
        have k66 : (nz - 1) ≤ 1 := k_le (by omega) (by omega) hc66
        refine lv_iload_n hx hb dX0_removeTop_73 rfl (lv_at hl 1 rfl) ?_
        have e9 : rmF (Dz, Lz, Sz, nz, cz, gz) = mvF (Dz, Lz, Sz, nz, cz, gz) := if_neg (by show ¬ 1 < nz - 1; omega)
        rw [e9]
        exact zE_i hF hr hlk hK hP hD hS dX0_removeTop_74
      · skip
        have k66 : 1 < (nz - 1) := k_nle (by omega) (by omega) hc66
        refine lv_aload_n hx hb dX0_removeTop_69 rfl (lv_at hl 2 rfl) ?_
        refine zK_vv (As := []) (rest := []) hF (c_joinTop l G cI hz da la saz (upd Dz 0 (Dz (nz - 1))) (upd Lz 0 (Lz (nz - 1))) (Sz) (nz - 1) (cz) (gz) (by omega) (by omega) hS1) (cwV 0 hts gX0_removeTop_X0_joinTop rfl rfl rfl (by decide +kernel) ⟨Nat.le_of_ble_eq_true rfl, Nat.le_of_ble_eq_true rfl⟩) hK hP hD hS hA (ci := 0) (q0 := 0) rfl rfl rfl (isC := [0, 1, 2, 3]) (isR := []) (perm := [0, 1, 2, 3]) (wr := []) (wN := wh cI hz da la saz (joinTopF (upd Dz 0 (Dz (nz - 1)), upd Lz 0 (Lz (nz - 1)), Sz, nz - 1, cz, gz))) ⟨rfl, by decide, rfl, rfl, (fun _ hz => by cases hz), rfl, by decide⟩ [0] rfl rfl hl.1 rfl (Nat.le_of_ble_eq_true rfl) dX0_removeTop_70 ⟨Nat.le_refl _, Nat.le_refl _⟩ (fun H locs hP hD hS => ?_)
        refine lv_iload_n hx hb dX0_removeTop_73 rfl (lv_at hl 1 rfl) ?_
        have e9 : rmF (Dz, Lz, Sz, nz, cz, gz) = joinTopF (mvF (Dz, Lz, Sz, nz, cz, gz)) := if_pos (by show 1 < nz - 1; omega)
        rw [e9]
        exact zE_i hF hr hlk hK hP hD hS dX0_removeTop_74
  · skip
    have k5 : (hasI nz (nI 0)) = false := bI_e0.mp hc5
    rw [hasI_nI (by omega) (by omega)] at k5
    exact absurd (of_decide_eq_false k5) (by omega)
set_option maxHeartbeats 4000000 in
set_option maxRecDepth 100000 in
theorem c_removeTops (l : Launch) (G : va_G) (cI : ClassId) (hz da la saz : Nat) (Dz Lz Sz : Fn) (nz : Nat) (cz gz : Int32) (hn : nz ≤ 63) (hS1 : okS Sz) (kz : Nat) (hk : kz ≤ nz) : zC_v l yX0_removeTops wsX0_removeTops ({ frames := 5, cells := 0, slots := 0, locals := 107 }) G [(cI, .int)] (wh cI hz da la saz (Dz, Lz, Sz, nz, cz, gz)) (wh cI hz da la saz (rmsF kz (Dz, Lz, Sz, nz, cz, gz))) [.ref hz, .int (nI kz)] := by
  refine zB_v (cc := cX0_removeTops) (maxL := 3) (ret := none) (by decide) rfl (Nat.le_of_ble_eq_true rfl) ?_
  intro p e s m args below meth c0 A hF hr hlk hK hA hP hD hS ls hl
  have hx := hF.1
  have hb := hF.2.1
  have hown := hF.2.2.2.1
  have hts := hF.2.2.2.2
  have hl : lv_has ls 3 [(0, .ref hz), (1, .int (nI kz))] := hl
  refine lv_iconst (v := nI 0) hx hb dX0_removeTops_0 (by decide) ?_
  refine lv_istore_n (lv' := [(2, .int (nI 0)), (0, .ref hz), (1, .int (nI kz))]) hx hb dX0_removeTops_1 rfl hl (by decide) rfl (fun ls hl => ?_)
  have loop : ∀ (f9 : Nat) (D1 : Fn) (L1 : Fn) (S1 : Fn) (x1 : Int32) (y1 : Int32) (iz : Nat), (okS S1) → (rmsF iz (Dz, Lz, Sz, nz, cz, gz) = (D1, L1, S1, nz - iz, x1, y1)) → (iz ≤ kz) → kz - iz < f9 → ∀ (H : Heap) (locs : List Loc) (ls : Array Slot), va_P G vwCl (wh cI hz da la saz (D1, L1, S1, nz - iz, x1, y1)) H → va_D A (wh cI hz da la saz (D1, L1, S1, nz - iz, x1, y1)) → va_S A s.heap H locs → lv_has ls 3 [(0, .ref hz), (1, .int (nI kz)), (2, .int (nI iz))] → W p l e ({ frames := 5, cells := 0, slots := 0, locals := 107 }) s m args below meth c0 H locs 0 0 (zQ_v below G [(cI, .int)] (wh cI hz da la saz (rmsF kz (Dz, Lz, Sz, nz, cz, gz))) A args s) (F0 m 2 ls []) := by
    intro f9
    induction f9 with
    | zero => intro D1 L1 S1 x1 y1 iz hS1 hr9 hi hf; exact absurd hf (Nat.not_lt_zero _)
    | succ f9 ih =>
      intro D1 L1 S1 x1 y1 iz hS1 hr9 hi hf H locs ls hP hD hS hl
      refine lv_iload_n hx hb dX0_removeTops_2 rfl (lv_at hl 2 rfl) ?_
      refine lv_iload_n hx hb dX0_removeTops_3 rfl (lv_at hl 1 rfl) ?_
      refine lv_icmp_ge (tgt := 18) hx hb dX0_removeTops_4 (by decide) (fun hc4 => ?_) (fun hc4 => ?_)
      · skip
        have k4 : kz ≤ iz := k_le (by omega) (by omega) hc4
        obtain rfl : kz = iz := by omega
        rw [hr9]
        exact zE_v hF hr hlk hK hP hD hS dX0_removeTops_18
      · skip
        have k4 : iz < kz := k_nle (by omega) (by omega) hc4
        refine lv_aload_n hx hb dX0_removeTops_7 rfl (lv_at hl 0 rfl) ?_
        refine zK_vi (As := []) (rest := []) hF (c_removeTop l G cI hz da la saz (D1) (L1) (S1) (nz - iz) (x1) (y1) (by omega) (by omega) hS1) (cwV 0 hts gX0_removeTops_X0_removeTop rfl rfl rfl (by decide +kernel) ⟨Nat.le_of_ble_eq_true rfl, Nat.le_of_ble_eq_true rfl⟩) hK hP hD hS hA (ci := 0) (q0 := 0) rfl rfl rfl (isC := [0, 1, 2, 3]) (isR := []) (perm := [0, 1, 2, 3]) (wr := []) (wN := wh cI hz da la saz (rmF (D1, L1, S1, nz - iz, x1, y1))) ⟨rfl, by decide, rfl, rfl, (fun _ hz => by cases hz), rfl, by decide⟩ [0] rfl rfl hl.1 rfl (Nat.le_of_ble_eq_true rfl) dX0_removeTops_8 ⟨Nat.le_refl _, Nat.le_refl _⟩ (fun H locs hP hD hS => ?_)
        obtain ⟨D5, L5, S5, c5, g5, hu5, hz5⟩ := rmF_ex (D := D1) (L := L1) (S := S1) (n := nz - iz) (c := x1) (g := y1) hS1 (m := nz - (iz + 1)) (by omega)
        have hP : va_P G vwCl (wh cI hz da la saz (D5, L5, S5, nz - (iz + 1), c5, g5)) H := by have qz := hP; rw [hu5] at qz; exact qz
        have hD : va_D A (wh cI hz da la saz (D5, L5, S5, nz - (iz + 1), c5, g5)) := by have qz := hD; rw [hu5] at qz; exact qz
        refine lv_pop hx hb dX0_removeTops_11 rfl ?_
        refine lv_iinc (v := nI (iz + 1)) (lv' := [(2, .int (nI (iz + 1))), (0, .ref hz), (1, .int (nI kz))]) hx hb dX0_removeTops_12 hl (k := 2) rfl (nI_1 _) (by decide) rfl (fun ls hl => ?_)
        refine lv_goto (tgt := 2) hx hb dX0_removeTops_15 (by decide) ?_
        exact ih D5 L5 S5 c5 g5 (iz + 1) hz5 (by rw [rmsF, hr9]; exact hu5) (by omega) (by omega) _ _ _ hP hD hS (lv_sub hl [1, 2, 0] rfl)
  exact loop (kz + 1) Dz Lz Sz cz gz 0 hS1 rfl (by omega) (by omega) _ _ _ hP hD hS (lv_sub hl [1, 2, 0] rfl)
set_option maxHeartbeats 4000000 in
set_option maxRecDepth 100000 in
theorem c_copyFrom (l : Launch) (G : va_G) (cI : ClassId) (hz da la saz : Nat) (h2 da2 la2 sa2 : Nat) (Dz Lz Sz : Fn) (nz : Nat) (cz gz : Int32) (D2 L2 S2 : Fn) (n2 : Nat) (x2 y2 : Int32) : zC_v l yX0_copyFrom wsX0_copyFrom ({ frames := 0, cells := 0, slots := 0, locals := 0 }) G [(cI, .int)] (wh cI hz da la saz (Dz, Lz, Sz, nz, cz, gz) ++ wh cI h2 da2 la2 sa2 (D2, L2, S2, n2, x2, y2)) (wh cI hz da la saz (cpF (D2, L2, S2, n2, x2, y2) (Dz, Lz, Sz, nz, cz, gz)) ++ wh cI h2 da2 la2 sa2 (D2, L2, S2, n2, x2, y2)) [.ref hz, .ref h2] := by
  refine zB_v (cc := cX0_copyFrom) (maxL := 3) (ret := none) (by decide) rfl (Nat.le_of_ble_eq_true rfl) ?_
  intro p e s m args below meth c0 A hF hr hlk hK hA hP hD hS ls hl
  have hx := hF.1
  have hb := hF.2.1
  have hown := hF.2.2.2.1
  have hts := hF.2.2.2.2
  have hf21 := hts (.fieldLink RX0 21 "SnoringDukes$WeakHeap" "size" "I") (by decide +kernel)
  have hf25 := hts (.fieldLink RX0 25 "SnoringDukes$WeakHeap" "compared" "I") (by decide +kernel)
  have hf28 := hts (.fieldLink RX0 28 "SnoringDukes$WeakHeap" "changed" "I") (by decide +kernel)
  have hf9 := hts (.fieldLink RX0 9 "SnoringDukes$WeakHeap" "duke" "[I") (by decide +kernel)
  have hf15 := hts (.fieldLink RX0 15 "SnoringDukes$WeakHeap" "loudness" "[I") (by decide +kernel)
  have hf18 := hts (.fieldLink RX0 18 "SnoringDukes$WeakHeap" "side" "[I") (by decide +kernel)
  have hinX0 : ∀ wz ∈ wsX00, wz ∈ wsX0_copyFrom := by decide +kernel
  have hl : lv_has ls 3 [(0, .ref hz), (1, .ref h2)] := hl
  refine lv_aload_n hx hb dX0_copyFrom_0 rfl (lv_at hl 0 rfl) ?_
  refine lv_aload_n hx hb dX0_copyFrom_1 rfl (lv_at hl 1 rfl) ?_
  refine va_get (D := G) (ci := 0) (v := .int (nI n2)) (C := RX0) (T := TX0) (N := 6) hx hb hts hinX0 hown hK hP 4 rfl rfl 3 (by decide) hf21 (fun _ h9 => h9) rfl dX0_copyFrom_2 ?_
  refine va_put (D := G) (ci := 0) (v := .int (nI n2)) (ty := .int) (C := RX0) (T := TX0) (N := 6) hx hb hts hinX0 tyX0 tyX0_ok nmX0 hown hK hP hD hS 0 rfl rfl 3 (by decide) hf21 (fun _ h9 => h9) rfl (by decide +kernel) rfl rfl (Nat.le_of_ble_eq_true rfl) dX0_copyFrom_5 (fun H locs hP hD hS => ?_)
  have hP : va_P G vwCl (wh cI hz da la saz (Dz, Lz, Sz, n2, cz, gz) ++ wh cI h2 da2 la2 sa2 (D2, L2, S2, n2, x2, y2)) H := hP
  have hD : va_D A (wh cI hz da la saz (Dz, Lz, Sz, n2, cz, gz) ++ wh cI h2 da2 la2 sa2 (D2, L2, S2, n2, x2, y2)) := hD
  refine lv_aload_n hx hb dX0_copyFrom_8 rfl (lv_at hl 0 rfl) ?_
  refine lv_aload_n hx hb dX0_copyFrom_9 rfl (lv_at hl 1 rfl) ?_
  refine va_get (D := G) (ci := 0) (v := .int x2) (C := RX0) (T := TX0) (N := 6) hx hb hts hinX0 hown hK hP 4 rfl rfl 4 (by decide) hf25 (fun _ h9 => h9) rfl dX0_copyFrom_10 ?_
  refine va_put (D := G) (ci := 0) (v := .int x2) (ty := .int) (C := RX0) (T := TX0) (N := 6) hx hb hts hinX0 tyX0 tyX0_ok nmX0 hown hK hP hD hS 0 rfl rfl 4 (by decide) hf25 (fun _ h9 => h9) rfl (by decide +kernel) rfl rfl (Nat.le_of_ble_eq_true rfl) dX0_copyFrom_13 (fun H locs hP hD hS => ?_)
  have hP : va_P G vwCl (wh cI hz da la saz (Dz, Lz, Sz, n2, x2, gz) ++ wh cI h2 da2 la2 sa2 (D2, L2, S2, n2, x2, y2)) H := hP
  have hD : va_D A (wh cI hz da la saz (Dz, Lz, Sz, n2, x2, gz) ++ wh cI h2 da2 la2 sa2 (D2, L2, S2, n2, x2, y2)) := hD
  refine lv_aload_n hx hb dX0_copyFrom_16 rfl (lv_at hl 0 rfl) ?_
  refine lv_aload_n hx hb dX0_copyFrom_17 rfl (lv_at hl 1 rfl) ?_
  refine va_get (D := G) (ci := 0) (v := .int y2) (C := RX0) (T := TX0) (N := 6) hx hb hts hinX0 hown hK hP 4 rfl rfl 5 (by decide) hf28 (fun _ h9 => h9) rfl dX0_copyFrom_18 ?_
  refine va_put (D := G) (ci := 0) (v := .int y2) (ty := .int) (C := RX0) (T := TX0) (N := 6) hx hb hts hinX0 tyX0 tyX0_ok nmX0 hown hK hP hD hS 0 rfl rfl 5 (by decide) hf28 (fun _ h9 => h9) rfl (by decide +kernel) rfl rfl (Nat.le_of_ble_eq_true rfl) dX0_copyFrom_21 (fun H locs hP hD hS => ?_)
  have hP : va_P G vwCl (wh cI hz da la saz (Dz, Lz, Sz, n2, x2, y2) ++ wh cI h2 da2 la2 sa2 (D2, L2, S2, n2, x2, y2)) H := hP
  have hD : va_D A (wh cI hz da la saz (Dz, Lz, Sz, n2, x2, y2) ++ wh cI h2 da2 la2 sa2 (D2, L2, S2, n2, x2, y2)) := hD
  refine lv_iconst (v := nI 0) hx hb dX0_copyFrom_24 (by decide) ?_
  refine lv_istore_n (lv' := [(2, .int (nI 0)), (0, .ref hz), (1, .ref h2)]) hx hb dX0_copyFrom_25 rfl hl (by decide) rfl (fun ls hl => ?_)
  have hP : va_P G vwCl (wh cI hz da la saz (flF 0 D2 Dz, flF 0 L2 Lz, flF 0 S2 Sz, n2, x2, y2) ++ wh cI h2 da2 la2 sa2 (D2, L2, S2, n2, x2, y2)) H := by rw [flF_0, flF_0, flF_0]; exact hP
  have hD : va_D A (wh cI hz da la saz (flF 0 D2 Dz, flF 0 L2 Lz, flF 0 S2 Sz, n2, x2, y2) ++ wh cI h2 da2 la2 sa2 (D2, L2, S2, n2, x2, y2)) := by rw [flF_0, flF_0, flF_0]; exact hD
  have loop : ∀ (f9 : Nat) (iz : Nat), (iz ≤ 63) → 63 - iz < f9 → ∀ (H : Heap) (locs : List Loc) (ls : Array Slot), va_P G vwCl (wh cI hz da la saz (flF iz D2 Dz, flF iz L2 Lz, flF iz S2 Sz, n2, x2, y2) ++ wh cI h2 da2 la2 sa2 (D2, L2, S2, n2, x2, y2)) H → va_D A (wh cI hz da la saz (flF iz D2 Dz, flF iz L2 Lz, flF iz S2 Sz, n2, x2, y2) ++ wh cI h2 da2 la2 sa2 (D2, L2, S2, n2, x2, y2)) → va_S A s.heap H locs → lv_has ls 3 [(0, .ref hz), (1, .ref h2), (2, .int (nI iz))] → W p l e ({ frames := 0, cells := 0, slots := 0, locals := 0 }) s m args below meth c0 H locs 0 0 (zQ_v below G [(cI, .int)] (wh cI hz da la saz (cpF (D2, L2, S2, n2, x2, y2) (Dz, Lz, Sz, nz, cz, gz)) ++ wh cI h2 da2 la2 sa2 (D2, L2, S2, n2, x2, y2)) A args s) (F0 m 26 ls []) := by
    intro f9
    induction f9 with
    | zero => intro iz hi hf; exact absurd hf (Nat.not_lt_zero _)
    | succ f9 ih =>
      intro iz hi hf H locs ls hP hD hS hl
      refine lv_iload_n hx hb dX0_copyFrom_26 rfl (lv_at hl 2 rfl) ?_
      refine lv_bipush (v := nI 63) hx hb dX0_copyFrom_27 (by decide) ?_
      refine lv_icmp_ge (tgt := 74) hx hb dX0_copyFrom_29 (by decide) (fun hc29 => ?_) (fun hc29 => ?_)
      · skip
        have k29 : 63 ≤ iz := k_le (by omega) (by omega) hc29
        obtain rfl : 63 = iz := by omega
        exact zE_v hF hr hlk hK hP hD hS dX0_copyFrom_74
      · skip
        have k29 : iz < 63 := k_nle (by omega) (by omega) hc29
        refine lv_aload_n hx hb dX0_copyFrom_32 rfl (lv_at hl 0 rfl) ?_
        refine va_get (D := G) (ci := 0) (v := .ref da) (C := RX0) (T := TX0) (N := 6) hx hb hts hinX0 hown hK hP 0 rfl rfl 0 (by decide) hf9 (fun _ h9 => h9) rfl dX0_copyFrom_33 ?_
        refine lv_iload_n hx hb dX0_copyFrom_36 rfl (lv_at hl 2 rfl) ?_
        refine lv_aload_n hx hb dX0_copyFrom_37 rfl (lv_at hl 1 rfl) ?_
        refine va_get (D := G) (ci := 0) (v := .ref da2) (C := RX0) (T := TX0) (N := 6) hx hb hts hinX0 hown hK hP 4 rfl rfl 0 (by decide) hf9 (fun _ h9 => h9) rfl dX0_copyFrom_38 ?_
        refine lv_iload_n hx hb dX0_copyFrom_41 rfl (lv_at hl 2 rfl) ?_
        refine zA_ld hx hb hK hP 5 0 rfl rfl (by omega) (by decide) dX0_copyFrom_42 ?_
        refine zA_st (x := D2 iz) hx hb hK hP hD hS 1 0 rfl rfl (by omega) (by decide) dX0_copyFrom_43 (fun H locs hP hD hS => ?_)
        have hP : va_P G vwCl (wh cI hz da la saz (upd (flF iz D2 Dz) iz (D2 iz), flF iz L2 Lz, flF iz S2 Sz, n2, x2, y2) ++ wh cI h2 da2 la2 sa2 (D2, L2, S2, n2, x2, y2)) H := hP
        have hD : va_D A (wh cI hz da la saz (upd (flF iz D2 Dz) iz (D2 iz), flF iz L2 Lz, flF iz S2 Sz, n2, x2, y2) ++ wh cI h2 da2 la2 sa2 (D2, L2, S2, n2, x2, y2)) := hD
        refine lv_aload_n hx hb dX0_copyFrom_44 rfl (lv_at hl 0 rfl) ?_
        refine va_get (D := G) (ci := 0) (v := .ref la) (C := RX0) (T := TX0) (N := 6) hx hb hts hinX0 hown hK hP 0 rfl rfl 1 (by decide) hf15 (fun _ h9 => h9) rfl dX0_copyFrom_45 ?_
        refine lv_iload_n hx hb dX0_copyFrom_48 rfl (lv_at hl 2 rfl) ?_
        refine lv_aload_n hx hb dX0_copyFrom_49 rfl (lv_at hl 1 rfl) ?_
        refine va_get (D := G) (ci := 0) (v := .ref la2) (C := RX0) (T := TX0) (N := 6) hx hb hts hinX0 hown hK hP 4 rfl rfl 1 (by decide) hf15 (fun _ h9 => h9) rfl dX0_copyFrom_50 ?_
        refine lv_iload_n hx hb dX0_copyFrom_53 rfl (lv_at hl 2 rfl) ?_
        refine zA_ld hx hb hK hP 6 0 rfl rfl (by omega) (by decide) dX0_copyFrom_54 ?_
        refine zA_st (x := L2 iz) hx hb hK hP hD hS 2 0 rfl rfl (by omega) (by decide) dX0_copyFrom_55 (fun H locs hP hD hS => ?_)
        have hP : va_P G vwCl (wh cI hz da la saz (upd (flF iz D2 Dz) iz (D2 iz), upd (flF iz L2 Lz) iz (L2 iz), flF iz S2 Sz, n2, x2, y2) ++ wh cI h2 da2 la2 sa2 (D2, L2, S2, n2, x2, y2)) H := hP
        have hD : va_D A (wh cI hz da la saz (upd (flF iz D2 Dz) iz (D2 iz), upd (flF iz L2 Lz) iz (L2 iz), flF iz S2 Sz, n2, x2, y2) ++ wh cI h2 da2 la2 sa2 (D2, L2, S2, n2, x2, y2)) := hD
        refine lv_aload_n hx hb dX0_copyFrom_56 rfl (lv_at hl 0 rfl) ?_
        refine va_get (D := G) (ci := 0) (v := .ref saz) (C := RX0) (T := TX0) (N := 6) hx hb hts hinX0 hown hK hP 0 rfl rfl 2 (by decide) hf18 (fun _ h9 => h9) rfl dX0_copyFrom_57 ?_
        refine lv_iload_n hx hb dX0_copyFrom_60 rfl (lv_at hl 2 rfl) ?_
        refine lv_aload_n hx hb dX0_copyFrom_61 rfl (lv_at hl 1 rfl) ?_
        refine va_get (D := G) (ci := 0) (v := .ref sa2) (C := RX0) (T := TX0) (N := 6) hx hb hts hinX0 hown hK hP 4 rfl rfl 2 (by decide) hf18 (fun _ h9 => h9) rfl dX0_copyFrom_62 ?_
        refine lv_iload_n hx hb dX0_copyFrom_65 rfl (lv_at hl 2 rfl) ?_
        refine zA_ld hx hb hK hP 7 0 rfl rfl (by omega) (by decide) dX0_copyFrom_66 ?_
        refine zA_st (x := S2 iz) hx hb hK hP hD hS 3 0 rfl rfl (by omega) (by decide) dX0_copyFrom_67 (fun H locs hP hD hS => ?_)
        have hP : va_P G vwCl (wh cI hz da la saz (upd (flF iz D2 Dz) iz (D2 iz), upd (flF iz L2 Lz) iz (L2 iz), upd (flF iz S2 Sz) iz (S2 iz), n2, x2, y2) ++ wh cI h2 da2 la2 sa2 (D2, L2, S2, n2, x2, y2)) H := hP
        have hD : va_D A (wh cI hz da la saz (upd (flF iz D2 Dz) iz (D2 iz), upd (flF iz L2 Lz) iz (L2 iz), upd (flF iz S2 Sz) iz (S2 iz), n2, x2, y2) ++ wh cI h2 da2 la2 sa2 (D2, L2, S2, n2, x2, y2)) := hD
        have hP : va_P G vwCl (wh cI hz da la saz (flF (iz + 1) D2 Dz, flF (iz + 1) L2 Lz, flF (iz + 1) S2 Sz, n2, x2, y2) ++ wh cI h2 da2 la2 sa2 (D2, L2, S2, n2, x2, y2)) H := by have qz := hP; rw [flF_succ, flF_succ, flF_succ] at qz; exact qz
        have hD : va_D A (wh cI hz da la saz (flF (iz + 1) D2 Dz, flF (iz + 1) L2 Lz, flF (iz + 1) S2 Sz, n2, x2, y2) ++ wh cI h2 da2 la2 sa2 (D2, L2, S2, n2, x2, y2)) := by have qz := hD; rw [flF_succ, flF_succ, flF_succ] at qz; exact qz
        refine lv_iinc (v := nI (iz + 1)) (lv' := [(2, .int (nI (iz + 1))), (0, .ref hz), (1, .ref h2)]) hx hb dX0_copyFrom_68 hl (k := 2) rfl (nI_1 _) (by decide) rfl (fun ls hl => ?_)
        refine lv_goto (tgt := 26) hx hb dX0_copyFrom_71 (by decide) ?_
        exact ih (iz + 1) (by omega) (by omega) _ _ _ hP hD hS (lv_sub hl [1, 2, 0] rfl)
  exact loop (64) 0 (by omega) (by omega) _ _ _ hP hD hS (lv_sub hl [1, 2, 0] rfl)
