/-! WeakHeap: what is asked of berths -/
set_option maxHeartbeats 4000000 in
set_option maxRecDepth 100000 in
theorem c_has (l : Launch) (G : va_G) (cI : ClassId) (hz da la saz : Nat) (Dz Lz Sz : Fn) (nz : Nat) (cz gz : Int32) (hn : nz ≤ 63) (bz : Int32) : zC_i l yX0_has wsX0_has ({ frames := 0, cells := 0, slots := 0, locals := 0 }) G [(cI, .int)] (wh cI hz da la saz (Dz, Lz, Sz, nz, cz, gz)) (wh cI hz da la saz (Dz, Lz, Sz, nz, cz, gz)) [.ref hz, .int bz] (bI (hasI nz bz)) := by
  refine zB_i (cc := cX0_has) (maxL := 2) (ret := (some .boolean)) (by decide) rfl (Nat.le_of_ble_eq_true rfl) ?_
  intro p e s m args below meth c0 A hF hr hlk hK hA hP hD hS ls hl
  have hx := hF.1
  have hb := hF.2.1
  have hown := hF.2.2.2.1
  have hts := hF.2.2.2.2
  have hf21 := hts (.fieldLink RX0 21 "SnoringDukes$WeakHeap" "size" "I") (by decide +kernel)
  have hinX0 : ∀ wz ∈ wsX00, wz ∈ wsX0_has := by decide +kernel
  have hl : lv_has ls 2 [(0, .ref hz), (1, .int bz)] := hl
  refine lv_iload_n hx hb dX0_has_0 rfl (lv_at hl 1 rfl) ?_
  refine lv_if_lt (tgt := 22) hx hb dX0_has_1 (by decide) (fun hc1 => ?_) (fun hc1 => ?_)
  · skip
    refine lv_iconst (v := nI 0) hx hb dX0_has_22 (by decide) ?_
    rw [has_f0 hc1]
    exact zE_z hF hr hlk (Or.inl rfl) hK hP hD hS dX0_has_23
  · skip
    refine lv_iload_n hx hb dX0_has_4 rfl (lv_at hl 1 rfl) ?_
    refine lv_aload_n hx hb dX0_has_5 rfl (lv_at hl 0 rfl) ?_
    refine va_get (D := G) (ci := 0) (v := .int (nI nz)) (C := RX0) (T := TX0) (N := 6) hx hb hts hinX0 hown hK hP 0 rfl rfl 3 (by decide) hf21 (fun _ h9 => h9) rfl dX0_has_6 ?_
    refine lv_icmp_ge (tgt := 22) hx hb dX0_has_9 (by decide) (fun hc9 => ?_) (fun hc9 => ?_)
    · skip
      refine lv_iconst (v := nI 0) hx hb dX0_has_22 (by decide) ?_
      rw [has_f1 hc9]
      exact zE_z hF hr hlk (Or.inl rfl) hK hP hD hS dX0_has_23
    · skip
      refine lv_iload_n hx hb dX0_has_12 rfl (lv_at hl 1 rfl) ?_
      refine lv_bipush (v := nI 63) hx hb dX0_has_13 (by decide) ?_
      refine lv_icmp_ge (tgt := 22) hx hb dX0_has_15 (by decide) (fun hc15 => ?_) (fun hc15 => ?_)
      · skip
        refine lv_iconst (v := nI 0) hx hb dX0_has_22 (by decide) ?_
        rw [has_f2 hn hc15]
        exact zE_z hF hr hlk (Or.inl rfl) hK hP hD hS dX0_has_23
      · skip
        refine lv_iconst (v := nI 1) hx hb dX0_has_18 (by decide) ?_
        refine lv_goto (tgt := 23) hx hb dX0_has_19 (by decide) ?_
        rw [has_t hc1 hc9]
        exact zE_z hF hr hlk (Or.inr rfl) hK hP hD hS dX0_has_23
set_option maxHeartbeats 4000000 in
set_option maxRecDepth 100000 in
theorem c_dukeAt (l : Launch) (G : va_G) (cI : ClassId) (hz da la saz : Nat) (Dz Lz Sz : Fn) (nz : Nat) (cz gz : Int32) (hn : nz ≤ 63) (bz : Nat) (hb9 : bz < 1000) : zC_i l yX0_dukeAt wsX0_dukeAt ({ frames := 1, cells := 0, slots := 0, locals := 21 }) G [(cI, .int)] (wh cI hz da la saz (Dz, Lz, Sz, nz, cz, gz)) (wh cI hz da la saz (Dz, Lz, Sz, nz, cz, gz)) [.ref hz, .int (nI bz)] (if bz < nz then Dz bz else -1) := by
  refine zB_i (cc := cX0_dukeAt) (maxL := 2) (ret := (some .int)) (by decide) rfl (Nat.le_of_ble_eq_true rfl) ?_
  intro p e s m args below meth c0 A hF hr hlk hK hA hP hD hS ls hl
  have hx := hF.1
  have hb := hF.2.1
  have hown := hF.2.2.2.1
  have hts := hF.2.2.2.2
  have hf9 := hts (.fieldLink RX0 9 "SnoringDukes$WeakHeap" "duke" "[I") (by decide +kernel)
  have hinX0 : ∀ wz ∈ wsX00, wz ∈ wsX0_dukeAt := by decide +kernel
  have hl : lv_has ls 2 [(0, .ref hz), (1, .int (nI bz))] := hl
  refine lv_aload_n hx hb dX0_dukeAt_0 rfl (lv_at hl 0 rfl) ?_
  refine lv_iload_n hx hb dX0_dukeAt_1 rfl (lv_at hl 1 rfl) ?_
  refine zK_vi (As := [.int (nI bz)]) (rest := []) hF (c_has l G cI hz da la saz (Dz) (Lz) (Sz) (nz) (cz) (gz) hn (nI bz)) (cwV 1 hts gX0_dukeAt_X0_has rfl rfl rfl (by decide +kernel) ⟨Nat.le_of_ble_eq_true rfl, Nat.le_of_ble_eq_true rfl⟩) hK hP hD hS hA (ci := 0) (q0 := 0) rfl rfl rfl (isC := [0, 1, 2, 3]) (isR := []) (perm := [0, 1, 2, 3]) (wr := []) (wN := wh cI hz da la saz (Dz, Lz, Sz, nz, cz, gz)) ⟨rfl, by decide, rfl, rfl, (fun _ hz => by cases hz), rfl, by decide⟩ [0] rfl rfl hl.1 rfl (Nat.le_of_ble_eq_true rfl) dX0_dukeAt_2 ⟨Nat.le_refl _, Nat.le_refl _⟩ (fun H locs hP hD hS => ?_)
  refine zN (bI (decide (bz < nz))) (y := (bI (hasI nz (nI bz)))) (by rw [hasI_nI (by omega) (by omega)]) ?_
  refine lv_if_eq (tgt := 17) hx hb dX0_dukeAt_5 (by decide) (fun hc5 => ?_) (fun hc5 => ?_)
  · skip
    have k5 : (decide (bz < nz)) = false := bI_e0.mp hc5
    refine lv_iconst (v := (-1)) hx hb dX0_dukeAt_17 (by decide) ?_
    have kz : ¬ bz < nz := of_decide_eq_false k5
    rw [if_neg kz]
    exact zE_i hF hr hlk hK hP hD hS dX0_dukeAt_18
  · skip
    have k5 : (decide (bz < nz)) = true := bI_ne.mp hc5
    have kz : bz < nz := of_decide_eq_true k5
    refine lv_aload_n hx hb dX0_dukeAt_8 rfl (lv_at hl 0 rfl) ?_
    refine va_get (D := G) (ci := 0) (v := .ref da) (C := RX0) (T := TX0) (N := 6) hx hb hts hinX0 hown hK hP 0 rfl rfl 0 (by decide) hf9 (fun _ h9 => h9) rfl dX0_dukeAt_9 ?_
    refine lv_iload_n hx hb dX0_dukeAt_12 rfl (lv_at hl 1 rfl) ?_
    refine zA_ld hx hb hK hP 1 0 rfl rfl (by omega) (by decide) dX0_dukeAt_13 ?_
    refine lv_goto (tgt := 18) hx hb dX0_dukeAt_14 (by decide) ?_
    have kz : bz < nz := of_decide_eq_true k5
    rw [if_pos kz]
    exact zE_i hF hr hlk hK hP hD hS dX0_dukeAt_18
set_option maxHeartbeats 4000000 in
set_option maxRecDepth 100000 in
theorem c_loudnessAt (l : Launch) (G : va_G) (cI : ClassId) (hz da la saz : Nat) (Dz Lz Sz : Fn) (nz : Nat) (cz gz : Int32) (hn : nz ≤ 63) (bz : Nat) (hb9 : bz < 1000) : zC_i l yX0_loudnessAt wsX0_loudnessAt ({ frames := 1, cells := 0, slots := 0, locals := 21 }) G [(cI, .int)] (wh cI hz da la saz (Dz, Lz, Sz, nz, cz, gz)) (wh cI hz da la saz (Dz, Lz, Sz, nz, cz, gz)) [.ref hz, .int (nI bz)] (if bz < nz then Lz bz else -1) := by
  refine zB_i (cc := cX0_loudnessAt) (maxL := 2) (ret := (some .int)) (by decide) rfl (Nat.le_of_ble_eq_true rfl) ?_
  intro p e s m args below meth c0 A hF hr hlk hK hA hP hD hS ls hl
  have hx := hF.1
  have hb := hF.2.1
  have hown := hF.2.2.2.1
  have hts := hF.2.2.2.2
  have hf15 := hts (.fieldLink RX0 15 "SnoringDukes$WeakHeap" "loudness" "[I") (by decide +kernel)
  have hinX0 : ∀ wz ∈ wsX00, wz ∈ wsX0_loudnessAt := by decide +kernel
  have hl : lv_has ls 2 [(0, .ref hz), (1, .int (nI bz))] := hl
  refine lv_aload_n hx hb dX0_loudnessAt_0 rfl (lv_at hl 0 rfl) ?_
  refine lv_iload_n hx hb dX0_loudnessAt_1 rfl (lv_at hl 1 rfl) ?_
  refine zK_vi (As := [.int (nI bz)]) (rest := []) hF (c_has l G cI hz da la saz (Dz) (Lz) (Sz) (nz) (cz) (gz) hn (nI bz)) (cwV 1 hts gX0_loudnessAt_X0_has rfl rfl rfl (by decide +kernel) ⟨Nat.le_of_ble_eq_true rfl, Nat.le_of_ble_eq_true rfl⟩) hK hP hD hS hA (ci := 0) (q0 := 0) rfl rfl rfl (isC := [0, 1, 2, 3]) (isR := []) (perm := [0, 1, 2, 3]) (wr := []) (wN := wh cI hz da la saz (Dz, Lz, Sz, nz, cz, gz)) ⟨rfl, by decide, rfl, rfl, (fun _ hz => by cases hz), rfl, by decide⟩ [0] rfl rfl hl.1 rfl (Nat.le_of_ble_eq_true rfl) dX0_loudnessAt_2 ⟨Nat.le_refl _, Nat.le_refl _⟩ (fun H locs hP hD hS => ?_)
  refine zN (bI (decide (bz < nz))) (y := (bI (hasI nz (nI bz)))) (by rw [hasI_nI (by omega) (by omega)]) ?_
  refine lv_if_eq (tgt := 17) hx hb dX0_loudnessAt_5 (by decide) (fun hc5 => ?_) (fun hc5 => ?_)
  · skip
    have k5 : (decide (bz < nz)) = false := bI_e0.mp hc5
    refine lv_iconst (v := (-1)) hx hb dX0_loudnessAt_17 (by decide) ?_
    have kz : ¬ bz < nz := of_decide_eq_false k5
    rw [if_neg kz]
    exact zE_i hF hr hlk hK hP hD hS dX0_loudnessAt_18
  · skip
    have k5 : (decide (bz < nz)) = true := bI_ne.mp hc5
    have kz : bz < nz := of_decide_eq_true k5
    refine lv_aload_n hx hb dX0_loudnessAt_8 rfl (lv_at hl 0 rfl) ?_
    refine va_get (D := G) (ci := 0) (v := .ref la) (C := RX0) (T := TX0) (N := 6) hx hb hts hinX0 hown hK hP 0 rfl rfl 1 (by decide) hf15 (fun _ h9 => h9) rfl dX0_loudnessAt_9 ?_
    refine lv_iload_n hx hb dX0_loudnessAt_12 rfl (lv_at hl 1 rfl) ?_
    refine zA_ld hx hb hK hP 2 0 rfl rfl (by omega) (by decide) dX0_loudnessAt_13 ?_
    refine lv_goto (tgt := 18) hx hb dX0_loudnessAt_14 (by decide) ?_
    have kz : bz < nz := of_decide_eq_true k5
    rw [if_pos kz]
    exact zE_i hF hr hlk hK hP hD hS dX0_loudnessAt_18
set_option maxHeartbeats 4000000 in
set_option maxRecDepth 100000 in
theorem c_sideAt (l : Launch) (G : va_G) (cI : ClassId) (hz da la saz : Nat) (Dz Lz Sz : Fn) (nz : Nat) (cz gz : Int32) (hn : nz ≤ 63) (bz : Nat) (hb9 : bz < 1000) : zC_i l yX0_sideAt wsX0_sideAt ({ frames := 1, cells := 0, slots := 0, locals := 21 }) G [(cI, .int)] (wh cI hz da la saz (Dz, Lz, Sz, nz, cz, gz)) (wh cI hz da la saz (Dz, Lz, Sz, nz, cz, gz)) [.ref hz, .int (nI bz)] (if bz < nz then Sz bz else 0) := by
  refine zB_i (cc := cX0_sideAt) (maxL := 2) (ret := (some .int)) (by decide) rfl (Nat.le_of_ble_eq_true rfl) ?_
  intro p e s m args below meth c0 A hF hr hlk hK hA hP hD hS ls hl
  have hx := hF.1
  have hb := hF.2.1
  have hown := hF.2.2.2.1
  have hts := hF.2.2.2.2
  have hf18 := hts (.fieldLink RX0 18 "SnoringDukes$WeakHeap" "side" "[I") (by decide +kernel)
  have hinX0 : ∀ wz ∈ wsX00, wz ∈ wsX0_sideAt := by decide +kernel
  have hl : lv_has ls 2 [(0, .ref hz), (1, .int (nI bz))] := hl
  refine lv_aload_n hx hb dX0_sideAt_0 rfl (lv_at hl 0 rfl) ?_
  refine lv_iload_n hx hb dX0_sideAt_1 rfl (lv_at hl 1 rfl) ?_
  refine zK_vi (As := [.int (nI bz)]) (rest := []) hF (c_has l G cI hz da la saz (Dz) (Lz) (Sz) (nz) (cz) (gz) hn (nI bz)) (cwV 1 hts gX0_sideAt_X0_has rfl rfl rfl (by decide +kernel) ⟨Nat.le_of_ble_eq_true rfl, Nat.le_of_ble_eq_true rfl⟩) hK hP hD hS hA (ci := 0) (q0 := 0) rfl rfl rfl (isC := [0, 1, 2, 3]) (isR := []) (perm := [0, 1, 2, 3]) (wr := []) (wN := wh cI hz da la saz (Dz, Lz, Sz, nz, cz, gz)) ⟨rfl, by decide, rfl, rfl, (fun _ hz => by cases hz), rfl, by decide⟩ [0] rfl rfl hl.1 rfl (Nat.le_of_ble_eq_true rfl) dX0_sideAt_2 ⟨Nat.le_refl _, Nat.le_refl _⟩ (fun H locs hP hD hS => ?_)
  refine zN (bI (decide (bz < nz))) (y := (bI (hasI nz (nI bz)))) (by rw [hasI_nI (by omega) (by omega)]) ?_
  refine lv_if_eq (tgt := 17) hx hb dX0_sideAt_5 (by decide) (fun hc5 => ?_) (fun hc5 => ?_)
  · skip
    have k5 : (decide (bz < nz)) = false := bI_e0.mp hc5
    refine lv_iconst (v := nI 0) hx hb dX0_sideAt_17 (by decide) ?_
    have kz : ¬ bz < nz := of_decide_eq_false k5
    rw [if_neg kz]
    exact zE_i hF hr hlk hK hP hD hS dX0_sideAt_18
  · skip
    have k5 : (decide (bz < nz)) = true := bI_ne.mp hc5
    have kz : bz < nz := of_decide_eq_true k5
    refine lv_aload_n hx hb dX0_sideAt_8 rfl (lv_at hl 0 rfl) ?_
    refine va_get (D := G) (ci := 0) (v := .ref saz) (C := RX0) (T := TX0) (N := 6) hx hb hts hinX0 hown hK hP 0 rfl rfl 2 (by decide) hf18 (fun _ h9 => h9) rfl dX0_sideAt_9 ?_
    refine lv_iload_n hx hb dX0_sideAt_12 rfl (lv_at hl 1 rfl) ?_
    refine zA_ld hx hb hK hP 3 0 rfl rfl (by omega) (by decide) dX0_sideAt_13 ?_
    refine lv_goto (tgt := 18) hx hb dX0_sideAt_14 (by decide) ?_
    have kz : bz < nz := of_decide_eq_true k5
    rw [if_pos kz]
    exact zE_i hF hr hlk hK hP hD hS dX0_sideAt_18
set_option maxHeartbeats 4000000 in
set_option maxRecDepth 100000 in
theorem c_left (l : Launch) (G : va_G) (cI : ClassId) (hz da la saz : Nat) (Dz Lz Sz : Fn) (nz : Nat) (cz gz : Int32) (hn : nz ≤ 63) (hS1 : okS Sz) (bz : Nat) (hb9 : bz < nz) : zC_i l yX0_left wsX0_left ({ frames := 2, cells := 0, slots := 0, locals := 42 }) G [(cI, .int)] (wh cI hz da la saz (Dz, Lz, Sz, nz, cz, gz)) (wh cI hz da la saz (Dz, Lz, Sz, nz, cz, gz)) [.ref hz, .int (nI bz)] (nI (2 * bz + sd Sz bz)) := by
  refine zB_i (cc := cX0_left) (maxL := 2) (ret := (some .int)) (by decide) rfl (Nat.le_of_ble_eq_true rfl) ?_
  intro p e s m args below meth c0 A hF hr hlk hK hA hP hD hS ls hl
  have hx := hF.1
  have hb := hF.2.1
  have hown := hF.2.2.2.1
  have hts := hF.2.2.2.2
  have hl : lv_has ls 2 [(0, .ref hz), (1, .int (nI bz))] := hl
  refine lv_iconst (v := nI 2) hx hb dX0_left_0 (by decide) ?_
  refine lv_iload_n hx hb dX0_left_1 rfl (lv_at hl 1 rfl) ?_
  refine lv_imul hx hb dX0_left_2 ?_
  refine zN (nI (2 * bz)) (y := ((nI 2) * (nI bz))) (pk_mul _ _) ?_
  refine lv_aload_n hx hb dX0_left_3 rfl (lv_at hl 0 rfl) ?_
  refine lv_iload_n hx hb dX0_left_4 rfl (lv_at hl 1 rfl) ?_
  refine zK_vi (As := [.int (nI bz)]) (rest := [.int (nI (2 * bz))]) hF (c_sideAt l G cI hz da la saz (Dz) (Lz) (Sz) (nz) (cz) (gz) hn bz (by omega)) (cwV 1 hts gX0_left_X0_sideAt rfl rfl rfl (by decide +kernel) ⟨Nat.le_of_ble_eq_true rfl, Nat.le_of_ble_eq_true rfl⟩) hK hP hD hS hA (ci := 0) (q0 := 0) rfl rfl rfl (isC := [0, 1, 2, 3]) (isR := []) (perm := [0, 1, 2, 3]) (wr := []) (wN := wh cI hz da la saz (Dz, Lz, Sz, nz, cz, gz)) ⟨rfl, by decide, rfl, rfl, (fun _ hz => by cases hz), rfl, by decide⟩ [0] rfl rfl hl.1 rfl (Nat.le_of_ble_eq_true rfl) dX0_left_5 ⟨Nat.le_refl _, Nat.le_refl _⟩ (fun H locs hP hD hS => ?_)
  refine zN (nI (sd Sz bz)) (y := (if bz < nz then Sz bz else 0)) (by rw [if_pos hb9]; exact sd_nI hS1 bz) ?_
  refine lv_iadd hx hb dX0_left_8 ?_
  refine zN (nI ((2 * bz) + (sd Sz bz))) (y := ((nI (2 * bz)) + (nI (sd Sz bz)))) (nI_add _ _) ?_
  exact zE_i hF hr hlk hK hP hD hS dX0_left_9
set_option maxHeartbeats 4000000 in
set_option maxRecDepth 100000 in
theorem c_find (l : Launch) (G : va_G) (cI : ClassId) (hz da la saz : Nat) (Dz Lz Sz : Fn) (nz : Nat) (cz gz : Int32) (hn : nz ≤ 63) (xz : Int32) : zC_i l yX0_find wsX0_find ({ frames := 2, cells := 0, slots := 0, locals := 42 }) G [(cI, .int)] (wh cI hz da la saz (Dz, Lz, Sz, nz, cz, gz)) (wh cI hz da la saz (Dz, Lz, Sz, nz, cz, gz)) [.ref hz, .int xz] (fndI Dz nz xz) := by
  refine zB_i (cc := cX0_find) (maxL := 3) (ret := (some .int)) (by decide) rfl (Nat.le_of_ble_eq_true rfl) ?_
  intro p e s m args below meth c0 A hF hr hlk hK hA hP hD hS ls hl
  have hx := hF.1
  have hb := hF.2.1
  have hown := hF.2.2.2.1
  have hts := hF.2.2.2.2
  have hf21 := hts (.fieldLink RX0 21 "SnoringDukes$WeakHeap" "size" "I") (by decide +kernel)
  have hinX0 : ∀ wz ∈ wsX00, wz ∈ wsX0_find := by decide +kernel
  have hl : lv_has ls 3 [(0, .ref hz), (1, .int xz)] := hl
  refine lv_iconst (v := nI 0) hx hb dX0_find_0 (by decide) ?_
  refine lv_istore_n (lv' := [(2, .int (nI 0)), (0, .ref hz), (1, .int xz)]) hx hb dX0_find_1 rfl hl (by decide) rfl (fun ls hl => ?_)
  have loop : ∀ (f9 : Nat) (iz : Nat), (iz ≤ nz) → (∀ j, j < iz → Dz j ≠ xz) → nz - iz < f9 → ∀ (H : Heap) (locs : List Loc) (ls : Array Slot), va_P G vwCl (wh cI hz da la saz (Dz, Lz, Sz, nz, cz, gz)) H → va_D A (wh cI hz da la saz (Dz, Lz, Sz, nz, cz, gz)) → va_S A s.heap H locs → lv_has ls 3 [(0, .ref hz), (1, .int xz), (2, .int (nI iz))] → W p l e ({ frames := 2, cells := 0, slots := 0, locals := 42 }) s m args below meth c0 H locs 0 0 (zQ_i below G [(cI, .int)] (wh cI hz da la saz (Dz, Lz, Sz, nz, cz, gz)) (fndI Dz nz xz) A args s) (F0 m 2 ls []) := by
    intro f9
    induction f9 with
    | zero => intro iz hi hi2 hf; exact absurd hf (Nat.not_lt_zero _)
    | succ f9 ih =>
      intro iz hi hi2 hf H locs ls hP hD hS hl
      refine lv_iload_n hx hb dX0_find_2 rfl (lv_at hl 2 rfl) ?_
      refine lv_aload_n hx hb dX0_find_3 rfl (lv_at hl 0 rfl) ?_
      refine va_get (D := G) (ci := 0) (v := .int (nI nz)) (C := RX0) (T := TX0) (N := 6) hx hb hts hinX0 hown hK hP 0 rfl rfl 3 (by decide) hf21 (fun _ h9 => h9) rfl dX0_find_4 ?_
      refine lv_icmp_ge (tgt := 27) hx hb dX0_find_7 (by decide) (fun hc7 => ?_) (fun hc7 => ?_)
      · skip
        have k7 : nz ≤ iz := k_le (by omega) (by omega) hc7
        refine lv_iconst (v := (-1)) hx hb dX0_find_27 (by decide) ?_
        have e9 : fndI Dz nz xz = -1 := by unfold fndI; rw [if_neg (fnd_none (n := nz) (fun j hj => hi2 j (by omega)))]
        rw [e9]
        exact zE_i hF hr hlk hK hP hD hS dX0_find_28
      · skip
        have k7 : iz < nz := k_nle (by omega) (by omega) hc7
        refine lv_aload_n hx hb dX0_find_10 rfl (lv_at hl 0 rfl) ?_
        refine lv_iload_n hx hb dX0_find_11 rfl (lv_at hl 2 rfl) ?_
        refine zK_vi (As := [.int (nI iz)]) (rest := []) hF (c_dukeAt l G cI hz da la saz (Dz) (Lz) (Sz) (nz) (cz) (gz) hn iz (by omega)) (cwV 1 hts gX0_find_X0_dukeAt rfl rfl rfl (by decide +kernel) ⟨Nat.le_of_ble_eq_true rfl, Nat.le_of_ble_eq_true rfl⟩) hK hP hD hS hA (ci := 0) (q0 := 0) rfl rfl rfl (isC := [0, 1, 2, 3]) (isR := []) (perm := [0, 1, 2, 3]) (wr := []) (wN := wh cI hz da la saz (Dz, Lz, Sz, nz, cz, gz)) ⟨rfl, by decide, rfl, rfl, (fun _ hz => by cases hz), rfl, by decide⟩ [0] rfl rfl hl.1 rfl (Nat.le_of_ble_eq_true rfl) dX0_find_12 ⟨Nat.le_refl _, Nat.le_refl _⟩ (fun H locs hP hD hS => ?_)
        refine zN (Dz iz) (y := (if iz < nz then Dz iz else -1)) (if_pos k7) ?_
        refine lv_iload_n hx hb dX0_find_15 rfl (lv_at hl 1 rfl) ?_
        refine lv_icmp_ne (tgt := 21) hx hb dX0_find_16 (by decide) (fun hc16 => ?_) (fun hc16 => ?_)
        · skip
          refine lv_iinc (v := nI (iz + 1)) (lv' := [(2, .int (nI (iz + 1))), (0, .ref hz), (1, .int xz)]) hx hb dX0_find_21 hl (k := 2) rfl (nI_1 _) (by decide) rfl (fun ls hl => ?_)
          refine lv_goto (tgt := 2) hx hb dX0_find_24 (by decide) ?_
          exact ih (iz + 1) k7 (fun j hj => by rcases Nat.lt_succ_iff_lt_or_eq.mp hj with qz | qz; exact hi2 j qz; rw [qz]; exact hc16) (by omega) _ _ _ hP hD hS (lv_sub hl [1, 2, 0] rfl)
        · skip
          refine lv_iload_n hx hb dX0_find_19 rfl (lv_at hl 2 rfl) ?_
          have e9 : fndI Dz nz xz = nI iz := by unfold fndI; rw [fnd_at k7 hc16 hi2, if_pos k7]
          rw [e9]
          exact zE_i hF hr hlk hK hP hD hS dX0_find_20
  exact loop (nz + 1) 0 (Nat.zero_le _) (fun j hj => absurd hj (Nat.not_lt_zero _)) (by omega) _ _ _ hP hD hS (lv_sub hl [1, 2, 0] rfl)
set_option maxHeartbeats 4000000 in
set_option maxRecDepth 100000 in
theorem c_elder (l : Launch) (G : va_G) (cI : ClassId) (hz da la saz : Nat) (Dz Lz Sz : Fn) (nz : Nat) (cz gz : Int32) (hn : nz ≤ 63) (hS1 : okS Sz) (bz : Nat) (hb9 : bz < nz) : zC_i l yX0_elder wsX0_elder ({ frames := 3, cells := 0, slots := 0, locals := 63 }) G [(cI, .int)] (wh cI hz da la saz (Dz, Lz, Sz, nz, cz, gz)) (wh cI hz da la saz (Dz, Lz, Sz, nz, cz, gz)) [.ref hz, .int (nI bz)] (nI (eld Sz bz)) := by
  refine zB_i (cc := cX0_elder) (maxL := 3) (ret := (some .int)) (by decide) rfl (Nat.le_of_ble_eq_true rfl) ?_
  intro p e s m args below meth c0 A hF hr hlk hK hA hP hD hS ls hl
  have hx := hF.1
  have hb := hF.2.1
  have hown := hF.2.2.2.1
  have hts := hF.2.2.2.2
  have hl : lv_has ls 3 [(0, .ref hz), (1, .int (nI bz))] := hl
  refine lv_iload_n hx hb dX0_elder_0 rfl (lv_at hl 1 rfl) ?_
  refine lv_istore_n (lv' := [(2, .int (nI bz)), (0, .ref hz), (1, .int (nI bz))]) hx hb dX0_elder_1 rfl hl (by decide) rfl (fun ls hl => ?_)
  have loop : ∀ (f9 : Nat) (at9 : Nat), (at9 ≤ bz) → (eld Sz at9 = eld Sz bz) → at9 < f9 → ∀ (H : Heap) (locs : List Loc) (ls : Array Slot), va_P G vwCl (wh cI hz da la saz (Dz, Lz, Sz, nz, cz, gz)) H → va_D A (wh cI hz da la saz (Dz, Lz, Sz, nz, cz, gz)) → va_S A s.heap H locs → lv_has ls 3 [(0, .ref hz), (1, .int (nI bz)), (2, .int (nI at9))] → W p l e ({ frames := 3, cells := 0, slots := 0, locals := 63 }) s m args below meth c0 H locs 0 0 (zQ_i below G [(cI, .int)] (wh cI hz da la saz (Dz, Lz, Sz, nz, cz, gz)) (nI (eld Sz bz)) A args s) (F0 m 2 ls []) := by
    intro f9
    induction f9 with
    | zero => intro at9 h1 h2 hf; exact absurd hf (Nat.not_lt_zero _)
    | succ f9 ih =>
      intro at9 h1 h2 hf H locs ls hP hD hS hl
      have z1 := sd_le Sz (at9 / 2)
      refine lv_iload_n hx hb dX0_elder_2 rfl (lv_at hl 2 rfl) ?_
      refine lv_iconst (v := nI 1) hx hb dX0_elder_3 (by decide) ?_
      refine lv_icmp_le (tgt := 25) hx hb dX0_elder_4 (by decide) (fun hc4 => ?_) (fun hc4 => ?_)
      · skip
        have k4 : at9 ≤ 1 := k_le (by omega) (by omega) hc4
        refine lv_iload_n hx hb dX0_elder_25 rfl (lv_at hl 2 rfl) ?_
        refine lv_iconst (v := nI 2) hx hb dX0_elder_26 (by decide) ?_
        refine lv_idiv hx hb dX0_elder_27 (by decide) ?_
        refine zN (nI (at9 / 2)) (y := ((nI at9) / (nI 2))) (pk_div (by omega) (by decide) (by decide)) ?_
        have e9 : at9 / 2 = eld Sz bz := by rw [← h2, eld_1 k4]; omega
        rw [← e9]
        exact zE_i hF hr hlk hK hP hD hS dX0_elder_28
      · skip
        have k4 : 1 < at9 := k_nle (by omega) (by omega) hc4
        refine lv_iload_n hx hb dX0_elder_7 rfl (lv_at hl 2 rfl) ?_
        refine lv_aload_n hx hb dX0_elder_8 rfl (lv_at hl 0 rfl) ?_
        refine lv_iload_n hx hb dX0_elder_9 rfl (lv_at hl 2 rfl) ?_
        refine lv_iconst (v := nI 2) hx hb dX0_elder_10 (by decide) ?_
        refine lv_idiv hx hb dX0_elder_11 (by decide) ?_
        refine zN (nI (at9 / 2)) (y := ((nI at9) / (nI 2))) (pk_div (by omega) (by decide) (by decide)) ?_
        refine zK_vi (As := [.int (nI (at9 / 2))]) (rest := [.int (nI at9)]) hF (c_left l G cI hz da la saz (Dz) (Lz) (Sz) (nz) (cz) (gz) hn hS1 (at9 / 2) (by omega)) (cwV 1 hts gX0_elder_X0_left rfl rfl rfl (by decide +kernel) ⟨Nat.le_of_ble_eq_true rfl, Nat.le_of_ble_eq_true rfl⟩) hK hP hD hS hA (ci := 0) (q0 := 0) rfl rfl rfl (isC := [0, 1, 2, 3]) (isR := []) (perm := [0, 1, 2, 3]) (wr := []) (wN := wh cI hz da la saz (Dz, Lz, Sz, nz, cz, gz)) ⟨rfl, by decide, rfl, rfl, (fun _ hz => by cases hz), rfl, by decide⟩ [0] rfl rfl hl.1 rfl (Nat.le_of_ble_eq_true rfl) dX0_elder_12 ⟨Nat.le_refl _, Nat.le_refl _⟩ (fun H locs hP hD hS => ?_)
        refine lv_icmp_ne (tgt := 25) hx hb dX0_elder_15 (by decide) (fun hc15 => ?_) (fun hc15 => ?_)
        · skip
          have k15 : at9 ≠ (2 * (at9 / 2) + sd Sz (at9 / 2)) := k_ne (by omega) (by omega) hc15
          refine lv_iload_n hx hb dX0_elder_25 rfl (lv_at hl 2 rfl) ?_
          refine lv_iconst (v := nI 2) hx hb dX0_elder_26 (by decide) ?_
          refine lv_idiv hx hb dX0_elder_27 (by decide) ?_
          refine zN (nI (at9 / 2)) (y := ((nI at9) / (nI 2))) (pk_div (by omega) (by decide) (by decide)) ?_
          have e9 : at9 / 2 = eld Sz bz := by rw [← h2, eld_st (by omega) (by omega)]
          rw [← e9]
          exact zE_i hF hr hlk hK hP hD hS dX0_elder_28
        · skip
          have k15 : at9 = (2 * (at9 / 2) + sd Sz (at9 / 2)) := k_eq (by omega) (by omega) hc15
          refine lv_iload_n hx hb dX0_elder_18 rfl (lv_at hl 2 rfl) ?_
          refine lv_iconst (v := nI 2) hx hb dX0_elder_19 (by decide) ?_
          refine lv_idiv hx hb dX0_elder_20 (by decide) ?_
          refine zN (nI (at9 / 2)) (y := ((nI at9) / (nI 2))) (pk_div (by omega) (by decide) (by decide)) ?_
          refine lv_istore_n (lv' := [(2, .int (nI (at9 / 2))), (0, .ref hz), (1, .int (nI bz))]) hx hb dX0_elder_21 rfl hl (by decide) rfl (fun ls hl => ?_)
          refine lv_goto (tgt := 2) hx hb dX0_elder_22 (by decide) ?_
          exact ih (at9 / 2) (by omega) ((eld_up (b := at9) (by omega) (by omega)).symm.trans h2) (by omega) _ _ _ hP hD hS (lv_sub hl [1, 2, 0] rfl)
  exact loop (bz + 1) bz (Nat.le_refl _) rfl (by omega) _ _ _ hP hD hS (lv_sub hl [1, 2, 0] rfl)
