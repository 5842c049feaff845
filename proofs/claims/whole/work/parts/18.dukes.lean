/-! SnoringDukes: its methods, one contract a way that a call may go -/
set_option maxHeartbeats 4000000 in
set_option maxRecDepth 100000 in
theorem d_isUp (l : Launch) (G : va_G) (v1 : Int32) : zC_i l yX1_isUpToLoudest wsX1_isUpToLoudest ({ frames := 0, cells := 0, slots := 0, locals := 0 }) G [] ([]) ([]) [.int v1] (bI (isO v1 (nI 0) (nI 999))) := by
  refine zB_i (cc := cX1_isUpToLoudest) (maxL := 1) (ret := (some .boolean)) (by decide) rfl (Nat.le_of_ble_eq_true rfl) ?_
  intro p e s m args below meth c0 A hF hr hlk hK hA hP hD hS ls hl
  have hx := hF.1
  have hb := hF.2.1
  have hown := hF.2.2.2.1
  have hts := hF.2.2.2.2
  have hl : lv_has ls 1 [(0, .int v1)] := hl
  refine lv_iload_n hx hb dX1_isUpToLoudest_0 rfl (lv_at hl 0 rfl) ?_
  refine lv_if_lt (tgt := 15) hx hb dX1_isUpToLoudest_1 (by decide) (fun hc1 => ?_) (fun hc1 => ?_)
  · skip
    refine lv_iconst (v := nI 0) hx hb dX1_isUpToLoudest_15 (by decide) ?_
    rw [isO_f1 (a := nI 0) hc1]
    exact zE_z hF hr hlk (Or.inl rfl) hK hP hD hS dX1_isUpToLoudest_16
  · skip
    refine lv_iload_n hx hb dX1_isUpToLoudest_4 rfl (lv_at hl 0 rfl) ?_
    refine lv_sipush (v := nI 999) hx hb dX1_isUpToLoudest_5 (by decide) ?_
    refine lv_icmp_gt (tgt := 15) hx hb dX1_isUpToLoudest_8 (by decide) (fun hc8 => ?_) (fun hc8 => ?_)
    · skip
      refine lv_iconst (v := nI 0) hx hb dX1_isUpToLoudest_15 (by decide) ?_
      rw [isO_f2 hc8]
      exact zE_z hF hr hlk (Or.inl rfl) hK hP hD hS dX1_isUpToLoudest_16
    · skip
      refine lv_iconst (v := nI 1) hx hb dX1_isUpToLoudest_11 (by decide) ?_
      refine lv_goto (tgt := 16) hx hb dX1_isUpToLoudest_12 (by decide) ?_
      rw [isO_t (a := nI 0) hc1 hc8]
      exact zE_z hF hr hlk (Or.inr rfl) hK hP hD hS dX1_isUpToLoudest_16
set_option maxHeartbeats 4000000 in
set_option maxRecDepth 100000 in
theorem d_hasRoomFor (l : Launch) (G : va_G) (cI : ClassId) (oz hz da la saz h2 da2 la2 sa2 : Nat) (camez : Nat) (Dz Lz Sz : Fn) (nz : Nat) (cz gz : Int32) (D2 L2 S2 : Fn) (n2 : Nat) (x2 y2 : Int32) (hn : nz ≤ 63) (hc9 : camez ≤ 500) (hS1 : okS Sz) (kk : Nat) (hk9 : kk ≤ 1000) : zY_i l yX1_hasRoomFor wsX1_hasRoomFor ({ frames := 0, cells := 0, slots := 0, locals := 0 }) G [(cI, .int)] (wx cI oz hz da la saz h2 da2 la2 sa2 camez (Dz, Lz, Sz, nz, cz, gz) (D2, L2, S2, n2, x2, y2)) (wx cI oz hz da la saz h2 da2 la2 sa2 camez (Dz, Lz, Sz, nz, cz, gz) (D2, L2, S2, n2, x2, y2)) [.ref oz, .int (nI kk)] 0 0 (bI (decide (nz + kk ≤ 63) && decide (camez + kk ≤ 500))) := by
  refine zBY (cc := cX1_hasRoomFor) (maxL := 2) (ret := (some .boolean)) (by decide) rfl (Nat.le_of_ble_eq_true rfl) ?_
  intro p e s m args below meth c0 A hF hr hlk hK hA hP hD hS hE ls hl
  have hF : CallFix p m c0 cX1_hasRoomFor 2 s args wsX1_hasRoomFor RX1 := hF
  have hx := hF.1
  have hb := hF.2.1
  have hown := hF.2.2.2.1
  have hts := hF.2.2.2.2
  have hf10 := hts (.fieldLink RX1 10 "SnoringDukes" "heap" "LSnoringDukes$WeakHeap;") (by decide +kernel)
  have hf61 := va_Nw.use (A := args) rfl hE.1.1
  have hf19 := hts (.fieldLink RX1 19 "SnoringDukes" "numbered" "I") (by decide +kernel)
  have hinX0 : ∀ wz ∈ wsX00, wz ∈ wsX1_hasRoomFor := by decide +kernel
  have hinX1 : ∀ wz ∈ wsX10, wz ∈ wsX1_hasRoomFor := by decide +kernel
  have hl : lv_has ls 2 [(0, .ref oz), (1, .int (nI kk))] := hl
  refine lv_aload_n hx hb dX1_hasRoomFor_0 rfl (lv_at hl 0 rfl) ?_
  refine va_get (D := G) (ci := 1) (v := .ref hz) (C := RX1) (T := TX1) (N := 3) hx hb hts hinX1 hown hK hP 0 rfl rfl 0 (by decide) hf10 (fun _ h9 => h9) rfl dX1_hasRoomFor_1 ?_
  refine va_getN (D := G) (ci := 0) (v := .int (nI nz)) (C := RX0) (T := TX0) (N := 6) hx hb hts hinX0 hown hK hP 1 rfl rfl 3 (by decide) hf61 (fun _ h9 => h9) rfl dX1_hasRoomFor_4 ?_
  refine lv_iload_n hx hb dX1_hasRoomFor_7 rfl (lv_at hl 1 rfl) ?_
  refine lv_iadd hx hb dX1_hasRoomFor_8 ?_
  refine zN (nI (nz + kk)) (y := ((nI nz) + (nI kk))) (nI_add _ _) ?_
  refine lv_bipush (v := nI 63) hx hb dX1_hasRoomFor_9 (by decide) ?_
  refine lv_icmp_gt (tgt := 30) hx hb dX1_hasRoomFor_11 (by decide) (fun hc11 => ?_) (fun hc11 => ?_)
  · skip
    have k11 : 63 < (nz + kk) := k_lt (by omega) (by omega) hc11
    refine lv_iconst (v := nI 0) hx hb dX1_hasRoomFor_30 (by decide) ?_
    rw [z_roomf (Or.inl k11)]
    exact zEY_z hF hr hlk (Or.inl rfl) hK hP hD hS (Nat.le_of_ble_eq_true rfl) (Nat.le_of_ble_eq_true rfl) dX1_hasRoomFor_31
  · skip
    have k11 : (nz + kk) ≤ 63 := k_nlt (by omega) (by omega) hc11
    refine lv_aload_n hx hb dX1_hasRoomFor_14 rfl (lv_at hl 0 rfl) ?_
    refine va_get (D := G) (ci := 1) (v := .int (nI camez)) (C := RX1) (T := TX1) (N := 3) hx hb hts hinX1 hown hK hP 0 rfl rfl 2 (by decide) hf19 (fun _ h9 => h9) rfl dX1_hasRoomFor_15 ?_
    refine lv_iload_n hx hb dX1_hasRoomFor_18 rfl (lv_at hl 1 rfl) ?_
    refine lv_iadd hx hb dX1_hasRoomFor_19 ?_
    refine zN (nI (camez + kk)) (y := ((nI camez) + (nI kk))) (nI_add _ _) ?_
    refine lv_sipush (v := nI 500) hx hb dX1_hasRoomFor_20 (by decide) ?_
    refine lv_icmp_gt (tgt := 30) hx hb dX1_hasRoomFor_23 (by decide) (fun hc23 => ?_) (fun hc23 => ?_)
    · skip
      have k23 : 500 < (camez + kk) := k_lt (by omega) (by omega) hc23
      refine lv_iconst (v := nI 0) hx hb dX1_hasRoomFor_30 (by decide) ?_
      rw [z_roomf (Or.inr k23)]
      exact zEY_z hF hr hlk (Or.inl rfl) hK hP hD hS (Nat.le_of_ble_eq_true rfl) (Nat.le_of_ble_eq_true rfl) dX1_hasRoomFor_31
    · skip
      have k23 : (camez + kk) ≤ 500 := k_nlt (by omega) (by omega) hc23
      refine lv_iconst (v := nI 1) hx hb dX1_hasRoomFor_26 (by decide) ?_
      refine lv_goto (tgt := 31) hx hb dX1_hasRoomFor_27 (by decide) ?_
      rw [z_roomt k11 k23]
      exact zEY_z hF hr hlk (Or.inr rfl) hK hP hD hS (Nat.le_of_ble_eq_true rfl) (Nat.le_of_ble_eq_true rfl) dX1_hasRoomFor_31
set_option maxHeartbeats 4000000 in
set_option maxRecDepth 100000 in
theorem d_refuse_x (l : Launch) (hst : l.stackTraces = false) (G : va_G) (cI : ClassId) (oz hz da la saz h2 da2 la2 sa2 : Nat) (camez : Nat) (Dz Lz Sz : Fn) (nz : Nat) (cz gz : Int32) (D2 L2 S2 : Fn) (n2 : Nat) (x2 y2 : Int32) (hn : nz ≤ 63) (hc9 : camez ≤ 500) (hS1 : okS Sz) (xz : Int32) (hno : hasI nz xz = false) : zX_v l yX1_refuseUnlessBerth wsX1_refuseUnlessBerth ({ frames := 6, cells := 1, slots := 6, locals := 90 }) G [(cI, .int)] (wx cI oz hz da la saz h2 da2 la2 sa2 camez (Dz, Lz, Sz, nz, cz, gz) (D2, L2, S2, n2, x2, y2)) (wx cI oz hz da la saz h2 da2 la2 sa2 camez (Dz, Lz, Sz, nz, cz, gz) (D2, L2, S2, n2, x2, y2)) [.ref oz, .int xz] (some zIX) := by
  refine zBV (cc := cX1_refuseUnlessBerth) (maxL := 2) (ret := none) (by decide) rfl (Nat.le_of_ble_eq_true rfl) ?_
  intro p e s m args below meth c0 A hF hr hlk hK hA hP hD hS hE hto ls hl
  have hF : CallFix p m c0 cX1_refuseUnlessBerth 2 s args wsX1_refuseUnlessBerth RX1 := hF
  have hx := hF.1
  have hb := hF.2.1
  have hown := hF.2.2.2.1
  have hts := hF.2.2.2.2
  have hf10 := hts (.fieldLink RX1 10 "SnoringDukes" "heap" "LSnoringDukes$WeakHeap;") (by decide +kernel)
  have hinX1 : ∀ wz ∈ wsX10, wz ∈ wsX1_refuseUnlessBerth := by decide +kernel
  have hl : lv_has ls 2 [(0, .ref oz), (1, .int xz)] := hl
  refine lv_aload_n hx hb dX1_refuseUnlessBerth_0 rfl (lv_at hl 0 rfl) ?_
  refine va_get (D := G) (ci := 1) (v := .ref hz) (C := RX1) (T := TX1) (N := 3) hx hb hts hinX1 hown hK hP 0 rfl rfl 0 (by decide) hf10 (fun _ h9 => h9) rfl dX1_refuseUnlessBerth_1 ?_
  refine lv_iload_n hx hb dX1_refuseUnlessBerth_4 rfl (lv_at hl 1 rfl) ?_
  refine zK_vi (As := [.int xz]) (rest := []) hF (c_has l G cI hz da la saz (Dz) (Lz) (Sz) (nz) (cz) (gz) hn xz) (cwV 1 hts gX1_refuseUnlessBerth_X0_has rfl rfl rfl (by decide +kernel) ⟨Nat.le_of_ble_eq_true rfl, Nat.le_of_ble_eq_true rfl⟩) hK hP hD hS hA (ci := 0) (q0 := 1) rfl rfl rfl (isC := [1, 2, 3, 4]) (isR := [0, 5, 6, 7, 8]) (perm := [0, 5, 6, 7, 8, 1, 2, 3, 4]) (wr := (oz, .inr (1, [.ref hz, .ref h2, .int (nI camez)])) :: wh cI h2 da2 la2 sa2 (D2, L2, S2, n2, x2, y2)) (wN := wx cI oz hz da la saz h2 da2 la2 sa2 camez (Dz, Lz, Sz, nz, cz, gz) (D2, L2, S2, n2, x2, y2)) ⟨rfl, by decide, rfl, by decide, by decide, rfl, by decide⟩ [0] rfl rfl hl.1 rfl (Nat.le_of_ble_eq_true rfl) dX1_refuseUnlessBerth_5 ⟨Nat.le_of_ble_eq_true rfl, Nat.le_of_ble_eq_true rfl⟩ (fun H locs hP hD hS => ?_)
  refine zN (nI 0) (y := (bI (hasI nz xz))) (by rw [hno]; rfl) ?_
  refine lv_if_ne (tgt := 21) hx hb dX1_refuseUnlessBerth_8 (by decide) (fun hc8 => ?_) (fun hc8 => ?_)
  · exact absurd hc8 (by decide)
  · skip
    have k8 : 0 = 0 := k0_eq (by omega) hc8
    exact zT (cls := zIX) (text := "there is no such berth") (ik := 74) (is := 125) (ic := 78) hF hlk hst hE hto (by decide +kernel) hE.2.2.1.1.2.2 (by decide +kernel) (by decide +kernel) (by decide +kernel) (by decide +kernel) (by decide +kernel) (by decide +kernel) hK hP hD hS hl.1 dX1_refuseUnlessBerth_11 dX1_refuseUnlessBerth_14 dX1_refuseUnlessBerth_15 dX1_refuseUnlessBerth_17 dX1_refuseUnlessBerth_20 (Nat.le_of_ble_eq_true rfl) (Nat.le_of_ble_eq_true rfl) (Nat.le_of_ble_eq_true rfl) (Nat.le_of_ble_eq_true rfl)
set_option maxHeartbeats 4000000 in
set_option maxRecDepth 100000 in
theorem d_refuse_0 (l : Launch) (hst : l.stackTraces = false) (G : va_G) (cI : ClassId) (oz hz da la saz h2 da2 la2 sa2 : Nat) (camez : Nat) (Dz Lz Sz : Fn) (nz : Nat) (cz gz : Int32) (D2 L2 S2 : Fn) (n2 : Nat) (x2 y2 : Int32) (hn : nz ≤ 63) (hc9 : camez ≤ 500) (hS1 : okS Sz) (bz : Nat) (hb9 : bz < nz) : zX_v l yX1_refuseUnlessBerth wsX1_refuseUnlessBerth ({ frames := 6, cells := 1, slots := 6, locals := 90 }) G [(cI, .int)] (wx cI oz hz da la saz h2 da2 la2 sa2 camez (Dz, Lz, Sz, nz, cz, gz) (D2, L2, S2, n2, x2, y2)) (wx cI oz hz da la saz h2 da2 la2 sa2 camez (Dz, Lz, Sz, nz, cz, gz) (D2, L2, S2, n2, x2, y2)) [.ref oz, .int (nI bz)] (none) := by
  refine zBV (cc := cX1_refuseUnlessBerth) (maxL := 2) (ret := none) (by decide) rfl (Nat.le_of_ble_eq_true rfl) ?_
  intro p e s m args below meth c0 A hF hr hlk hK hA hP hD hS hE hto ls hl
  have hF : CallFix p m c0 cX1_refuseUnlessBerth 2 s args wsX1_refuseUnlessBerth RX1 := hF
  have hx := hF.1
  have hb := hF.2.1
  have hown := hF.2.2.2.1
  have hts := hF.2.2.2.2
  have hf10 := hts (.fieldLink RX1 10 "SnoringDukes" "heap" "LSnoringDukes$WeakHeap;") (by decide +kernel)
  have hinX1 : ∀ wz ∈ wsX10, wz ∈ wsX1_refuseUnlessBerth := by decide +kernel
  have hl : lv_has ls 2 [(0, .ref oz), (1, .int (nI bz))] := hl
  refine lv_aload_n hx hb dX1_refuseUnlessBerth_0 rfl (lv_at hl 0 rfl) ?_
  refine va_get (D := G) (ci := 1) (v := .ref hz) (C := RX1) (T := TX1) (N := 3) hx hb hts hinX1 hown hK hP 0 rfl rfl 0 (by decide) hf10 (fun _ h9 => h9) rfl dX1_refuseUnlessBerth_1 ?_
  refine lv_iload_n hx hb dX1_refuseUnlessBerth_4 rfl (lv_at hl 1 rfl) ?_
  refine zK_vi (As := [.int (nI bz)]) (rest := []) hF (c_has l G cI hz da la saz (Dz) (Lz) (Sz) (nz) (cz) (gz) hn (nI bz)) (cwV 1 hts gX1_refuseUnlessBerth_X0_has rfl rfl rfl (by decide +kernel) ⟨Nat.le_of_ble_eq_true rfl, Nat.le_of_ble_eq_true rfl⟩) hK hP hD hS hA (ci := 0) (q0 := 1) rfl rfl rfl (isC := [1, 2, 3, 4]) (isR := [0, 5, 6, 7, 8]) (perm := [0, 5, 6, 7, 8, 1, 2, 3, 4]) (wr := (oz, .inr (1, [.ref hz, .ref h2, .int (nI camez)])) :: wh cI h2 da2 la2 sa2 (D2, L2, S2, n2, x2, y2)) (wN := wx cI oz hz da la saz h2 da2 la2 sa2 camez (Dz, Lz, Sz, nz, cz, gz) (D2, L2, S2, n2, x2, y2)) ⟨rfl, by decide, rfl, by decide, by decide, rfl, by decide⟩ [0] rfl rfl hl.1 rfl (Nat.le_of_ble_eq_true rfl) dX1_refuseUnlessBerth_5 ⟨Nat.le_of_ble_eq_true rfl, Nat.le_of_ble_eq_true rfl⟩ (fun H locs hP hD hS => ?_)
  refine zN (nI 1) (y := (bI (hasI nz (nI bz)))) (by rw [hasI_nI (by omega) (by omega), decide_eq_true hb9]; rfl) ?_
  refine lv_if_ne (tgt := 21) hx hb dX1_refuseUnlessBerth_8 (by decide) (fun hc8 => ?_) (fun hc8 => ?_)
  · skip
    have k8 : 0 < 1 := k0_ne (by omega) hc8
    exact zEX_v hF hr hlk rfl hK hP hD hS (Nat.le_of_ble_eq_true rfl) (Nat.le_of_ble_eq_true rfl) dX1_refuseUnlessBerth_21
  · exact absurd hc8 (by decide)
set_option maxHeartbeats 4000000 in
set_option maxRecDepth 100000 in
theorem d_dukeIn_x (l : Launch) (hst : l.stackTraces = false) (G : va_G) (cI : ClassId) (oz hz da la saz h2 da2 la2 sa2 : Nat) (camez : Nat) (Dz Lz Sz : Fn) (nz : Nat) (cz gz : Int32) (D2 L2 S2 : Fn) (n2 : Nat) (x2 y2 : Int32) (hn : nz ≤ 63) (hc9 : camez ≤ 500) (hS1 : okS Sz) (xz : Int32) (hno : hasI nz xz = false) : zX_i l yX1_dukeIn wsX1_dukeIn ({ frames := 7, cells := 1, slots := 6, locals := 111 }) G [(cI, .int)] (wx cI oz hz da la saz h2 da2 la2 sa2 camez (Dz, Lz, Sz, nz, cz, gz) (D2, L2, S2, n2, x2, y2)) (wx cI oz hz da la saz h2 da2 la2 sa2 camez (Dz, Lz, Sz, nz, cz, gz) (D2, L2, S2, n2, x2, y2)) [.ref oz, .int xz] (some zIX) (nI 0) := by
  refine zBX (cc := cX1_dukeIn) (maxL := 2) (ret := (some .int)) (by decide) rfl (Nat.le_of_ble_eq_true rfl) ?_
  intro p e s m args below meth c0 A hF hr hlk hK hA hP hD hS hE hto ls hl
  have hF : CallFix p m c0 cX1_dukeIn 2 s args wsX1_dukeIn RX1 := hF
  have hx := hF.1
  have hb := hF.2.1
  have hown := hF.2.2.2.1
  have hts := hF.2.2.2.2
  have hf10 := hts (.fieldLink RX1 10 "SnoringDukes" "heap" "LSnoringDukes$WeakHeap;") (by decide +kernel)
  have hinX1 : ∀ wz ∈ wsX10, wz ∈ wsX1_dukeIn := by decide +kernel
  have hl : lv_has ls 2 [(0, .ref oz), (1, .int xz)] := hl
  refine lv_aload_n hx hb dX1_dukeIn_0 rfl (lv_at hl 0 rfl) ?_
  refine lv_iload_n hx hb dX1_dukeIn_1 rfl (lv_at hl 1 rfl) ?_
  exact zK_xt (As := [.int xz]) (rest := []) hF (d_refuse_x l hst G cI oz hz da la saz h2 da2 la2 sa2 (camez) (Dz) (Lz) (Sz) (nz) (cz) (gz) (D2) (L2) (S2) (n2) (x2) (y2) hn hc9 hS1 xz hno) (cwV 1 hts gX1_dukeIn_X1_refuseUnlessBerth rfl rfl rfl (by decide +kernel) ⟨Nat.le_of_ble_eq_true rfl, Nat.le_of_ble_eq_true rfl⟩) hlk hto hK hP hD hS hA hE (ci := 1) (q0 := 0) rfl rfl rfl (isC := [0, 1, 2, 3, 4, 5, 6, 7, 8]) (isR := []) (perm := [0, 1, 2, 3, 4, 5, 6, 7, 8]) (wr := []) ⟨rfl, by decide, rfl, rfl, (fun _ hz => by cases hz), rfl, by decide⟩ [0] rfl rfl hl.1 rfl (Nat.le_of_ble_eq_true rfl) dX1_dukeIn_2 ⟨Nat.le_of_ble_eq_true rfl, Nat.le_of_ble_eq_true rfl⟩
set_option maxHeartbeats 4000000 in
set_option maxRecDepth 100000 in
theorem d_dukeIn_0 (l : Launch) (hst : l.stackTraces = false) (G : va_G) (cI : ClassId) (oz hz da la saz h2 da2 la2 sa2 : Nat) (camez : Nat) (Dz Lz Sz : Fn) (nz : Nat) (cz gz : Int32) (D2 L2 S2 : Fn) (n2 : Nat) (x2 y2 : Int32) (hn : nz ≤ 63) (hc9 : camez ≤ 500) (hS1 : okS Sz) (bz : Nat) (hb9 : bz < nz) : zX_i l yX1_dukeIn wsX1_dukeIn ({ frames := 7, cells := 1, slots := 6, locals := 111 }) G [(cI, .int)] (wx cI oz hz da la saz h2 da2 la2 sa2 camez (Dz, Lz, Sz, nz, cz, gz) (D2, L2, S2, n2, x2, y2)) (wx cI oz hz da la saz h2 da2 la2 sa2 camez (Dz, Lz, Sz, nz, cz, gz) (D2, L2, S2, n2, x2, y2)) [.ref oz, .int (nI bz)] (none) (Dz bz) := by
  refine zBX (cc := cX1_dukeIn) (maxL := 2) (ret := (some .int)) (by decide) rfl (Nat.le_of_ble_eq_true rfl) ?_
  intro p e s m args below meth c0 A hF hr hlk hK hA hP hD hS hE hto ls hl
  have hF : CallFix p m c0 cX1_dukeIn 2 s args wsX1_dukeIn RX1 := hF
  have hx := hF.1
  have hb := hF.2.1
  have hown := hF.2.2.2.1
  have hts := hF.2.2.2.2
  have hf10 := hts (.fieldLink RX1 10 "SnoringDukes" "heap" "LSnoringDukes$WeakHeap;") (by decide +kernel)
  have hinX1 : ∀ wz ∈ wsX10, wz ∈ wsX1_dukeIn := by decide +kernel
  have hl : lv_has ls 2 [(0, .ref oz), (1, .int (nI bz))] := hl
  refine lv_aload_n hx hb dX1_dukeIn_0 rfl (lv_at hl 0 rfl) ?_
  refine lv_iload_n hx hb dX1_dukeIn_1 rfl (lv_at hl 1 rfl) ?_
  refine zK_xv (As := [.int (nI bz)]) (rest := []) hF (d_refuse_0 l hst G cI oz hz da la saz h2 da2 la2 sa2 (camez) (Dz) (Lz) (Sz) (nz) (cz) (gz) (D2) (L2) (S2) (n2) (x2) (y2) hn hc9 hS1 bz (by omega)) (cwV 1 hts gX1_dukeIn_X1_refuseUnlessBerth rfl rfl rfl (by decide +kernel) ⟨Nat.le_of_ble_eq_true rfl, Nat.le_of_ble_eq_true rfl⟩) hK hP hD hS hA hE (ci := 1) (q0 := 0) rfl rfl rfl (isC := [0, 1, 2, 3, 4, 5, 6, 7, 8]) (isR := []) (perm := [0, 1, 2, 3, 4, 5, 6, 7, 8]) (wr := []) (wN := wx cI oz hz da la saz h2 da2 la2 sa2 camez (Dz, Lz, Sz, nz, cz, gz) (D2, L2, S2, n2, x2, y2)) ⟨rfl, by decide, rfl, rfl, (fun _ hz => by cases hz), rfl, by decide⟩ [0] rfl rfl hl.1 rfl (Nat.le_of_ble_eq_true rfl) dX1_dukeIn_2 ⟨Nat.le_of_ble_eq_true rfl, Nat.le_of_ble_eq_true rfl⟩ (fun H locs hP hD hS => ?_)
  refine lv_aload_n hx hb dX1_dukeIn_5 rfl (lv_at hl 0 rfl) ?_
  refine va_get (D := G) (ci := 1) (v := .ref hz) (C := RX1) (T := TX1) (N := 3) hx hb hts hinX1 hown hK hP 0 rfl rfl 0 (by decide) hf10 (fun _ h9 => h9) rfl dX1_dukeIn_6 ?_
  refine lv_iload_n hx hb dX1_dukeIn_9 rfl (lv_at hl 1 rfl) ?_
  refine zK_vi (As := [.int (nI bz)]) (rest := []) hF (c_dukeAt l G cI hz da la saz (Dz) (Lz) (Sz) (nz) (cz) (gz) (by omega) bz (by omega)) (cwV 1 hts gX1_dukeIn_X0_dukeAt rfl rfl rfl (by decide +kernel) ⟨Nat.le_of_ble_eq_true rfl, Nat.le_of_ble_eq_true rfl⟩) hK hP hD hS hA (ci := 0) (q0 := 1) rfl rfl rfl (isC := [1, 2, 3, 4]) (isR := [0, 5, 6, 7, 8]) (perm := [0, 5, 6, 7, 8, 1, 2, 3, 4]) (wr := (oz, .inr (1, [.ref hz, .ref h2, .int (nI camez)])) :: wh cI h2 da2 la2 sa2 (D2, L2, S2, n2, x2, y2)) (wN := wx cI oz hz da la saz h2 da2 la2 sa2 camez (Dz, Lz, Sz, nz, cz, gz) (D2, L2, S2, n2, x2, y2)) ⟨rfl, by decide, rfl, by decide, by decide, rfl, by decide⟩ [0] rfl rfl hl.1 rfl (Nat.le_of_ble_eq_true rfl) dX1_dukeIn_10 ⟨Nat.le_of_ble_eq_true rfl, Nat.le_of_ble_eq_true rfl⟩ (fun H locs hP hD hS => ?_)
  refine zN (Dz bz) (y := (if bz < nz then Dz bz else -1)) (if_pos hb9) ?_
  exact zEX_i hF hr hlk rfl hK hP hD hS (Nat.le_of_ble_eq_true rfl) (Nat.le_of_ble_eq_true rfl) dX1_dukeIn_13
set_option maxHeartbeats 4000000 in
set_option maxRecDepth 100000 in
theorem d_loudnessIn_x (l : Launch) (hst : l.stackTraces = false) (G : va_G) (cI : ClassId) (oz hz da la saz h2 da2 la2 sa2 : Nat) (camez : Nat) (Dz Lz Sz : Fn) (nz : Nat) (cz gz : Int32) (D2 L2 S2 : Fn) (n2 : Nat) (x2 y2 : Int32) (hn : nz ≤ 63) (hc9 : camez ≤ 500) (hS1 : okS Sz) (xz : Int32) (hno : hasI nz xz = false) : zX_i l yX1_loudnessIn wsX1_loudnessIn ({ frames := 7, cells := 1, slots := 6, locals := 111 }) G [(cI, .int)] (wx cI oz hz da la saz h2 da2 la2 sa2 camez (Dz, Lz, Sz, nz, cz, gz) (D2, L2, S2, n2, x2, y2)) (wx cI oz hz da la saz h2 da2 la2 sa2 camez (Dz, Lz, Sz, nz, cz, gz) (D2, L2, S2, n2, x2, y2)) [.ref oz, .int xz] (some zIX) (nI 0) := by
  refine zBX (cc := cX1_loudnessIn) (maxL := 2) (ret := (some .int)) (by decide) rfl (Nat.le_of_ble_eq_true rfl) ?_
  intro p e s m args below meth c0 A hF hr hlk hK hA hP hD hS hE hto ls hl
  have hF : CallFix p m c0 cX1_loudnessIn 2 s args wsX1_loudnessIn RX1 := hF
  have hx := hF.1
  have hb := hF.2.1
  have hown := hF.2.2.2.1
  have hts := hF.2.2.2.2
  have hf10 := hts (.fieldLink RX1 10 "SnoringDukes" "heap" "LSnoringDukes$WeakHeap;") (by decide +kernel)
  have hinX1 : ∀ wz ∈ wsX10, wz ∈ wsX1_loudnessIn := by decide +kernel
  have hl : lv_has ls 2 [(0, .ref oz), (1, .int xz)] := hl
  refine lv_aload_n hx hb dX1_loudnessIn_0 rfl (lv_at hl 0 rfl) ?_
  refine lv_iload_n hx hb dX1_loudnessIn_1 rfl (lv_at hl 1 rfl) ?_
  exact zK_xt (As := [.int xz]) (rest := []) hF (d_refuse_x l hst G cI oz hz da la saz h2 da2 la2 sa2 (camez) (Dz) (Lz) (Sz) (nz) (cz) (gz) (D2) (L2) (S2) (n2) (x2) (y2) hn hc9 hS1 xz hno) (cwV 1 hts gX1_loudnessIn_X1_refuseUnlessBerth rfl rfl rfl (by decide +kernel) ⟨Nat.le_of_ble_eq_true rfl, Nat.le_of_ble_eq_true rfl⟩) hlk hto hK hP hD hS hA hE (ci := 1) (q0 := 0) rfl rfl rfl (isC := [0, 1, 2, 3, 4, 5, 6, 7, 8]) (isR := []) (perm := [0, 1, 2, 3, 4, 5, 6, 7, 8]) (wr := []) ⟨rfl, by decide, rfl, rfl, (fun _ hz => by cases hz), rfl, by decide⟩ [0] rfl rfl hl.1 rfl (Nat.le_of_ble_eq_true rfl) dX1_loudnessIn_2 ⟨Nat.le_of_ble_eq_true rfl, Nat.le_of_ble_eq_true rfl⟩
set_option maxHeartbeats 4000000 in
set_option maxRecDepth 100000 in
theorem d_loudnessIn_0 (l : Launch) (hst : l.stackTraces = false) (G : va_G) (cI : ClassId) (oz hz da la saz h2 da2 la2 sa2 : Nat) (camez : Nat) (Dz Lz Sz : Fn) (nz : Nat) (cz gz : Int32) (D2 L2 S2 : Fn) (n2 : Nat) (x2 y2 : Int32) (hn : nz ≤ 63) (hc9 : camez ≤ 500) (hS1 : okS Sz) (bz : Nat) (hb9 : bz < nz) : zX_i l yX1_loudnessIn wsX1_loudnessIn ({ frames := 7, cells := 1, slots := 6, locals := 111 }) G [(cI, .int)] (wx cI oz hz da la saz h2 da2 la2 sa2 camez (Dz, Lz, Sz, nz, cz, gz) (D2, L2, S2, n2, x2, y2)) (wx cI oz hz da la saz h2 da2 la2 sa2 camez (Dz, Lz, Sz, nz, cz, gz) (D2, L2, S2, n2, x2, y2)) [.ref oz, .int (nI bz)] (none) (Lz bz) := by
  refine zBX (cc := cX1_loudnessIn) (maxL := 2) (ret := (some .int)) (by decide) rfl (Nat.le_of_ble_eq_true rfl) ?_
  intro p e s m args below meth c0 A hF hr hlk hK hA hP hD hS hE hto ls hl
  have hF : CallFix p m c0 cX1_loudnessIn 2 s args wsX1_loudnessIn RX1 := hF
  have hx := hF.1
  have hb := hF.2.1
  have hown := hF.2.2.2.1
  have hts := hF.2.2.2.2
  have hf10 := hts (.fieldLink RX1 10 "SnoringDukes" "heap" "LSnoringDukes$WeakHeap;") (by decide +kernel)
  have hinX1 : ∀ wz ∈ wsX10, wz ∈ wsX1_loudnessIn := by decide +kernel
  have hl : lv_has ls 2 [(0, .ref oz), (1, .int (nI bz))] := hl
  refine lv_aload_n hx hb dX1_loudnessIn_0 rfl (lv_at hl 0 rfl) ?_
  refine lv_iload_n hx hb dX1_loudnessIn_1 rfl (lv_at hl 1 rfl) ?_
  refine zK_xv (As := [.int (nI bz)]) (rest := []) hF (d_refuse_0 l hst G cI oz hz da la saz h2 da2 la2 sa2 (camez) (Dz) (Lz) (Sz) (nz) (cz) (gz) (D2) (L2) (S2) (n2) (x2) (y2) hn hc9 hS1 bz (by omega)) (cwV 1 hts gX1_loudnessIn_X1_refuseUnlessBerth rfl rfl rfl (by decide +kernel) ⟨Nat.le_of_ble_eq_true rfl, Nat.le_of_ble_eq_true rfl⟩) hK hP hD hS hA hE (ci := 1) (q0 := 0) rfl rfl rfl (isC := [0, 1, 2, 3, 4, 5, 6, 7, 8]) (isR := []) (perm := [0, 1, 2, 3, 4, 5, 6, 7, 8]) (wr := []) (wN := wx cI oz hz da la saz h2 da2 la2 sa2 camez (Dz, Lz, Sz, nz, cz, gz) (D2, L2, S2, n2, x2, y2)) ⟨rfl, by decide, rfl, rfl, (fun _ hz => by cases hz), rfl, by decide⟩ [0] rfl rfl hl.1 rfl (Nat.le_of_ble_eq_true rfl) dX1_loudnessIn_2 ⟨Nat.le_of_ble_eq_true rfl, Nat.le_of_ble_eq_true rfl⟩ (fun H locs hP hD hS => ?_)
  refine lv_aload_n hx hb dX1_loudnessIn_5 rfl (lv_at hl 0 rfl) ?_
  refine va_get (D := G) (ci := 1) (v := .ref hz) (C := RX1) (T := TX1) (N := 3) hx hb hts hinX1 hown hK hP 0 rfl rfl 0 (by decide) hf10 (fun _ h9 => h9) rfl dX1_loudnessIn_6 ?_
  refine lv_iload_n hx hb dX1_loudnessIn_9 rfl (lv_at hl 1 rfl) ?_
  refine zK_vi (As := [.int (nI bz)]) (rest := []) hF (c_loudnessAt l G cI hz da la saz (Dz) (Lz) (Sz) (nz) (cz) (gz) (by omega) bz (by omega)) (cwV 1 hts gX1_loudnessIn_X0_loudnessAt rfl rfl rfl (by decide +kernel) ⟨Nat.le_of_ble_eq_true rfl, Nat.le_of_ble_eq_true rfl⟩) hK hP hD hS hA (ci := 0) (q0 := 1) rfl rfl rfl (isC := [1, 2, 3, 4]) (isR := [0, 5, 6, 7, 8]) (perm := [0, 5, 6, 7, 8, 1, 2, 3, 4]) (wr := (oz, .inr (1, [.ref hz, .ref h2, .int (nI camez)])) :: wh cI h2 da2 la2 sa2 (D2, L2, S2, n2, x2, y2)) (wN := wx cI oz hz da la saz h2 da2 la2 sa2 camez (Dz, Lz, Sz, nz, cz, gz) (D2, L2, S2, n2, x2, y2)) ⟨rfl, by decide, rfl, by decide, by decide, rfl, by decide⟩ [0] rfl rfl hl.1 rfl (Nat.le_of_ble_eq_true rfl) dX1_loudnessIn_10 ⟨Nat.le_of_ble_eq_true rfl, Nat.le_of_ble_eq_true rfl⟩ (fun H locs hP hD hS => ?_)
  refine zN (Lz bz) (y := (if bz < nz then Lz bz else -1)) (if_pos hb9) ?_
  exact zEX_i hF hr hlk rfl hK hP hD hS (Nat.le_of_ble_eq_true rfl) (Nat.le_of_ble_eq_true rfl) dX1_loudnessIn_13
set_option maxHeartbeats 4000000 in
set_option maxRecDepth 100000 in
theorem d_sideOf_x (l : Launch) (hst : l.stackTraces = false) (G : va_G) (cI : ClassId) (oz hz da la saz h2 da2 la2 sa2 : Nat) (camez : Nat) (Dz Lz Sz : Fn) (nz : Nat) (cz gz : Int32) (D2 L2 S2 : Fn) (n2 : Nat) (x2 y2 : Int32) (hn : nz ≤ 63) (hc9 : camez ≤ 500) (hS1 : okS Sz) (xz : Int32) (hno : hasI nz xz = false) : zX_i l yX1_sideOf wsX1_sideOf ({ frames := 7, cells := 1, slots := 6, locals := 111 }) G [(cI, .int)] (wx cI oz hz da la saz h2 da2 la2 sa2 camez (Dz, Lz, Sz, nz, cz, gz) (D2, L2, S2, n2, x2, y2)) (wx cI oz hz da la saz h2 da2 la2 sa2 camez (Dz, Lz, Sz, nz, cz, gz) (D2, L2, S2, n2, x2, y2)) [.ref oz, .int xz] (some zIX) (nI 0) := by
  refine zBX (cc := cX1_sideOf) (maxL := 2) (ret := (some .int)) (by decide) rfl (Nat.le_of_ble_eq_true rfl) ?_
  intro p e s m args below meth c0 A hF hr hlk hK hA hP hD hS hE hto ls hl
  have hF : CallFix p m c0 cX1_sideOf 2 s args wsX1_sideOf RX1 := hF
  have hx := hF.1
  have hb := hF.2.1
  have hown := hF.2.2.2.1
  have hts := hF.2.2.2.2
  have hf10 := hts (.fieldLink RX1 10 "SnoringDukes" "heap" "LSnoringDukes$WeakHeap;") (by decide +kernel)
  have hinX1 : ∀ wz ∈ wsX10, wz ∈ wsX1_sideOf := by decide +kernel
  have hl : lv_has ls 2 [(0, .ref oz), (1, .int xz)] := hl
  refine lv_aload_n hx hb dX1_sideOf_0 rfl (lv_at hl 0 rfl) ?_
  refine lv_iload_n hx hb dX1_sideOf_1 rfl (lv_at hl 1 rfl) ?_
  exact zK_xt (As := [.int xz]) (rest := []) hF (d_refuse_x l hst G cI oz hz da la saz h2 da2 la2 sa2 (camez) (Dz) (Lz) (Sz) (nz) (cz) (gz) (D2) (L2) (S2) (n2) (x2) (y2) hn hc9 hS1 xz hno) (cwV 1 hts gX1_sideOf_X1_refuseUnlessBerth rfl rfl rfl (by decide +kernel) ⟨Nat.le_of_ble_eq_true rfl, Nat.le_of_ble_eq_true rfl⟩) hlk hto hK hP hD hS hA hE (ci := 1) (q0 := 0) rfl rfl rfl (isC := [0, 1, 2, 3, 4, 5, 6, 7, 8]) (isR := []) (perm := [0, 1, 2, 3, 4, 5, 6, 7, 8]) (wr := []) ⟨rfl, by decide, rfl, rfl, (fun _ hz => by cases hz), rfl, by decide⟩ [0] rfl rfl hl.1 rfl (Nat.le_of_ble_eq_true rfl) dX1_sideOf_2 ⟨Nat.le_of_ble_eq_true rfl, Nat.le_of_ble_eq_true rfl⟩
set_option maxHeartbeats 4000000 in
set_option maxRecDepth 100000 in
theorem d_sideOf_0 (l : Launch) (hst : l.stackTraces = false) (G : va_G) (cI : ClassId) (oz hz da la saz h2 da2 la2 sa2 : Nat) (camez : Nat) (Dz Lz Sz : Fn) (nz : Nat) (cz gz : Int32) (D2 L2 S2 : Fn) (n2 : Nat) (x2 y2 : Int32) (hn : nz ≤ 63) (hc9 : camez ≤ 500) (hS1 : okS Sz) (bz : Nat) (hb9 : bz < nz) : zX_i l yX1_sideOf wsX1_sideOf ({ frames := 7, cells := 1, slots := 6, locals := 111 }) G [(cI, .int)] (wx cI oz hz da la saz h2 da2 la2 sa2 camez (Dz, Lz, Sz, nz, cz, gz) (D2, L2, S2, n2, x2, y2)) (wx cI oz hz da la saz h2 da2 la2 sa2 camez (Dz, Lz, Sz, nz, cz, gz) (D2, L2, S2, n2, x2, y2)) [.ref oz, .int (nI bz)] (none) (Sz bz) := by
  refine zBX (cc := cX1_sideOf) (maxL := 2) (ret := (some .int)) (by decide) rfl (Nat.le_of_ble_eq_true rfl) ?_
  intro p e s m args below meth c0 A hF hr hlk hK hA hP hD hS hE hto ls hl
  have hF : CallFix p m c0 cX1_sideOf 2 s args wsX1_sideOf RX1 := hF
  have hx := hF.1
  have hb := hF.2.1
  have hown := hF.2.2.2.1
  have hts := hF.2.2.2.2
  have hf10 := hts (.fieldLink RX1 10 "SnoringDukes" "heap" "LSnoringDukes$WeakHeap;") (by decide +kernel)
  have hinX1 : ∀ wz ∈ wsX10, wz ∈ wsX1_sideOf := by decide +kernel
  have hl : lv_has ls 2 [(0, .ref oz), (1, .int (nI bz))] := hl
  refine lv_aload_n hx hb dX1_sideOf_0 rfl (lv_at hl 0 rfl) ?_
  refine lv_iload_n hx hb dX1_sideOf_1 rfl (lv_at hl 1 rfl) ?_
  refine zK_xv (As := [.int (nI bz)]) (rest := []) hF (d_refuse_0 l hst G cI oz hz da la saz h2 da2 la2 sa2 (camez) (Dz) (Lz) (Sz) (nz) (cz) (gz) (D2) (L2) (S2) (n2) (x2) (y2) hn hc9 hS1 bz (by omega)) (cwV 1 hts gX1_sideOf_X1_refuseUnlessBerth rfl rfl rfl (by decide +kernel) ⟨Nat.le_of_ble_eq_true rfl, Nat.le_of_ble_eq_true rfl⟩) hK hP hD hS hA hE (ci := 1) (q0 := 0) rfl rfl rfl (isC := [0, 1, 2, 3, 4, 5, 6, 7, 8]) (isR := []) (perm := [0, 1, 2, 3, 4, 5, 6, 7, 8]) (wr := []) (wN := wx cI oz hz da la saz h2 da2 la2 sa2 camez (Dz, Lz, Sz, nz, cz, gz) (D2, L2, S2, n2, x2, y2)) ⟨rfl, by decide, rfl, rfl, (fun _ hz => by cases hz), rfl, by decide⟩ [0] rfl rfl hl.1 rfl (Nat.le_of_ble_eq_true rfl) dX1_sideOf_2 ⟨Nat.le_of_ble_eq_true rfl, Nat.le_of_ble_eq_true rfl⟩ (fun H locs hP hD hS => ?_)
  refine lv_aload_n hx hb dX1_sideOf_5 rfl (lv_at hl 0 rfl) ?_
  refine va_get (D := G) (ci := 1) (v := .ref hz) (C := RX1) (T := TX1) (N := 3) hx hb hts hinX1 hown hK hP 0 rfl rfl 0 (by decide) hf10 (fun _ h9 => h9) rfl dX1_sideOf_6 ?_
  refine lv_iload_n hx hb dX1_sideOf_9 rfl (lv_at hl 1 rfl) ?_
  refine zK_vi (As := [.int (nI bz)]) (rest := []) hF (c_sideAt l G cI hz da la saz (Dz) (Lz) (Sz) (nz) (cz) (gz) (by omega) bz (by omega)) (cwV 1 hts gX1_sideOf_X0_sideAt rfl rfl rfl (by decide +kernel) ⟨Nat.le_of_ble_eq_true rfl, Nat.le_of_ble_eq_true rfl⟩) hK hP hD hS hA (ci := 0) (q0 := 1) rfl rfl rfl (isC := [1, 2, 3, 4]) (isR := [0, 5, 6, 7, 8]) (perm := [0, 5, 6, 7, 8, 1, 2, 3, 4]) (wr := (oz, .inr (1, [.ref hz, .ref h2, .int (nI camez)])) :: wh cI h2 da2 la2 sa2 (D2, L2, S2, n2, x2, y2)) (wN := wx cI oz hz da la saz h2 da2 la2 sa2 camez (Dz, Lz, Sz, nz, cz, gz) (D2, L2, S2, n2, x2, y2)) ⟨rfl, by decide, rfl, by decide, by decide, rfl, by decide⟩ [0] rfl rfl hl.1 rfl (Nat.le_of_ble_eq_true rfl) dX1_sideOf_10 ⟨Nat.le_of_ble_eq_true rfl, Nat.le_of_ble_eq_true rfl⟩ (fun H locs hP hD hS => ?_)
  refine zN (Sz bz) (y := (if bz < nz then Sz bz else 0)) (if_pos hb9) ?_
  exact zEX_i hF hr hlk rfl hK hP hD hS (Nat.le_of_ble_eq_true rfl) (Nat.le_of_ble_eq_true rfl) dX1_sideOf_13
set_option maxHeartbeats 4000000 in
set_option maxRecDepth 100000 in
theorem d_elderOf_x (l : Launch) (hst : l.stackTraces = false) (G : va_G) (cI : ClassId) (oz hz da la saz h2 da2 la2 sa2 : Nat) (camez : Nat) (Dz Lz Sz : Fn) (nz : Nat) (cz gz : Int32) (D2 L2 S2 : Fn) (n2 : Nat) (x2 y2 : Int32) (hn : nz ≤ 63) (hc9 : camez ≤ 500) (hS1 : okS Sz) (xz : Int32) (hno : hasI nz xz = false) : zX_i l yX1_elderOf wsX1_elderOf ({ frames := 7, cells := 1, slots := 6, locals := 111 }) G [(cI, .int)] (wx cI oz hz da la saz h2 da2 la2 sa2 camez (Dz, Lz, Sz, nz, cz, gz) (D2, L2, S2, n2, x2, y2)) (wx cI oz hz da la saz h2 da2 la2 sa2 camez (Dz, Lz, Sz, nz, cz, gz) (D2, L2, S2, n2, x2, y2)) [.ref oz, .int xz] (some zIX) (nI 0) := by
  refine zBX (cc := cX1_elderOf) (maxL := 2) (ret := (some .int)) (by decide) rfl (Nat.le_of_ble_eq_true rfl) ?_
  intro p e s m args below meth c0 A hF hr hlk hK hA hP hD hS hE hto ls hl
  have hF : CallFix p m c0 cX1_elderOf 2 s args wsX1_elderOf RX1 := hF
  have hx := hF.1
  have hb := hF.2.1
  have hown := hF.2.2.2.1
  have hts := hF.2.2.2.2
  have hf10 := hts (.fieldLink RX1 10 "SnoringDukes" "heap" "LSnoringDukes$WeakHeap;") (by decide +kernel)
  have hinX1 : ∀ wz ∈ wsX10, wz ∈ wsX1_elderOf := by decide +kernel
  have hl : lv_has ls 2 [(0, .ref oz), (1, .int xz)] := hl
  refine lv_aload_n hx hb dX1_elderOf_0 rfl (lv_at hl 0 rfl) ?_
  refine lv_iload_n hx hb dX1_elderOf_1 rfl (lv_at hl 1 rfl) ?_
  exact zK_xt (As := [.int xz]) (rest := []) hF (d_refuse_x l hst G cI oz hz da la saz h2 da2 la2 sa2 (camez) (Dz) (Lz) (Sz) (nz) (cz) (gz) (D2) (L2) (S2) (n2) (x2) (y2) hn hc9 hS1 xz hno) (cwV 1 hts gX1_elderOf_X1_refuseUnlessBerth rfl rfl rfl (by decide +kernel) ⟨Nat.le_of_ble_eq_true rfl, Nat.le_of_ble_eq_true rfl⟩) hlk hto hK hP hD hS hA hE (ci := 1) (q0 := 0) rfl rfl rfl (isC := [0, 1, 2, 3, 4, 5, 6, 7, 8]) (isR := []) (perm := [0, 1, 2, 3, 4, 5, 6, 7, 8]) (wr := []) ⟨rfl, by decide, rfl, rfl, (fun _ hz => by cases hz), rfl, by decide⟩ [0] rfl rfl hl.1 rfl (Nat.le_of_ble_eq_true rfl) dX1_elderOf_2 ⟨Nat.le_of_ble_eq_true rfl, Nat.le_of_ble_eq_true rfl⟩
set_option maxHeartbeats 4000000 in
set_option maxRecDepth 100000 in
theorem d_elderOf_0 (l : Launch) (hst : l.stackTraces = false) (G : va_G) (cI : ClassId) (oz hz da la saz h2 da2 la2 sa2 : Nat) (camez : Nat) (Dz Lz Sz : Fn) (nz : Nat) (cz gz : Int32) (D2 L2 S2 : Fn) (n2 : Nat) (x2 y2 : Int32) (hn : nz ≤ 63) (hc9 : camez ≤ 500) (hS1 : okS Sz) (bz : Nat) (hb9 : bz < nz) : zX_i l yX1_elderOf wsX1_elderOf ({ frames := 7, cells := 1, slots := 6, locals := 111 }) G [(cI, .int)] (wx cI oz hz da la saz h2 da2 la2 sa2 camez (Dz, Lz, Sz, nz, cz, gz) (D2, L2, S2, n2, x2, y2)) (wx cI oz hz da la saz h2 da2 la2 sa2 camez (Dz, Lz, Sz, nz, cz, gz) (D2, L2, S2, n2, x2, y2)) [.ref oz, .int (nI bz)] (none) (if bz = 0 then -1 else nI (eld Sz bz)) := by
  refine zBX (cc := cX1_elderOf) (maxL := 2) (ret := (some .int)) (by decide) rfl (Nat.le_of_ble_eq_true rfl) ?_
  intro p e s m args below meth c0 A hF hr hlk hK hA hP hD hS hE hto ls hl
  have hF : CallFix p m c0 cX1_elderOf 2 s args wsX1_elderOf RX1 := hF
  have hx := hF.1
  have hb := hF.2.1
  have hown := hF.2.2.2.1
  have hts := hF.2.2.2.2
  have hf10 := hts (.fieldLink RX1 10 "SnoringDukes" "heap" "LSnoringDukes$WeakHeap;") (by decide +kernel)
  have hinX1 : ∀ wz ∈ wsX10, wz ∈ wsX1_elderOf := by decide +kernel
  have hl : lv_has ls 2 [(0, .ref oz), (1, .int (nI bz))] := hl
  refine lv_aload_n hx hb dX1_elderOf_0 rfl (lv_at hl 0 rfl) ?_
  refine lv_iload_n hx hb dX1_elderOf_1 rfl (lv_at hl 1 rfl) ?_
  refine zK_xv (As := [.int (nI bz)]) (rest := []) hF (d_refuse_0 l hst G cI oz hz da la saz h2 da2 la2 sa2 (camez) (Dz) (Lz) (Sz) (nz) (cz) (gz) (D2) (L2) (S2) (n2) (x2) (y2) hn hc9 hS1 bz (by omega)) (cwV 1 hts gX1_elderOf_X1_refuseUnlessBerth rfl rfl rfl (by decide +kernel) ⟨Nat.le_of_ble_eq_true rfl, Nat.le_of_ble_eq_true rfl⟩) hK hP hD hS hA hE (ci := 1) (q0 := 0) rfl rfl rfl (isC := [0, 1, 2, 3, 4, 5, 6, 7, 8]) (isR := []) (perm := [0, 1, 2, 3, 4, 5, 6, 7, 8]) (wr := []) (wN := wx cI oz hz da la saz h2 da2 la2 sa2 camez (Dz, Lz, Sz, nz, cz, gz) (D2, L2, S2, n2, x2, y2)) ⟨rfl, by decide, rfl, rfl, (fun _ hz => by cases hz), rfl, by decide⟩ [0] rfl rfl hl.1 rfl (Nat.le_of_ble_eq_true rfl) dX1_elderOf_2 ⟨Nat.le_of_ble_eq_true rfl, Nat.le_of_ble_eq_true rfl⟩ (fun H locs hP hD hS => ?_)
  refine lv_iload_n hx hb dX1_elderOf_5 rfl (lv_at hl 1 rfl) ?_
  refine lv_if_ne (tgt := 13) hx hb dX1_elderOf_6 (by decide) (fun hc6 => ?_) (fun hc6 => ?_)
  · skip
    have k6 : 0 < bz := k0_ne (by omega) hc6
    refine lv_aload_n hx hb dX1_elderOf_13 rfl (lv_at hl 0 rfl) ?_
    refine va_get (D := G) (ci := 1) (v := .ref hz) (C := RX1) (T := TX1) (N := 3) hx hb hts hinX1 hown hK hP 0 rfl rfl 0 (by decide) hf10 (fun _ h9 => h9) rfl dX1_elderOf_14 ?_
    refine lv_iload_n hx hb dX1_elderOf_17 rfl (lv_at hl 1 rfl) ?_
    refine zK_vi (As := [.int (nI bz)]) (rest := []) hF (c_elder l G cI hz da la saz (Dz) (Lz) (Sz) (nz) (cz) (gz) hn hS1 bz (by omega)) (cwV 1 hts gX1_elderOf_X0_elder rfl rfl rfl (by decide +kernel) ⟨Nat.le_of_ble_eq_true rfl, Nat.le_of_ble_eq_true rfl⟩) hK hP hD hS hA (ci := 0) (q0 := 1) rfl rfl rfl (isC := [1, 2, 3, 4]) (isR := [0, 5, 6, 7, 8]) (perm := [0, 5, 6, 7, 8, 1, 2, 3, 4]) (wr := (oz, .inr (1, [.ref hz, .ref h2, .int (nI camez)])) :: wh cI h2 da2 la2 sa2 (D2, L2, S2, n2, x2, y2)) (wN := wx cI oz hz da la saz h2 da2 la2 sa2 camez (Dz, Lz, Sz, nz, cz, gz) (D2, L2, S2, n2, x2, y2)) ⟨rfl, by decide, rfl, by decide, by decide, rfl, by decide⟩ [0] rfl rfl hl.1 rfl (Nat.le_of_ble_eq_true rfl) dX1_elderOf_18 ⟨Nat.le_of_ble_eq_true rfl, Nat.le_of_ble_eq_true rfl⟩ (fun H locs hP hD hS => ?_)
    rw [if_neg (by omega)]
    exact zEX_i hF hr hlk rfl hK hP hD hS (Nat.le_of_ble_eq_true rfl) (Nat.le_of_ble_eq_true rfl) dX1_elderOf_21
  · skip
    have k6 : bz = 0 := k0_eq (by omega) hc6
    refine lv_iconst (v := (-1)) hx hb dX1_elderOf_9 (by decide) ?_
    refine lv_goto (tgt := 21) hx hb dX1_elderOf_10 (by decide) ?_
    rw [if_pos k6]
    exact zEX_i hF hr hlk rfl hK hP hD hS (Nat.le_of_ble_eq_true rfl) (Nat.le_of_ble_eq_true rfl) dX1_elderOf_21
set_option maxHeartbeats 4000000 in
set_option maxRecDepth 100000 in
theorem d_followersOf_x (l : Launch) (hst : l.stackTraces = false) (G : va_G) (cI : ClassId) (oz hz da la saz h2 da2 la2 sa2 : Nat) (camez : Nat) (Dz Lz Sz : Fn) (nz : Nat) (cz gz : Int32) (D2 L2 S2 : Fn) (n2 : Nat) (x2 y2 : Int32) (hn : nz ≤ 63) (hc9 : camez ≤ 500) (hS1 : okS Sz) (xz : Int32) (hno : hasI nz xz = false) : zX_i l yX1_followersOf wsX1_followersOf ({ frames := 7, cells := 1, slots := 6, locals := 111 }) G [(cI, .int)] (wx cI oz hz da la saz h2 da2 la2 sa2 camez (Dz, Lz, Sz, nz, cz, gz) (D2, L2, S2, n2, x2, y2)) (wx cI oz hz da la saz h2 da2 la2 sa2 camez (Dz, Lz, Sz, nz, cz, gz) (D2, L2, S2, n2, x2, y2)) [.ref oz, .int xz] (some zIX) (nI 0) := by
  refine zBX (cc := cX1_followersOf) (maxL := 2) (ret := (some .int)) (by decide) rfl (Nat.le_of_ble_eq_true rfl) ?_
  intro p e s m args below meth c0 A hF hr hlk hK hA hP hD hS hE hto ls hl
  have hF : CallFix p m c0 cX1_followersOf 2 s args wsX1_followersOf RX1 := hF
  have hx := hF.1
  have hb := hF.2.1
  have hown := hF.2.2.2.1
  have hts := hF.2.2.2.2
  have hf10 := hts (.fieldLink RX1 10 "SnoringDukes" "heap" "LSnoringDukes$WeakHeap;") (by decide +kernel)
  have hinX1 : ∀ wz ∈ wsX10, wz ∈ wsX1_followersOf := by decide +kernel
  have hl : lv_has ls 2 [(0, .ref oz), (1, .int xz)] := hl
  refine lv_aload_n hx hb dX1_followersOf_0 rfl (lv_at hl 0 rfl) ?_
  refine lv_iload_n hx hb dX1_followersOf_1 rfl (lv_at hl 1 rfl) ?_
  exact zK_xt (As := [.int xz]) (rest := []) hF (d_refuse_x l hst G cI oz hz da la saz h2 da2 la2 sa2 (camez) (Dz) (Lz) (Sz) (nz) (cz) (gz) (D2) (L2) (S2) (n2) (x2) (y2) hn hc9 hS1 xz hno) (cwV 1 hts gX1_followersOf_X1_refuseUnlessBerth rfl rfl rfl (by decide +kernel) ⟨Nat.le_of_ble_eq_true rfl, Nat.le_of_ble_eq_true rfl⟩) hlk hto hK hP hD hS hA hE (ci := 1) (q0 := 0) rfl rfl rfl (isC := [0, 1, 2, 3, 4, 5, 6, 7, 8]) (isR := []) (perm := [0, 1, 2, 3, 4, 5, 6, 7, 8]) (wr := []) ⟨rfl, by decide, rfl, rfl, (fun _ hz => by cases hz), rfl, by decide⟩ [0] rfl rfl hl.1 rfl (Nat.le_of_ble_eq_true rfl) dX1_followersOf_2 ⟨Nat.le_of_ble_eq_true rfl, Nat.le_of_ble_eq_true rfl⟩
set_option maxHeartbeats 4000000 in
set_option maxRecDepth 100000 in
theorem d_followersOf_0 (l : Launch) (hst : l.stackTraces = false) (G : va_G) (cI : ClassId) (oz hz da la saz h2 da2 la2 sa2 : Nat) (camez : Nat) (Dz Lz Sz : Fn) (nz : Nat) (cz gz : Int32) (D2 L2 S2 : Fn) (n2 : Nat) (x2 y2 : Int32) (hn : nz ≤ 63) (hc9 : camez ≤ 500) (hS1 : okS Sz) (bz : Nat) (hb9 : bz < nz) : zX_i l yX1_followersOf wsX1_followersOf ({ frames := 7, cells := 1, slots := 6, locals := 111 }) G [(cI, .int)] (wx cI oz hz da la saz h2 da2 la2 sa2 camez (Dz, Lz, Sz, nz, cz, gz) (D2, L2, S2, n2, x2, y2)) (wx cI oz hz da la saz h2 da2 la2 sa2 camez (Dz, Lz, Sz, nz, cz, gz) (D2, L2, S2, n2, x2, y2)) [.ref oz, .int (nI bz)] (none) (flw Sz bz nz) := by
  refine zBX (cc := cX1_followersOf) (maxL := 2) (ret := (some .int)) (by decide) rfl (Nat.le_of_ble_eq_true rfl) ?_
  intro p e s m args below meth c0 A hF hr hlk hK hA hP hD hS hE hto ls hl
  have hF : CallFix p m c0 cX1_followersOf 2 s args wsX1_followersOf RX1 := hF
  have hx := hF.1
  have hb := hF.2.1
  have hown := hF.2.2.2.1
  have hts := hF.2.2.2.2
  have hf10 := hts (.fieldLink RX1 10 "SnoringDukes" "heap" "LSnoringDukes$WeakHeap;") (by decide +kernel)
  have hinX1 : ∀ wz ∈ wsX10, wz ∈ wsX1_followersOf := by decide +kernel
  have hl : lv_has ls 2 [(0, .ref oz), (1, .int (nI bz))] := hl
  refine lv_aload_n hx hb dX1_followersOf_0 rfl (lv_at hl 0 rfl) ?_
  refine lv_iload_n hx hb dX1_followersOf_1 rfl (lv_at hl 1 rfl) ?_
  refine zK_xv (As := [.int (nI bz)]) (rest := []) hF (d_refuse_0 l hst G cI oz hz da la saz h2 da2 la2 sa2 (camez) (Dz) (Lz) (Sz) (nz) (cz) (gz) (D2) (L2) (S2) (n2) (x2) (y2) hn hc9 hS1 bz (by omega)) (cwV 1 hts gX1_followersOf_X1_refuseUnlessBerth rfl rfl rfl (by decide +kernel) ⟨Nat.le_of_ble_eq_true rfl, Nat.le_of_ble_eq_true rfl⟩) hK hP hD hS hA hE (ci := 1) (q0 := 0) rfl rfl rfl (isC := [0, 1, 2, 3, 4, 5, 6, 7, 8]) (isR := []) (perm := [0, 1, 2, 3, 4, 5, 6, 7, 8]) (wr := []) (wN := wx cI oz hz da la saz h2 da2 la2 sa2 camez (Dz, Lz, Sz, nz, cz, gz) (D2, L2, S2, n2, x2, y2)) ⟨rfl, by decide, rfl, rfl, (fun _ hz => by cases hz), rfl, by decide⟩ [0] rfl rfl hl.1 rfl (Nat.le_of_ble_eq_true rfl) dX1_followersOf_2 ⟨Nat.le_of_ble_eq_true rfl, Nat.le_of_ble_eq_true rfl⟩ (fun H locs hP hD hS => ?_)
  refine lv_aload_n hx hb dX1_followersOf_5 rfl (lv_at hl 0 rfl) ?_
  refine va_get (D := G) (ci := 1) (v := .ref hz) (C := RX1) (T := TX1) (N := 3) hx hb hts hinX1 hown hK hP 0 rfl rfl 0 (by decide) hf10 (fun _ h9 => h9) rfl dX1_followersOf_6 ?_
  refine lv_iload_n hx hb dX1_followersOf_9 rfl (lv_at hl 1 rfl) ?_
  refine zK_vi (As := [.int (nI bz)]) (rest := []) hF (c_countFollowers l G cI hz da la saz (Dz) (Lz) (Sz) (nz) (cz) (gz) hn hS1 bz (by omega)) (cwV 1 hts gX1_followersOf_X0_countFollowers rfl rfl rfl (by decide +kernel) ⟨Nat.le_of_ble_eq_true rfl, Nat.le_of_ble_eq_true rfl⟩) hK hP hD hS hA (ci := 0) (q0 := 1) rfl rfl rfl (isC := [1, 2, 3, 4]) (isR := [0, 5, 6, 7, 8]) (perm := [0, 5, 6, 7, 8, 1, 2, 3, 4]) (wr := (oz, .inr (1, [.ref hz, .ref h2, .int (nI camez)])) :: wh cI h2 da2 la2 sa2 (D2, L2, S2, n2, x2, y2)) (wN := wx cI oz hz da la saz h2 da2 la2 sa2 camez (Dz, Lz, Sz, nz, cz, gz) (D2, L2, S2, n2, x2, y2)) ⟨rfl, by decide, rfl, by decide, by decide, rfl, by decide⟩ [0] rfl rfl hl.1 rfl (Nat.le_of_ble_eq_true rfl) dX1_followersOf_10 ⟨Nat.le_of_ble_eq_true rfl, Nat.le_of_ble_eq_true rfl⟩ (fun H locs hP hD hS => ?_)
  exact zEX_i hF hr hlk rfl hK hP hD hS (Nat.le_of_ble_eq_true rfl) (Nat.le_of_ble_eq_true rfl) dX1_followersOf_13
set_option maxHeartbeats 4000000 in
set_option maxRecDepth 100000 in
theorem d_dukes (l : Launch) (G : va_G) (cI : ClassId) (oz hz da la saz h2 da2 la2 sa2 : Nat) (camez : Nat) (Dz Lz Sz : Fn) (nz : Nat) (cz gz : Int32) (D2 L2 S2 : Fn) (n2 : Nat) (x2 y2 : Int32) (hn : nz ≤ 63) (hc9 : camez ≤ 500) (hS1 : okS Sz)  : zY_i l yX1_dukes wsX1_dukes ({ frames := 0, cells := 0, slots := 0, locals := 0 }) G [(cI, .int)] (wx cI oz hz da la saz h2 da2 la2 sa2 camez (Dz, Lz, Sz, nz, cz, gz) (D2, L2, S2, n2, x2, y2)) (wx cI oz hz da la saz h2 da2 la2 sa2 camez (Dz, Lz, Sz, nz, cz, gz) (D2, L2, S2, n2, x2, y2)) [.ref oz] 0 0 (nI nz) := by
  refine zBY (cc := cX1_dukes) (maxL := 1) (ret := (some .int)) (by decide) rfl (Nat.le_of_ble_eq_true rfl) ?_
  intro p e s m args below meth c0 A hF hr hlk hK hA hP hD hS hE ls hl
  have hF : CallFix p m c0 cX1_dukes 1 s args wsX1_dukes RX1 := hF
  have hx := hF.1
  have hb := hF.2.1
  have hown := hF.2.2.2.1
  have hts := hF.2.2.2.2
  have hf10 := hts (.fieldLink RX1 10 "SnoringDukes" "heap" "LSnoringDukes$WeakHeap;") (by decide +kernel)
  have hf61 := va_Nw.use (A := args) rfl hE.1.1
  have hinX0 : ∀ wz ∈ wsX00, wz ∈ wsX1_dukes := by decide +kernel
  have hinX1 : ∀ wz ∈ wsX10, wz ∈ wsX1_dukes := by decide +kernel
  have hl : lv_has ls 1 [(0, .ref oz)] := hl
  refine lv_aload_n hx hb dX1_dukes_0 rfl (lv_at hl 0 rfl) ?_
  refine va_get (D := G) (ci := 1) (v := .ref hz) (C := RX1) (T := TX1) (N := 3) hx hb hts hinX1 hown hK hP 0 rfl rfl 0 (by decide) hf10 (fun _ h9 => h9) rfl dX1_dukes_1 ?_
  refine va_getN (D := G) (ci := 0) (v := .int (nI nz)) (C := RX0) (T := TX0) (N := 6) hx hb hts hinX0 hown hK hP 1 rfl rfl 3 (by decide) hf61 (fun _ h9 => h9) rfl dX1_dukes_4 ?_
  exact zEY_i hF hr hlk hK hP hD hS (Nat.le_of_ble_eq_true rfl) (Nat.le_of_ble_eq_true rfl) dX1_dukes_7
set_option maxHeartbeats 4000000 in
set_option maxRecDepth 100000 in
theorem d_comparisons (l : Launch) (G : va_G) (cI : ClassId) (oz hz da la saz h2 da2 la2 sa2 : Nat) (camez : Nat) (Dz Lz Sz : Fn) (nz : Nat) (cz gz : Int32) (D2 L2 S2 : Fn) (n2 : Nat) (x2 y2 : Int32) (hn : nz ≤ 63) (hc9 : camez ≤ 500) (hS1 : okS Sz)  : zY_i l yX1_comparisons wsX1_comparisons ({ frames := 0, cells := 0, slots := 0, locals := 0 }) G [(cI, .int)] (wx cI oz hz da la saz h2 da2 la2 sa2 camez (Dz, Lz, Sz, nz, cz, gz) (D2, L2, S2, n2, x2, y2)) (wx cI oz hz da la saz h2 da2 la2 sa2 camez (Dz, Lz, Sz, nz, cz, gz) (D2, L2, S2, n2, x2, y2)) [.ref oz] 0 0 cz := by
  refine zBY (cc := cX1_comparisons) (maxL := 1) (ret := (some .int)) (by decide) rfl (Nat.le_of_ble_eq_true rfl) ?_
  intro p e s m args below meth c0 A hF hr hlk hK hA hP hD hS hE ls hl
  have hF : CallFix p m c0 cX1_comparisons 1 s args wsX1_comparisons RX1 := hF
  have hx := hF.1
  have hb := hF.2.1
  have hown := hF.2.2.2.1
  have hts := hF.2.2.2.2
  have hf10 := hts (.fieldLink RX1 10 "SnoringDukes" "heap" "LSnoringDukes$WeakHeap;") (by decide +kernel)
  have hf52 := va_Nw.use (A := args) rfl hE.1.2.1
  have hinX0 : ∀ wz ∈ wsX00, wz ∈ wsX1_comparisons := by decide +kernel
  have hinX1 : ∀ wz ∈ wsX10, wz ∈ wsX1_comparisons := by decide +kernel
  have hl : lv_has ls 1 [(0, .ref oz)] := hl
  refine lv_aload_n hx hb dX1_comparisons_0 rfl (lv_at hl 0 rfl) ?_
  refine va_get (D := G) (ci := 1) (v := .ref hz) (C := RX1) (T := TX1) (N := 3) hx hb hts hinX1 hown hK hP 0 rfl rfl 0 (by decide) hf10 (fun _ h9 => h9) rfl dX1_comparisons_1 ?_
  refine va_getN (D := G) (ci := 0) (v := .int cz) (C := RX0) (T := TX0) (N := 6) hx hb hts hinX0 hown hK hP 1 rfl rfl 4 (by decide) hf52 (fun _ h9 => h9) rfl dX1_comparisons_4 ?_
  exact zEY_i hF hr hlk hK hP hD hS (Nat.le_of_ble_eq_true rfl) (Nat.le_of_ble_eq_true rfl) dX1_comparisons_7
set_option maxHeartbeats 4000000 in
set_option maxRecDepth 100000 in
theorem d_changes (l : Launch) (G : va_G) (cI : ClassId) (oz hz da la saz h2 da2 la2 sa2 : Nat) (camez : Nat) (Dz Lz Sz : Fn) (nz : Nat) (cz gz : Int32) (D2 L2 S2 : Fn) (n2 : Nat) (x2 y2 : Int32) (hn : nz ≤ 63) (hc9 : camez ≤ 500) (hS1 : okS Sz)  : zY_i l yX1_changes wsX1_changes ({ frames := 0, cells := 0, slots := 0, locals := 0 }) G [(cI, .int)] (wx cI oz hz da la saz h2 da2 la2 sa2 camez (Dz, Lz, Sz, nz, cz, gz) (D2, L2, S2, n2, x2, y2)) (wx cI oz hz da la saz h2 da2 la2 sa2 camez (Dz, Lz, Sz, nz, cz, gz) (D2, L2, S2, n2, x2, y2)) [.ref oz] 0 0 gz := by
  refine zBY (cc := cX1_changes) (maxL := 1) (ret := (some .int)) (by decide) rfl (Nat.le_of_ble_eq_true rfl) ?_
  intro p e s m args below meth c0 A hF hr hlk hK hA hP hD hS hE ls hl
  have hF : CallFix p m c0 cX1_changes 1 s args wsX1_changes RX1 := hF
  have hx := hF.1
  have hb := hF.2.1
  have hown := hF.2.2.2.1
  have hts := hF.2.2.2.2
  have hf10 := hts (.fieldLink RX1 10 "SnoringDukes" "heap" "LSnoringDukes$WeakHeap;") (by decide +kernel)
  have hf107 := va_Nw.use (A := args) rfl hE.1.2.2
  have hinX0 : ∀ wz ∈ wsX00, wz ∈ wsX1_changes := by decide +kernel
  have hinX1 : ∀ wz ∈ wsX10, wz ∈ wsX1_changes := by decide +kernel
  have hl : lv_has ls 1 [(0, .ref oz)] := hl
  refine lv_aload_n hx hb dX1_changes_0 rfl (lv_at hl 0 rfl) ?_
  refine va_get (D := G) (ci := 1) (v := .ref hz) (C := RX1) (T := TX1) (N := 3) hx hb hts hinX1 hown hK hP 0 rfl rfl 0 (by decide) hf10 (fun _ h9 => h9) rfl dX1_changes_1 ?_
  refine va_getN (D := G) (ci := 0) (v := .int gz) (C := RX0) (T := TX0) (N := 6) hx hb hts hinX0 hown hK hP 1 rfl rfl 5 (by decide) hf107 (fun _ h9 => h9) rfl dX1_changes_4 ?_
  exact zEY_i hF hr hlk hK hP hD hS (Nat.le_of_ble_eq_true rfl) (Nat.le_of_ble_eq_true rfl) dX1_changes_7
set_option maxHeartbeats 4000000 in
set_option maxRecDepth 100000 in
theorem d_flipped (l : Launch) (G : va_G) (cI : ClassId) (oz hz da la saz h2 da2 la2 sa2 : Nat) (camez : Nat) (Dz Lz Sz : Fn) (nz : Nat) (cz gz : Int32) (D2 L2 S2 : Fn) (n2 : Nat) (x2 y2 : Int32) (hn : nz ≤ 63) (hc9 : camez ≤ 500) (hS1 : okS Sz)  : zY_i l yX1_flipped wsX1_flipped ({ frames := 3, cells := 0, slots := 0, locals := 64 }) G [(cI, .int)] (wx cI oz hz da la saz h2 da2 la2 sa2 camez (Dz, Lz, Sz, nz, cz, gz) (D2, L2, S2, n2, x2, y2)) (wx cI oz hz da la saz h2 da2 la2 sa2 camez (Dz, Lz, Sz, nz, cz, gz) (D2, L2, S2, n2, x2, y2)) [.ref oz] 0 0 (flp Sz nz) := by
  refine zBY (cc := cX1_flipped) (maxL := 1) (ret := (some .int)) (by decide) rfl (Nat.le_of_ble_eq_true rfl) ?_
  intro p e s m args below meth c0 A hF hr hlk hK hA hP hD hS hE ls hl
  have hF : CallFix p m c0 cX1_flipped 1 s args wsX1_flipped RX1 := hF
  have hx := hF.1
  have hb := hF.2.1
  have hown := hF.2.2.2.1
  have hts := hF.2.2.2.2
  have hf10 := hts (.fieldLink RX1 10 "SnoringDukes" "heap" "LSnoringDukes$WeakHeap;") (by decide +kernel)
  have hinX1 : ∀ wz ∈ wsX10, wz ∈ wsX1_flipped := by decide +kernel
  have hl : lv_has ls 1 [(0, .ref oz)] := hl
  refine lv_aload_n hx hb dX1_flipped_0 rfl (lv_at hl 0 rfl) ?_
  refine va_get (D := G) (ci := 1) (v := .ref hz) (C := RX1) (T := TX1) (N := 3) hx hb hts hinX1 hown hK hP 0 rfl rfl 0 (by decide) hf10 (fun _ h9 => h9) rfl dX1_flipped_1 ?_
  refine zK_vi (As := []) (rest := []) hF (c_countFlipped l G cI hz da la saz (Dz) (Lz) (Sz) (nz) (cz) (gz) hn) (cwV 0 hts gX1_flipped_X0_countFlipped rfl rfl rfl (by decide +kernel) ⟨Nat.le_of_ble_eq_true rfl, Nat.le_of_ble_eq_true rfl⟩) hK hP hD hS hA (ci := 0) (q0 := 1) rfl rfl rfl (isC := [1, 2, 3, 4]) (isR := [0, 5, 6, 7, 8]) (perm := [0, 5, 6, 7, 8, 1, 2, 3, 4]) (wr := (oz, .inr (1, [.ref hz, .ref h2, .int (nI camez)])) :: wh cI h2 da2 la2 sa2 (D2, L2, S2, n2, x2, y2)) (wN := wx cI oz hz da la saz h2 da2 la2 sa2 camez (Dz, Lz, Sz, nz, cz, gz) (D2, L2, S2, n2, x2, y2)) ⟨rfl, by decide, rfl, by decide, by decide, rfl, by decide⟩ [0] rfl rfl hl.1 rfl (Nat.le_of_ble_eq_true rfl) dX1_flipped_4 ⟨Nat.le_of_ble_eq_true rfl, Nat.le_of_ble_eq_true rfl⟩ (fun H locs hP hD hS => ?_)
  exact zEY_i hF hr hlk hK hP hD hS (Nat.le_of_ble_eq_true rfl) (Nat.le_of_ble_eq_true rfl) dX1_flipped_7
set_option maxHeartbeats 4000000 in
set_option maxRecDepth 100000 in
theorem d_quietest (l : Launch) (G : va_G) (cI : ClassId) (oz hz da la saz h2 da2 la2 sa2 : Nat) (camez : Nat) (Dz Lz Sz : Fn) (nz : Nat) (cz gz : Int32) (D2 L2 S2 : Fn) (n2 : Nat) (x2 y2 : Int32) (hn : nz ≤ 63) (hc9 : camez ≤ 500) (hS1 : okS Sz)  : zY_i l yX1_quietest wsX1_quietest ({ frames := 2, cells := 0, slots := 0, locals := 42 }) G [(cI, .int)] (wx cI oz hz da la saz h2 da2 la2 sa2 camez (Dz, Lz, Sz, nz, cz, gz) (D2, L2, S2, n2, x2, y2)) (wx cI oz hz da la saz h2 da2 la2 sa2 camez (Dz, Lz, Sz, nz, cz, gz) (D2, L2, S2, n2, x2, y2)) [.ref oz] 0 0 (if 0 < nz then Dz 0 else -1) := by
  refine zBY (cc := cX1_quietest) (maxL := 1) (ret := (some .int)) (by decide) rfl (Nat.le_of_ble_eq_true rfl) ?_
  intro p e s m args below meth c0 A hF hr hlk hK hA hP hD hS hE ls hl
  have hF : CallFix p m c0 cX1_quietest 1 s args wsX1_quietest RX1 := hF
  have hx := hF.1
  have hb := hF.2.1
  have hown := hF.2.2.2.1
  have hts := hF.2.2.2.2
  have hf10 := hts (.fieldLink RX1 10 "SnoringDukes" "heap" "LSnoringDukes$WeakHeap;") (by decide +kernel)
  have hinX1 : ∀ wz ∈ wsX10, wz ∈ wsX1_quietest := by decide +kernel
  have hl : lv_has ls 1 [(0, .ref oz)] := hl
  refine lv_aload_n hx hb dX1_quietest_0 rfl (lv_at hl 0 rfl) ?_
  refine va_get (D := G) (ci := 1) (v := .ref hz) (C := RX1) (T := TX1) (N := 3) hx hb hts hinX1 hown hK hP 0 rfl rfl 0 (by decide) hf10 (fun _ h9 => h9) rfl dX1_quietest_1 ?_
  refine lv_iconst (v := nI 0) hx hb dX1_quietest_4 (by decide) ?_
  refine zK_vi (As := [.int (nI 0)]) (rest := []) hF (c_dukeAt l G cI hz da la saz (Dz) (Lz) (Sz) (nz) (cz) (gz) (by omega) 0 (by omega)) (cwV 1 hts gX1_quietest_X0_dukeAt rfl rfl rfl (by decide +kernel) ⟨Nat.le_of_ble_eq_true rfl, Nat.le_of_ble_eq_true rfl⟩) hK hP hD hS hA (ci := 0) (q0 := 1) rfl rfl rfl (isC := [1, 2, 3, 4]) (isR := [0, 5, 6, 7, 8]) (perm := [0, 5, 6, 7, 8, 1, 2, 3, 4]) (wr := (oz, .inr (1, [.ref hz, .ref h2, .int (nI camez)])) :: wh cI h2 da2 la2 sa2 (D2, L2, S2, n2, x2, y2)) (wN := wx cI oz hz da la saz h2 da2 la2 sa2 camez (Dz, Lz, Sz, nz, cz, gz) (D2, L2, S2, n2, x2, y2)) ⟨rfl, by decide, rfl, by decide, by decide, rfl, by decide⟩ [0] rfl rfl hl.1 rfl (Nat.le_of_ble_eq_true rfl) dX1_quietest_5 ⟨Nat.le_of_ble_eq_true rfl, Nat.le_of_ble_eq_true rfl⟩ (fun H locs hP hD hS => ?_)
  exact zEY_i hF hr hlk hK hP hD hS (Nat.le_of_ble_eq_true rfl) (Nat.le_of_ble_eq_true rfl) dX1_quietest_8
set_option maxHeartbeats 4000000 in
set_option maxRecDepth 100000 in
theorem d_berthOf (l : Launch) (G : va_G) (cI : ClassId) (oz hz da la saz h2 da2 la2 sa2 : Nat) (camez : Nat) (Dz Lz Sz : Fn) (nz : Nat) (cz gz : Int32) (D2 L2 S2 : Fn) (n2 : Nat) (x2 y2 : Int32) (hn : nz ≤ 63) (hc9 : camez ≤ 500) (hS1 : okS Sz) (xz : Int32) : zY_i l yX1_berthOf wsX1_berthOf ({ frames := 3, cells := 0, slots := 0, locals := 64 }) G [(cI, .int)] (wx cI oz hz da la saz h2 da2 la2 sa2 camez (Dz, Lz, Sz, nz, cz, gz) (D2, L2, S2, n2, x2, y2)) (wx cI oz hz da la saz h2 da2 la2 sa2 camez (Dz, Lz, Sz, nz, cz, gz) (D2, L2, S2, n2, x2, y2)) [.ref oz, .int xz] 0 0 (fndI Dz nz xz) := by
  refine zBY (cc := cX1_berthOf) (maxL := 2) (ret := (some .int)) (by decide) rfl (Nat.le_of_ble_eq_true rfl) ?_
  intro p e s m args below meth c0 A hF hr hlk hK hA hP hD hS hE ls hl
  have hF : CallFix p m c0 cX1_berthOf 2 s args wsX1_berthOf RX1 := hF
  have hx := hF.1
  have hb := hF.2.1
  have hown := hF.2.2.2.1
  have hts := hF.2.2.2.2
  have hf10 := hts (.fieldLink RX1 10 "SnoringDukes" "heap" "LSnoringDukes$WeakHeap;") (by decide +kernel)
  have hinX1 : ∀ wz ∈ wsX10, wz ∈ wsX1_berthOf := by decide +kernel
  have hl : lv_has ls 2 [(0, .ref oz), (1, .int xz)] := hl
  refine lv_aload_n hx hb dX1_berthOf_0 rfl (lv_at hl 0 rfl) ?_
  refine va_get (D := G) (ci := 1) (v := .ref hz) (C := RX1) (T := TX1) (N := 3) hx hb hts hinX1 hown hK hP 0 rfl rfl 0 (by decide) hf10 (fun _ h9 => h9) rfl dX1_berthOf_1 ?_
  refine lv_iload_n hx hb dX1_berthOf_4 rfl (lv_at hl 1 rfl) ?_
  refine zK_vi (As := [.int xz]) (rest := []) hF (c_find l G cI hz da la saz (Dz) (Lz) (Sz) (nz) (cz) (gz) hn xz) (cwV 1 hts gX1_berthOf_X0_find rfl rfl rfl (by decide +kernel) ⟨Nat.le_of_ble_eq_true rfl, Nat.le_of_ble_eq_true rfl⟩) hK hP hD hS hA (ci := 0) (q0 := 1) rfl rfl rfl (isC := [1, 2, 3, 4]) (isR := [0, 5, 6, 7, 8]) (perm := [0, 5, 6, 7, 8, 1, 2, 3, 4]) (wr := (oz, .inr (1, [.ref hz, .ref h2, .int (nI camez)])) :: wh cI h2 da2 la2 sa2 (D2, L2, S2, n2, x2, y2)) (wN := wx cI oz hz da la saz h2 da2 la2 sa2 camez (Dz, Lz, Sz, nz, cz, gz) (D2, L2, S2, n2, x2, y2)) ⟨rfl, by decide, rfl, by decide, by decide, rfl, by decide⟩ [0] rfl rfl hl.1 rfl (Nat.le_of_ble_eq_true rfl) dX1_berthOf_5 ⟨Nat.le_of_ble_eq_true rfl, Nat.le_of_ble_eq_true rfl⟩ (fun H locs hP hD hS => ?_)
  exact zEY_i hF hr hlk hK hP hD hS (Nat.le_of_ble_eq_true rfl) (Nat.le_of_ble_eq_true rfl) dX1_berthOf_8
set_option maxHeartbeats 4000000 in
set_option maxRecDepth 100000 in
theorem d_come_1 (l : Launch) (hst : l.stackTraces = false) (G : va_G) (cI : ClassId) (oz hz da la saz h2 da2 la2 sa2 : Nat) (camez : Nat) (Dz Lz Sz : Fn) (nz : Nat) (cz gz : Int32) (D2 L2 S2 : Fn) (n2 : Nat) (x2 y2 : Int32) (hn : nz ≤ 63) (hc9 : camez ≤ 500) (hS1 : okS Sz) (xz : Int32) (hbad : isO xz (nI 0) (nI 999) = false) : zX_i l yX1_come wsX1_come ({ frames := 6, cells := 1, slots := 6, locals := 132 }) G [(cI, .int)] (wx cI oz hz da la saz h2 da2 la2 sa2 camez (Dz, Lz, Sz, nz, cz, gz) (D2, L2, S2, n2, x2, y2)) (wx cI oz hz da la saz h2 da2 la2 sa2 camez (Dz, Lz, Sz, nz, cz, gz) (D2, L2, S2, n2, x2, y2)) [.ref oz, .int xz] (some zIA) (nI 0) := by
  refine zBX (cc := cX1_come) (maxL := 3) (ret := (some .int)) (by decide) rfl (Nat.le_of_ble_eq_true rfl) ?_
  intro p e s m args below meth c0 A hF hr hlk hK hA hP hD hS hE hto ls hl
  have hF : CallFix p m c0 cX1_come 3 s args wsX1_come RX1 := hF
  have hx := hF.1
  have hb := hF.2.1
  have hown := hF.2.2.2.1
  have hts := hF.2.2.2.2
  have hf19 := hts (.fieldLink RX1 19 "SnoringDukes" "numbered" "I") (by decide +kernel)
  have hf10 := hts (.fieldLink RX1 10 "SnoringDukes" "heap" "LSnoringDukes$WeakHeap;") (by decide +kernel)
  have hinX1 : ∀ wz ∈ wsX10, wz ∈ wsX1_come := by decide +kernel
  have hl : lv_has ls 3 [(0, .ref oz), (1, .int xz)] := hl
  refine lv_iload_n hx hb dX1_come_0 rfl (lv_at hl 1 rfl) ?_
  refine zK_si (av := [.int xz]) (rest := []) hF (d_isUp l G xz) (cwS 1 hts gX1_come_X1_isUpToLoudest rfl rfl rfl (by decide +kernel) ⟨Nat.le_of_ble_eq_true rfl, Nat.le_of_ble_eq_true rfl⟩) hK hP hD hS hA (isC := []) (isR := [0, 1, 2, 3, 4, 5, 6, 7, 8]) (perm := [0, 1, 2, 3, 4, 5, 6, 7, 8]) (wr := wx cI oz hz da la saz h2 da2 la2 sa2 camez (Dz, Lz, Sz, nz, cz, gz) (D2, L2, S2, n2, x2, y2)) (wN := wx cI oz hz da la saz h2 da2 la2 sa2 camez (Dz, Lz, Sz, nz, cz, gz) (D2, L2, S2, n2, x2, y2)) ⟨rfl, by decide, rfl, by decide, (fun _ _ hz => by cases hz), rfl, by decide⟩ [] rfl rfl hl.1 rfl (Nat.le_of_ble_eq_true rfl) dX1_come_1 ⟨Nat.le_of_ble_eq_true rfl, Nat.le_of_ble_eq_true rfl⟩ (fun H locs hP hD hS => ?_)
  refine zN (nI 0) (y := (bI (isO xz (nI 0) (nI 999)))) (by rw [hbad]; rfl) ?_
  refine lv_if_ne (tgt := 17) hx hb dX1_come_4 (by decide) (fun hc4 => ?_) (fun hc4 => ?_)
  · exact absurd hc4 (by decide)
  · skip
    have k4 : 0 = 0 := k0_eq (by omega) hc4
    exact zT (cls := zIA) (text := "loudness must be 0 to 999") (ik := 27) (is := 29) (ic := 31) hF hlk hst hE hto (by decide +kernel) hE.2.2.1.1.1 (by decide +kernel) (by decide +kernel) (by decide +kernel) (by decide +kernel) (by decide +kernel) (by decide +kernel) hK hP hD hS hl.1 dX1_come_7 dX1_come_10 dX1_come_11 dX1_come_13 dX1_come_16 (Nat.le_of_ble_eq_true rfl) (Nat.le_of_ble_eq_true rfl) (Nat.le_of_ble_eq_true rfl) (Nat.le_of_ble_eq_true rfl)
set_option maxHeartbeats 4000000 in
set_option maxRecDepth 100000 in
theorem d_come_2 (l : Launch) (hst : l.stackTraces = false) (G : va_G) (cI : ClassId) (oz hz da la saz h2 da2 la2 sa2 : Nat) (camez : Nat) (Dz Lz Sz : Fn) (nz : Nat) (cz gz : Int32) (D2 L2 S2 : Fn) (n2 : Nat) (x2 y2 : Int32) (hn : nz ≤ 63) (hc9 : camez ≤ 500) (hS1 : okS Sz) (xz : Int32) (hok : isO xz (nI 0) (nI 999) = true) (hfull : 63 < nz + 1 ∨ 500 < camez + 1) : zX_i l yX1_come wsX1_come ({ frames := 6, cells := 1, slots := 6, locals := 132 }) G [(cI, .int)] (wx cI oz hz da la saz h2 da2 la2 sa2 camez (Dz, Lz, Sz, nz, cz, gz) (D2, L2, S2, n2, x2, y2)) (wx cI oz hz da la saz h2 da2 la2 sa2 camez (Dz, Lz, Sz, nz, cz, gz) (D2, L2, S2, n2, x2, y2)) [.ref oz, .int xz] (some zIS) (nI 0) := by
  refine zBX (cc := cX1_come) (maxL := 3) (ret := (some .int)) (by decide) rfl (Nat.le_of_ble_eq_true rfl) ?_
  intro p e s m args below meth c0 A hF hr hlk hK hA hP hD hS hE hto ls hl
  have hF : CallFix p m c0 cX1_come 3 s args wsX1_come RX1 := hF
  have hx := hF.1
  have hb := hF.2.1
  have hown := hF.2.2.2.1
  have hts := hF.2.2.2.2
  have hf19 := hts (.fieldLink RX1 19 "SnoringDukes" "numbered" "I") (by decide +kernel)
  have hf10 := hts (.fieldLink RX1 10 "SnoringDukes" "heap" "LSnoringDukes$WeakHeap;") (by decide +kernel)
  have hinX1 : ∀ wz ∈ wsX10, wz ∈ wsX1_come := by decide +kernel
  have hl : lv_has ls 3 [(0, .ref oz), (1, .int xz)] := hl
  refine lv_iload_n hx hb dX1_come_0 rfl (lv_at hl 1 rfl) ?_
  refine zK_si (av := [.int xz]) (rest := []) hF (d_isUp l G xz) (cwS 1 hts gX1_come_X1_isUpToLoudest rfl rfl rfl (by decide +kernel) ⟨Nat.le_of_ble_eq_true rfl, Nat.le_of_ble_eq_true rfl⟩) hK hP hD hS hA (isC := []) (isR := [0, 1, 2, 3, 4, 5, 6, 7, 8]) (perm := [0, 1, 2, 3, 4, 5, 6, 7, 8]) (wr := wx cI oz hz da la saz h2 da2 la2 sa2 camez (Dz, Lz, Sz, nz, cz, gz) (D2, L2, S2, n2, x2, y2)) (wN := wx cI oz hz da la saz h2 da2 la2 sa2 camez (Dz, Lz, Sz, nz, cz, gz) (D2, L2, S2, n2, x2, y2)) ⟨rfl, by decide, rfl, by decide, (fun _ _ hz => by cases hz), rfl, by decide⟩ [] rfl rfl hl.1 rfl (Nat.le_of_ble_eq_true rfl) dX1_come_1 ⟨Nat.le_of_ble_eq_true rfl, Nat.le_of_ble_eq_true rfl⟩ (fun H locs hP hD hS => ?_)
  refine zN (nI 1) (y := (bI (isO xz (nI 0) (nI 999)))) (by rw [hok]; rfl) ?_
  refine lv_if_ne (tgt := 17) hx hb dX1_come_4 (by decide) (fun hc4 => ?_) (fun hc4 => ?_)
  · skip
    have k4 : 0 < 1 := k0_ne (by omega) hc4
    refine lv_aload_n hx hb dX1_come_17 rfl (lv_at hl 0 rfl) ?_
    refine lv_iconst (v := nI 1) hx hb dX1_come_18 (by decide) ?_
    refine zK_vy (As := [.int (nI 1)]) (rest := []) hF (d_hasRoomFor l G cI oz hz da la saz h2 da2 la2 sa2 (camez) (Dz) (Lz) (Sz) (nz) (cz) (gz) (D2) (L2) (S2) (n2) (x2) (y2) hn hc9 hS1 1 (by omega)) (cwV 1 hts gX1_come_X1_hasRoomFor rfl rfl rfl (by decide +kernel) ⟨Nat.le_of_ble_eq_true rfl, Nat.le_of_ble_eq_true rfl⟩) hK hP hD hS hA hE (ci := 1) (q0 := 0) rfl rfl rfl (isC := [0, 1, 2, 3, 4, 5, 6, 7, 8]) (isR := []) (perm := [0, 1, 2, 3, 4, 5, 6, 7, 8]) (wr := []) (wN := wx cI oz hz da la saz h2 da2 la2 sa2 camez (Dz, Lz, Sz, nz, cz, gz) (D2, L2, S2, n2, x2, y2)) ⟨rfl, by decide, rfl, rfl, (fun _ hz => by cases hz), rfl, by decide⟩ [0] rfl rfl hl.1 rfl (Nat.le_of_ble_eq_true rfl) dX1_come_19 ⟨Nat.le_of_ble_eq_true rfl, Nat.le_of_ble_eq_true rfl⟩ (fun H locs hP hD hS => ?_)
    refine zN (nI 0) (y := (bI (decide (nz + 1 ≤ 63) && decide (camez + 1 ≤ 500)))) (z_roomf hfull) ?_
    refine lv_if_ne (tgt := 35) hx hb dX1_come_22 (by decide) (fun hc22 => ?_) (fun hc22 => ?_)
    · exact absurd hc22 (by decide)
    · skip
      have k22 : 0 = 0 := k0_eq (by omega) hc22
      exact zT (cls := zIS) (text := "63 lie here, or 500 have come") (ik := 37) (is := 39) (ic := 41) hF hlk hst hE hto (by decide +kernel) hE.2.2.1.1.2.1 (by decide +kernel) (by decide +kernel) (by decide +kernel) (by decide +kernel) (by decide +kernel) (by decide +kernel) hK hP hD hS hl.1 dX1_come_25 dX1_come_28 dX1_come_29 dX1_come_31 dX1_come_34 (Nat.le_of_ble_eq_true rfl) (Nat.le_of_ble_eq_true rfl) (Nat.le_of_ble_eq_true rfl) (Nat.le_of_ble_eq_true rfl)
  · exact absurd hc4 (by decide)
set_option maxHeartbeats 4000000 in
set_option maxRecDepth 100000 in
theorem d_come_0 (l : Launch) (hst : l.stackTraces = false) (G : va_G) (cI : ClassId) (oz hz da la saz h2 da2 la2 sa2 : Nat) (camez : Nat) (Dz Lz Sz : Fn) (nz : Nat) (cz gz : Int32) (D2 L2 S2 : Fn) (n2 : Nat) (x2 y2 : Int32) (hn : nz ≤ 63) (hc9 : camez ≤ 500) (hS1 : okS Sz) (xz : Int32) (hok : isO xz (nI 0) (nI 999) = true) (hn1 : nz < 63) (hc1 : camez < 500) : zX_i l yX1_come wsX1_come ({ frames := 6, cells := 1, slots := 6, locals := 132 }) G [(cI, .int)] (wx cI oz hz da la saz h2 da2 la2 sa2 camez (Dz, Lz, Sz, nz, cz, gz) (D2, L2, S2, n2, x2, y2)) (wx cI oz hz da la saz h2 da2 la2 sa2 (camez + 1) (comeF (Dz, Lz, Sz, nz, cz, gz) (nI camez) xz) (D2, L2, S2, n2, x2, y2)) [.ref oz, .int xz] (none) (nI camez) := by
  refine zBX (cc := cX1_come) (maxL := 3) (ret := (some .int)) (by decide) rfl (Nat.le_of_ble_eq_true rfl) ?_
  intro p e s m args below meth c0 A hF hr hlk hK hA hP hD hS hE hto ls hl
  have hF : CallFix p m c0 cX1_come 3 s args wsX1_come RX1 := hF
  have hx := hF.1
  have hb := hF.2.1
  have hown := hF.2.2.2.1
  have hts := hF.2.2.2.2
  have hf19 := hts (.fieldLink RX1 19 "SnoringDukes" "numbered" "I") (by decide +kernel)
  have hf10 := hts (.fieldLink RX1 10 "SnoringDukes" "heap" "LSnoringDukes$WeakHeap;") (by decide +kernel)
  have hinX1 : ∀ wz ∈ wsX10, wz ∈ wsX1_come := by decide +kernel
  have hl : lv_has ls 3 [(0, .ref oz), (1, .int xz)] := hl
  refine lv_iload_n hx hb dX1_come_0 rfl (lv_at hl 1 rfl) ?_
  refine zK_si (av := [.int xz]) (rest := []) hF (d_isUp l G xz) (cwS 1 hts gX1_come_X1_isUpToLoudest rfl rfl rfl (by decide +kernel) ⟨Nat.le_of_ble_eq_true rfl, Nat.le_of_ble_eq_true rfl⟩) hK hP hD hS hA (isC := []) (isR := [0, 1, 2, 3, 4, 5, 6, 7, 8]) (perm := [0, 1, 2, 3, 4, 5, 6, 7, 8]) (wr := wx cI oz hz da la saz h2 da2 la2 sa2 camez (Dz, Lz, Sz, nz, cz, gz) (D2, L2, S2, n2, x2, y2)) (wN := wx cI oz hz da la saz h2 da2 la2 sa2 camez (Dz, Lz, Sz, nz, cz, gz) (D2, L2, S2, n2, x2, y2)) ⟨rfl, by decide, rfl, by decide, (fun _ _ hz => by cases hz), rfl, by decide⟩ [] rfl rfl hl.1 rfl (Nat.le_of_ble_eq_true rfl) dX1_come_1 ⟨Nat.le_of_ble_eq_true rfl, Nat.le_of_ble_eq_true rfl⟩ (fun H locs hP hD hS => ?_)
  refine zN (nI 1) (y := (bI (isO xz (nI 0) (nI 999)))) (by rw [hok]; rfl) ?_
  refine lv_if_ne (tgt := 17) hx hb dX1_come_4 (by decide) (fun hc4 => ?_) (fun hc4 => ?_)
  · skip
    have k4 : 0 < 1 := k0_ne (by omega) hc4
    refine lv_aload_n hx hb dX1_come_17 rfl (lv_at hl 0 rfl) ?_
    refine lv_iconst (v := nI 1) hx hb dX1_come_18 (by decide) ?_
    refine zK_vy (As := [.int (nI 1)]) (rest := []) hF (d_hasRoomFor l G cI oz hz da la saz h2 da2 la2 sa2 (camez) (Dz) (Lz) (Sz) (nz) (cz) (gz) (D2) (L2) (S2) (n2) (x2) (y2) hn hc9 hS1 1 (by omega)) (cwV 1 hts gX1_come_X1_hasRoomFor rfl rfl rfl (by decide +kernel) ⟨Nat.le_of_ble_eq_true rfl, Nat.le_of_ble_eq_true rfl⟩) hK hP hD hS hA hE (ci := 1) (q0 := 0) rfl rfl rfl (isC := [0, 1, 2, 3, 4, 5, 6, 7, 8]) (isR := []) (perm := [0, 1, 2, 3, 4, 5, 6, 7, 8]) (wr := []) (wN := wx cI oz hz da la saz h2 da2 la2 sa2 camez (Dz, Lz, Sz, nz, cz, gz) (D2, L2, S2, n2, x2, y2)) ⟨rfl, by decide, rfl, rfl, (fun _ hz => by cases hz), rfl, by decide⟩ [0] rfl rfl hl.1 rfl (Nat.le_of_ble_eq_true rfl) dX1_come_19 ⟨Nat.le_of_ble_eq_true rfl, Nat.le_of_ble_eq_true rfl⟩ (fun H locs hP hD hS => ?_)
    refine zN (nI 1) (y := (bI (decide (nz + 1 ≤ 63) && decide (camez + 1 ≤ 500)))) (z_roomt (by omega) (by omega)) ?_
    refine lv_if_ne (tgt := 35) hx hb dX1_come_22 (by decide) (fun hc22 => ?_) (fun hc22 => ?_)
    · skip
      have k22 : 0 < 1 := k0_ne (by omega) hc22
      refine lv_aload_n hx hb dX1_come_35 rfl (lv_at hl 0 rfl) ?_
      refine va_get (D := G) (ci := 1) (v := .int (nI camez)) (C := RX1) (T := TX1) (N := 3) hx hb hts hinX1 hown hK hP 0 rfl rfl 2 (by decide) hf19 (fun _ h9 => h9) rfl dX1_come_36 ?_
      refine lv_istore_n (lv' := [(2, .int (nI camez)), (0, .ref oz), (1, .int xz)]) hx hb dX1_come_39 rfl hl (by decide) rfl (fun ls hl => ?_)
      refine lv_aload_n hx hb dX1_come_40 rfl (lv_at hl 1 rfl) ?_
      refine lv_dup hx hb dX1_come_41 rfl ?_
      refine va_get (D := G) (ci := 1) (v := .int (nI camez)) (C := RX1) (T := TX1) (N := 3) hx hb hts hinX1 hown hK hP 0 rfl rfl 2 (by decide) hf19 (fun _ h9 => h9) rfl dX1_come_42 ?_
      refine lv_iconst (v := nI 1) hx hb dX1_come_45 (by decide) ?_
      refine lv_iadd hx hb dX1_come_46 ?_
      refine zN (nI (camez + 1)) (y := ((nI camez) + (nI 1))) (nI_add _ _) ?_
      refine va_put (D := G) (ci := 1) (v := .int (nI (camez + 1))) (ty := .int) (C := RX1) (T := TX1) (N := 3) hx hb hts hinX1 tyX1 tyX1_ok nmX1 hown hK hP hD hS 0 rfl rfl 2 (by decide) hf19 (fun _ h9 => h9) rfl (by decide +kernel) rfl rfl (Nat.le_of_ble_eq_true rfl) dX1_come_47 (fun H locs hP hD hS => ?_)
      have hP : va_P G vwCl (wx cI oz hz da la saz h2 da2 la2 sa2 (camez + 1) (Dz, Lz, Sz, nz, cz, gz) (D2, L2, S2, n2, x2, y2)) H := hP
      have hD : va_D A (wx cI oz hz da la saz h2 da2 la2 sa2 (camez + 1) (Dz, Lz, Sz, nz, cz, gz) (D2, L2, S2, n2, x2, y2)) := hD
      refine lv_aload_n hx hb dX1_come_50 rfl (lv_at hl 1 rfl) ?_
      refine va_get (D := G) (ci := 1) (v := .ref hz) (C := RX1) (T := TX1) (N := 3) hx hb hts hinX1 hown hK hP 0 rfl rfl 0 (by decide) hf10 (fun _ h9 => h9) rfl dX1_come_51 ?_
      refine lv_iload_n hx hb dX1_come_54 rfl (lv_at hl 0 rfl) ?_
      refine lv_iload_n hx hb dX1_come_55 rfl (lv_at hl 2 rfl) ?_
      refine zK_vv (As := [.int (nI camez), .int xz]) (rest := []) hF (c_insert l G cI hz da la saz (Dz) (Lz) (Sz) (nz) (cz) (gz) (by omega) hS1 (nI camez) xz) (cwV 2 hts gX1_come_X0_insert rfl rfl rfl (by decide +kernel) ⟨Nat.le_of_ble_eq_true rfl, Nat.le_of_ble_eq_true rfl⟩) hK hP hD hS hA (ci := 0) (q0 := 1) rfl rfl rfl (isC := [1, 2, 3, 4]) (isR := [0, 5, 6, 7, 8]) (perm := [0, 5, 6, 7, 8, 1, 2, 3, 4]) (wr := (oz, .inr (1, [.ref hz, .ref h2, .int (nI (camez + 1))])) :: wh cI h2 da2 la2 sa2 (D2, L2, S2, n2, x2, y2)) (wN := wx cI oz hz da la saz h2 da2 la2 sa2 (camez + 1) (comeF (Dz, Lz, Sz, nz, cz, gz) (nI camez) xz) (D2, L2, S2, n2, x2, y2)) ⟨rfl, by decide, rfl, by decide, by decide, rfl, by decide⟩ [0] rfl rfl hl.1 rfl (Nat.le_of_ble_eq_true rfl) dX1_come_56 ⟨Nat.le_of_ble_eq_true rfl, Nat.le_of_ble_eq_true rfl⟩ (fun H locs hP hD hS => ?_)
      refine lv_iload_n hx hb dX1_come_59 rfl (lv_at hl 0 rfl) ?_
      exact zEX_i hF hr hlk rfl hK hP hD hS (Nat.le_of_ble_eq_true rfl) (Nat.le_of_ble_eq_true rfl) dX1_come_60
    · exact absurd hc22 (by decide)
  · exact absurd hc4 (by decide)
set_option maxHeartbeats 4000000 in
set_option maxRecDepth 100000 in
theorem d_leave_1 (l : Launch) (hst : l.stackTraces = false) (G : va_G) (cI : ClassId) (oz hz da la saz h2 da2 la2 sa2 : Nat) (camez : Nat) (Dz Lz Sz : Fn) (nz : Nat) (cz gz : Int32) (D2 L2 S2 : Fn) (n2 : Nat) (x2 y2 : Int32) (hn : nz ≤ 63) (hc9 : camez ≤ 500) (hS1 : okS Sz) (h0 : nz = 0) : zX_i l yX1_leave wsX1_leave ({ frames := 6, cells := 1, slots := 6, locals := 107 }) G [(cI, .int)] (wx cI oz hz da la saz h2 da2 la2 sa2 camez (Dz, Lz, Sz, nz, cz, gz) (D2, L2, S2, n2, x2, y2)) (wx cI oz hz da la saz h2 da2 la2 sa2 camez (Dz, Lz, Sz, nz, cz, gz) (D2, L2, S2, n2, x2, y2)) [.ref oz] (some zIS) (nI 0) := by
  refine zBX (cc := cX1_leave) (maxL := 1) (ret := (some .int)) (by decide) rfl (Nat.le_of_ble_eq_true rfl) ?_
  intro p e s m args below meth c0 A hF hr hlk hK hA hP hD hS hE hto ls hl
  have hF : CallFix p m c0 cX1_leave 1 s args wsX1_leave RX1 := hF
  have hx := hF.1
  have hb := hF.2.1
  have hown := hF.2.2.2.1
  have hts := hF.2.2.2.2
  have hf10 := hts (.fieldLink RX1 10 "SnoringDukes" "heap" "LSnoringDukes$WeakHeap;") (by decide +kernel)
  have hf61 := va_Nw.use (A := args) rfl hE.1.1
  have hinX0 : ∀ wz ∈ wsX00, wz ∈ wsX1_leave := by decide +kernel
  have hinX1 : ∀ wz ∈ wsX10, wz ∈ wsX1_leave := by decide +kernel
  have hl : lv_has ls 1 [(0, .ref oz)] := hl
  refine lv_aload_n hx hb dX1_leave_0 rfl (lv_at hl 0 rfl) ?_
  refine va_get (D := G) (ci := 1) (v := .ref hz) (C := RX1) (T := TX1) (N := 3) hx hb hts hinX1 hown hK hP 0 rfl rfl 0 (by decide) hf10 (fun _ h9 => h9) rfl dX1_leave_1 ?_
  refine va_getN (D := G) (ci := 0) (v := .int (nI nz)) (C := RX0) (T := TX0) (N := 6) hx hb hts hinX0 hown hK hP 1 rfl rfl 3 (by decide) hf61 (fun _ h9 => h9) rfl dX1_leave_4 ?_
  refine lv_if_ne (tgt := 20) hx hb dX1_leave_7 (by decide) (fun hc7 => ?_) (fun hc7 => ?_)
  · skip
    have k7 : 0 < nz := k0_ne (by omega) hc7
    exact absurd k7 (by omega)
  · skip
    have k7 : nz = 0 := k0_eq (by omega) hc7
    exact zT (cls := zIS) (text := "nobody lies here") (ik := 37) (is := 64) (ic := 41) hF hlk hst hE hto (by decide +kernel) hE.2.2.1.1.2.1 (by decide +kernel) (by decide +kernel) (by decide +kernel) (by decide +kernel) (by decide +kernel) (by decide +kernel) hK hP hD hS hl.1 dX1_leave_10 dX1_leave_13 dX1_leave_14 dX1_leave_16 dX1_leave_19 (Nat.le_of_ble_eq_true rfl) (Nat.le_of_ble_eq_true rfl) (Nat.le_of_ble_eq_true rfl) (Nat.le_of_ble_eq_true rfl)
set_option maxHeartbeats 4000000 in
set_option maxRecDepth 100000 in
theorem d_leave_0 (l : Launch) (hst : l.stackTraces = false) (G : va_G) (cI : ClassId) (oz hz da la saz h2 da2 la2 sa2 : Nat) (camez : Nat) (Dz Lz Sz : Fn) (nz : Nat) (cz gz : Int32) (D2 L2 S2 : Fn) (n2 : Nat) (x2 y2 : Int32) (hn : nz ≤ 63) (hc9 : camez ≤ 500) (hS1 : okS Sz) (hn1 : 1 ≤ nz) : zX_i l yX1_leave wsX1_leave ({ frames := 6, cells := 1, slots := 6, locals := 107 }) G [(cI, .int)] (wx cI oz hz da la saz h2 da2 la2 sa2 camez (Dz, Lz, Sz, nz, cz, gz) (D2, L2, S2, n2, x2, y2)) (wx cI oz hz da la saz h2 da2 la2 sa2 camez (rmF (Dz, Lz, Sz, nz, cz, gz)) (D2, L2, S2, n2, x2, y2)) [.ref oz] (none) (Dz 0) := by
  refine zBX (cc := cX1_leave) (maxL := 1) (ret := (some .int)) (by decide) rfl (Nat.le_of_ble_eq_true rfl) ?_
  intro p e s m args below meth c0 A hF hr hlk hK hA hP hD hS hE hto ls hl
  have hF : CallFix p m c0 cX1_leave 1 s args wsX1_leave RX1 := hF
  have hx := hF.1
  have hb := hF.2.1
  have hown := hF.2.2.2.1
  have hts := hF.2.2.2.2
  have hf10 := hts (.fieldLink RX1 10 "SnoringDukes" "heap" "LSnoringDukes$WeakHeap;") (by decide +kernel)
  have hf61 := va_Nw.use (A := args) rfl hE.1.1
  have hinX0 : ∀ wz ∈ wsX00, wz ∈ wsX1_leave := by decide +kernel
  have hinX1 : ∀ wz ∈ wsX10, wz ∈ wsX1_leave := by decide +kernel
  have hl : lv_has ls 1 [(0, .ref oz)] := hl
  refine lv_aload_n hx hb dX1_leave_0 rfl (lv_at hl 0 rfl) ?_
  refine va_get (D := G) (ci := 1) (v := .ref hz) (C := RX1) (T := TX1) (N := 3) hx hb hts hinX1 hown hK hP 0 rfl rfl 0 (by decide) hf10 (fun _ h9 => h9) rfl dX1_leave_1 ?_
  refine va_getN (D := G) (ci := 0) (v := .int (nI nz)) (C := RX0) (T := TX0) (N := 6) hx hb hts hinX0 hown hK hP 1 rfl rfl 3 (by decide) hf61 (fun _ h9 => h9) rfl dX1_leave_4 ?_
  refine lv_if_ne (tgt := 20) hx hb dX1_leave_7 (by decide) (fun hc7 => ?_) (fun hc7 => ?_)
  · skip
    have k7 : 0 < nz := k0_ne (by omega) hc7
    refine lv_aload_n hx hb dX1_leave_20 rfl (lv_at hl 0 rfl) ?_
    refine va_get (D := G) (ci := 1) (v := .ref hz) (C := RX1) (T := TX1) (N := 3) hx hb hts hinX1 hown hK hP 0 rfl rfl 0 (by decide) hf10 (fun _ h9 => h9) rfl dX1_leave_21 ?_
    refine zK_vi (As := []) (rest := []) hF (c_removeTop l G cI hz da la saz (Dz) (Lz) (Sz) (nz) (cz) (gz) (by omega) (by omega) hS1) (cwV 0 hts gX1_leave_X0_removeTop rfl rfl rfl (by decide +kernel) ⟨Nat.le_of_ble_eq_true rfl, Nat.le_of_ble_eq_true rfl⟩) hK hP hD hS hA (ci := 0) (q0 := 1) rfl rfl rfl (isC := [1, 2, 3, 4]) (isR := [0, 5, 6, 7, 8]) (perm := [0, 5, 6, 7, 8, 1, 2, 3, 4]) (wr := (oz, .inr (1, [.ref hz, .ref h2, .int (nI camez)])) :: wh cI h2 da2 la2 sa2 (D2, L2, S2, n2, x2, y2)) (wN := wx cI oz hz da la saz h2 da2 la2 sa2 camez (rmF (Dz, Lz, Sz, nz, cz, gz)) (D2, L2, S2, n2, x2, y2)) ⟨rfl, by decide, rfl, by decide, by decide, rfl, by decide⟩ [0] rfl rfl hl.1 rfl (Nat.le_of_ble_eq_true rfl) dX1_leave_24 ⟨Nat.le_of_ble_eq_true rfl, Nat.le_of_ble_eq_true rfl⟩ (fun H locs hP hD hS => ?_)
    exact zEX_i hF hr hlk rfl hK hP hD hS (Nat.le_of_ble_eq_true rfl) (Nat.le_of_ble_eq_true rfl) dX1_leave_27
  · skip
    have k7 : nz = 0 := k0_eq (by omega) hc7
    exact absurd k7 (by omega)
set_option maxHeartbeats 4000000 in
set_option maxRecDepth 100000 in
theorem d_hush_1 (l : Launch) (hst : l.stackTraces = false) (G : va_G) (cI : ClassId) (oz hz da la saz h2 da2 la2 sa2 : Nat) (camez : Nat) (Dz Lz Sz : Fn) (nz : Nat) (cz gz : Int32) (D2 L2 S2 : Fn) (n2 : Nat) (x2 y2 : Int32) (hn : nz ≤ 63) (hc9 : camez ≤ 500) (hS1 : okS Sz) (xz yz : Int32) (hno : ¬ fnd Dz xz nz < nz) : zX_i l yX1_hush wsX1_hush ({ frames := 6, cells := 1, slots := 6, locals := 131 }) G [(cI, .int)] (wx cI oz hz da la saz h2 da2 la2 sa2 camez (Dz, Lz, Sz, nz, cz, gz) (D2, L2, S2, n2, x2, y2)) (wx cI oz hz da la saz h2 da2 la2 sa2 camez (Dz, Lz, Sz, nz, cz, gz) (D2, L2, S2, n2, x2, y2)) [.ref oz, .int xz, .int yz] (some zIX) (nI 0) := by
  refine zBX (cc := cX1_hush) (maxL := 4) (ret := (some .int)) (by decide) rfl (Nat.le_of_ble_eq_true rfl) ?_
  intro p e s m args below meth c0 A hF hr hlk hK hA hP hD hS hE hto ls hl
  have hF : CallFix p m c0 cX1_hush 4 s args wsX1_hush RX1 := hF
  have hx := hF.1
  have hb := hF.2.1
  have hown := hF.2.2.2.1
  have hts := hF.2.2.2.2
  have hf10 := hts (.fieldLink RX1 10 "SnoringDukes" "heap" "LSnoringDukes$WeakHeap;") (by decide +kernel)
  have hinX1 : ∀ wz ∈ wsX10, wz ∈ wsX1_hush := by decide +kernel
  have hl : lv_has ls 4 [(0, .ref oz), (1, .int xz), (2, .int yz)] := hl
  refine lv_aload_n hx hb dX1_hush_0 rfl (lv_at hl 0 rfl) ?_
  refine va_get (D := G) (ci := 1) (v := .ref hz) (C := RX1) (T := TX1) (N := 3) hx hb hts hinX1 hown hK hP 0 rfl rfl 0 (by decide) hf10 (fun _ h9 => h9) rfl dX1_hush_1 ?_
  refine lv_iload_n hx hb dX1_hush_4 rfl (lv_at hl 1 rfl) ?_
  refine zK_vi (As := [.int xz]) (rest := []) hF (c_find l G cI hz da la saz (Dz) (Lz) (Sz) (nz) (cz) (gz) hn xz) (cwV 1 hts gX1_hush_X0_find rfl rfl rfl (by decide +kernel) ⟨Nat.le_of_ble_eq_true rfl, Nat.le_of_ble_eq_true rfl⟩) hK hP hD hS hA (ci := 0) (q0 := 1) rfl rfl rfl (isC := [1, 2, 3, 4]) (isR := [0, 5, 6, 7, 8]) (perm := [0, 5, 6, 7, 8, 1, 2, 3, 4]) (wr := (oz, .inr (1, [.ref hz, .ref h2, .int (nI camez)])) :: wh cI h2 da2 la2 sa2 (D2, L2, S2, n2, x2, y2)) (wN := wx cI oz hz da la saz h2 da2 la2 sa2 camez (Dz, Lz, Sz, nz, cz, gz) (D2, L2, S2, n2, x2, y2)) ⟨rfl, by decide, rfl, by decide, by decide, rfl, by decide⟩ [0] rfl rfl hl.1 rfl (Nat.le_of_ble_eq_true rfl) dX1_hush_5 ⟨Nat.le_of_ble_eq_true rfl, Nat.le_of_ble_eq_true rfl⟩ (fun H locs hP hD hS => ?_)
  refine zN (-1) (y := (fndI Dz nz xz)) (fndI_no hno) ?_
  refine lv_istore_n (lv' := [(3, .int (-1)), (0, .ref oz), (1, .int xz), (2, .int yz)]) hx hb dX1_hush_8 rfl hl (by decide) rfl (fun ls hl => ?_)
  refine lv_iload_n hx hb dX1_hush_9 rfl (lv_at hl 0 rfl) ?_
  refine lv_iconst (v := (-1)) hx hb dX1_hush_10 (by decide) ?_
  refine lv_icmp_ne (tgt := 24) hx hb dX1_hush_11 (by decide) (fun hc11 => ?_) (fun hc11 => ?_)
  · exact absurd hc11 (by decide)
  · skip
    exact zT (cls := zIX) (text := "he does not lie here") (ik := 74) (is := 76) (ic := 78) hF hlk hst hE hto (by decide +kernel) hE.2.2.1.1.2.2 (by decide +kernel) (by decide +kernel) (by decide +kernel) (by decide +kernel) (by decide +kernel) (by decide +kernel) hK hP hD hS hl.1 dX1_hush_14 dX1_hush_17 dX1_hush_18 dX1_hush_20 dX1_hush_23 (Nat.le_of_ble_eq_true rfl) (Nat.le_of_ble_eq_true rfl) (Nat.le_of_ble_eq_true rfl) (Nat.le_of_ble_eq_true rfl)
set_option maxHeartbeats 4000000 in
set_option maxRecDepth 100000 in
theorem d_hush_2 (l : Launch) (hst : l.stackTraces = false) (G : va_G) (cI : ClassId) (oz hz da la saz h2 da2 la2 sa2 : Nat) (camez : Nat) (Dz Lz Sz : Fn) (nz : Nat) (cz gz : Int32) (D2 L2 S2 : Fn) (n2 : Nat) (x2 y2 : Int32) (hn : nz ≤ 63) (hc9 : camez ≤ 500) (hS1 : okS Sz) (bz : Nat) (hb9 : bz < nz) (xz : Int32) (hf : fnd Dz xz nz = bz) (yz : Int32) (hbad : isO yz (nI 0) (Lz bz) = false) : zX_i l yX1_hush wsX1_hush ({ frames := 6, cells := 1, slots := 6, locals := 131 }) G [(cI, .int)] (wx cI oz hz da la saz h2 da2 la2 sa2 camez (Dz, Lz, Sz, nz, cz, gz) (D2, L2, S2, n2, x2, y2)) (wx cI oz hz da la saz h2 da2 la2 sa2 camez (Dz, Lz, Sz, nz, cz, gz) (D2, L2, S2, n2, x2, y2)) [.ref oz, .int xz, .int yz] (some zIA) (nI 0) := by
  refine zBX (cc := cX1_hush) (maxL := 4) (ret := (some .int)) (by decide) rfl (Nat.le_of_ble_eq_true rfl) ?_
  intro p e s m args below meth c0 A hF hr hlk hK hA hP hD hS hE hto ls hl
  have hF : CallFix p m c0 cX1_hush 4 s args wsX1_hush RX1 := hF
  have hx := hF.1
  have hb := hF.2.1
  have hown := hF.2.2.2.1
  have hts := hF.2.2.2.2
  have hf10 := hts (.fieldLink RX1 10 "SnoringDukes" "heap" "LSnoringDukes$WeakHeap;") (by decide +kernel)
  have hinX1 : ∀ wz ∈ wsX10, wz ∈ wsX1_hush := by decide +kernel
  have hl : lv_has ls 4 [(0, .ref oz), (1, .int xz), (2, .int yz)] := hl
  refine lv_aload_n hx hb dX1_hush_0 rfl (lv_at hl 0 rfl) ?_
  refine va_get (D := G) (ci := 1) (v := .ref hz) (C := RX1) (T := TX1) (N := 3) hx hb hts hinX1 hown hK hP 0 rfl rfl 0 (by decide) hf10 (fun _ h9 => h9) rfl dX1_hush_1 ?_
  refine lv_iload_n hx hb dX1_hush_4 rfl (lv_at hl 1 rfl) ?_
  refine zK_vi (As := [.int xz]) (rest := []) hF (c_find l G cI hz da la saz (Dz) (Lz) (Sz) (nz) (cz) (gz) hn xz) (cwV 1 hts gX1_hush_X0_find rfl rfl rfl (by decide +kernel) ⟨Nat.le_of_ble_eq_true rfl, Nat.le_of_ble_eq_true rfl⟩) hK hP hD hS hA (ci := 0) (q0 := 1) rfl rfl rfl (isC := [1, 2, 3, 4]) (isR := [0, 5, 6, 7, 8]) (perm := [0, 5, 6, 7, 8, 1, 2, 3, 4]) (wr := (oz, .inr (1, [.ref hz, .ref h2, .int (nI camez)])) :: wh cI h2 da2 la2 sa2 (D2, L2, S2, n2, x2, y2)) (wN := wx cI oz hz da la saz h2 da2 la2 sa2 camez (Dz, Lz, Sz, nz, cz, gz) (D2, L2, S2, n2, x2, y2)) ⟨rfl, by decide, rfl, by decide, by decide, rfl, by decide⟩ [0] rfl rfl hl.1 rfl (Nat.le_of_ble_eq_true rfl) dX1_hush_5 ⟨Nat.le_of_ble_eq_true rfl, Nat.le_of_ble_eq_true rfl⟩ (fun H locs hP hD hS => ?_)
  refine zN (nI bz) (y := (fndI Dz nz xz)) (fndI_at hf hb9) ?_
  refine lv_istore_n (lv' := [(3, .int (nI bz)), (0, .ref oz), (1, .int xz), (2, .int yz)]) hx hb dX1_hush_8 rfl hl (by decide) rfl (fun ls hl => ?_)
  refine lv_iload_n hx hb dX1_hush_9 rfl (lv_at hl 0 rfl) ?_
  refine lv_iconst (v := (-1)) hx hb dX1_hush_10 (by decide) ?_
  refine lv_icmp_ne (tgt := 24) hx hb dX1_hush_11 (by decide) (fun hc11 => ?_) (fun hc11 => ?_)
  · skip
    refine lv_iload_n hx hb dX1_hush_24 rfl (lv_at hl 3 rfl) ?_
    refine lv_if_lt (tgt := 40) hx hb dX1_hush_25 (by decide) (fun hc25 => ?_) (fun hc25 => ?_)
    · skip
      exact zT (cls := zIA) (text := "loudness must be 0 up to what he has") (ik := 27) (is := 82) (ic := 31) hF hlk hst hE hto (by decide +kernel) hE.2.2.1.1.1 (by decide +kernel) (by decide +kernel) (by decide +kernel) (by decide +kernel) (by decide +kernel) (by decide +kernel) hK hP hD hS hl.1 dX1_hush_40 dX1_hush_43 dX1_hush_44 dX1_hush_46 dX1_hush_49 (Nat.le_of_ble_eq_true rfl) (Nat.le_of_ble_eq_true rfl) (Nat.le_of_ble_eq_true rfl) (Nat.le_of_ble_eq_true rfl)
    · skip
      refine lv_iload_n hx hb dX1_hush_28 rfl (lv_at hl 3 rfl) ?_
      refine lv_aload_n hx hb dX1_hush_29 rfl (lv_at hl 1 rfl) ?_
      refine va_get (D := G) (ci := 1) (v := .ref hz) (C := RX1) (T := TX1) (N := 3) hx hb hts hinX1 hown hK hP 0 rfl rfl 0 (by decide) hf10 (fun _ h9 => h9) rfl dX1_hush_30 ?_
      refine lv_iload_n hx hb dX1_hush_33 rfl (lv_at hl 0 rfl) ?_
      refine zK_vi (As := [.int (nI bz)]) (rest := [.int yz]) hF (c_loudnessAt l G cI hz da la saz (Dz) (Lz) (Sz) (nz) (cz) (gz) (by omega) bz (by omega)) (cwV 1 hts gX1_hush_X0_loudnessAt rfl rfl rfl (by decide +kernel) ⟨Nat.le_of_ble_eq_true rfl, Nat.le_of_ble_eq_true rfl⟩) hK hP hD hS hA (ci := 0) (q0 := 1) rfl rfl rfl (isC := [1, 2, 3, 4]) (isR := [0, 5, 6, 7, 8]) (perm := [0, 5, 6, 7, 8, 1, 2, 3, 4]) (wr := (oz, .inr (1, [.ref hz, .ref h2, .int (nI camez)])) :: wh cI h2 da2 la2 sa2 (D2, L2, S2, n2, x2, y2)) (wN := wx cI oz hz da la saz h2 da2 la2 sa2 camez (Dz, Lz, Sz, nz, cz, gz) (D2, L2, S2, n2, x2, y2)) ⟨rfl, by decide, rfl, by decide, by decide, rfl, by decide⟩ [0] rfl rfl hl.1 rfl (Nat.le_of_ble_eq_true rfl) dX1_hush_34 ⟨Nat.le_of_ble_eq_true rfl, Nat.le_of_ble_eq_true rfl⟩ (fun H locs hP hD hS => ?_)
      refine zN (Lz bz) (y := (if bz < nz then Lz bz else -1)) (if_pos hb9) ?_
      refine lv_icmp_le (tgt := 50) hx hb dX1_hush_37 (by decide) (fun hc37 => ?_) (fun hc37 => ?_)
      · skip
        exact absurd hbad (by rw [isO_tt (a := nI 0) hc25 hc37]; decide)
      · skip
        exact zT (cls := zIA) (text := "loudness must be 0 up to what he has") (ik := 27) (is := 82) (ic := 31) hF hlk hst hE hto (by decide +kernel) hE.2.2.1.1.1 (by decide +kernel) (by decide +kernel) (by decide +kernel) (by decide +kernel) (by decide +kernel) (by decide +kernel) hK hP hD hS hl.1 dX1_hush_40 dX1_hush_43 dX1_hush_44 dX1_hush_46 dX1_hush_49 (Nat.le_of_ble_eq_true rfl) (Nat.le_of_ble_eq_true rfl) (Nat.le_of_ble_eq_true rfl) (Nat.le_of_ble_eq_true rfl)
  · skip
    exact absurd hc11 (nI_nm1 (by omega))
set_option maxHeartbeats 4000000 in
set_option maxRecDepth 100000 in
theorem d_hush_0 (l : Launch) (hst : l.stackTraces = false) (G : va_G) (cI : ClassId) (oz hz da la saz h2 da2 la2 sa2 : Nat) (camez : Nat) (Dz Lz Sz : Fn) (nz : Nat) (cz gz : Int32) (D2 L2 S2 : Fn) (n2 : Nat) (x2 y2 : Int32) (hn : nz ≤ 63) (hc9 : camez ≤ 500) (hS1 : okS Sz) (bz : Nat) (hb9 : bz < nz) (xz : Int32) (hf : fnd Dz xz nz = bz) (yz : Int32) (hok : isO yz (nI 0) (Lz bz) = true) : zX_i l yX1_hush wsX1_hush ({ frames := 6, cells := 1, slots := 6, locals := 131 }) G [(cI, .int)] (wx cI oz hz da la saz h2 da2 la2 sa2 camez (Dz, Lz, Sz, nz, cz, gz) (D2, L2, S2, n2, x2, y2)) (wx cI oz hz da la saz h2 da2 la2 sa2 camez ((riseF false 63 (setL (Dz, Lz, Sz, nz, cz, gz) bz yz) bz).1) (D2, L2, S2, n2, x2, y2)) [.ref oz, .int xz, .int yz] (none) (nI (riseF false 63 (setL (Dz, Lz, Sz, nz, cz, gz) bz yz) bz).2) := by
  refine zBX (cc := cX1_hush) (maxL := 4) (ret := (some .int)) (by decide) rfl (Nat.le_of_ble_eq_true rfl) ?_
  intro p e s m args below meth c0 A hF hr hlk hK hA hP hD hS hE hto ls hl
  have hF : CallFix p m c0 cX1_hush 4 s args wsX1_hush RX1 := hF
  have hx := hF.1
  have hb := hF.2.1
  have hown := hF.2.2.2.1
  have hts := hF.2.2.2.2
  have hf10 := hts (.fieldLink RX1 10 "SnoringDukes" "heap" "LSnoringDukes$WeakHeap;") (by decide +kernel)
  have hinX1 : ∀ wz ∈ wsX10, wz ∈ wsX1_hush := by decide +kernel
  have hl : lv_has ls 4 [(0, .ref oz), (1, .int xz), (2, .int yz)] := hl
  refine lv_aload_n hx hb dX1_hush_0 rfl (lv_at hl 0 rfl) ?_
  refine va_get (D := G) (ci := 1) (v := .ref hz) (C := RX1) (T := TX1) (N := 3) hx hb hts hinX1 hown hK hP 0 rfl rfl 0 (by decide) hf10 (fun _ h9 => h9) rfl dX1_hush_1 ?_
  refine lv_iload_n hx hb dX1_hush_4 rfl (lv_at hl 1 rfl) ?_
  refine zK_vi (As := [.int xz]) (rest := []) hF (c_find l G cI hz da la saz (Dz) (Lz) (Sz) (nz) (cz) (gz) hn xz) (cwV 1 hts gX1_hush_X0_find rfl rfl rfl (by decide +kernel) ⟨Nat.le_of_ble_eq_true rfl, Nat.le_of_ble_eq_true rfl⟩) hK hP hD hS hA (ci := 0) (q0 := 1) rfl rfl rfl (isC := [1, 2, 3, 4]) (isR := [0, 5, 6, 7, 8]) (perm := [0, 5, 6, 7, 8, 1, 2, 3, 4]) (wr := (oz, .inr (1, [.ref hz, .ref h2, .int (nI camez)])) :: wh cI h2 da2 la2 sa2 (D2, L2, S2, n2, x2, y2)) (wN := wx cI oz hz da la saz h2 da2 la2 sa2 camez (Dz, Lz, Sz, nz, cz, gz) (D2, L2, S2, n2, x2, y2)) ⟨rfl, by decide, rfl, by decide, by decide, rfl, by decide⟩ [0] rfl rfl hl.1 rfl (Nat.le_of_ble_eq_true rfl) dX1_hush_5 ⟨Nat.le_of_ble_eq_true rfl, Nat.le_of_ble_eq_true rfl⟩ (fun H locs hP hD hS => ?_)
  refine zN (nI bz) (y := (fndI Dz nz xz)) (fndI_at hf hb9) ?_
  refine lv_istore_n (lv' := [(3, .int (nI bz)), (0, .ref oz), (1, .int xz), (2, .int yz)]) hx hb dX1_hush_8 rfl hl (by decide) rfl (fun ls hl => ?_)
  refine lv_iload_n hx hb dX1_hush_9 rfl (lv_at hl 0 rfl) ?_
  refine lv_iconst (v := (-1)) hx hb dX1_hush_10 (by decide) ?_
  refine lv_icmp_ne (tgt := 24) hx hb dX1_hush_11 (by decide) (fun hc11 => ?_) (fun hc11 => ?_)
  · skip
    refine lv_iload_n hx hb dX1_hush_24 rfl (lv_at hl 3 rfl) ?_
    refine lv_if_lt (tgt := 40) hx hb dX1_hush_25 (by decide) (fun hc25 => ?_) (fun hc25 => ?_)
    · skip
      exact absurd hc25 (isO_lo (a := nI 0) hok)
    · skip
      refine lv_iload_n hx hb dX1_hush_28 rfl (lv_at hl 3 rfl) ?_
      refine lv_aload_n hx hb dX1_hush_29 rfl (lv_at hl 1 rfl) ?_
      refine va_get (D := G) (ci := 1) (v := .ref hz) (C := RX1) (T := TX1) (N := 3) hx hb hts hinX1 hown hK hP 0 rfl rfl 0 (by decide) hf10 (fun _ h9 => h9) rfl dX1_hush_30 ?_
      refine lv_iload_n hx hb dX1_hush_33 rfl (lv_at hl 0 rfl) ?_
      refine zK_vi (As := [.int (nI bz)]) (rest := [.int yz]) hF (c_loudnessAt l G cI hz da la saz (Dz) (Lz) (Sz) (nz) (cz) (gz) (by omega) bz (by omega)) (cwV 1 hts gX1_hush_X0_loudnessAt rfl rfl rfl (by decide +kernel) ⟨Nat.le_of_ble_eq_true rfl, Nat.le_of_ble_eq_true rfl⟩) hK hP hD hS hA (ci := 0) (q0 := 1) rfl rfl rfl (isC := [1, 2, 3, 4]) (isR := [0, 5, 6, 7, 8]) (perm := [0, 5, 6, 7, 8, 1, 2, 3, 4]) (wr := (oz, .inr (1, [.ref hz, .ref h2, .int (nI camez)])) :: wh cI h2 da2 la2 sa2 (D2, L2, S2, n2, x2, y2)) (wN := wx cI oz hz da la saz h2 da2 la2 sa2 camez (Dz, Lz, Sz, nz, cz, gz) (D2, L2, S2, n2, x2, y2)) ⟨rfl, by decide, rfl, by decide, by decide, rfl, by decide⟩ [0] rfl rfl hl.1 rfl (Nat.le_of_ble_eq_true rfl) dX1_hush_34 ⟨Nat.le_of_ble_eq_true rfl, Nat.le_of_ble_eq_true rfl⟩ (fun H locs hP hD hS => ?_)
      refine zN (Lz bz) (y := (if bz < nz then Lz bz else -1)) (if_pos hb9) ?_
      refine lv_icmp_le (tgt := 50) hx hb dX1_hush_37 (by decide) (fun hc37 => ?_) (fun hc37 => ?_)
      · skip
        refine lv_aload_n hx hb dX1_hush_50 rfl (lv_at hl 1 rfl) ?_
        refine va_get (D := G) (ci := 1) (v := .ref hz) (C := RX1) (T := TX1) (N := 3) hx hb hts hinX1 hown hK hP 0 rfl rfl 0 (by decide) hf10 (fun _ h9 => h9) rfl dX1_hush_51 ?_
        refine lv_iload_n hx hb dX1_hush_54 rfl (lv_at hl 0 rfl) ?_
        refine lv_iload_n hx hb dX1_hush_55 rfl (lv_at hl 3 rfl) ?_
        refine zK_vi (As := [.int (nI bz), .int yz]) (rest := []) hF (c_quieten l G cI hz da la saz (Dz) (Lz) (Sz) (nz) (cz) (gz) (by omega) hS1 bz (by omega) yz) (cwV 2 hts gX1_hush_X0_quieten rfl rfl rfl (by decide +kernel) ⟨Nat.le_of_ble_eq_true rfl, Nat.le_of_ble_eq_true rfl⟩) hK hP hD hS hA (ci := 0) (q0 := 1) rfl rfl rfl (isC := [1, 2, 3, 4]) (isR := [0, 5, 6, 7, 8]) (perm := [0, 5, 6, 7, 8, 1, 2, 3, 4]) (wr := (oz, .inr (1, [.ref hz, .ref h2, .int (nI camez)])) :: wh cI h2 da2 la2 sa2 (D2, L2, S2, n2, x2, y2)) (wN := wx cI oz hz da la saz h2 da2 la2 sa2 camez ((riseF false 63 (setL (Dz, Lz, Sz, nz, cz, gz) bz yz) bz).1) (D2, L2, S2, n2, x2, y2)) ⟨rfl, by decide, rfl, by decide, by decide, rfl, by decide⟩ [0] rfl rfl hl.1 rfl (Nat.le_of_ble_eq_true rfl) dX1_hush_56 ⟨Nat.le_of_ble_eq_true rfl, Nat.le_of_ble_eq_true rfl⟩ (fun H locs hP hD hS => ?_)
        exact zEX_i hF hr hlk rfl hK hP hD hS (Nat.le_of_ble_eq_true rfl) (Nat.le_of_ble_eq_true rfl) dX1_hush_59
      · skip
        exact absurd (isO_hi hok) hc37
  · skip
    exact absurd hc11 (nI_nm1 (by omega))
set_option maxHeartbeats 4000000 in
set_option maxRecDepth 100000 in
theorem d_fetch_1 (l : Launch) (hst : l.stackTraces = false) (G : va_G) (cI : ClassId) (oz hz da la saz h2 da2 la2 sa2 : Nat) (camez : Nat) (Dz Lz Sz : Fn) (nz : Nat) (cz gz : Int32) (D2 L2 S2 : Fn) (n2 : Nat) (x2 y2 : Int32) (hn : nz ≤ 63) (hc9 : camez ≤ 500) (hS1 : okS Sz) (xz : Int32) (hno : ¬ fnd Dz xz nz < nz) : zX_i l yX1_fetch wsX1_fetch ({ frames := 6, cells := 1, slots := 6, locals := 131 }) G [(cI, .int)] (wx cI oz hz da la saz h2 da2 la2 sa2 camez (Dz, Lz, Sz, nz, cz, gz) (D2, L2, S2, n2, x2, y2)) (wx cI oz hz da la saz h2 da2 la2 sa2 camez (Dz, Lz, Sz, nz, cz, gz) (D2, L2, S2, n2, x2, y2)) [.ref oz, .int xz] (some zIX) (nI 0) := by
  refine zBX (cc := cX1_fetch) (maxL := 4) (ret := (some .int)) (by decide) rfl (Nat.le_of_ble_eq_true rfl) ?_
  intro p e s m args below meth c0 A hF hr hlk hK hA hP hD hS hE hto ls hl
  have hF : CallFix p m c0 cX1_fetch 4 s args wsX1_fetch RX1 := hF
  have hx := hF.1
  have hb := hF.2.1
  have hown := hF.2.2.2.1
  have hts := hF.2.2.2.2
  have hf10 := hts (.fieldLink RX1 10 "SnoringDukes" "heap" "LSnoringDukes$WeakHeap;") (by decide +kernel)
  have hf52 := va_Nw.use (A := args) rfl hE.1.2.1
  have hinX0 : ∀ wz ∈ wsX00, wz ∈ wsX1_fetch := by decide +kernel
  have hinX1 : ∀ wz ∈ wsX10, wz ∈ wsX1_fetch := by decide +kernel
  have hl : lv_has ls 4 [(0, .ref oz), (1, .int xz)] := hl
  refine lv_aload_n hx hb dX1_fetch_0 rfl (lv_at hl 0 rfl) ?_
  refine va_get (D := G) (ci := 1) (v := .ref hz) (C := RX1) (T := TX1) (N := 3) hx hb hts hinX1 hown hK hP 0 rfl rfl 0 (by decide) hf10 (fun _ h9 => h9) rfl dX1_fetch_1 ?_
  refine lv_iload_n hx hb dX1_fetch_4 rfl (lv_at hl 1 rfl) ?_
  refine zK_vi (As := [.int xz]) (rest := []) hF (c_find l G cI hz da la saz (Dz) (Lz) (Sz) (nz) (cz) (gz) hn xz) (cwV 1 hts gX1_fetch_X0_find rfl rfl rfl (by decide +kernel) ⟨Nat.le_of_ble_eq_true rfl, Nat.le_of_ble_eq_true rfl⟩) hK hP hD hS hA (ci := 0) (q0 := 1) rfl rfl rfl (isC := [1, 2, 3, 4]) (isR := [0, 5, 6, 7, 8]) (perm := [0, 5, 6, 7, 8, 1, 2, 3, 4]) (wr := (oz, .inr (1, [.ref hz, .ref h2, .int (nI camez)])) :: wh cI h2 da2 la2 sa2 (D2, L2, S2, n2, x2, y2)) (wN := wx cI oz hz da la saz h2 da2 la2 sa2 camez (Dz, Lz, Sz, nz, cz, gz) (D2, L2, S2, n2, x2, y2)) ⟨rfl, by decide, rfl, by decide, by decide, rfl, by decide⟩ [0] rfl rfl hl.1 rfl (Nat.le_of_ble_eq_true rfl) dX1_fetch_5 ⟨Nat.le_of_ble_eq_true rfl, Nat.le_of_ble_eq_true rfl⟩ (fun H locs hP hD hS => ?_)
  refine zN (-1) (y := (fndI Dz nz xz)) (fndI_no hno) ?_
  refine lv_istore_n (lv' := [(2, .int (-1)), (0, .ref oz), (1, .int xz)]) hx hb dX1_fetch_8 rfl hl (by decide) rfl (fun ls hl => ?_)
  refine lv_iload_n hx hb dX1_fetch_9 rfl (lv_at hl 0 rfl) ?_
  refine lv_iconst (v := (-1)) hx hb dX1_fetch_10 (by decide) ?_
  refine lv_icmp_ne (tgt := 24) hx hb dX1_fetch_11 (by decide) (fun hc11 => ?_) (fun hc11 => ?_)
  · exact absurd hc11 (by decide)
  · skip
    exact zT (cls := zIX) (text := "he does not lie here") (ik := 74) (is := 76) (ic := 78) hF hlk hst hE hto (by decide +kernel) hE.2.2.1.1.2.2 (by decide +kernel) (by decide +kernel) (by decide +kernel) (by decide +kernel) (by decide +kernel) (by decide +kernel) hK hP hD hS hl.1 dX1_fetch_14 dX1_fetch_17 dX1_fetch_18 dX1_fetch_20 dX1_fetch_23 (Nat.le_of_ble_eq_true rfl) (Nat.le_of_ble_eq_true rfl) (Nat.le_of_ble_eq_true rfl) (Nat.le_of_ble_eq_true rfl)
set_option maxHeartbeats 4000000 in
set_option maxRecDepth 100000 in
theorem d_fetch_0 (l : Launch) (hst : l.stackTraces = false) (G : va_G) (cI : ClassId) (oz hz da la saz h2 da2 la2 sa2 : Nat) (camez : Nat) (Dz Lz Sz : Fn) (nz : Nat) (cz gz : Int32) (D2 L2 S2 : Fn) (n2 : Nat) (x2 y2 : Int32) (hn : nz ≤ 63) (hc9 : camez ≤ 500) (hS1 : okS Sz) (bz : Nat) (hb9 : bz < nz) (xz : Int32) (hf : fnd Dz xz nz = bz)  : zX_i l yX1_fetch wsX1_fetch ({ frames := 6, cells := 1, slots := 6, locals := 131 }) G [(cI, .int)] (wx cI oz hz da la saz h2 da2 la2 sa2 camez (Dz, Lz, Sz, nz, cz, gz) (D2, L2, S2, n2, x2, y2)) (wx cI oz hz da la saz h2 da2 la2 sa2 camez (rmF (riseF false 63 (setL (Dz, Lz, Sz, nz, cz, gz) bz (-1)) bz).1) (D2, L2, S2, n2, x2, y2)) [.ref oz, .int xz] (none) (wc (rmF (riseF false 63 (setL (Dz, Lz, Sz, nz, cz, gz) bz (-1)) bz).1) - cz) := by
  refine zBX (cc := cX1_fetch) (maxL := 4) (ret := (some .int)) (by decide) rfl (Nat.le_of_ble_eq_true rfl) ?_
  intro p e s m args below meth c0 A hF hr hlk hK hA hP hD hS hE hto ls hl
  have hF : CallFix p m c0 cX1_fetch 4 s args wsX1_fetch RX1 := hF
  have hx := hF.1
  have hb := hF.2.1
  have hown := hF.2.2.2.1
  have hts := hF.2.2.2.2
  have hf10 := hts (.fieldLink RX1 10 "SnoringDukes" "heap" "LSnoringDukes$WeakHeap;") (by decide +kernel)
  have hf52 := va_Nw.use (A := args) rfl hE.1.2.1
  have hinX0 : ∀ wz ∈ wsX00, wz ∈ wsX1_fetch := by decide +kernel
  have hinX1 : ∀ wz ∈ wsX10, wz ∈ wsX1_fetch := by decide +kernel
  have hl : lv_has ls 4 [(0, .ref oz), (1, .int xz)] := hl
  refine lv_aload_n hx hb dX1_fetch_0 rfl (lv_at hl 0 rfl) ?_
  refine va_get (D := G) (ci := 1) (v := .ref hz) (C := RX1) (T := TX1) (N := 3) hx hb hts hinX1 hown hK hP 0 rfl rfl 0 (by decide) hf10 (fun _ h9 => h9) rfl dX1_fetch_1 ?_
  refine lv_iload_n hx hb dX1_fetch_4 rfl (lv_at hl 1 rfl) ?_
  refine zK_vi (As := [.int xz]) (rest := []) hF (c_find l G cI hz da la saz (Dz) (Lz) (Sz) (nz) (cz) (gz) hn xz) (cwV 1 hts gX1_fetch_X0_find rfl rfl rfl (by decide +kernel) ⟨Nat.le_of_ble_eq_true rfl, Nat.le_of_ble_eq_true rfl⟩) hK hP hD hS hA (ci := 0) (q0 := 1) rfl rfl rfl (isC := [1, 2, 3, 4]) (isR := [0, 5, 6, 7, 8]) (perm := [0, 5, 6, 7, 8, 1, 2, 3, 4]) (wr := (oz, .inr (1, [.ref hz, .ref h2, .int (nI camez)])) :: wh cI h2 da2 la2 sa2 (D2, L2, S2, n2, x2, y2)) (wN := wx cI oz hz da la saz h2 da2 la2 sa2 camez (Dz, Lz, Sz, nz, cz, gz) (D2, L2, S2, n2, x2, y2)) ⟨rfl, by decide, rfl, by decide, by decide, rfl, by decide⟩ [0] rfl rfl hl.1 rfl (Nat.le_of_ble_eq_true rfl) dX1_fetch_5 ⟨Nat.le_of_ble_eq_true rfl, Nat.le_of_ble_eq_true rfl⟩ (fun H locs hP hD hS => ?_)
  refine zN (nI bz) (y := (fndI Dz nz xz)) (fndI_at hf hb9) ?_
  refine lv_istore_n (lv' := [(2, .int (nI bz)), (0, .ref oz), (1, .int xz)]) hx hb dX1_fetch_8 rfl hl (by decide) rfl (fun ls hl => ?_)
  refine lv_iload_n hx hb dX1_fetch_9 rfl (lv_at hl 0 rfl) ?_
  refine lv_iconst (v := (-1)) hx hb dX1_fetch_10 (by decide) ?_
  refine lv_icmp_ne (tgt := 24) hx hb dX1_fetch_11 (by decide) (fun hc11 => ?_) (fun hc11 => ?_)
  · skip
    refine lv_aload_n hx hb dX1_fetch_24 rfl (lv_at hl 1 rfl) ?_
    refine va_get (D := G) (ci := 1) (v := .ref hz) (C := RX1) (T := TX1) (N := 3) hx hb hts hinX1 hown hK hP 0 rfl rfl 0 (by decide) hf10 (fun _ h9 => h9) rfl dX1_fetch_25 ?_
    refine va_getN (D := G) (ci := 0) (v := .int cz) (C := RX0) (T := TX0) (N := 6) hx hb hts hinX0 hown hK hP 1 rfl rfl 4 (by decide) hf52 (fun _ h9 => h9) rfl dX1_fetch_28 ?_
    refine lv_istore_n (lv' := [(3, .int cz), (2, .int (nI bz)), (0, .ref oz), (1, .int xz)]) hx hb dX1_fetch_31 rfl hl (by decide) rfl (fun ls hl => ?_)
    refine lv_aload_n hx hb dX1_fetch_32 rfl (lv_at hl 2 rfl) ?_
    refine va_get (D := G) (ci := 1) (v := .ref hz) (C := RX1) (T := TX1) (N := 3) hx hb hts hinX1 hown hK hP 0 rfl rfl 0 (by decide) hf10 (fun _ h9 => h9) rfl dX1_fetch_33 ?_
    refine lv_iload_n hx hb dX1_fetch_36 rfl (lv_at hl 1 rfl) ?_
    refine lv_iconst (v := (-1)) hx hb dX1_fetch_37 (by decide) ?_
    refine zK_vi (As := [.int (nI bz), .int (-1)]) (rest := []) hF (c_quieten l G cI hz da la saz (Dz) (Lz) (Sz) (nz) (cz) (gz) (by omega) hS1 bz (by omega) (-1)) (cwV 2 hts gX1_fetch_X0_quieten rfl rfl rfl (by decide +kernel) ⟨Nat.le_of_ble_eq_true rfl, Nat.le_of_ble_eq_true rfl⟩) hK hP hD hS hA (ci := 0) (q0 := 1) rfl rfl rfl (isC := [1, 2, 3, 4]) (isR := [0, 5, 6, 7, 8]) (perm := [0, 5, 6, 7, 8, 1, 2, 3, 4]) (wr := (oz, .inr (1, [.ref hz, .ref h2, .int (nI camez)])) :: wh cI h2 da2 la2 sa2 (D2, L2, S2, n2, x2, y2)) (wN := wx cI oz hz da la saz h2 da2 la2 sa2 camez ((riseF false 63 (setL (Dz, Lz, Sz, nz, cz, gz) bz (-1)) bz).1) (D2, L2, S2, n2, x2, y2)) ⟨rfl, by decide, rfl, by decide, by decide, rfl, by decide⟩ [0] rfl rfl hl.1 rfl (Nat.le_of_ble_eq_true rfl) dX1_fetch_38 ⟨Nat.le_of_ble_eq_true rfl, Nat.le_of_ble_eq_true rfl⟩ (fun H locs hP hD hS => ?_)
    refine lv_pop hx hb dX1_fetch_41 rfl ?_
    have hn7 : wn (riseF false 63 (setL (Dz, Lz, Sz, nz, cz, gz) bz (-1)) bz).1 = nz := riseF_n false 63 _ _
    have hS7 : okS (wS (riseF false 63 (setL (Dz, Lz, Sz, nz, cz, gz) bz (-1)) bz).1) := riseF_okS hS1
    refine lv_aload_n hx hb dX1_fetch_42 rfl (lv_at hl 2 rfl) ?_
    refine va_get (D := G) (ci := 1) (v := .ref hz) (C := RX1) (T := TX1) (N := 3) hx hb hts hinX1 hown hK hP 0 rfl rfl 0 (by decide) hf10 (fun _ h9 => h9) rfl dX1_fetch_43 ?_
    refine zK_vi (As := []) (rest := []) hF (c_removeTop l G cI hz da la saz (wD ((riseF false 63 (setL (Dz, Lz, Sz, nz, cz, gz) bz (-1)) bz).1)) (wL ((riseF false 63 (setL (Dz, Lz, Sz, nz, cz, gz) bz (-1)) bz).1)) (wS ((riseF false 63 (setL (Dz, Lz, Sz, nz, cz, gz) bz (-1)) bz).1)) (wn ((riseF false 63 (setL (Dz, Lz, Sz, nz, cz, gz) bz (-1)) bz).1)) (wc ((riseF false 63 (setL (Dz, Lz, Sz, nz, cz, gz) bz (-1)) bz).1)) (wg ((riseF false 63 (setL (Dz, Lz, Sz, nz, cz, gz) bz (-1)) bz).1)) (by omega) (by omega) hS7) (cwV 0 hts gX1_fetch_X0_removeTop rfl rfl rfl (by decide +kernel) ⟨Nat.le_of_ble_eq_true rfl, Nat.le_of_ble_eq_true rfl⟩) hK hP hD hS hA (ci := 0) (q0 := 1) rfl rfl rfl (isC := [1, 2, 3, 4]) (isR := [0, 5, 6, 7, 8]) (perm := [0, 5, 6, 7, 8, 1, 2, 3, 4]) (wr := (oz, .inr (1, [.ref hz, .ref h2, .int (nI camez)])) :: wh cI h2 da2 la2 sa2 (D2, L2, S2, n2, x2, y2)) (wN := wx cI oz hz da la saz h2 da2 la2 sa2 camez (rmF (wD ((riseF false 63 (setL (Dz, Lz, Sz, nz, cz, gz) bz (-1)) bz).1), wL ((riseF false 63 (setL (Dz, Lz, Sz, nz, cz, gz) bz (-1)) bz).1), wS ((riseF false 63 (setL (Dz, Lz, Sz, nz, cz, gz) bz (-1)) bz).1), wn ((riseF false 63 (setL (Dz, Lz, Sz, nz, cz, gz) bz (-1)) bz).1), wc ((riseF false 63 (setL (Dz, Lz, Sz, nz, cz, gz) bz (-1)) bz).1), wg ((riseF false 63 (setL (Dz, Lz, Sz, nz, cz, gz) bz (-1)) bz).1))) (D2, L2, S2, n2, x2, y2)) ⟨rfl, by decide, rfl, by decide, by decide, rfl, by decide⟩ [0] rfl rfl hl.1 rfl (Nat.le_of_ble_eq_true rfl) dX1_fetch_46 ⟨Nat.le_of_ble_eq_true rfl, Nat.le_of_ble_eq_true rfl⟩ (fun H locs hP hD hS => ?_)
    refine lv_pop hx hb dX1_fetch_49 rfl ?_
    refine lv_aload_n hx hb dX1_fetch_50 rfl (lv_at hl 2 rfl) ?_
    refine va_get (D := G) (ci := 1) (v := .ref hz) (C := RX1) (T := TX1) (N := 3) hx hb hts hinX1 hown hK hP 0 rfl rfl 0 (by decide) hf10 (fun _ h9 => h9) rfl dX1_fetch_51 ?_
    refine va_getN (D := G) (ci := 0) (v := .int (wc (rmF (wD ((riseF false 63 (setL (Dz, Lz, Sz, nz, cz, gz) bz (-1)) bz).1), wL ((riseF false 63 (setL (Dz, Lz, Sz, nz, cz, gz) bz (-1)) bz).1), wS ((riseF false 63 (setL (Dz, Lz, Sz, nz, cz, gz) bz (-1)) bz).1), wn ((riseF false 63 (setL (Dz, Lz, Sz, nz, cz, gz) bz (-1)) bz).1), wc ((riseF false 63 (setL (Dz, Lz, Sz, nz, cz, gz) bz (-1)) bz).1), wg ((riseF false 63 (setL (Dz, Lz, Sz, nz, cz, gz) bz (-1)) bz).1))))) (C := RX0) (T := TX0) (N := 6) hx hb hts hinX0 hown hK hP 1 rfl rfl 4 (by decide) hf52 (fun _ h9 => h9) rfl dX1_fetch_54 ?_
    refine lv_iload_n hx hb dX1_fetch_57 rfl (lv_at hl 0 rfl) ?_
    refine lv_isub hx hb dX1_fetch_58 ?_
    exact zEX_i hF hr hlk rfl hK hP hD hS (Nat.le_of_ble_eq_true rfl) (Nat.le_of_ble_eq_true rfl) dX1_fetch_59
  · skip
    exact absurd hc11 (nI_nm1 (by omega))
set_option maxHeartbeats 4000000 in
set_option maxRecDepth 100000 in
theorem d_comparisonsToEmpty (l : Launch) (G : va_G) (cI : ClassId) (oz hz da la saz h2 da2 la2 sa2 : Nat) (camez : Nat) (Dz Lz Sz : Fn) (nz : Nat) (cz gz : Int32) (D2 L2 S2 : Fn) (n2 : Nat) (x2 y2 : Int32) (hn : nz ≤ 63) (hc9 : camez ≤ 500) (hS1 : okS Sz) (hS2 : okS S2)  : zY_i l yX1_comparisonsToEmpty wsX1_comparisonsToEmpty ({ frames := 6, cells := 0, slots := 0, locals := 129 }) G [(cI, .int)] (wx cI oz hz da la saz h2 da2 la2 sa2 camez (Dz, Lz, Sz, nz, cz, gz) (D2, L2, S2, n2, x2, y2)) (wx cI oz hz da la saz h2 da2 la2 sa2 camez (Dz, Lz, Sz, nz, cz, gz) (rmsF nz (cpF (Dz, Lz, Sz, nz, cz, gz) (D2, L2, S2, n2, x2, y2)))) [.ref oz] 0 0 (wc (rmsF nz (cpF (Dz, Lz, Sz, nz, cz, gz) (D2, L2, S2, n2, x2, y2))) - cz) := by
  refine zBY (cc := cX1_comparisonsToEmpty) (maxL := 1) (ret := (some .int)) (by decide) rfl (Nat.le_of_ble_eq_true rfl) ?_
  intro p e s m args below meth c0 A hF hr hlk hK hA hP hD hS hE ls hl
  have hF : CallFix p m c0 cX1_comparisonsToEmpty 1 s args wsX1_comparisonsToEmpty RX1 := hF
  have hx := hF.1
  have hb := hF.2.1
  have hown := hF.2.2.2.1
  have hts := hF.2.2.2.2
  have hf16 := hts (.fieldLink RX1 16 "SnoringDukes" "trial" "LSnoringDukes$WeakHeap;") (by decide +kernel)
  have hf10 := hts (.fieldLink RX1 10 "SnoringDukes" "heap" "LSnoringDukes$WeakHeap;") (by decide +kernel)
  have hf61 := va_Nw.use (A := args) rfl hE.1.1
  have hf52 := va_Nw.use (A := args) rfl hE.1.2.1
  have hinX0 : ∀ wz ∈ wsX00, wz ∈ wsX1_comparisonsToEmpty := by decide +kernel
  have hinX1 : ∀ wz ∈ wsX10, wz ∈ wsX1_comparisonsToEmpty := by decide +kernel
  have hl : lv_has ls 1 [(0, .ref oz)] := hl
  refine lv_aload_n hx hb dX1_comparisonsToEmpty_0 rfl (lv_at hl 0 rfl) ?_
  refine va_get (D := G) (ci := 1) (v := .ref h2) (C := RX1) (T := TX1) (N := 3) hx hb hts hinX1 hown hK hP 0 rfl rfl 1 (by decide) hf16 (fun _ h9 => h9) rfl dX1_comparisonsToEmpty_1 ?_
  refine lv_aload_n hx hb dX1_comparisonsToEmpty_4 rfl (lv_at hl 0 rfl) ?_
  refine va_get (D := G) (ci := 1) (v := .ref hz) (C := RX1) (T := TX1) (N := 3) hx hb hts hinX1 hown hK hP 0 rfl rfl 0 (by decide) hf10 (fun _ h9 => h9) rfl dX1_comparisonsToEmpty_5 ?_
  refine zK_vv (As := [.ref hz]) (rest := []) hF (c_copyFrom l G cI h2 da2 la2 sa2 hz da la saz (D2) (L2) (S2) (n2) (x2) (y2) (Dz) (Lz) (Sz) (nz) (cz) (gz)) (cwV 1 hts gX1_comparisonsToEmpty_X0_copyFrom rfl rfl rfl (by decide +kernel) ⟨Nat.le_of_ble_eq_true rfl, Nat.le_of_ble_eq_true rfl⟩) hK hP hD hS hA (ci := 0) (q0 := 5) rfl rfl rfl (isC := [5, 6, 7, 8, 1, 2, 3, 4]) (isR := [0]) (perm := [0, 5, 6, 7, 8, 1, 2, 3, 4]) (wr := [(oz, .inr (1, [.ref hz, .ref h2, .int (nI camez)]))]) (wN := wx cI oz hz da la saz h2 da2 la2 sa2 camez (Dz, Lz, Sz, nz, cz, gz) (cpF (Dz, Lz, Sz, nz, cz, gz) (D2, L2, S2, n2, x2, y2))) ⟨rfl, by decide, rfl, by decide, by decide, rfl, by decide⟩ [0] rfl rfl hl.1 rfl (Nat.le_of_ble_eq_true rfl) dX1_comparisonsToEmpty_8 ⟨Nat.le_of_ble_eq_true rfl, Nat.le_of_ble_eq_true rfl⟩ (fun H locs hP hD hS => ?_)
  have hS8 : okS (wS (cpF (Dz, Lz, Sz, nz, cz, gz) (D2, L2, S2, n2, x2, y2))) := okS_fl hS1 hS2 63
  refine lv_aload_n hx hb dX1_comparisonsToEmpty_11 rfl (lv_at hl 0 rfl) ?_
  refine va_get (D := G) (ci := 1) (v := .ref h2) (C := RX1) (T := TX1) (N := 3) hx hb hts hinX1 hown hK hP 0 rfl rfl 1 (by decide) hf16 (fun _ h9 => h9) rfl dX1_comparisonsToEmpty_12 ?_
  refine lv_aload_n hx hb dX1_comparisonsToEmpty_15 rfl (lv_at hl 0 rfl) ?_
  refine va_get (D := G) (ci := 1) (v := .ref hz) (C := RX1) (T := TX1) (N := 3) hx hb hts hinX1 hown hK hP 0 rfl rfl 0 (by decide) hf10 (fun _ h9 => h9) rfl dX1_comparisonsToEmpty_16 ?_
  refine va_getN (D := G) (ci := 0) (v := .int (nI nz)) (C := RX0) (T := TX0) (N := 6) hx hb hts hinX0 hown hK hP 1 rfl rfl 3 (by decide) hf61 (fun _ h9 => h9) rfl dX1_comparisonsToEmpty_19 ?_
  refine zK_vv (As := [.int (nI nz)]) (rest := []) hF (c_removeTops l G cI h2 da2 la2 sa2 (wD (cpF (Dz, Lz, Sz, nz, cz, gz) (D2, L2, S2, n2, x2, y2))) (wL (cpF (Dz, Lz, Sz, nz, cz, gz) (D2, L2, S2, n2, x2, y2))) (wS (cpF (Dz, Lz, Sz, nz, cz, gz) (D2, L2, S2, n2, x2, y2))) (nz) (cz) (gz) hn hS8 nz (by omega)) (cwV 1 hts gX1_comparisonsToEmpty_X0_removeTops rfl rfl rfl (by decide +kernel) ⟨Nat.le_of_ble_eq_true rfl, Nat.le_of_ble_eq_true rfl⟩) hK hP hD hS hA (ci := 0) (q0 := 5) rfl rfl rfl (isC := [5, 6, 7, 8]) (isR := [0, 1, 2, 3, 4]) (perm := [0, 1, 2, 3, 4, 5, 6, 7, 8]) (wr := (oz, .inr (1, [.ref hz, .ref h2, .int (nI camez)])) :: wh cI hz da la saz (Dz, Lz, Sz, nz, cz, gz)) (wN := wx cI oz hz da la saz h2 da2 la2 sa2 camez (Dz, Lz, Sz, nz, cz, gz) (rmsF nz (wD (cpF (Dz, Lz, Sz, nz, cz, gz) (D2, L2, S2, n2, x2, y2)), wL (cpF (Dz, Lz, Sz, nz, cz, gz) (D2, L2, S2, n2, x2, y2)), wS (cpF (Dz, Lz, Sz, nz, cz, gz) (D2, L2, S2, n2, x2, y2)), nz, cz, gz))) ⟨rfl, by decide, rfl, by decide, by decide, rfl, by decide⟩ [0] rfl rfl hl.1 rfl (Nat.le_of_ble_eq_true rfl) dX1_comparisonsToEmpty_22 ⟨Nat.le_of_ble_eq_true rfl, Nat.le_of_ble_eq_true rfl⟩ (fun H locs hP hD hS => ?_)
  refine lv_aload_n hx hb dX1_comparisonsToEmpty_25 rfl (lv_at hl 0 rfl) ?_
  refine va_get (D := G) (ci := 1) (v := .ref h2) (C := RX1) (T := TX1) (N := 3) hx hb hts hinX1 hown hK hP 0 rfl rfl 1 (by decide) hf16 (fun _ h9 => h9) rfl dX1_comparisonsToEmpty_26 ?_
  refine va_getN (D := G) (ci := 0) (v := .int (wc (rmsF nz (wD (cpF (Dz, Lz, Sz, nz, cz, gz) (D2, L2, S2, n2, x2, y2)), wL (cpF (Dz, Lz, Sz, nz, cz, gz) (D2, L2, S2, n2, x2, y2)), wS (cpF (Dz, Lz, Sz, nz, cz, gz) (D2, L2, S2, n2, x2, y2)), nz, cz, gz)))) (C := RX0) (T := TX0) (N := 6) hx hb hts hinX0 hown hK hP 5 rfl rfl 4 (by decide) hf52 (fun _ h9 => h9) rfl dX1_comparisonsToEmpty_29 ?_
  refine lv_aload_n hx hb dX1_comparisonsToEmpty_32 rfl (lv_at hl 0 rfl) ?_
  refine va_get (D := G) (ci := 1) (v := .ref hz) (C := RX1) (T := TX1) (N := 3) hx hb hts hinX1 hown hK hP 0 rfl rfl 0 (by decide) hf10 (fun _ h9 => h9) rfl dX1_comparisonsToEmpty_33 ?_
  refine va_getN (D := G) (ci := 0) (v := .int cz) (C := RX0) (T := TX0) (N := 6) hx hb hts hinX0 hown hK hP 1 rfl rfl 4 (by decide) hf52 (fun _ h9 => h9) rfl dX1_comparisonsToEmpty_36 ?_
  refine lv_isub hx hb dX1_comparisonsToEmpty_39 ?_
  exact zEY_i hF hr hlk hK hP hD hS (Nat.le_of_ble_eq_true rfl) (Nat.le_of_ble_eq_true rfl) dX1_comparisonsToEmpty_40
set_option maxHeartbeats 4000000 in
set_option maxRecDepth 100000 in
theorem d_leavesAt_x (l : Launch) (hst : l.stackTraces = false) (G : va_G) (cI : ClassId) (oz hz da la saz h2 da2 la2 sa2 : Nat) (camez : Nat) (Dz Lz Sz : Fn) (nz : Nat) (cz gz : Int32) (D2 L2 S2 : Fn) (n2 : Nat) (x2 y2 : Int32) (hn : nz ≤ 63) (hc9 : camez ≤ 500) (hS1 : okS Sz) (hS2 : okS S2) (xz : Int32) (hno : hasI nz xz = false) : zX_i l yX1_leavesAt wsX1_leavesAt ({ frames := 6, cells := 1, slots := 6, locals := 129 }) G [(cI, .int)] (wx cI oz hz da la saz h2 da2 la2 sa2 camez (Dz, Lz, Sz, nz, cz, gz) (D2, L2, S2, n2, x2, y2)) (wx cI oz hz da la saz h2 da2 la2 sa2 camez (Dz, Lz, Sz, nz, cz, gz) (D2, L2, S2, n2, x2, y2)) [.ref oz, .int xz] (some zIX) (nI 0) := by
  refine zBX (cc := cX1_leavesAt) (maxL := 2) (ret := (some .int)) (by decide) rfl (Nat.le_of_ble_eq_true rfl) ?_
  intro p e s m args below meth c0 A hF hr hlk hK hA hP hD hS hE hto ls hl
  have hF : CallFix p m c0 cX1_leavesAt 2 s args wsX1_leavesAt RX1 := hF
  have hx := hF.1
  have hb := hF.2.1
  have hown := hF.2.2.2.1
  have hts := hF.2.2.2.2
  have hf10 := hts (.fieldLink RX1 10 "SnoringDukes" "heap" "LSnoringDukes$WeakHeap;") (by decide +kernel)
  have hf16 := hts (.fieldLink RX1 16 "SnoringDukes" "trial" "LSnoringDukes$WeakHeap;") (by decide +kernel)
  have hinX1 : ∀ wz ∈ wsX10, wz ∈ wsX1_leavesAt := by decide +kernel
  have hl : lv_has ls 2 [(0, .ref oz), (1, .int xz)] := hl
  refine lv_aload_n hx hb dX1_leavesAt_0 rfl (lv_at hl 0 rfl) ?_
  refine va_get (D := G) (ci := 1) (v := .ref hz) (C := RX1) (T := TX1) (N := 3) hx hb hts hinX1 hown hK hP 0 rfl rfl 0 (by decide) hf10 (fun _ h9 => h9) rfl dX1_leavesAt_1 ?_
  refine lv_iload_n hx hb dX1_leavesAt_4 rfl (lv_at hl 1 rfl) ?_
  refine zK_vi (As := [.int xz]) (rest := []) hF (c_has l G cI hz da la saz (Dz) (Lz) (Sz) (nz) (cz) (gz) hn xz) (cwV 1 hts gX1_leavesAt_X0_has rfl rfl rfl (by decide +kernel) ⟨Nat.le_of_ble_eq_true rfl, Nat.le_of_ble_eq_true rfl⟩) hK hP hD hS hA (ci := 0) (q0 := 1) rfl rfl rfl (isC := [1, 2, 3, 4]) (isR := [0, 5, 6, 7, 8]) (perm := [0, 5, 6, 7, 8, 1, 2, 3, 4]) (wr := (oz, .inr (1, [.ref hz, .ref h2, .int (nI camez)])) :: wh cI h2 da2 la2 sa2 (D2, L2, S2, n2, x2, y2)) (wN := wx cI oz hz da la saz h2 da2 la2 sa2 camez (Dz, Lz, Sz, nz, cz, gz) (D2, L2, S2, n2, x2, y2)) ⟨rfl, by decide, rfl, by decide, by decide, rfl, by decide⟩ [0] rfl rfl hl.1 rfl (Nat.le_of_ble_eq_true rfl) dX1_leavesAt_5 ⟨Nat.le_of_ble_eq_true rfl, Nat.le_of_ble_eq_true rfl⟩ (fun H locs hP hD hS => ?_)
  refine zN (nI 0) (y := (bI (hasI nz xz))) (by rw [hno]; rfl) ?_
  refine lv_if_ne (tgt := 21) hx hb dX1_leavesAt_8 (by decide) (fun hc8 => ?_) (fun hc8 => ?_)
  · exact absurd hc8 (by decide)
  · skip
    have k8 : 0 = 0 := k0_eq (by omega) hc8
    exact zT (cls := zIX) (text := "there is no such place") (ik := 74) (is := 120) (ic := 78) hF hlk hst hE hto (by decide +kernel) hE.2.2.1.1.2.2 (by decide +kernel) (by decide +kernel) (by decide +kernel) (by decide +kernel) (by decide +kernel) (by decide +kernel) hK hP hD hS hl.1 dX1_leavesAt_11 dX1_leavesAt_14 dX1_leavesAt_15 dX1_leavesAt_17 dX1_leavesAt_20 (Nat.le_of_ble_eq_true rfl) (Nat.le_of_ble_eq_true rfl) (Nat.le_of_ble_eq_true rfl) (Nat.le_of_ble_eq_true rfl)
set_option maxHeartbeats 4000000 in
set_option maxRecDepth 100000 in
theorem d_leavesAt_0 (l : Launch) (hst : l.stackTraces = false) (G : va_G) (cI : ClassId) (oz hz da la saz h2 da2 la2 sa2 : Nat) (camez : Nat) (Dz Lz Sz : Fn) (nz : Nat) (cz gz : Int32) (D2 L2 S2 : Fn) (n2 : Nat) (x2 y2 : Int32) (hn : nz ≤ 63) (hc9 : camez ≤ 500) (hS1 : okS Sz) (hS2 : okS S2) (bz : Nat) (hb9 : bz < nz) : zX_i l yX1_leavesAt wsX1_leavesAt ({ frames := 6, cells := 1, slots := 6, locals := 129 }) G [(cI, .int)] (wx cI oz hz da la saz h2 da2 la2 sa2 camez (Dz, Lz, Sz, nz, cz, gz) (D2, L2, S2, n2, x2, y2)) (wx cI oz hz da la saz h2 da2 la2 sa2 camez (Dz, Lz, Sz, nz, cz, gz) (rmsF bz (cpF (Dz, Lz, Sz, nz, cz, gz) (D2, L2, S2, n2, x2, y2)))) [.ref oz, .int (nI bz)] (none) (wD (rmsF bz (cpF (Dz, Lz, Sz, nz, cz, gz) (D2, L2, S2, n2, x2, y2))) 0) := by
  refine zBX (cc := cX1_leavesAt) (maxL := 2) (ret := (some .int)) (by decide) rfl (Nat.le_of_ble_eq_true rfl) ?_
  intro p e s m args below meth c0 A hF hr hlk hK hA hP hD hS hE hto ls hl
  have hF : CallFix p m c0 cX1_leavesAt 2 s args wsX1_leavesAt RX1 := hF
  have hx := hF.1
  have hb := hF.2.1
  have hown := hF.2.2.2.1
  have hts := hF.2.2.2.2
  have hf10 := hts (.fieldLink RX1 10 "SnoringDukes" "heap" "LSnoringDukes$WeakHeap;") (by decide +kernel)
  have hf16 := hts (.fieldLink RX1 16 "SnoringDukes" "trial" "LSnoringDukes$WeakHeap;") (by decide +kernel)
  have hinX1 : ∀ wz ∈ wsX10, wz ∈ wsX1_leavesAt := by decide +kernel
  have hl : lv_has ls 2 [(0, .ref oz), (1, .int (nI bz))] := hl
  refine lv_aload_n hx hb dX1_leavesAt_0 rfl (lv_at hl 0 rfl) ?_
  refine va_get (D := G) (ci := 1) (v := .ref hz) (C := RX1) (T := TX1) (N := 3) hx hb hts hinX1 hown hK hP 0 rfl rfl 0 (by decide) hf10 (fun _ h9 => h9) rfl dX1_leavesAt_1 ?_
  refine lv_iload_n hx hb dX1_leavesAt_4 rfl (lv_at hl 1 rfl) ?_
  refine zK_vi (As := [.int (nI bz)]) (rest := []) hF (c_has l G cI hz da la saz (Dz) (Lz) (Sz) (nz) (cz) (gz) hn (nI bz)) (cwV 1 hts gX1_leavesAt_X0_has rfl rfl rfl (by decide +kernel) ⟨Nat.le_of_ble_eq_true rfl, Nat.le_of_ble_eq_true rfl⟩) hK hP hD hS hA (ci := 0) (q0 := 1) rfl rfl rfl (isC := [1, 2, 3, 4]) (isR := [0, 5, 6, 7, 8]) (perm := [0, 5, 6, 7, 8, 1, 2, 3, 4]) (wr := (oz, .inr (1, [.ref hz, .ref h2, .int (nI camez)])) :: wh cI h2 da2 la2 sa2 (D2, L2, S2, n2, x2, y2)) (wN := wx cI oz hz da la saz h2 da2 la2 sa2 camez (Dz, Lz, Sz, nz, cz, gz) (D2, L2, S2, n2, x2, y2)) ⟨rfl, by decide, rfl, by decide, by decide, rfl, by decide⟩ [0] rfl rfl hl.1 rfl (Nat.le_of_ble_eq_true rfl) dX1_leavesAt_5 ⟨Nat.le_of_ble_eq_true rfl, Nat.le_of_ble_eq_true rfl⟩ (fun H locs hP hD hS => ?_)
  refine zN (nI 1) (y := (bI (hasI nz (nI bz)))) (by rw [hasI_nI (by omega) (by omega), decide_eq_true hb9]; rfl) ?_
  refine lv_if_ne (tgt := 21) hx hb dX1_leavesAt_8 (by decide) (fun hc8 => ?_) (fun hc8 => ?_)
  · skip
    have k8 : 0 < 1 := k0_ne (by omega) hc8
    refine lv_aload_n hx hb dX1_leavesAt_21 rfl (lv_at hl 0 rfl) ?_
    refine va_get (D := G) (ci := 1) (v := .ref h2) (C := RX1) (T := TX1) (N := 3) hx hb hts hinX1 hown hK hP 0 rfl rfl 1 (by decide) hf16 (fun _ h9 => h9) rfl dX1_leavesAt_22 ?_
    refine lv_aload_n hx hb dX1_leavesAt_25 rfl (lv_at hl 0 rfl) ?_
    refine va_get (D := G) (ci := 1) (v := .ref hz) (C := RX1) (T := TX1) (N := 3) hx hb hts hinX1 hown hK hP 0 rfl rfl 0 (by decide) hf10 (fun _ h9 => h9) rfl dX1_leavesAt_26 ?_
    refine zK_vv (As := [.ref hz]) (rest := []) hF (c_copyFrom l G cI h2 da2 la2 sa2 hz da la saz (D2) (L2) (S2) (n2) (x2) (y2) (Dz) (Lz) (Sz) (nz) (cz) (gz)) (cwV 1 hts gX1_leavesAt_X0_copyFrom rfl rfl rfl (by decide +kernel) ⟨Nat.le_of_ble_eq_true rfl, Nat.le_of_ble_eq_true rfl⟩) hK hP hD hS hA (ci := 0) (q0 := 5) rfl rfl rfl (isC := [5, 6, 7, 8, 1, 2, 3, 4]) (isR := [0]) (perm := [0, 5, 6, 7, 8, 1, 2, 3, 4]) (wr := [(oz, .inr (1, [.ref hz, .ref h2, .int (nI camez)]))]) (wN := wx cI oz hz da la saz h2 da2 la2 sa2 camez (Dz, Lz, Sz, nz, cz, gz) (cpF (Dz, Lz, Sz, nz, cz, gz) (D2, L2, S2, n2, x2, y2))) ⟨rfl, by decide, rfl, by decide, by decide, rfl, by decide⟩ [0] rfl rfl hl.1 rfl (Nat.le_of_ble_eq_true rfl) dX1_leavesAt_29 ⟨Nat.le_of_ble_eq_true rfl, Nat.le_of_ble_eq_true rfl⟩ (fun H locs hP hD hS => ?_)
    have hS8 : okS (wS (cpF (Dz, Lz, Sz, nz, cz, gz) (D2, L2, S2, n2, x2, y2))) := okS_fl hS1 hS2 63
    refine lv_aload_n hx hb dX1_leavesAt_32 rfl (lv_at hl 0 rfl) ?_
    refine va_get (D := G) (ci := 1) (v := .ref h2) (C := RX1) (T := TX1) (N := 3) hx hb hts hinX1 hown hK hP 0 rfl rfl 1 (by decide) hf16 (fun _ h9 => h9) rfl dX1_leavesAt_33 ?_
    refine lv_iload_n hx hb dX1_leavesAt_36 rfl (lv_at hl 1 rfl) ?_
    refine zK_vv (As := [.int (nI bz)]) (rest := []) hF (c_removeTops l G cI h2 da2 la2 sa2 (wD (cpF (Dz, Lz, Sz, nz, cz, gz) (D2, L2, S2, n2, x2, y2))) (wL (cpF (Dz, Lz, Sz, nz, cz, gz) (D2, L2, S2, n2, x2, y2))) (wS (cpF (Dz, Lz, Sz, nz, cz, gz) (D2, L2, S2, n2, x2, y2))) (nz) (cz) (gz) hn hS8 bz (by omega)) (cwV 1 hts gX1_leavesAt_X0_removeTops rfl rfl rfl (by decide +kernel) ⟨Nat.le_of_ble_eq_true rfl, Nat.le_of_ble_eq_true rfl⟩) hK hP hD hS hA (ci := 0) (q0 := 5) rfl rfl rfl (isC := [5, 6, 7, 8]) (isR := [0, 1, 2, 3, 4]) (perm := [0, 1, 2, 3, 4, 5, 6, 7, 8]) (wr := (oz, .inr (1, [.ref hz, .ref h2, .int (nI camez)])) :: wh cI hz da la saz (Dz, Lz, Sz, nz, cz, gz)) (wN := wx cI oz hz da la saz h2 da2 la2 sa2 camez (Dz, Lz, Sz, nz, cz, gz) (rmsF bz (wD (cpF (Dz, Lz, Sz, nz, cz, gz) (D2, L2, S2, n2, x2, y2)), wL (cpF (Dz, Lz, Sz, nz, cz, gz) (D2, L2, S2, n2, x2, y2)), wS (cpF (Dz, Lz, Sz, nz, cz, gz) (D2, L2, S2, n2, x2, y2)), nz, cz, gz))) ⟨rfl, by decide, rfl, by decide, by decide, rfl, by decide⟩ [0] rfl rfl hl.1 rfl (Nat.le_of_ble_eq_true rfl) dX1_leavesAt_37 ⟨Nat.le_of_ble_eq_true rfl, Nat.le_of_ble_eq_true rfl⟩ (fun H locs hP hD hS => ?_)
    have hn8 : wn (rmsF bz (wD (cpF (Dz, Lz, Sz, nz, cz, gz) (D2, L2, S2, n2, x2, y2)), wL (cpF (Dz, Lz, Sz, nz, cz, gz) (D2, L2, S2, n2, x2, y2)), wS (cpF (Dz, Lz, Sz, nz, cz, gz) (D2, L2, S2, n2, x2, y2)), nz, cz, gz)) = nz - bz := rmsF_n _ _
    refine lv_aload_n hx hb dX1_leavesAt_40 rfl (lv_at hl 0 rfl) ?_
    refine va_get (D := G) (ci := 1) (v := .ref h2) (C := RX1) (T := TX1) (N := 3) hx hb hts hinX1 hown hK hP 0 rfl rfl 1 (by decide) hf16 (fun _ h9 => h9) rfl dX1_leavesAt_41 ?_
    refine lv_iconst (v := nI 0) hx hb dX1_leavesAt_44 (by decide) ?_
    refine zK_vi (As := [.int (nI 0)]) (rest := []) hF (c_dukeAt l G cI h2 da2 la2 sa2 (wD (rmsF bz (wD (cpF (Dz, Lz, Sz, nz, cz, gz) (D2, L2, S2, n2, x2, y2)), wL (cpF (Dz, Lz, Sz, nz, cz, gz) (D2, L2, S2, n2, x2, y2)), wS (cpF (Dz, Lz, Sz, nz, cz, gz) (D2, L2, S2, n2, x2, y2)), nz, cz, gz))) (wL (rmsF bz (wD (cpF (Dz, Lz, Sz, nz, cz, gz) (D2, L2, S2, n2, x2, y2)), wL (cpF (Dz, Lz, Sz, nz, cz, gz) (D2, L2, S2, n2, x2, y2)), wS (cpF (Dz, Lz, Sz, nz, cz, gz) (D2, L2, S2, n2, x2, y2)), nz, cz, gz))) (wS (rmsF bz (wD (cpF (Dz, Lz, Sz, nz, cz, gz) (D2, L2, S2, n2, x2, y2)), wL (cpF (Dz, Lz, Sz, nz, cz, gz) (D2, L2, S2, n2, x2, y2)), wS (cpF (Dz, Lz, Sz, nz, cz, gz) (D2, L2, S2, n2, x2, y2)), nz, cz, gz))) (wn (rmsF bz (wD (cpF (Dz, Lz, Sz, nz, cz, gz) (D2, L2, S2, n2, x2, y2)), wL (cpF (Dz, Lz, Sz, nz, cz, gz) (D2, L2, S2, n2, x2, y2)), wS (cpF (Dz, Lz, Sz, nz, cz, gz) (D2, L2, S2, n2, x2, y2)), nz, cz, gz))) (wc (rmsF bz (wD (cpF (Dz, Lz, Sz, nz, cz, gz) (D2, L2, S2, n2, x2, y2)), wL (cpF (Dz, Lz, Sz, nz, cz, gz) (D2, L2, S2, n2, x2, y2)), wS (cpF (Dz, Lz, Sz, nz, cz, gz) (D2, L2, S2, n2, x2, y2)), nz, cz, gz))) (wg (rmsF bz (wD (cpF (Dz, Lz, Sz, nz, cz, gz) (D2, L2, S2, n2, x2, y2)), wL (cpF (Dz, Lz, Sz, nz, cz, gz) (D2, L2, S2, n2, x2, y2)), wS (cpF (Dz, Lz, Sz, nz, cz, gz) (D2, L2, S2, n2, x2, y2)), nz, cz, gz))) (by omega) 0 (by omega)) (cwV 1 hts gX1_leavesAt_X0_dukeAt rfl rfl rfl (by decide +kernel) ⟨Nat.le_of_ble_eq_true rfl, Nat.le_of_ble_eq_true rfl⟩) hK hP hD hS hA (ci := 0) (q0 := 5) rfl rfl rfl (isC := [5, 6, 7, 8]) (isR := [0, 1, 2, 3, 4]) (perm := [0, 1, 2, 3, 4, 5, 6, 7, 8]) (wr := (oz, .inr (1, [.ref hz, .ref h2, .int (nI camez)])) :: wh cI hz da la saz (Dz, Lz, Sz, nz, cz, gz)) (wN := wx cI oz hz da la saz h2 da2 la2 sa2 camez (Dz, Lz, Sz, nz, cz, gz) (wD (rmsF bz (wD (cpF (Dz, Lz, Sz, nz, cz, gz) (D2, L2, S2, n2, x2, y2)), wL (cpF (Dz, Lz, Sz, nz, cz, gz) (D2, L2, S2, n2, x2, y2)), wS (cpF (Dz, Lz, Sz, nz, cz, gz) (D2, L2, S2, n2, x2, y2)), nz, cz, gz)), wL (rmsF bz (wD (cpF (Dz, Lz, Sz, nz, cz, gz) (D2, L2, S2, n2, x2, y2)), wL (cpF (Dz, Lz, Sz, nz, cz, gz) (D2, L2, S2, n2, x2, y2)), wS (cpF (Dz, Lz, Sz, nz, cz, gz) (D2, L2, S2, n2, x2, y2)), nz, cz, gz)), wS (rmsF bz (wD (cpF (Dz, Lz, Sz, nz, cz, gz) (D2, L2, S2, n2, x2, y2)), wL (cpF (Dz, Lz, Sz, nz, cz, gz) (D2, L2, S2, n2, x2, y2)), wS (cpF (Dz, Lz, Sz, nz, cz, gz) (D2, L2, S2, n2, x2, y2)), nz, cz, gz)), wn (rmsF bz (wD (cpF (Dz, Lz, Sz, nz, cz, gz) (D2, L2, S2, n2, x2, y2)), wL (cpF (Dz, Lz, Sz, nz, cz, gz) (D2, L2, S2, n2, x2, y2)), wS (cpF (Dz, Lz, Sz, nz, cz, gz) (D2, L2, S2, n2, x2, y2)), nz, cz, gz)), wc (rmsF bz (wD (cpF (Dz, Lz, Sz, nz, cz, gz) (D2, L2, S2, n2, x2, y2)), wL (cpF (Dz, Lz, Sz, nz, cz, gz) (D2, L2, S2, n2, x2, y2)), wS (cpF (Dz, Lz, Sz, nz, cz, gz) (D2, L2, S2, n2, x2, y2)), nz, cz, gz)), wg (rmsF bz (wD (cpF (Dz, Lz, Sz, nz, cz, gz) (D2, L2, S2, n2, x2, y2)), wL (cpF (Dz, Lz, Sz, nz, cz, gz) (D2, L2, S2, n2, x2, y2)), wS (cpF (Dz, Lz, Sz, nz, cz, gz) (D2, L2, S2, n2, x2, y2)), nz, cz, gz)))) ⟨rfl, by decide, rfl, by decide, by decide, rfl, by decide⟩ [0] rfl rfl hl.1 rfl (Nat.le_of_ble_eq_true rfl) dX1_leavesAt_45 ⟨Nat.le_of_ble_eq_true rfl, Nat.le_of_ble_eq_true rfl⟩ (fun H locs hP hD hS => ?_)
    refine zN (wD (rmsF bz (cpF (Dz, Lz, Sz, nz, cz, gz) (D2, L2, S2, n2, x2, y2))) 0) (y := (if 0 < wn (rmsF bz (wD (cpF (Dz, Lz, Sz, nz, cz, gz) (D2, L2, S2, n2, x2, y2)), wL (cpF (Dz, Lz, Sz, nz, cz, gz) (D2, L2, S2, n2, x2, y2)), wS (cpF (Dz, Lz, Sz, nz, cz, gz) (D2, L2, S2, n2, x2, y2)), nz, cz, gz)) then (wD (rmsF bz (wD (cpF (Dz, Lz, Sz, nz, cz, gz) (D2, L2, S2, n2, x2, y2)), wL (cpF (Dz, Lz, Sz, nz, cz, gz) (D2, L2, S2, n2, x2, y2)), wS (cpF (Dz, Lz, Sz, nz, cz, gz) (D2, L2, S2, n2, x2, y2)), nz, cz, gz))) 0 else -1)) (if_pos (by omega)) ?_
    exact zEX_i hF hr hlk rfl hK hP hD hS (Nat.le_of_ble_eq_true rfl) (Nat.le_of_ble_eq_true rfl) dX1_leavesAt_48
  · exact absurd hc8 (by decide)
set_option maxHeartbeats 4000000 in
set_option maxRecDepth 100000 in
theorem d_quieterThan_x (l : Launch) (hst : l.stackTraces = false) (G : va_G) (cI : ClassId) (oz hz da la saz h2 da2 la2 sa2 : Nat) (camez : Nat) (Dz Lz Sz : Fn) (nz : Nat) (cz gz : Int32) (D2 L2 S2 : Fn) (n2 : Nat) (x2 y2 : Int32) (hn : nz ≤ 63) (hc9 : camez ≤ 500) (hS1 : okS Sz) (xz : Int32) (hno : ¬ fnd Dz xz nz < nz) : zX_i l yX1_quieterThan wsX1_quieterThan ({ frames := 6, cells := 1, slots := 6, locals := 110 }) G [(cI, .int)] (wx cI oz hz da la saz h2 da2 la2 sa2 camez (Dz, Lz, Sz, nz, cz, gz) (D2, L2, S2, n2, x2, y2)) (wx cI oz hz da la saz h2 da2 la2 sa2 camez (Dz, Lz, Sz, nz, cz, gz) (D2, L2, S2, n2, x2, y2)) [.ref oz, .int xz] (some zIX) (nI 0) := by
  refine zBX (cc := cX1_quieterThan) (maxL := 3) (ret := (some .int)) (by decide) rfl (Nat.le_of_ble_eq_true rfl) ?_
  intro p e s m args below meth c0 A hF hr hlk hK hA hP hD hS hE hto ls hl
  have hF : CallFix p m c0 cX1_quieterThan 3 s args wsX1_quieterThan RX1 := hF
  have hx := hF.1
  have hb := hF.2.1
  have hown := hF.2.2.2.1
  have hts := hF.2.2.2.2
  have hf10 := hts (.fieldLink RX1 10 "SnoringDukes" "heap" "LSnoringDukes$WeakHeap;") (by decide +kernel)
  have hinX1 : ∀ wz ∈ wsX10, wz ∈ wsX1_quieterThan := by decide +kernel
  have hl : lv_has ls 3 [(0, .ref oz), (1, .int xz)] := hl
  refine lv_aload_n hx hb dX1_quieterThan_0 rfl (lv_at hl 0 rfl) ?_
  refine va_get (D := G) (ci := 1) (v := .ref hz) (C := RX1) (T := TX1) (N := 3) hx hb hts hinX1 hown hK hP 0 rfl rfl 0 (by decide) hf10 (fun _ h9 => h9) rfl dX1_quieterThan_1 ?_
  refine lv_iload_n hx hb dX1_quieterThan_4 rfl (lv_at hl 1 rfl) ?_
  refine zK_vi (As := [.int xz]) (rest := []) hF (c_find l G cI hz da la saz (Dz) (Lz) (Sz) (nz) (cz) (gz) hn xz) (cwV 1 hts gX1_quieterThan_X0_find rfl rfl rfl (by decide +kernel) ⟨Nat.le_of_ble_eq_true rfl, Nat.le_of_ble_eq_true rfl⟩) hK hP hD hS hA (ci := 0) (q0 := 1) rfl rfl rfl (isC := [1, 2, 3, 4]) (isR := [0, 5, 6, 7, 8]) (perm := [0, 5, 6, 7, 8, 1, 2, 3, 4]) (wr := (oz, .inr (1, [.ref hz, .ref h2, .int (nI camez)])) :: wh cI h2 da2 la2 sa2 (D2, L2, S2, n2, x2, y2)) (wN := wx cI oz hz da la saz h2 da2 la2 sa2 camez (Dz, Lz, Sz, nz, cz, gz) (D2, L2, S2, n2, x2, y2)) ⟨rfl, by decide, rfl, by decide, by decide, rfl, by decide⟩ [0] rfl rfl hl.1 rfl (Nat.le_of_ble_eq_true rfl) dX1_quieterThan_5 ⟨Nat.le_of_ble_eq_true rfl, Nat.le_of_ble_eq_true rfl⟩ (fun H locs hP hD hS => ?_)
  refine zN (-1) (y := (fndI Dz nz xz)) (fndI_no hno) ?_
  refine lv_istore_n (lv' := [(2, .int (-1)), (0, .ref oz), (1, .int xz)]) hx hb dX1_quieterThan_8 rfl hl (by decide) rfl (fun ls hl => ?_)
  refine lv_iload_n hx hb dX1_quieterThan_9 rfl (lv_at hl 0 rfl) ?_
  refine lv_iconst (v := (-1)) hx hb dX1_quieterThan_10 (by decide) ?_
  refine lv_icmp_ne (tgt := 24) hx hb dX1_quieterThan_11 (by decide) (fun hc11 => ?_) (fun hc11 => ?_)
  · exact absurd hc11 (by decide)
  · skip
    exact zT (cls := zIX) (text := "he does not lie here") (ik := 74) (is := 76) (ic := 78) hF hlk hst hE hto (by decide +kernel) hE.2.2.1.1.2.2 (by decide +kernel) (by decide +kernel) (by decide +kernel) (by decide +kernel) (by decide +kernel) (by decide +kernel) hK hP hD hS hl.1 dX1_quieterThan_14 dX1_quieterThan_17 dX1_quieterThan_18 dX1_quieterThan_20 dX1_quieterThan_23 (Nat.le_of_ble_eq_true rfl) (Nat.le_of_ble_eq_true rfl) (Nat.le_of_ble_eq_true rfl) (Nat.le_of_ble_eq_true rfl)
set_option maxHeartbeats 4000000 in
set_option maxRecDepth 100000 in
theorem d_quieterThan_0 (l : Launch) (hst : l.stackTraces = false) (G : va_G) (cI : ClassId) (oz hz da la saz h2 da2 la2 sa2 : Nat) (camez : Nat) (Dz Lz Sz : Fn) (nz : Nat) (cz gz : Int32) (D2 L2 S2 : Fn) (n2 : Nat) (x2 y2 : Int32) (hn : nz ≤ 63) (hc9 : camez ≤ 500) (hS1 : okS Sz) (bz : Nat) (hb9 : bz < nz) (xz : Int32) (hf : fnd Dz xz nz = bz)  : zX_i l yX1_quieterThan wsX1_quieterThan ({ frames := 6, cells := 1, slots := 6, locals := 110 }) G [(cI, .int)] (wx cI oz hz da la saz h2 da2 la2 sa2 camez (Dz, Lz, Sz, nz, cz, gz) (D2, L2, S2, n2, x2, y2)) (wx cI oz hz da la saz h2 da2 la2 sa2 camez (Dz, Lz, Sz, nz, cz, gz) (D2, L2, S2, n2, x2, y2)) [.ref oz, .int xz] (none) (bcF (lN (mskF Sz Lz (Lz bz) nz))) := by
  refine zBX (cc := cX1_quieterThan) (maxL := 3) (ret := (some .int)) (by decide) rfl (Nat.le_of_ble_eq_true rfl) ?_
  intro p e s m args below meth c0 A hF hr hlk hK hA hP hD hS hE hto ls hl
  have hF : CallFix p m c0 cX1_quieterThan 3 s args wsX1_quieterThan RX1 := hF
  have hx := hF.1
  have hb := hF.2.1
  have hown := hF.2.2.2.1
  have hts := hF.2.2.2.2
  have hf10 := hts (.fieldLink RX1 10 "SnoringDukes" "heap" "LSnoringDukes$WeakHeap;") (by decide +kernel)
  have hinX1 : ∀ wz ∈ wsX10, wz ∈ wsX1_quieterThan := by decide +kernel
  have hl : lv_has ls 3 [(0, .ref oz), (1, .int xz)] := hl
  refine lv_aload_n hx hb dX1_quieterThan_0 rfl (lv_at hl 0 rfl) ?_
  refine va_get (D := G) (ci := 1) (v := .ref hz) (C := RX1) (T := TX1) (N := 3) hx hb hts hinX1 hown hK hP 0 rfl rfl 0 (by decide) hf10 (fun _ h9 => h9) rfl dX1_quieterThan_1 ?_
  refine lv_iload_n hx hb dX1_quieterThan_4 rfl (lv_at hl 1 rfl) ?_
  refine zK_vi (As := [.int xz]) (rest := []) hF (c_find l G cI hz da la saz (Dz) (Lz) (Sz) (nz) (cz) (gz) hn xz) (cwV 1 hts gX1_quieterThan_X0_find rfl rfl rfl (by decide +kernel) ⟨Nat.le_of_ble_eq_true rfl, Nat.le_of_ble_eq_true rfl⟩) hK hP hD hS hA (ci := 0) (q0 := 1) rfl rfl rfl (isC := [1, 2, 3, 4]) (isR := [0, 5, 6, 7, 8]) (perm := [0, 5, 6, 7, 8, 1, 2, 3, 4]) (wr := (oz, .inr (1, [.ref hz, .ref h2, .int (nI camez)])) :: wh cI h2 da2 la2 sa2 (D2, L2, S2, n2, x2, y2)) (wN := wx cI oz hz da la saz h2 da2 la2 sa2 camez (Dz, Lz, Sz, nz, cz, gz) (D2, L2, S2, n2, x2, y2)) ⟨rfl, by decide, rfl, by decide, by decide, rfl, by decide⟩ [0] rfl rfl hl.1 rfl (Nat.le_of_ble_eq_true rfl) dX1_quieterThan_5 ⟨Nat.le_of_ble_eq_true rfl, Nat.le_of_ble_eq_true rfl⟩ (fun H locs hP hD hS => ?_)
  refine zN (nI bz) (y := (fndI Dz nz xz)) (fndI_at hf hb9) ?_
  refine lv_istore_n (lv' := [(2, .int (nI bz)), (0, .ref oz), (1, .int xz)]) hx hb dX1_quieterThan_8 rfl hl (by decide) rfl (fun ls hl => ?_)
  refine lv_iload_n hx hb dX1_quieterThan_9 rfl (lv_at hl 0 rfl) ?_
  refine lv_iconst (v := (-1)) hx hb dX1_quieterThan_10 (by decide) ?_
  refine lv_icmp_ne (tgt := 24) hx hb dX1_quieterThan_11 (by decide) (fun hc11 => ?_) (fun hc11 => ?_)
  · skip
    refine lv_aload_n hx hb dX1_quieterThan_24 rfl (lv_at hl 1 rfl) ?_
    refine va_get (D := G) (ci := 1) (v := .ref hz) (C := RX1) (T := TX1) (N := 3) hx hb hts hinX1 hown hK hP 0 rfl rfl 0 (by decide) hf10 (fun _ h9 => h9) rfl dX1_quieterThan_25 ?_
    refine lv_aload_n hx hb dX1_quieterThan_28 rfl (lv_at hl 1 rfl) ?_
    refine va_get (D := G) (ci := 1) (v := .ref hz) (C := RX1) (T := TX1) (N := 3) hx hb hts hinX1 hown hK hP 0 rfl rfl 0 (by decide) hf10 (fun _ h9 => h9) rfl dX1_quieterThan_29 ?_
    refine lv_iload_n hx hb dX1_quieterThan_32 rfl (lv_at hl 0 rfl) ?_
    refine zK_vi (As := [.int (nI bz)]) (rest := [.ref hz]) hF (c_loudnessAt l G cI hz da la saz (Dz) (Lz) (Sz) (nz) (cz) (gz) (by omega) bz (by omega)) (cwV 1 hts gX1_quieterThan_X0_loudnessAt rfl rfl rfl (by decide +kernel) ⟨Nat.le_of_ble_eq_true rfl, Nat.le_of_ble_eq_true rfl⟩) hK hP hD hS hA (ci := 0) (q0 := 1) rfl rfl rfl (isC := [1, 2, 3, 4]) (isR := [0, 5, 6, 7, 8]) (perm := [0, 5, 6, 7, 8, 1, 2, 3, 4]) (wr := (oz, .inr (1, [.ref hz, .ref h2, .int (nI camez)])) :: wh cI h2 da2 la2 sa2 (D2, L2, S2, n2, x2, y2)) (wN := wx cI oz hz da la saz h2 da2 la2 sa2 camez (Dz, Lz, Sz, nz, cz, gz) (D2, L2, S2, n2, x2, y2)) ⟨rfl, by decide, rfl, by decide, by decide, rfl, by decide⟩ [0] rfl rfl hl.1 rfl (Nat.le_of_ble_eq_true rfl) dX1_quieterThan_33 ⟨Nat.le_of_ble_eq_true rfl, Nat.le_of_ble_eq_true rfl⟩ (fun H locs hP hD hS => ?_)
    refine zN (Lz bz) (y := (if bz < nz then Lz bz else -1)) (if_pos hb9) ?_
    refine zK_vi (As := [.int (Lz bz)]) (rest := []) hF (c_countBelow l G cI hz da la saz (Dz) (Lz) (Sz) (nz) (cz) (gz) hn hS1 (Lz bz)) (cwV 1 hts gX1_quieterThan_X0_countBelow rfl rfl rfl (by decide +kernel) ⟨Nat.le_of_ble_eq_true rfl, Nat.le_of_ble_eq_true rfl⟩) hK hP hD hS hA (ci := 0) (q0 := 1) rfl rfl rfl (isC := [1, 2, 3, 4]) (isR := [0, 5, 6, 7, 8]) (perm := [0, 5, 6, 7, 8, 1, 2, 3, 4]) (wr := (oz, .inr (1, [.ref hz, .ref h2, .int (nI camez)])) :: wh cI h2 da2 la2 sa2 (D2, L2, S2, n2, x2, y2)) (wN := wx cI oz hz da la saz h2 da2 la2 sa2 camez (Dz, Lz, Sz, nz, cz, gz) (D2, L2, S2, n2, x2, y2)) ⟨rfl, by decide, rfl, by decide, by decide, rfl, by decide⟩ [0] rfl rfl hl.1 rfl (Nat.le_of_ble_eq_true rfl) dX1_quieterThan_36 ⟨Nat.le_of_ble_eq_true rfl, Nat.le_of_ble_eq_true rfl⟩ (fun H locs hP hD hS => ?_)
    exact zEX_i hF hr hlk rfl hK hP hD hS (Nat.le_of_ble_eq_true rfl) (Nat.le_of_ble_eq_true rfl) dX1_quieterThan_39
  · skip
    exact absurd hc11 (nI_nm1 (by omega))
set_option maxHeartbeats 4000000 in
set_option maxRecDepth 100000 in
theorem d_coach_1 (l : Launch) (hst : l.stackTraces = false) (G : va_G) (cI : ClassId) (oz hz da la saz h2 da2 la2 sa2 : Nat) (camez : Nat) (Dz Lz Sz : Fn) (nz : Nat) (cz gz : Int32) (D2 L2 S2 : Fn) (n2 : Nat) (x2 y2 : Int32) (hn : nz ≤ 63) (hc9 : camez ≤ 500) (hS1 : okS Sz) (zz xz yz : Int32) (hbad : (isO zz (nI 1) (nI 20) && isO xz (nI 0) (nI 999) && isO yz (nI 0) (nI 999)) = false) : zX_i l yX1_coach wsX1_coach ({ frames := 6, cells := 1, slots := 6, locals := 106 }) G [(cI, .int)] (wx cI oz hz da la saz h2 da2 la2 sa2 camez (Dz, Lz, Sz, nz, cz, gz) (D2, L2, S2, n2, x2, y2)) (wx cI oz hz da la saz h2 da2 la2 sa2 camez (Dz, Lz, Sz, nz, cz, gz) (D2, L2, S2, n2, x2, y2)) [.ref oz, .int zz, .int xz, .int yz] (some zIA) (nI 0) := by
  refine zBX (cc := cX1_coach) (maxL := 6) (ret := (some .int)) (by decide) rfl (Nat.le_of_ble_eq_true rfl) ?_
  intro p e s m args below meth c0 A hF hr hlk hK hA hP hD hS hE hto ls hl
  have hF : CallFix p m c0 cX1_coach 6 s args wsX1_coach RX1 := hF
  have hx := hF.1
  have hb := hF.2.1
  have hown := hF.2.2.2.1
  have hts := hF.2.2.2.2
  have hf10 := hts (.fieldLink RX1 10 "SnoringDukes" "heap" "LSnoringDukes$WeakHeap;") (by decide +kernel)
  have hf52 := va_Nw.use (A := args) rfl hE.1.2.1
  have hf19 := hts (.fieldLink RX1 19 "SnoringDukes" "numbered" "I") (by decide +kernel)
  have hinX0 : ∀ wz ∈ wsX00, wz ∈ wsX1_coach := by decide +kernel
  have hinX1 : ∀ wz ∈ wsX10, wz ∈ wsX1_coach := by decide +kernel
  have hl : lv_has ls 6 [(0, .ref oz), (1, .int zz), (2, .int xz), (3, .int yz)] := hl
  refine lv_iload_n hx hb dX1_coach_0 rfl (lv_at hl 1 rfl) ?_
  refine lv_iconst (v := nI 1) hx hb dX1_coach_1 (by decide) ?_
  refine lv_icmp_lt (tgt := 11) hx hb dX1_coach_2 (by decide) (fun hc2 => ?_) (fun hc2 => ?_)
  · skip
    exact zT (cls := zIA) (text := "dukes must be 1 to 20") (ik := 27) (is := 46) (ic := 31) hF hlk hst hE hto (by decide +kernel) hE.2.2.1.1.1 (by decide +kernel) (by decide +kernel) (by decide +kernel) (by decide +kernel) (by decide +kernel) (by decide +kernel) hK hP hD hS hl.1 dX1_coach_11 dX1_coach_14 dX1_coach_15 dX1_coach_17 dX1_coach_20 (Nat.le_of_ble_eq_true rfl) (Nat.le_of_ble_eq_true rfl) (Nat.le_of_ble_eq_true rfl) (Nat.le_of_ble_eq_true rfl)
  · skip
    refine lv_iload_n hx hb dX1_coach_5 rfl (lv_at hl 1 rfl) ?_
    refine lv_bipush (v := nI 20) hx hb dX1_coach_6 (by decide) ?_
    refine lv_icmp_le (tgt := 21) hx hb dX1_coach_8 (by decide) (fun hc8 => ?_) (fun hc8 => ?_)
    · skip
      refine lv_iload_n hx hb dX1_coach_21 rfl (lv_at hl 2 rfl) ?_
      refine zK_si (av := [.int xz]) (rest := []) hF (d_isUp l G xz) (cwS 1 hts gX1_coach_X1_isUpToLoudest rfl rfl rfl (by decide +kernel) ⟨Nat.le_of_ble_eq_true rfl, Nat.le_of_ble_eq_true rfl⟩) hK hP hD hS hA (isC := []) (isR := [0, 1, 2, 3, 4, 5, 6, 7, 8]) (perm := [0, 1, 2, 3, 4, 5, 6, 7, 8]) (wr := wx cI oz hz da la saz h2 da2 la2 sa2 camez (Dz, Lz, Sz, nz, cz, gz) (D2, L2, S2, n2, x2, y2)) (wN := wx cI oz hz da la saz h2 da2 la2 sa2 camez (Dz, Lz, Sz, nz, cz, gz) (D2, L2, S2, n2, x2, y2)) ⟨rfl, by decide, rfl, by decide, (fun _ _ hz => by cases hz), rfl, by decide⟩ [] rfl rfl hl.1 rfl (Nat.le_of_ble_eq_true rfl) dX1_coach_22 ⟨Nat.le_of_ble_eq_true rfl, Nat.le_of_ble_eq_true rfl⟩ (fun H locs hP hD hS => ?_)
      refine lv_if_eq (tgt := 35) hx hb dX1_coach_25 (by decide) (fun hc25 => ?_) (fun hc25 => ?_)
      · skip
        have k25 : (isO xz (nI 0) (nI 999)) = false := bI_e0.mp hc25
        exact zT (cls := zIA) (text := "first and step must be 0 to 999") (ik := 27) (is := 48) (ic := 31) hF hlk hst hE hto (by decide +kernel) hE.2.2.1.1.1 (by decide +kernel) (by decide +kernel) (by decide +kernel) (by decide +kernel) (by decide +kernel) (by decide +kernel) hK hP hD hS hl.1 dX1_coach_35 dX1_coach_38 dX1_coach_39 dX1_coach_41 dX1_coach_44 (Nat.le_of_ble_eq_true rfl) (Nat.le_of_ble_eq_true rfl) (Nat.le_of_ble_eq_true rfl) (Nat.le_of_ble_eq_true rfl)
      · skip
        have k25 : (isO xz (nI 0) (nI 999)) = true := bI_ne.mp hc25
        refine lv_iload_n hx hb dX1_coach_28 rfl (lv_at hl 3 rfl) ?_
        refine zK_si (av := [.int yz]) (rest := []) hF (d_isUp l G yz) (cwS 1 hts gX1_coach_X1_isUpToLoudest rfl rfl rfl (by decide +kernel) ⟨Nat.le_of_ble_eq_true rfl, Nat.le_of_ble_eq_true rfl⟩) hK hP hD hS hA (isC := []) (isR := [0, 1, 2, 3, 4, 5, 6, 7, 8]) (perm := [0, 1, 2, 3, 4, 5, 6, 7, 8]) (wr := wx cI oz hz da la saz h2 da2 la2 sa2 camez (Dz, Lz, Sz, nz, cz, gz) (D2, L2, S2, n2, x2, y2)) (wN := wx cI oz hz da la saz h2 da2 la2 sa2 camez (Dz, Lz, Sz, nz, cz, gz) (D2, L2, S2, n2, x2, y2)) ⟨rfl, by decide, rfl, by decide, (fun _ _ hz => by cases hz), rfl, by decide⟩ [] rfl rfl hl.1 rfl (Nat.le_of_ble_eq_true rfl) dX1_coach_29 ⟨Nat.le_of_ble_eq_true rfl, Nat.le_of_ble_eq_true rfl⟩ (fun H locs hP hD hS => ?_)
        refine lv_if_ne (tgt := 45) hx hb dX1_coach_32 (by decide) (fun hc32 => ?_) (fun hc32 => ?_)
        · skip
          have k32 : (isO yz (nI 0) (nI 999)) = true := bI_ne.mp hc32
          rw [k25, k32, isO_tt hc2 hc8] at hbad
          exact absurd hbad (by decide)
        · skip
          have k32 : (isO yz (nI 0) (nI 999)) = false := bI_e0.mp hc32
          exact zT (cls := zIA) (text := "first and step must be 0 to 999") (ik := 27) (is := 48) (ic := 31) hF hlk hst hE hto (by decide +kernel) hE.2.2.1.1.1 (by decide +kernel) (by decide +kernel) (by decide +kernel) (by decide +kernel) (by decide +kernel) (by decide +kernel) hK hP hD hS hl.1 dX1_coach_35 dX1_coach_38 dX1_coach_39 dX1_coach_41 dX1_coach_44 (Nat.le_of_ble_eq_true rfl) (Nat.le_of_ble_eq_true rfl) (Nat.le_of_ble_eq_true rfl) (Nat.le_of_ble_eq_true rfl)
    · skip
      exact zT (cls := zIA) (text := "dukes must be 1 to 20") (ik := 27) (is := 46) (ic := 31) hF hlk hst hE hto (by decide +kernel) hE.2.2.1.1.1 (by decide +kernel) (by decide +kernel) (by decide +kernel) (by decide +kernel) (by decide +kernel) (by decide +kernel) hK hP hD hS hl.1 dX1_coach_11 dX1_coach_14 dX1_coach_15 dX1_coach_17 dX1_coach_20 (Nat.le_of_ble_eq_true rfl) (Nat.le_of_ble_eq_true rfl) (Nat.le_of_ble_eq_true rfl) (Nat.le_of_ble_eq_true rfl)
set_option maxHeartbeats 4000000 in
set_option maxRecDepth 100000 in
theorem d_coach_2 (l : Launch) (hst : l.stackTraces = false) (G : va_G) (cI : ClassId) (oz hz da la saz h2 da2 la2 sa2 : Nat) (camez : Nat) (Dz Lz Sz : Fn) (nz : Nat) (cz gz : Int32) (D2 L2 S2 : Fn) (n2 : Nat) (x2 y2 : Int32) (hn : nz ≤ 63) (hc9 : camez ≤ 500) (hS1 : okS Sz) (kk : Nat) (xz yz : Int32) (hk1 : 1 ≤ kk) (hk9 : kk ≤ 20) (ho2 : isO xz (nI 0) (nI 999) = true) (ho3 : isO yz (nI 0) (nI 999) = true) (hfull : 63 < nz + kk ∨ 500 < camez + kk) : zX_i l yX1_coach wsX1_coach ({ frames := 6, cells := 1, slots := 6, locals := 106 }) G [(cI, .int)] (wx cI oz hz da la saz h2 da2 la2 sa2 camez (Dz, Lz, Sz, nz, cz, gz) (D2, L2, S2, n2, x2, y2)) (wx cI oz hz da la saz h2 da2 la2 sa2 camez (Dz, Lz, Sz, nz, cz, gz) (D2, L2, S2, n2, x2, y2)) [.ref oz, .int (nI kk), .int xz, .int yz] (some zIS) (nI 0) := by
  refine zBX (cc := cX1_coach) (maxL := 6) (ret := (some .int)) (by decide) rfl (Nat.le_of_ble_eq_true rfl) ?_
  intro p e s m args below meth c0 A hF hr hlk hK hA hP hD hS hE hto ls hl
  have hF : CallFix p m c0 cX1_coach 6 s args wsX1_coach RX1 := hF
  have hx := hF.1
  have hb := hF.2.1
  have hown := hF.2.2.2.1
  have hts := hF.2.2.2.2
  have hf10 := hts (.fieldLink RX1 10 "SnoringDukes" "heap" "LSnoringDukes$WeakHeap;") (by decide +kernel)
  have hf52 := va_Nw.use (A := args) rfl hE.1.2.1
  have hf19 := hts (.fieldLink RX1 19 "SnoringDukes" "numbered" "I") (by decide +kernel)
  have hinX0 : ∀ wz ∈ wsX00, wz ∈ wsX1_coach := by decide +kernel
  have hinX1 : ∀ wz ∈ wsX10, wz ∈ wsX1_coach := by decide +kernel
  have hl : lv_has ls 6 [(0, .ref oz), (1, .int (nI kk)), (2, .int xz), (3, .int yz)] := hl
  refine lv_iload_n hx hb dX1_coach_0 rfl (lv_at hl 1 rfl) ?_
  refine lv_iconst (v := nI 1) hx hb dX1_coach_1 (by decide) ?_
  refine lv_icmp_lt (tgt := 11) hx hb dX1_coach_2 (by decide) (fun hc2 => ?_) (fun hc2 => ?_)
  · skip
    have k2 : kk < 1 := k_lt (by omega) (by omega) hc2
    exact absurd k2 (by omega)
  · skip
    have k2 : 1 ≤ kk := k_nlt (by omega) (by omega) hc2
    refine lv_iload_n hx hb dX1_coach_5 rfl (lv_at hl 1 rfl) ?_
    refine lv_bipush (v := nI 20) hx hb dX1_coach_6 (by decide) ?_
    refine lv_icmp_le (tgt := 21) hx hb dX1_coach_8 (by decide) (fun hc8 => ?_) (fun hc8 => ?_)
    · skip
      have k8 : kk ≤ 20 := k_le (by omega) (by omega) hc8
      refine lv_iload_n hx hb dX1_coach_21 rfl (lv_at hl 2 rfl) ?_
      refine zK_si (av := [.int xz]) (rest := []) hF (d_isUp l G xz) (cwS 1 hts gX1_coach_X1_isUpToLoudest rfl rfl rfl (by decide +kernel) ⟨Nat.le_of_ble_eq_true rfl, Nat.le_of_ble_eq_true rfl⟩) hK hP hD hS hA (isC := []) (isR := [0, 1, 2, 3, 4, 5, 6, 7, 8]) (perm := [0, 1, 2, 3, 4, 5, 6, 7, 8]) (wr := wx cI oz hz da la saz h2 da2 la2 sa2 camez (Dz, Lz, Sz, nz, cz, gz) (D2, L2, S2, n2, x2, y2)) (wN := wx cI oz hz da la saz h2 da2 la2 sa2 camez (Dz, Lz, Sz, nz, cz, gz) (D2, L2, S2, n2, x2, y2)) ⟨rfl, by decide, rfl, by decide, (fun _ _ hz => by cases hz), rfl, by decide⟩ [] rfl rfl hl.1 rfl (Nat.le_of_ble_eq_true rfl) dX1_coach_22 ⟨Nat.le_of_ble_eq_true rfl, Nat.le_of_ble_eq_true rfl⟩ (fun H locs hP hD hS => ?_)
      refine zN (nI 1) (y := (bI (isO xz (nI 0) (nI 999)))) (by rw [ho2]; rfl) ?_
      refine lv_if_eq (tgt := 35) hx hb dX1_coach_25 (by decide) (fun hc25 => ?_) (fun hc25 => ?_)
      · exact absurd hc25 (by decide)
      · skip
        have k25 : 0 < 1 := k0_ne (by omega) hc25
        refine lv_iload_n hx hb dX1_coach_28 rfl (lv_at hl 3 rfl) ?_
        refine zK_si (av := [.int yz]) (rest := []) hF (d_isUp l G yz) (cwS 1 hts gX1_coach_X1_isUpToLoudest rfl rfl rfl (by decide +kernel) ⟨Nat.le_of_ble_eq_true rfl, Nat.le_of_ble_eq_true rfl⟩) hK hP hD hS hA (isC := []) (isR := [0, 1, 2, 3, 4, 5, 6, 7, 8]) (perm := [0, 1, 2, 3, 4, 5, 6, 7, 8]) (wr := wx cI oz hz da la saz h2 da2 la2 sa2 camez (Dz, Lz, Sz, nz, cz, gz) (D2, L2, S2, n2, x2, y2)) (wN := wx cI oz hz da la saz h2 da2 la2 sa2 camez (Dz, Lz, Sz, nz, cz, gz) (D2, L2, S2, n2, x2, y2)) ⟨rfl, by decide, rfl, by decide, (fun _ _ hz => by cases hz), rfl, by decide⟩ [] rfl rfl hl.1 rfl (Nat.le_of_ble_eq_true rfl) dX1_coach_29 ⟨Nat.le_of_ble_eq_true rfl, Nat.le_of_ble_eq_true rfl⟩ (fun H locs hP hD hS => ?_)
        refine zN (nI 1) (y := (bI (isO yz (nI 0) (nI 999)))) (by rw [ho3]; rfl) ?_
        refine lv_if_ne (tgt := 45) hx hb dX1_coach_32 (by decide) (fun hc32 => ?_) (fun hc32 => ?_)
        · skip
          have k32 : 0 < 1 := k0_ne (by omega) hc32
          refine lv_aload_n hx hb dX1_coach_45 rfl (lv_at hl 0 rfl) ?_
          refine lv_iload_n hx hb dX1_coach_46 rfl (lv_at hl 1 rfl) ?_
          refine zK_vy (As := [.int (nI kk)]) (rest := []) hF (d_hasRoomFor l G cI oz hz da la saz h2 da2 la2 sa2 (camez) (Dz) (Lz) (Sz) (nz) (cz) (gz) (D2) (L2) (S2) (n2) (x2) (y2) hn hc9 hS1 kk (by omega)) (cwV 1 hts gX1_coach_X1_hasRoomFor rfl rfl rfl (by decide +kernel) ⟨Nat.le_of_ble_eq_true rfl, Nat.le_of_ble_eq_true rfl⟩) hK hP hD hS hA hE (ci := 1) (q0 := 0) rfl rfl rfl (isC := [0, 1, 2, 3, 4, 5, 6, 7, 8]) (isR := []) (perm := [0, 1, 2, 3, 4, 5, 6, 7, 8]) (wr := []) (wN := wx cI oz hz da la saz h2 da2 la2 sa2 camez (Dz, Lz, Sz, nz, cz, gz) (D2, L2, S2, n2, x2, y2)) ⟨rfl, by decide, rfl, rfl, (fun _ hz => by cases hz), rfl, by decide⟩ [0] rfl rfl hl.1 rfl (Nat.le_of_ble_eq_true rfl) dX1_coach_47 ⟨Nat.le_of_ble_eq_true rfl, Nat.le_of_ble_eq_true rfl⟩ (fun H locs hP hD hS => ?_)
          refine zN (nI 0) (y := (bI (decide (nz + kk ≤ 63) && decide (camez + kk ≤ 500)))) (z_roomf hfull) ?_
          refine lv_if_ne (tgt := 63) hx hb dX1_coach_50 (by decide) (fun hc50 => ?_) (fun hc50 => ?_)
          · exact absurd hc50 (by decide)
          · skip
            have k50 : 0 = 0 := k0_eq (by omega) hc50
            exact zT (cls := zIS) (text := "more than 63 would lie here, or more than 500 would have come") (ik := 37) (is := 50) (ic := 41) hF hlk hst hE hto (by decide +kernel) hE.2.2.1.1.2.1 (by decide +kernel) (by decide +kernel) (by decide +kernel) (by decide +kernel) (by decide +kernel) (by decide +kernel) hK hP hD hS hl.1 dX1_coach_53 dX1_coach_56 dX1_coach_57 dX1_coach_59 dX1_coach_62 (Nat.le_of_ble_eq_true rfl) (Nat.le_of_ble_eq_true rfl) (Nat.le_of_ble_eq_true rfl) (Nat.le_of_ble_eq_true rfl)
        · exact absurd hc32 (by decide)
    · skip
      have k8 : 20 < kk := k_nle (by omega) (by omega) hc8
      exact absurd k8 (by omega)
set_option maxHeartbeats 4000000 in
set_option maxRecDepth 100000 in
theorem d_coach_0 (l : Launch) (hst : l.stackTraces = false) (G : va_G) (cI : ClassId) (oz hz da la saz h2 da2 la2 sa2 : Nat) (camez : Nat) (Dz Lz Sz : Fn) (nz : Nat) (cz gz : Int32) (D2 L2 S2 : Fn) (n2 : Nat) (x2 y2 : Int32) (hn : nz ≤ 63) (hc9 : camez ≤ 500) (hS1 : okS Sz) (kk : Nat) (xz yz : Int32) (hk1 : 1 ≤ kk) (hk9 : kk ≤ 20) (ho2 : isO xz (nI 0) (nI 999) = true) (ho3 : isO yz (nI 0) (nI 999) = true) (hn1 : nz + kk ≤ 63) (hc1 : camez + kk ≤ 500) : zX_i l yX1_coach wsX1_coach ({ frames := 6, cells := 1, slots := 6, locals := 106 }) G [(cI, .int)] (wx cI oz hz da la saz h2 da2 la2 sa2 camez (Dz, Lz, Sz, nz, cz, gz) (D2, L2, S2, n2, x2, y2)) (wx cI oz hz da la saz h2 da2 la2 sa2 (camez + kk) (allF (nz + kk - 1) (zsF 63 (laysF xz yz camez kk (Dz, Lz, Sz, nz, cz, gz)))) (D2, L2, S2, n2, x2, y2)) [.ref oz, .int (nI kk), .int xz, .int yz] (none) (wc (allF (nz + kk - 1) (zsF 63 (laysF xz yz camez kk (Dz, Lz, Sz, nz, cz, gz)))) - cz) := by
  refine zBX (cc := cX1_coach) (maxL := 6) (ret := (some .int)) (by decide) rfl (Nat.le_of_ble_eq_true rfl) ?_
  intro p e s m args below meth c0 A hF hr hlk hK hA hP hD hS hE hto ls hl
  have hF : CallFix p m c0 cX1_coach 6 s args wsX1_coach RX1 := hF
  have hx := hF.1
  have hb := hF.2.1
  have hown := hF.2.2.2.1
  have hts := hF.2.2.2.2
  have hf10 := hts (.fieldLink RX1 10 "SnoringDukes" "heap" "LSnoringDukes$WeakHeap;") (by decide +kernel)
  have hf52 := va_Nw.use (A := args) rfl hE.1.2.1
  have hf19 := hts (.fieldLink RX1 19 "SnoringDukes" "numbered" "I") (by decide +kernel)
  have hinX0 : ∀ wz ∈ wsX00, wz ∈ wsX1_coach := by decide +kernel
  have hinX1 : ∀ wz ∈ wsX10, wz ∈ wsX1_coach := by decide +kernel
  have hl : lv_has ls 6 [(0, .ref oz), (1, .int (nI kk)), (2, .int xz), (3, .int yz)] := hl
  refine lv_iload_n hx hb dX1_coach_0 rfl (lv_at hl 1 rfl) ?_
  refine lv_iconst (v := nI 1) hx hb dX1_coach_1 (by decide) ?_
  refine lv_icmp_lt (tgt := 11) hx hb dX1_coach_2 (by decide) (fun hc2 => ?_) (fun hc2 => ?_)
  · skip
    have k2 : kk < 1 := k_lt (by omega) (by omega) hc2
    exact absurd k2 (by omega)
  · skip
    have k2 : 1 ≤ kk := k_nlt (by omega) (by omega) hc2
    refine lv_iload_n hx hb dX1_coach_5 rfl (lv_at hl 1 rfl) ?_
    refine lv_bipush (v := nI 20) hx hb dX1_coach_6 (by decide) ?_
    refine lv_icmp_le (tgt := 21) hx hb dX1_coach_8 (by decide) (fun hc8 => ?_) (fun hc8 => ?_)
    · skip
      have k8 : kk ≤ 20 := k_le (by omega) (by omega) hc8
      refine lv_iload_n hx hb dX1_coach_21 rfl (lv_at hl 2 rfl) ?_
      refine zK_si (av := [.int xz]) (rest := []) hF (d_isUp l G xz) (cwS 1 hts gX1_coach_X1_isUpToLoudest rfl rfl rfl (by decide +kernel) ⟨Nat.le_of_ble_eq_true rfl, Nat.le_of_ble_eq_true rfl⟩) hK hP hD hS hA (isC := []) (isR := [0, 1, 2, 3, 4, 5, 6, 7, 8]) (perm := [0, 1, 2, 3, 4, 5, 6, 7, 8]) (wr := wx cI oz hz da la saz h2 da2 la2 sa2 camez (Dz, Lz, Sz, nz, cz, gz) (D2, L2, S2, n2, x2, y2)) (wN := wx cI oz hz da la saz h2 da2 la2 sa2 camez (Dz, Lz, Sz, nz, cz, gz) (D2, L2, S2, n2, x2, y2)) ⟨rfl, by decide, rfl, by decide, (fun _ _ hz => by cases hz), rfl, by decide⟩ [] rfl rfl hl.1 rfl (Nat.le_of_ble_eq_true rfl) dX1_coach_22 ⟨Nat.le_of_ble_eq_true rfl, Nat.le_of_ble_eq_true rfl⟩ (fun H locs hP hD hS => ?_)
      refine zN (nI 1) (y := (bI (isO xz (nI 0) (nI 999)))) (by rw [ho2]; rfl) ?_
      refine lv_if_eq (tgt := 35) hx hb dX1_coach_25 (by decide) (fun hc25 => ?_) (fun hc25 => ?_)
      · exact absurd hc25 (by decide)
      · skip
        have k25 : 0 < 1 := k0_ne (by omega) hc25
        refine lv_iload_n hx hb dX1_coach_28 rfl (lv_at hl 3 rfl) ?_
        refine zK_si (av := [.int yz]) (rest := []) hF (d_isUp l G yz) (cwS 1 hts gX1_coach_X1_isUpToLoudest rfl rfl rfl (by decide +kernel) ⟨Nat.le_of_ble_eq_true rfl, Nat.le_of_ble_eq_true rfl⟩) hK hP hD hS hA (isC := []) (isR := [0, 1, 2, 3, 4, 5, 6, 7, 8]) (perm := [0, 1, 2, 3, 4, 5, 6, 7, 8]) (wr := wx cI oz hz da la saz h2 da2 la2 sa2 camez (Dz, Lz, Sz, nz, cz, gz) (D2, L2, S2, n2, x2, y2)) (wN := wx cI oz hz da la saz h2 da2 la2 sa2 camez (Dz, Lz, Sz, nz, cz, gz) (D2, L2, S2, n2, x2, y2)) ⟨rfl, by decide, rfl, by decide, (fun _ _ hz => by cases hz), rfl, by decide⟩ [] rfl rfl hl.1 rfl (Nat.le_of_ble_eq_true rfl) dX1_coach_29 ⟨Nat.le_of_ble_eq_true rfl, Nat.le_of_ble_eq_true rfl⟩ (fun H locs hP hD hS => ?_)
        refine zN (nI 1) (y := (bI (isO yz (nI 0) (nI 999)))) (by rw [ho3]; rfl) ?_
        refine lv_if_ne (tgt := 45) hx hb dX1_coach_32 (by decide) (fun hc32 => ?_) (fun hc32 => ?_)
        · skip
          have k32 : 0 < 1 := k0_ne (by omega) hc32
          refine lv_aload_n hx hb dX1_coach_45 rfl (lv_at hl 0 rfl) ?_
          refine lv_iload_n hx hb dX1_coach_46 rfl (lv_at hl 1 rfl) ?_
          refine zK_vy (As := [.int (nI kk)]) (rest := []) hF (d_hasRoomFor l G cI oz hz da la saz h2 da2 la2 sa2 (camez) (Dz) (Lz) (Sz) (nz) (cz) (gz) (D2) (L2) (S2) (n2) (x2) (y2) hn hc9 hS1 kk (by omega)) (cwV 1 hts gX1_coach_X1_hasRoomFor rfl rfl rfl (by decide +kernel) ⟨Nat.le_of_ble_eq_true rfl, Nat.le_of_ble_eq_true rfl⟩) hK hP hD hS hA hE (ci := 1) (q0 := 0) rfl rfl rfl (isC := [0, 1, 2, 3, 4, 5, 6, 7, 8]) (isR := []) (perm := [0, 1, 2, 3, 4, 5, 6, 7, 8]) (wr := []) (wN := wx cI oz hz da la saz h2 da2 la2 sa2 camez (Dz, Lz, Sz, nz, cz, gz) (D2, L2, S2, n2, x2, y2)) ⟨rfl, by decide, rfl, rfl, (fun _ hz => by cases hz), rfl, by decide⟩ [0] rfl rfl hl.1 rfl (Nat.le_of_ble_eq_true rfl) dX1_coach_47 ⟨Nat.le_of_ble_eq_true rfl, Nat.le_of_ble_eq_true rfl⟩ (fun H locs hP hD hS => ?_)
          refine zN (nI 1) (y := (bI (decide (nz + kk ≤ 63) && decide (camez + kk ≤ 500)))) (z_roomt (by omega) (by omega)) ?_
          refine lv_if_ne (tgt := 63) hx hb dX1_coach_50 (by decide) (fun hc50 => ?_) (fun hc50 => ?_)
          · skip
            have k50 : 0 < 1 := k0_ne (by omega) hc50
            refine lv_aload_n hx hb dX1_coach_63 rfl (lv_at hl 0 rfl) ?_
            refine va_get (D := G) (ci := 1) (v := .ref hz) (C := RX1) (T := TX1) (N := 3) hx hb hts hinX1 hown hK hP 0 rfl rfl 0 (by decide) hf10 (fun _ h9 => h9) rfl dX1_coach_64 ?_
            refine va_getN (D := G) (ci := 0) (v := .int cz) (C := RX0) (T := TX0) (N := 6) hx hb hts hinX0 hown hK hP 1 rfl rfl 4 (by decide) hf52 (fun _ h9 => h9) rfl dX1_coach_67 ?_
            refine lv_istore (lv' := [(4, .int cz), (0, .ref oz), (1, .int (nI kk)), (2, .int xz), (3, .int yz)]) hx hb dX1_coach_70 hl (by decide) rfl (fun ls hl => ?_)
            refine lv_iconst (v := nI 0) hx hb dX1_coach_72 (by decide) ?_
            refine lv_istore (lv' := [(5, .int (nI 0)), (4, .int cz), (0, .ref oz), (1, .int (nI kk)), (2, .int xz), (3, .int yz)]) hx hb dX1_coach_73 hl (by decide) rfl (fun ls hl => ?_)
            have hP : va_P G vwCl (wx cI oz hz da la saz h2 da2 la2 sa2 (camez + 0) (wD (laysF xz yz camez 0 (Dz, Lz, Sz, nz, cz, gz)), wL (laysF xz yz camez 0 (Dz, Lz, Sz, nz, cz, gz)), wS (laysF xz yz camez 0 (Dz, Lz, Sz, nz, cz, gz)), nz + 0, wc (laysF xz yz camez 0 (Dz, Lz, Sz, nz, cz, gz)), wg (laysF xz yz camez 0 (Dz, Lz, Sz, nz, cz, gz))) (D2, L2, S2, n2, x2, y2)) H := hP
            have hD : va_D A (wx cI oz hz da la saz h2 da2 la2 sa2 (camez + 0) (wD (laysF xz yz camez 0 (Dz, Lz, Sz, nz, cz, gz)), wL (laysF xz yz camez 0 (Dz, Lz, Sz, nz, cz, gz)), wS (laysF xz yz camez 0 (Dz, Lz, Sz, nz, cz, gz)), nz + 0, wc (laysF xz yz camez 0 (Dz, Lz, Sz, nz, cz, gz)), wg (laysF xz yz camez 0 (Dz, Lz, Sz, nz, cz, gz))) (D2, L2, S2, n2, x2, y2)) := hD
            have loop : ∀ (f9 : Nat) (iz : Nat), (iz ≤ kk) → kk - iz < f9 → ∀ (H : Heap) (locs : List Loc) (ls : Array Slot), va_P G vwCl (wx cI oz hz da la saz h2 da2 la2 sa2 (camez + iz) (wD (laysF xz yz camez iz (Dz, Lz, Sz, nz, cz, gz)), wL (laysF xz yz camez iz (Dz, Lz, Sz, nz, cz, gz)), wS (laysF xz yz camez iz (Dz, Lz, Sz, nz, cz, gz)), nz + iz, wc (laysF xz yz camez iz (Dz, Lz, Sz, nz, cz, gz)), wg (laysF xz yz camez iz (Dz, Lz, Sz, nz, cz, gz))) (D2, L2, S2, n2, x2, y2)) H → va_D A (wx cI oz hz da la saz h2 da2 la2 sa2 (camez + iz) (wD (laysF xz yz camez iz (Dz, Lz, Sz, nz, cz, gz)), wL (laysF xz yz camez iz (Dz, Lz, Sz, nz, cz, gz)), wS (laysF xz yz camez iz (Dz, Lz, Sz, nz, cz, gz)), nz + iz, wc (laysF xz yz camez iz (Dz, Lz, Sz, nz, cz, gz)), wg (laysF xz yz camez iz (Dz, Lz, Sz, nz, cz, gz))) (D2, L2, S2, n2, x2, y2)) → va_S A s.heap H locs → lv_has ls 6 [(0, .ref oz), (1, .int (nI kk)), (2, .int xz), (3, .int yz), (4, .int cz), (5, .int (nI iz))] → W p l e ({ frames := 6, cells := 1, slots := 6, locals := 106 }) s m args below meth c0 H locs 0 0 (zQX below G [(cI, .int)] (wx cI oz hz da la saz h2 da2 la2 sa2 camez (Dz, Lz, Sz, nz, cz, gz) (D2, L2, S2, n2, x2, y2)) (wx cI oz hz da la saz h2 da2 la2 sa2 (camez + kk) (allF (nz + kk - 1) (zsF 63 (laysF xz yz camez kk (Dz, Lz, Sz, nz, cz, gz)))) (D2, L2, S2, n2, x2, y2)) (none) (wc (allF (nz + kk - 1) (zsF 63 (laysF xz yz camez kk (Dz, Lz, Sz, nz, cz, gz)))) - cz) A args s) (F0 m 75 ls []) := by
              intro f9
              induction f9 with
              | zero => intro iz hi hf; exact absurd hf (Nat.not_lt_zero _)
              | succ f9 ih =>
                intro iz hi hf H locs ls hP hD hS hl
                refine lv_iload hx hb dX1_coach_75 (lv_at hl 5 rfl) ?_
                refine lv_iload_n hx hb dX1_coach_77 rfl (lv_at hl 1 rfl) ?_
                refine lv_icmp_ge (tgt := 118) hx hb dX1_coach_78 (by decide) (fun hc78 => ?_) (fun hc78 => ?_)
                · skip
                  have k78 : kk ≤ iz := k_le (by omega) (by omega) hc78
                  obtain rfl : kk = iz := by omega
                  have hS8 : okS (wS (laysF xz yz camez kk (Dz, Lz, Sz, nz, cz, gz))) := laysF_okS hS1 kk
                  refine lv_aload_n hx hb dX1_coach_118 rfl (lv_at hl 0 rfl) ?_
                  refine va_get (D := G) (ci := 1) (v := .ref hz) (C := RX1) (T := TX1) (N := 3) hx hb hts hinX1 hown hK hP 0 rfl rfl 0 (by decide) hf10 (fun _ h9 => h9) rfl dX1_coach_119 ?_
                  refine zK_vv (As := []) (rest := []) hF (c_joinAll l G cI hz da la saz (wD (laysF xz yz camez kk (Dz, Lz, Sz, nz, cz, gz))) (wL (laysF xz yz camez kk (Dz, Lz, Sz, nz, cz, gz))) (wS (laysF xz yz camez kk (Dz, Lz, Sz, nz, cz, gz))) (nz + kk) (wc (laysF xz yz camez kk (Dz, Lz, Sz, nz, cz, gz))) (wg (laysF xz yz camez kk (Dz, Lz, Sz, nz, cz, gz))) (by omega) (by omega) hS8) (cwV 0 hts gX1_coach_X0_joinAll rfl rfl rfl (by decide +kernel) ⟨Nat.le_of_ble_eq_true rfl, Nat.le_of_ble_eq_true rfl⟩) hK hP hD hS hA (ci := 0) (q0 := 1) rfl rfl rfl (isC := [1, 2, 3, 4]) (isR := [0, 5, 6, 7, 8]) (perm := [0, 5, 6, 7, 8, 1, 2, 3, 4]) (wr := (oz, .inr (1, [.ref hz, .ref h2, .int (nI (camez + kk))])) :: wh cI h2 da2 la2 sa2 (D2, L2, S2, n2, x2, y2)) (wN := wx cI oz hz da la saz h2 da2 la2 sa2 (camez + kk) (allF (nz + kk - 1) (wD (laysF xz yz camez kk (Dz, Lz, Sz, nz, cz, gz)), wL (laysF xz yz camez kk (Dz, Lz, Sz, nz, cz, gz)), zfF 63 (wS (laysF xz yz camez kk (Dz, Lz, Sz, nz, cz, gz))), nz + kk, wc (laysF xz yz camez kk (Dz, Lz, Sz, nz, cz, gz)), wg (laysF xz yz camez kk (Dz, Lz, Sz, nz, cz, gz)))) (D2, L2, S2, n2, x2, y2)) ⟨rfl, by decide, rfl, by decide, by decide, rfl, by decide⟩ [0] rfl rfl hl.1 rfl (Nat.le_of_ble_eq_true rfl) dX1_coach_122 ⟨Nat.le_of_ble_eq_true rfl, Nat.le_of_ble_eq_true rfl⟩ (fun H locs hP hD hS => ?_)
                  refine lv_aload_n hx hb dX1_coach_125 rfl (lv_at hl 0 rfl) ?_
                  refine va_get (D := G) (ci := 1) (v := .ref hz) (C := RX1) (T := TX1) (N := 3) hx hb hts hinX1 hown hK hP 0 rfl rfl 0 (by decide) hf10 (fun _ h9 => h9) rfl dX1_coach_126 ?_
                  refine va_getN (D := G) (ci := 0) (v := .int (wc (allF (nz + kk - 1) (wD (laysF xz yz camez kk (Dz, Lz, Sz, nz, cz, gz)), wL (laysF xz yz camez kk (Dz, Lz, Sz, nz, cz, gz)), zfF 63 (wS (laysF xz yz camez kk (Dz, Lz, Sz, nz, cz, gz))), nz + kk, wc (laysF xz yz camez kk (Dz, Lz, Sz, nz, cz, gz)), wg (laysF xz yz camez kk (Dz, Lz, Sz, nz, cz, gz)))))) (C := RX0) (T := TX0) (N := 6) hx hb hts hinX0 hown hK hP 1 rfl rfl 4 (by decide) hf52 (fun _ h9 => h9) rfl dX1_coach_129 ?_
                  refine lv_iload hx hb dX1_coach_132 (lv_at hl 4 rfl) ?_
                  refine lv_isub hx hb dX1_coach_134 ?_
                  have e7 : zsF 63 (laysF xz yz camez kk (Dz, Lz, Sz, nz, cz, gz)) = (wD (laysF xz yz camez kk (Dz, Lz, Sz, nz, cz, gz)), wL (laysF xz yz camez kk (Dz, Lz, Sz, nz, cz, gz)), zfF 63 (wS (laysF xz yz camez kk (Dz, Lz, Sz, nz, cz, gz))), nz + kk, wc (laysF xz yz camez kk (Dz, Lz, Sz, nz, cz, gz)), wg (laysF xz yz camez kk (Dz, Lz, Sz, nz, cz, gz))) := by unfold zsF; rw [laysF_n]
                  rw [e7]
                  exact zEX_i hF hr hlk rfl hK hP hD hS (Nat.le_of_ble_eq_true rfl) (Nat.le_of_ble_eq_true rfl) dX1_coach_135
                · skip
                  have k78 : iz < kk := k_nle (by omega) (by omega) hc78
                  refine lv_aload_n hx hb dX1_coach_81 rfl (lv_at hl 0 rfl) ?_
                  refine va_get (D := G) (ci := 1) (v := .ref hz) (C := RX1) (T := TX1) (N := 3) hx hb hts hinX1 hown hK hP 0 rfl rfl 0 (by decide) hf10 (fun _ h9 => h9) rfl dX1_coach_82 ?_
                  refine lv_aload_n hx hb dX1_coach_85 rfl (lv_at hl 0 rfl) ?_
                  refine va_get (D := G) (ci := 1) (v := .int (nI (camez + iz))) (C := RX1) (T := TX1) (N := 3) hx hb hts hinX1 hown hK hP 0 rfl rfl 2 (by decide) hf19 (fun _ h9 => h9) rfl dX1_coach_86 ?_
                  refine lv_iload_n hx hb dX1_coach_89 rfl (lv_at hl 2 rfl) ?_
                  refine lv_iload hx hb dX1_coach_90 (lv_at hl 5 rfl) ?_
                  refine lv_iload_n hx hb dX1_coach_92 rfl (lv_at hl 3 rfl) ?_
                  refine lv_imul hx hb dX1_coach_93 ?_
                  refine lv_iadd hx hb dX1_coach_94 ?_
                  refine lv_sipush (v := nI 1000) hx hb dX1_coach_95 (by decide) ?_
                  refine lv_irem hx hb dX1_coach_98 (by decide) ?_
                  refine zK_vv (As := [.int (nI (camez + iz)), .int ((xz + ((nI iz) * yz)) - (xz + ((nI iz) * yz)) / (nI 1000) * (nI 1000))]) (rest := []) hF (c_lay l G cI hz da la saz (wD (laysF xz yz camez iz (Dz, Lz, Sz, nz, cz, gz))) (wL (laysF xz yz camez iz (Dz, Lz, Sz, nz, cz, gz))) (wS (laysF xz yz camez iz (Dz, Lz, Sz, nz, cz, gz))) (nz + iz) (wc (laysF xz yz camez iz (Dz, Lz, Sz, nz, cz, gz))) (wg (laysF xz yz camez iz (Dz, Lz, Sz, nz, cz, gz))) (by omega) (nI (camez + iz)) ((xz + ((nI iz) * yz)) - (xz + ((nI iz) * yz)) / (nI 1000) * (nI 1000))) (cwV 2 hts gX1_coach_X0_lay rfl rfl rfl (by decide +kernel) ⟨Nat.le_of_ble_eq_true rfl, Nat.le_of_ble_eq_true rfl⟩) hK hP hD hS hA (ci := 0) (q0 := 1) rfl rfl rfl (isC := [1, 2, 3, 4]) (isR := [0, 5, 6, 7, 8]) (perm := [0, 5, 6, 7, 8, 1, 2, 3, 4]) (wr := (oz, .inr (1, [.ref hz, .ref h2, .int (nI (camez + iz))])) :: wh cI h2 da2 la2 sa2 (D2, L2, S2, n2, x2, y2)) (wN := wx cI oz hz da la saz h2 da2 la2 sa2 (camez + iz) (layF (wD (laysF xz yz camez iz (Dz, Lz, Sz, nz, cz, gz)), wL (laysF xz yz camez iz (Dz, Lz, Sz, nz, cz, gz)), wS (laysF xz yz camez iz (Dz, Lz, Sz, nz, cz, gz)), nz + iz, wc (laysF xz yz camez iz (Dz, Lz, Sz, nz, cz, gz)), wg (laysF xz yz camez iz (Dz, Lz, Sz, nz, cz, gz))) (nI (camez + iz)) ((xz + ((nI iz) * yz)) - (xz + ((nI iz) * yz)) / (nI 1000) * (nI 1000))) (D2, L2, S2, n2, x2, y2)) ⟨rfl, by decide, rfl, by decide, by decide, rfl, by decide⟩ [0] rfl rfl hl.1 rfl (Nat.le_of_ble_eq_true rfl) dX1_coach_99 ⟨Nat.le_of_ble_eq_true rfl, Nat.le_of_ble_eq_true rfl⟩ (fun H locs hP hD hS => ?_)
                  have e9 : layF (wD (laysF xz yz camez iz (Dz, Lz, Sz, nz, cz, gz)), wL (laysF xz yz camez iz (Dz, Lz, Sz, nz, cz, gz)), wS (laysF xz yz camez iz (Dz, Lz, Sz, nz, cz, gz)), nz + iz, wc (laysF xz yz camez iz (Dz, Lz, Sz, nz, cz, gz)), wg (laysF xz yz camez iz (Dz, Lz, Sz, nz, cz, gz))) (nI (camez + iz)) ((xz + nI iz * yz) - (xz + nI iz * yz) / nI 1000 * nI 1000) = (wD (laysF xz yz camez (iz + 1) (Dz, Lz, Sz, nz, cz, gz)), wL (laysF xz yz camez (iz + 1) (Dz, Lz, Sz, nz, cz, gz)), wS (laysF xz yz camez (iz + 1) (Dz, Lz, Sz, nz, cz, gz)), nz + (iz + 1), wc (laysF xz yz camez (iz + 1) (Dz, Lz, Sz, nz, cz, gz)), wg (laysF xz yz camez (iz + 1) (Dz, Lz, Sz, nz, cz, gz))) := (congrArg (fun wz => layF wz (nI (camez + iz)) ((xz + nI iz * yz) - (xz + nI iz * yz) / nI 1000 * nI 1000)) (laysF_eq iz).symm).trans (laysF_eq (iz + 1))
                  have hP : va_P G vwCl (wx cI oz hz da la saz h2 da2 la2 sa2 (camez + iz) (wD (laysF xz yz camez (iz + 1) (Dz, Lz, Sz, nz, cz, gz)), wL (laysF xz yz camez (iz + 1) (Dz, Lz, Sz, nz, cz, gz)), wS (laysF xz yz camez (iz + 1) (Dz, Lz, Sz, nz, cz, gz)), nz + (iz + 1), wc (laysF xz yz camez (iz + 1) (Dz, Lz, Sz, nz, cz, gz)), wg (laysF xz yz camez (iz + 1) (Dz, Lz, Sz, nz, cz, gz))) (D2, L2, S2, n2, x2, y2)) H := by rw [← e9]; exact hP
                  have hD : va_D A (wx cI oz hz da la saz h2 da2 la2 sa2 (camez + iz) (wD (laysF xz yz camez (iz + 1) (Dz, Lz, Sz, nz, cz, gz)), wL (laysF xz yz camez (iz + 1) (Dz, Lz, Sz, nz, cz, gz)), wS (laysF xz yz camez (iz + 1) (Dz, Lz, Sz, nz, cz, gz)), nz + (iz + 1), wc (laysF xz yz camez (iz + 1) (Dz, Lz, Sz, nz, cz, gz)), wg (laysF xz yz camez (iz + 1) (Dz, Lz, Sz, nz, cz, gz))) (D2, L2, S2, n2, x2, y2)) := by rw [← e9]; exact hD
                  refine lv_aload_n hx hb dX1_coach_102 rfl (lv_at hl 0 rfl) ?_
                  refine lv_dup hx hb dX1_coach_103 rfl ?_
                  refine va_get (D := G) (ci := 1) (v := .int (nI (camez + iz))) (C := RX1) (T := TX1) (N := 3) hx hb hts hinX1 hown hK hP 0 rfl rfl 2 (by decide) hf19 (fun _ h9 => h9) rfl dX1_coach_104 ?_
                  refine lv_iconst (v := nI 1) hx hb dX1_coach_107 (by decide) ?_
                  refine lv_iadd hx hb dX1_coach_108 ?_
                  refine zN (nI ((camez + iz) + 1)) (y := ((nI (camez + iz)) + (nI 1))) (nI_add _ _) ?_
                  refine va_put (D := G) (ci := 1) (v := .int (nI ((camez + iz) + 1))) (ty := .int) (C := RX1) (T := TX1) (N := 3) hx hb hts hinX1 tyX1 tyX1_ok nmX1 hown hK hP hD hS 0 rfl rfl 2 (by decide) hf19 (fun _ h9 => h9) rfl (by decide +kernel) rfl rfl (Nat.le_of_ble_eq_true rfl) dX1_coach_109 (fun H locs hP hD hS => ?_)
                  have hP : va_P G vwCl (wx cI oz hz da la saz h2 da2 la2 sa2 ((camez + iz) + 1) (wD (laysF xz yz camez (iz + 1) (Dz, Lz, Sz, nz, cz, gz)), wL (laysF xz yz camez (iz + 1) (Dz, Lz, Sz, nz, cz, gz)), wS (laysF xz yz camez (iz + 1) (Dz, Lz, Sz, nz, cz, gz)), nz + (iz + 1), wc (laysF xz yz camez (iz + 1) (Dz, Lz, Sz, nz, cz, gz)), wg (laysF xz yz camez (iz + 1) (Dz, Lz, Sz, nz, cz, gz))) (D2, L2, S2, n2, x2, y2)) H := hP
                  have hD : va_D A (wx cI oz hz da la saz h2 da2 la2 sa2 ((camez + iz) + 1) (wD (laysF xz yz camez (iz + 1) (Dz, Lz, Sz, nz, cz, gz)), wL (laysF xz yz camez (iz + 1) (Dz, Lz, Sz, nz, cz, gz)), wS (laysF xz yz camez (iz + 1) (Dz, Lz, Sz, nz, cz, gz)), nz + (iz + 1), wc (laysF xz yz camez (iz + 1) (Dz, Lz, Sz, nz, cz, gz)), wg (laysF xz yz camez (iz + 1) (Dz, Lz, Sz, nz, cz, gz))) (D2, L2, S2, n2, x2, y2)) := hD
                  have hP : va_P G vwCl (wx cI oz hz da la saz h2 da2 la2 sa2 (camez + (iz + 1)) (wD (laysF xz yz camez (iz + 1) (Dz, Lz, Sz, nz, cz, gz)), wL (laysF xz yz camez (iz + 1) (Dz, Lz, Sz, nz, cz, gz)), wS (laysF xz yz camez (iz + 1) (Dz, Lz, Sz, nz, cz, gz)), nz + (iz + 1), wc (laysF xz yz camez (iz + 1) (Dz, Lz, Sz, nz, cz, gz)), wg (laysF xz yz camez (iz + 1) (Dz, Lz, Sz, nz, cz, gz))) (D2, L2, S2, n2, x2, y2)) H := hP
                  have hD : va_D A (wx cI oz hz da la saz h2 da2 la2 sa2 (camez + (iz + 1)) (wD (laysF xz yz camez (iz + 1) (Dz, Lz, Sz, nz, cz, gz)), wL (laysF xz yz camez (iz + 1) (Dz, Lz, Sz, nz, cz, gz)), wS (laysF xz yz camez (iz + 1) (Dz, Lz, Sz, nz, cz, gz)), nz + (iz + 1), wc (laysF xz yz camez (iz + 1) (Dz, Lz, Sz, nz, cz, gz)), wg (laysF xz yz camez (iz + 1) (Dz, Lz, Sz, nz, cz, gz))) (D2, L2, S2, n2, x2, y2)) := hD
                  refine lv_iinc (v := nI (iz + 1)) (lv' := [(5, .int (nI (iz + 1))), (0, .ref oz), (1, .int (nI kk)), (2, .int xz), (3, .int yz), (4, .int cz)]) hx hb dX1_coach_112 hl (k := 5) rfl (nI_1 _) (by decide) rfl (fun ls hl => ?_)
                  refine lv_goto (tgt := 75) hx hb dX1_coach_115 (by decide) ?_
                  exact ih (iz + 1) (by omega) (by omega) _ _ _ hP hD hS (lv_sub hl [1, 2, 3, 4, 5, 0] rfl)
            exact loop (kk + 1) 0 (by omega) (by omega) _ _ _ hP hD hS (lv_sub hl [2, 3, 4, 5, 1, 0] rfl)
          · exact absurd hc50 (by decide)
        · exact absurd hc32 (by decide)
    · skip
      have k8 : 20 < kk := k_nle (by omega) (by omega) hc8
      exact absurd k8 (by omega)
