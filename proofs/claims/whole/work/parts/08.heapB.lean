/-! WeakHeap: counts over all berths -/
set_option maxHeartbeats 4000000 in
set_option maxRecDepth 100000 in
theorem c_countFollowers (l : Launch) (G : va_G) (cI : ClassId) (hz da la saz : Nat) (Dz Lz Sz : Fn) (nz : Nat) (cz gz : Int32) (hn : nz ≤ 63) (hS1 : okS Sz) (bz : Nat) (hb9 : bz < nz) : zC_i l yX0_countFollowers wsX0_countFollowers ({ frames := 4, cells := 0, slots := 0, locals := 85 }) G [(cI, .int)] (wh cI hz da la saz (Dz, Lz, Sz, nz, cz, gz)) (wh cI hz da la saz (Dz, Lz, Sz, nz, cz, gz)) [.ref hz, .int (nI bz)] (flw Sz bz nz) := by
  refine zB_i (cc := cX0_countFollowers) (maxL := 4) (ret := (some .int)) (by decide) rfl (Nat.le_of_ble_eq_true rfl) ?_
  intro p e s m args below meth c0 A hF hr hlk hK hA hP hD hS ls hl
  have hx := hF.1
  have hb := hF.2.1
  have hown := hF.2.2.2.1
  have hts := hF.2.2.2.2
  have hf21 := hts (.fieldLink RX0 21 "SnoringDukes$WeakHeap" "size" "I") (by decide +kernel)
  have hinX0 : ∀ wz ∈ wsX00, wz ∈ wsX0_countFollowers := by decide +kernel
  have hl : lv_has ls 4 [(0, .ref hz), (1, .int (nI bz))] := hl
  refine lv_iconst (v := nI 0) hx hb dX0_countFollowers_0 (by decide) ?_
  refine lv_istore_n (lv' := [(2, .int (nI 0)), (0, .ref hz), (1, .int (nI bz))]) hx hb dX0_countFollowers_1 rfl hl (by decide) rfl (fun ls hl => ?_)
  refine lv_iconst (v := nI 1) hx hb dX0_countFollowers_2 (by decide) ?_
  refine lv_istore_n (lv' := [(3, .int (nI 1)), (2, .int (nI 0)), (0, .ref hz), (1, .int (nI bz))]) hx hb dX0_countFollowers_3 rfl hl (by decide) rfl (fun ls hl => ?_)
  have hl : lv_has ls 4 [(3, .int (nI 1)), (2, .int (flw Sz bz 1)), (0, .ref hz), (1, .int (nI bz))] := hl
  have loop : ∀ (f9 : Nat) (iz : Nat), (1 ≤ iz) → (iz ≤ nz) → nz - iz < f9 → ∀ (H : Heap) (locs : List Loc) (ls : Array Slot), va_P G vwCl (wh cI hz da la saz (Dz, Lz, Sz, nz, cz, gz)) H → va_D A (wh cI hz da la saz (Dz, Lz, Sz, nz, cz, gz)) → va_S A s.heap H locs → lv_has ls 4 [(0, .ref hz), (1, .int (nI bz)), (2, .int (flw Sz bz iz)), (3, .int (nI iz))] → W p l e ({ frames := 4, cells := 0, slots := 0, locals := 85 }) s m args below meth c0 H locs 0 0 (zQ_i below G [(cI, .int)] (wh cI hz da la saz (Dz, Lz, Sz, nz, cz, gz)) (flw Sz bz nz) A args s) (F0 m 4 ls []) := by
    intro f9
    induction f9 with
    | zero => intro iz h1 h2 hf; exact absurd hf (Nat.not_lt_zero _)
    | succ f9 ih =>
      intro iz h1 h2 hf H locs ls hP hD hS hl
      have ze := eld_le Sz iz
      refine lv_iload_n hx hb dX0_countFollowers_4 rfl (lv_at hl 3 rfl) ?_
      refine lv_aload_n hx hb dX0_countFollowers_5 rfl (lv_at hl 0 rfl) ?_
      refine va_get (D := G) (ci := 0) (v := .int (nI nz)) (C := RX0) (T := TX0) (N := 6) hx hb hts hinX0 hown hK hP 0 rfl rfl 3 (by decide) hf21 (fun _ h9 => h9) rfl dX0_countFollowers_6 ?_
      refine lv_icmp_ge (tgt := 30) hx hb dX0_countFollowers_9 (by decide) (fun hc9 => ?_) (fun hc9 => ?_)
      · skip
        have k9 : nz ≤ iz := k_le (by omega) (by omega) hc9
        refine lv_iload_n hx hb dX0_countFollowers_30 rfl (lv_at hl 2 rfl) ?_
        obtain rfl : nz = iz := by omega
        exact zE_i hF hr hlk hK hP hD hS dX0_countFollowers_31
      · skip
        have k9 : iz < nz := k_nle (by omega) (by omega) hc9
        refine lv_aload_n hx hb dX0_countFollowers_12 rfl (lv_at hl 0 rfl) ?_
        refine lv_iload_n hx hb dX0_countFollowers_13 rfl (lv_at hl 3 rfl) ?_
        refine zK_vi (As := [.int (nI iz)]) (rest := []) hF (c_elder l G cI hz da la saz (Dz) (Lz) (Sz) (nz) (cz) (gz) hn hS1 iz (by omega)) (cwV 1 hts gX0_countFollowers_X0_elder rfl rfl rfl (by decide +kernel) ⟨Nat.le_of_ble_eq_true rfl, Nat.le_of_ble_eq_true rfl⟩) hK hP hD hS hA (ci := 0) (q0 := 0) rfl rfl rfl (isC := [0, 1, 2, 3]) (isR := []) (perm := [0, 1, 2, 3]) (wr := []) (wN := wh cI hz da la saz (Dz, Lz, Sz, nz, cz, gz)) ⟨rfl, by decide, rfl, rfl, (fun _ hz => by cases hz), rfl, by decide⟩ [0] rfl rfl hl.1 rfl (Nat.le_of_ble_eq_true rfl) dX0_countFollowers_14 ⟨Nat.le_refl _, Nat.le_refl _⟩ (fun H locs hP hD hS => ?_)
        refine lv_iload_n hx hb dX0_countFollowers_17 rfl (lv_at hl 1 rfl) ?_
        refine lv_icmp_ne (tgt := 24) hx hb dX0_countFollowers_18 (by decide) (fun hc18 => ?_) (fun hc18 => ?_)
        · skip
          have k18 : (eld Sz iz) ≠ bz := k_ne (by omega) (by omega) hc18
          have e9 : flw Sz bz iz = flw Sz bz (iz + 1) := by rw [flw, if_neg (fun qz => k18 qz.2)]
          have hl : lv_has ls 4 [(0, .ref hz), (1, .int (nI bz)), (2, .int (flw Sz bz (iz + 1))), (3, .int (nI iz))] := by rw [← e9]; exact hl
          refine lv_iinc (v := nI (iz + 1)) (lv' := [(3, .int (nI (iz + 1))), (0, .ref hz), (1, .int (nI bz)), (2, .int (flw Sz bz (iz + 1)))]) hx hb dX0_countFollowers_24 hl (k := 3) rfl (nI_1 _) (by decide) rfl (fun ls hl => ?_)
          refine lv_goto (tgt := 4) hx hb dX0_countFollowers_27 (by decide) ?_
          exact ih (iz + 1) (by omega) (by omega) (by omega) _ _ _ hP hD hS (lv_sub hl [1, 2, 3, 0] rfl)
        · skip
          have k18 : (eld Sz iz) = bz := k_eq (by omega) (by omega) hc18
          refine lv_iinc (v := (flw Sz bz iz) + 1) (lv' := [(2, .int ((flw Sz bz iz) + 1)), (0, .ref hz), (1, .int (nI bz)), (3, .int (nI iz))]) hx hb dX0_countFollowers_21 hl (k := 2) rfl (rfl) (by decide) rfl (fun ls hl => ?_)
          have e9 : flw Sz bz iz + 1 = flw Sz bz (iz + 1) := by rw [flw, if_pos ⟨by omega, k18⟩]
          have hl : lv_has ls 4 [(2, .int (flw Sz bz (iz + 1))), (0, .ref hz), (1, .int (nI bz)), (3, .int (nI iz))] := by rw [← e9]; exact hl
          refine lv_iinc (v := nI (iz + 1)) (lv' := [(3, .int (nI (iz + 1))), (2, .int (flw Sz bz (iz + 1))), (0, .ref hz), (1, .int (nI bz))]) hx hb dX0_countFollowers_24 hl (k := 3) rfl (nI_1 _) (by decide) rfl (fun ls hl => ?_)
          refine lv_goto (tgt := 4) hx hb dX0_countFollowers_27 (by decide) ?_
          exact ih (iz + 1) (by omega) (by omega) (by omega) _ _ _ hP hD hS (lv_sub hl [2, 3, 1, 0] rfl)
  exact loop (nz + 1) 1 (Nat.le_refl _) (by omega) (by omega) _ _ _ hP hD hS (lv_sub hl [2, 3, 1, 0] rfl)
set_option maxHeartbeats 4000000 in
set_option maxRecDepth 100000 in
theorem c_countFlipped (l : Launch) (G : va_G) (cI : ClassId) (hz da la saz : Nat) (Dz Lz Sz : Fn) (nz : Nat) (cz gz : Int32) (hn : nz ≤ 63) : zC_i l yX0_countFlipped wsX0_countFlipped ({ frames := 2, cells := 0, slots := 0, locals := 42 }) G [(cI, .int)] (wh cI hz da la saz (Dz, Lz, Sz, nz, cz, gz)) (wh cI hz da la saz (Dz, Lz, Sz, nz, cz, gz)) [.ref hz] (flp Sz nz) := by
  refine zB_i (cc := cX0_countFlipped) (maxL := 3) (ret := (some .int)) (by decide) rfl (Nat.le_of_ble_eq_true rfl) ?_
  intro p e s m args below meth c0 A hF hr hlk hK hA hP hD hS ls hl
  have hx := hF.1
  have hb := hF.2.1
  have hown := hF.2.2.2.1
  have hts := hF.2.2.2.2
  have hf21 := hts (.fieldLink RX0 21 "SnoringDukes$WeakHeap" "size" "I") (by decide +kernel)
  have hinX0 : ∀ wz ∈ wsX00, wz ∈ wsX0_countFlipped := by decide +kernel
  have hl : lv_has ls 3 [(0, .ref hz)] := hl
  refine lv_iconst (v := nI 0) hx hb dX0_countFlipped_0 (by decide) ?_
  refine lv_istore_n (lv' := [(1, .int (nI 0)), (0, .ref hz)]) hx hb dX0_countFlipped_1 rfl hl (by decide) rfl (fun ls hl => ?_)
  refine lv_iconst (v := nI 0) hx hb dX0_countFlipped_2 (by decide) ?_
  refine lv_istore_n (lv' := [(2, .int (nI 0)), (1, .int (nI 0)), (0, .ref hz)]) hx hb dX0_countFlipped_3 rfl hl (by decide) rfl (fun ls hl => ?_)
  have hl : lv_has ls 3 [(2, .int (nI 0)), (1, .int (flp Sz 0)), (0, .ref hz)] := hl
  have loop : ∀ (f9 : Nat) (iz : Nat), (iz ≤ nz) → nz - iz < f9 → ∀ (H : Heap) (locs : List Loc) (ls : Array Slot), va_P G vwCl (wh cI hz da la saz (Dz, Lz, Sz, nz, cz, gz)) H → va_D A (wh cI hz da la saz (Dz, Lz, Sz, nz, cz, gz)) → va_S A s.heap H locs → lv_has ls 3 [(0, .ref hz), (1, .int (flp Sz iz)), (2, .int (nI iz))] → W p l e ({ frames := 2, cells := 0, slots := 0, locals := 42 }) s m args below meth c0 H locs 0 0 (zQ_i below G [(cI, .int)] (wh cI hz da la saz (Dz, Lz, Sz, nz, cz, gz)) (flp Sz nz) A args s) (F0 m 4 ls []) := by
    intro f9
    induction f9 with
    | zero => intro iz h2 hf; exact absurd hf (Nat.not_lt_zero _)
    | succ f9 ih =>
      intro iz h2 hf H locs ls hP hD hS hl
      refine lv_iload_n hx hb dX0_countFlipped_4 rfl (lv_at hl 2 rfl) ?_
      refine lv_aload_n hx hb dX0_countFlipped_5 rfl (lv_at hl 0 rfl) ?_
      refine va_get (D := G) (ci := 0) (v := .int (nI nz)) (C := RX0) (T := TX0) (N := 6) hx hb hts hinX0 hown hK hP 0 rfl rfl 3 (by decide) hf21 (fun _ h9 => h9) rfl dX0_countFlipped_6 ?_
      refine lv_icmp_ge (tgt := 26) hx hb dX0_countFlipped_9 (by decide) (fun hc9 => ?_) (fun hc9 => ?_)
      · skip
        have k9 : nz ≤ iz := k_le (by omega) (by omega) hc9
        refine lv_iload_n hx hb dX0_countFlipped_26 rfl (lv_at hl 1 rfl) ?_
        obtain rfl : nz = iz := by omega
        exact zE_i hF hr hlk hK hP hD hS dX0_countFlipped_27
      · skip
        have k9 : iz < nz := k_nle (by omega) (by omega) hc9
        refine lv_iload_n hx hb dX0_countFlipped_12 rfl (lv_at hl 1 rfl) ?_
        refine lv_aload_n hx hb dX0_countFlipped_13 rfl (lv_at hl 0 rfl) ?_
        refine lv_iload_n hx hb dX0_countFlipped_14 rfl (lv_at hl 2 rfl) ?_
        refine zK_vi (As := [.int (nI iz)]) (rest := [.int (flp Sz iz)]) hF (c_sideAt l G cI hz da la saz (Dz) (Lz) (Sz) (nz) (cz) (gz) hn iz (by omega)) (cwV 1 hts gX0_countFlipped_X0_sideAt rfl rfl rfl (by decide +kernel) ⟨Nat.le_of_ble_eq_true rfl, Nat.le_of_ble_eq_true rfl⟩) hK hP hD hS hA (ci := 0) (q0 := 0) rfl rfl rfl (isC := [0, 1, 2, 3]) (isR := []) (perm := [0, 1, 2, 3]) (wr := []) (wN := wh cI hz da la saz (Dz, Lz, Sz, nz, cz, gz)) ⟨rfl, by decide, rfl, rfl, (fun _ hz => by cases hz), rfl, by decide⟩ [0] rfl rfl hl.1 rfl (Nat.le_of_ble_eq_true rfl) dX0_countFlipped_15 ⟨Nat.le_refl _, Nat.le_refl _⟩ (fun H locs hP hD hS => ?_)
        refine zN (Sz iz) (y := (if iz < nz then Sz iz else 0)) (if_pos k9) ?_
        refine lv_iadd hx hb dX0_countFlipped_18 ?_
        refine zN (flp Sz (iz + 1)) (y := ((flp Sz iz) + (Sz iz))) (rfl) ?_
        refine lv_istore_n (lv' := [(1, .int (flp Sz (iz + 1))), (0, .ref hz), (2, .int (nI iz))]) hx hb dX0_countFlipped_19 rfl hl (by decide) rfl (fun ls hl => ?_)
        refine lv_iinc (v := nI (iz + 1)) (lv' := [(2, .int (nI (iz + 1))), (1, .int (flp Sz (iz + 1))), (0, .ref hz)]) hx hb dX0_countFlipped_20 hl (k := 2) rfl (nI_1 _) (by decide) rfl (fun ls hl => ?_)
        refine lv_goto (tgt := 4) hx hb dX0_countFlipped_23 (by decide) ?_
        exact ih (iz + 1) (by omega) (by omega) _ _ _ hP hD hS (lv_sub hl [2, 1, 0] rfl)
  exact loop (nz + 1) 0 (by omega) (by omega) _ _ _ hP hD hS (lv_sub hl [2, 1, 0] rfl)
def ush (xz : Int64) (kz : Nat) : Int64 := (xz.toUInt64 >>> ((nI kz).toInt64.toUInt64 &&& Int64.toUInt64 63)).toInt64
def bc1 (xz : Int64) : Int64 := xz - (ush xz 1 &&& 6148914691236517205)
def bc2 (xz : Int64) : Int64 := (xz &&& 3689348814741910323) + (ush xz 2 &&& 3689348814741910323)
def bc3 (xz : Int64) : Int64 := (xz + ush xz 4) &&& 1085102592571150095
def bc4 (kz : Nat) (xz : Int64) : Int64 := xz + ush xz kz
/-- Long.bitCount, as the library computes it -/
def bcF (xz : Int64) : Int32 := (bc4 32 (bc4 16 (bc4 8 (bc3 (bc2 (bc1 xz)))))).toInt32 &&& nI 127
set_option maxHeartbeats 4000000 in
set_option maxRecDepth 100000 in
theorem c_bitCount (l : Launch) (G : va_G) (xz : Int64) : zC_i l yJ13_bitCount_95d88 wsJ13_bitCount_95d88 ({ frames := 0, cells := 0, slots := 0, locals := 0 }) G [] ([]) ([]) [.long xz] (bcF xz) := by
  refine zB_i (cc := cJ13_bitCount_95d88) (maxL := 2) (ret := (some .int)) (by decide) rfl (Nat.le_of_ble_eq_true rfl) ?_
  intro p e s m args below meth c0 A hF hr hlk hK hA hP hD hS ls hl
  have hx := hF.1
  have hb := hF.2.1
  have hown := hF.2.2.2.1
  have hts := hF.2.2.2.2
  have hl : lv_has ls 2 [(0, .long xz)] := hl
  refine lv_lload_n hx hb dJ13_bitCount_95d88_0 rfl (lv_at hl 0 rfl) ?_
  refine lv_lload_n hx hb dJ13_bitCount_95d88_1 rfl (lv_at hl 0 rfl) ?_
  refine lv_iconst (v := nI 1) hx hb dJ13_bitCount_95d88_2 (by decide) ?_
  refine lv_lushr (v := ush xz 1) hx hb dJ13_bitCount_95d88_3 rfl ?_
  refine lv_ldc2 (v := 6148914691236517205) hx hb hown (hts (.constantLong RJ13 314 (6148914691236517205)) (by decide +kernel)) dJ13_bitCount_95d88_4 ?_
  refine lv_land hx hb dJ13_bitCount_95d88_7 ?_
  refine lv_lsub hx hb dJ13_bitCount_95d88_8 ?_
  refine lv_lstore_n (lv' := [(0, .long (xz - ((ush xz 1) &&& 6148914691236517205)))]) hx hb dJ13_bitCount_95d88_9 rfl hl (by decide) rfl (fun ls hl => ?_)
  refine lv_lload_n hx hb dJ13_bitCount_95d88_10 rfl (lv_at hl 0 rfl) ?_
  refine lv_ldc2 (v := 3689348814741910323) hx hb hown (hts (.constantLong RJ13 316 (3689348814741910323)) (by decide +kernel)) dJ13_bitCount_95d88_11 ?_
  refine lv_land hx hb dJ13_bitCount_95d88_14 ?_
  refine lv_lload_n hx hb dJ13_bitCount_95d88_15 rfl (lv_at hl 0 rfl) ?_
  refine lv_iconst (v := nI 2) hx hb dJ13_bitCount_95d88_16 (by decide) ?_
  refine lv_lushr (v := ush (xz - ((ush xz 1) &&& 6148914691236517205)) 2) hx hb dJ13_bitCount_95d88_17 rfl ?_
  refine lv_ldc2 (v := 3689348814741910323) hx hb hown (hts (.constantLong RJ13 316 (3689348814741910323)) (by decide +kernel)) dJ13_bitCount_95d88_18 ?_
  refine lv_land hx hb dJ13_bitCount_95d88_21 ?_
  refine lv_ladd hx hb dJ13_bitCount_95d88_22 ?_
  refine lv_lstore_n (lv' := [(0, .long (((xz - ((ush xz 1) &&& 6148914691236517205)) &&& 3689348814741910323) + ((ush (xz - ((ush xz 1) &&& 6148914691236517205)) 2) &&& 3689348814741910323)))]) hx hb dJ13_bitCount_95d88_23 rfl hl (by decide) rfl (fun ls hl => ?_)
  refine lv_lload_n hx hb dJ13_bitCount_95d88_24 rfl (lv_at hl 0 rfl) ?_
  refine lv_lload_n hx hb dJ13_bitCount_95d88_25 rfl (lv_at hl 0 rfl) ?_
  refine lv_iconst (v := nI 4) hx hb dJ13_bitCount_95d88_26 (by decide) ?_
  refine lv_lushr (v := ush (((xz - ((ush xz 1) &&& 6148914691236517205)) &&& 3689348814741910323) + ((ush (xz - ((ush xz 1) &&& 6148914691236517205)) 2) &&& 3689348814741910323)) 4) hx hb dJ13_bitCount_95d88_27 rfl ?_
  refine lv_ladd hx hb dJ13_bitCount_95d88_28 ?_
  refine lv_ldc2 (v := 1085102592571150095) hx hb hown (hts (.constantLong RJ13 318 (1085102592571150095)) (by decide +kernel)) dJ13_bitCount_95d88_29 ?_
  refine lv_land hx hb dJ13_bitCount_95d88_32 ?_
  refine lv_lstore_n (lv' := [(0, .long (((((xz - ((ush xz 1) &&& 6148914691236517205)) &&& 3689348814741910323) + ((ush (xz - ((ush xz 1) &&& 6148914691236517205)) 2) &&& 3689348814741910323)) + (ush (((xz - ((ush xz 1) &&& 6148914691236517205)) &&& 3689348814741910323) + ((ush (xz - ((ush xz 1) &&& 6148914691236517205)) 2) &&& 3689348814741910323)) 4)) &&& 1085102592571150095))]) hx hb dJ13_bitCount_95d88_33 rfl hl (by decide) rfl (fun ls hl => ?_)
  refine lv_lload_n hx hb dJ13_bitCount_95d88_34 rfl (lv_at hl 0 rfl) ?_
  refine lv_lload_n hx hb dJ13_bitCount_95d88_35 rfl (lv_at hl 0 rfl) ?_
  refine lv_bipush (v := nI 8) hx hb dJ13_bitCount_95d88_36 (by decide) ?_
  refine lv_lushr (v := ush (((((xz - ((ush xz 1) &&& 6148914691236517205)) &&& 3689348814741910323) + ((ush (xz - ((ush xz 1) &&& 6148914691236517205)) 2) &&& 3689348814741910323)) + (ush (((xz - ((ush xz 1) &&& 6148914691236517205)) &&& 3689348814741910323) + ((ush (xz - ((ush xz 1) &&& 6148914691236517205)) 2) &&& 3689348814741910323)) 4)) &&& 1085102592571150095) 8) hx hb dJ13_bitCount_95d88_38 rfl ?_
  refine lv_ladd hx hb dJ13_bitCount_95d88_39 ?_
  refine lv_lstore_n (lv' := [(0, .long ((((((xz - ((ush xz 1) &&& 6148914691236517205)) &&& 3689348814741910323) + ((ush (xz - ((ush xz 1) &&& 6148914691236517205)) 2) &&& 3689348814741910323)) + (ush (((xz - ((ush xz 1) &&& 6148914691236517205)) &&& 3689348814741910323) + ((ush (xz - ((ush xz 1) &&& 6148914691236517205)) 2) &&& 3689348814741910323)) 4)) &&& 1085102592571150095) + (ush (((((xz - ((ush xz 1) &&& 6148914691236517205)) &&& 3689348814741910323) + ((ush (xz - ((ush xz 1) &&& 6148914691236517205)) 2) &&& 3689348814741910323)) + (ush (((xz - ((ush xz 1) &&& 6148914691236517205)) &&& 3689348814741910323) + ((ush (xz - ((ush xz 1) &&& 6148914691236517205)) 2) &&& 3689348814741910323)) 4)) &&& 1085102592571150095) 8)))]) hx hb dJ13_bitCount_95d88_40 rfl hl (by decide) rfl (fun ls hl => ?_)
  refine lv_lload_n hx hb dJ13_bitCount_95d88_41 rfl (lv_at hl 0 rfl) ?_
  refine lv_lload_n hx hb dJ13_bitCount_95d88_42 rfl (lv_at hl 0 rfl) ?_
  refine lv_bipush (v := nI 16) hx hb dJ13_bitCount_95d88_43 (by decide) ?_
  refine lv_lushr (v := ush ((((((xz - ((ush xz 1) &&& 6148914691236517205)) &&& 3689348814741910323) + ((ush (xz - ((ush xz 1) &&& 6148914691236517205)) 2) &&& 3689348814741910323)) + (ush (((xz - ((ush xz 1) &&& 6148914691236517205)) &&& 3689348814741910323) + ((ush (xz - ((ush xz 1) &&& 6148914691236517205)) 2) &&& 3689348814741910323)) 4)) &&& 1085102592571150095) + (ush (((((xz - ((ush xz 1) &&& 6148914691236517205)) &&& 3689348814741910323) + ((ush (xz - ((ush xz 1) &&& 6148914691236517205)) 2) &&& 3689348814741910323)) + (ush (((xz - ((ush xz 1) &&& 6148914691236517205)) &&& 3689348814741910323) + ((ush (xz - ((ush xz 1) &&& 6148914691236517205)) 2) &&& 3689348814741910323)) 4)) &&& 1085102592571150095) 8)) 16) hx hb dJ13_bitCount_95d88_45 rfl ?_
  refine lv_ladd hx hb dJ13_bitCount_95d88_46 ?_
  refine lv_lstore_n (lv' := [(0, .long (((((((xz - ((ush xz 1) &&& 6148914691236517205)) &&& 3689348814741910323) + ((ush (xz - ((ush xz 1) &&& 6148914691236517205)) 2) &&& 3689348814741910323)) + (ush (((xz - ((ush xz 1) &&& 6148914691236517205)) &&& 3689348814741910323) + ((ush (xz - ((ush xz 1) &&& 6148914691236517205)) 2) &&& 3689348814741910323)) 4)) &&& 1085102592571150095) + (ush (((((xz - ((ush xz 1) &&& 6148914691236517205)) &&& 3689348814741910323) + ((ush (xz - ((ush xz 1) &&& 6148914691236517205)) 2) &&& 3689348814741910323)) + (ush (((xz - ((ush xz 1) &&& 6148914691236517205)) &&& 3689348814741910323) + ((ush (xz - ((ush xz 1) &&& 6148914691236517205)) 2) &&& 3689348814741910323)) 4)) &&& 1085102592571150095) 8)) + (ush ((((((xz - ((ush xz 1) &&& 6148914691236517205)) &&& 3689348814741910323) + ((ush (xz - ((ush xz 1) &&& 6148914691236517205)) 2) &&& 3689348814741910323)) + (ush (((xz - ((ush xz 1) &&& 6148914691236517205)) &&& 3689348814741910323) + ((ush (xz - ((ush xz 1) &&& 6148914691236517205)) 2) &&& 3689348814741910323)) 4)) &&& 1085102592571150095) + (ush (((((xz - ((ush xz 1) &&& 6148914691236517205)) &&& 3689348814741910323) + ((ush (xz - ((ush xz 1) &&& 6148914691236517205)) 2) &&& 3689348814741910323)) + (ush (((xz - ((ush xz 1) &&& 6148914691236517205)) &&& 3689348814741910323) + ((ush (xz - ((ush xz 1) &&& 6148914691236517205)) 2) &&& 3689348814741910323)) 4)) &&& 1085102592571150095) 8)) 16)))]) hx hb dJ13_bitCount_95d88_47 rfl hl (by decide) rfl (fun ls hl => ?_)
  refine lv_lload_n hx hb dJ13_bitCount_95d88_48 rfl (lv_at hl 0 rfl) ?_
  refine lv_lload_n hx hb dJ13_bitCount_95d88_49 rfl (lv_at hl 0 rfl) ?_
  refine lv_bipush (v := nI 32) hx hb dJ13_bitCount_95d88_50 (by decide) ?_
  refine lv_lushr (v := ush (((((((xz - ((ush xz 1) &&& 6148914691236517205)) &&& 3689348814741910323) + ((ush (xz - ((ush xz 1) &&& 6148914691236517205)) 2) &&& 3689348814741910323)) + (ush (((xz - ((ush xz 1) &&& 6148914691236517205)) &&& 3689348814741910323) + ((ush (xz - ((ush xz 1) &&& 6148914691236517205)) 2) &&& 3689348814741910323)) 4)) &&& 1085102592571150095) + (ush (((((xz - ((ush xz 1) &&& 6148914691236517205)) &&& 3689348814741910323) + ((ush (xz - ((ush xz 1) &&& 6148914691236517205)) 2) &&& 3689348814741910323)) + (ush (((xz - ((ush xz 1) &&& 6148914691236517205)) &&& 3689348814741910323) + ((ush (xz - ((ush xz 1) &&& 6148914691236517205)) 2) &&& 3689348814741910323)) 4)) &&& 1085102592571150095) 8)) + (ush ((((((xz - ((ush xz 1) &&& 6148914691236517205)) &&& 3689348814741910323) + ((ush (xz - ((ush xz 1) &&& 6148914691236517205)) 2) &&& 3689348814741910323)) + (ush (((xz - ((ush xz 1) &&& 6148914691236517205)) &&& 3689348814741910323) + ((ush (xz - ((ush xz 1) &&& 6148914691236517205)) 2) &&& 3689348814741910323)) 4)) &&& 1085102592571150095) + (ush (((((xz - ((ush xz 1) &&& 6148914691236517205)) &&& 3689348814741910323) + ((ush (xz - ((ush xz 1) &&& 6148914691236517205)) 2) &&& 3689348814741910323)) + (ush (((xz - ((ush xz 1) &&& 6148914691236517205)) &&& 3689348814741910323) + ((ush (xz - ((ush xz 1) &&& 6148914691236517205)) 2) &&& 3689348814741910323)) 4)) &&& 1085102592571150095) 8)) 16)) 32) hx hb dJ13_bitCount_95d88_52 rfl ?_
  refine lv_ladd hx hb dJ13_bitCount_95d88_53 ?_
  refine lv_lstore_n (lv' := [(0, .long ((((((((xz - ((ush xz 1) &&& 6148914691236517205)) &&& 3689348814741910323) + ((ush (xz - ((ush xz 1) &&& 6148914691236517205)) 2) &&& 3689348814741910323)) + (ush (((xz - ((ush xz 1) &&& 6148914691236517205)) &&& 3689348814741910323) + ((ush (xz - ((ush xz 1) &&& 6148914691236517205)) 2) &&& 3689348814741910323)) 4)) &&& 1085102592571150095) + (ush (((((xz - ((ush xz 1) &&& 6148914691236517205)) &&& 3689348814741910323) + ((ush (xz - ((ush xz 1) &&& 6148914691236517205)) 2) &&& 3689348814741910323)) + (ush (((xz - ((ush xz 1) &&& 6148914691236517205)) &&& 3689348814741910323) + ((ush (xz - ((ush xz 1) &&& 6148914691236517205)) 2) &&& 3689348814741910323)) 4)) &&& 1085102592571150095) 8)) + (ush ((((((xz - ((ush xz 1) &&& 6148914691236517205)) &&& 3689348814741910323) + ((ush (xz - ((ush xz 1) &&& 6148914691236517205)) 2) &&& 3689348814741910323)) + (ush (((xz - ((ush xz 1) &&& 6148914691236517205)) &&& 3689348814741910323) + ((ush (xz - ((ush xz 1) &&& 6148914691236517205)) 2) &&& 3689348814741910323)) 4)) &&& 1085102592571150095) + (ush (((((xz - ((ush xz 1) &&& 6148914691236517205)) &&& 3689348814741910323) + ((ush (xz - ((ush xz 1) &&& 6148914691236517205)) 2) &&& 3689348814741910323)) + (ush (((xz - ((ush xz 1) &&& 6148914691236517205)) &&& 3689348814741910323) + ((ush (xz - ((ush xz 1) &&& 6148914691236517205)) 2) &&& 3689348814741910323)) 4)) &&& 1085102592571150095) 8)) 16)) + (ush (((((((xz - ((ush xz 1) &&& 6148914691236517205)) &&& 3689348814741910323) + ((ush (xz - ((ush xz 1) &&& 6148914691236517205)) 2) &&& 3689348814741910323)) + (ush (((xz - ((ush xz 1) &&& 6148914691236517205)) &&& 3689348814741910323) + ((ush (xz - ((ush xz 1) &&& 6148914691236517205)) 2) &&& 3689348814741910323)) 4)) &&& 1085102592571150095) + (ush (((((xz - ((ush xz 1) &&& 6148914691236517205)) &&& 3689348814741910323) + ((ush (xz - ((ush xz 1) &&& 6148914691236517205)) 2) &&& 3689348814741910323)) + (ush (((xz - ((ush xz 1) &&& 6148914691236517205)) &&& 3689348814741910323) + ((ush (xz - ((ush xz 1) &&& 6148914691236517205)) 2) &&& 3689348814741910323)) 4)) &&& 1085102592571150095) 8)) + (ush ((((((xz - ((ush xz 1) &&& 6148914691236517205)) &&& 3689348814741910323) + ((ush (xz - ((ush xz 1) &&& 6148914691236517205)) 2) &&& 3689348814741910323)) + (ush (((xz - ((ush xz 1) &&& 6148914691236517205)) &&& 3689348814741910323) + ((ush (xz - ((ush xz 1) &&& 6148914691236517205)) 2) &&& 3689348814741910323)) 4)) &&& 1085102592571150095) + (ush (((((xz - ((ush xz 1) &&& 6148914691236517205)) &&& 3689348814741910323) + ((ush (xz - ((ush xz 1) &&& 6148914691236517205)) 2) &&& 3689348814741910323)) + (ush (((xz - ((ush xz 1) &&& 6148914691236517205)) &&& 3689348814741910323) + ((ush (xz - ((ush xz 1) &&& 6148914691236517205)) 2) &&& 3689348814741910323)) 4)) &&& 1085102592571150095) 8)) 16)) 32)))]) hx hb dJ13_bitCount_95d88_54 rfl hl (by decide) rfl (fun ls hl => ?_)
  refine lv_lload_n hx hb dJ13_bitCount_95d88_55 rfl (lv_at hl 0 rfl) ?_
  refine lv_l2i (v := ((((((((xz - ((ush xz 1) &&& 6148914691236517205)) &&& 3689348814741910323) + ((ush (xz - ((ush xz 1) &&& 6148914691236517205)) 2) &&& 3689348814741910323)) + (ush (((xz - ((ush xz 1) &&& 6148914691236517205)) &&& 3689348814741910323) + ((ush (xz - ((ush xz 1) &&& 6148914691236517205)) 2) &&& 3689348814741910323)) 4)) &&& 1085102592571150095) + (ush (((((xz - ((ush xz 1) &&& 6148914691236517205)) &&& 3689348814741910323) + ((ush (xz - ((ush xz 1) &&& 6148914691236517205)) 2) &&& 3689348814741910323)) + (ush (((xz - ((ush xz 1) &&& 6148914691236517205)) &&& 3689348814741910323) + ((ush (xz - ((ush xz 1) &&& 6148914691236517205)) 2) &&& 3689348814741910323)) 4)) &&& 1085102592571150095) 8)) + (ush ((((((xz - ((ush xz 1) &&& 6148914691236517205)) &&& 3689348814741910323) + ((ush (xz - ((ush xz 1) &&& 6148914691236517205)) 2) &&& 3689348814741910323)) + (ush (((xz - ((ush xz 1) &&& 6148914691236517205)) &&& 3689348814741910323) + ((ush (xz - ((ush xz 1) &&& 6148914691236517205)) 2) &&& 3689348814741910323)) 4)) &&& 1085102592571150095) + (ush (((((xz - ((ush xz 1) &&& 6148914691236517205)) &&& 3689348814741910323) + ((ush (xz - ((ush xz 1) &&& 6148914691236517205)) 2) &&& 3689348814741910323)) + (ush (((xz - ((ush xz 1) &&& 6148914691236517205)) &&& 3689348814741910323) + ((ush (xz - ((ush xz 1) &&& 6148914691236517205)) 2) &&& 3689348814741910323)) 4)) &&& 1085102592571150095) 8)) 16)) + (ush (((((((xz - ((ush xz 1) &&& 6148914691236517205)) &&& 3689348814741910323) + ((ush (xz - ((ush xz 1) &&& 6148914691236517205)) 2) &&& 3689348814741910323)) + (ush (((xz - ((ush xz 1) &&& 6148914691236517205)) &&& 3689348814741910323) + ((ush (xz - ((ush xz 1) &&& 6148914691236517205)) 2) &&& 3689348814741910323)) 4)) &&& 1085102592571150095) + (ush (((((xz - ((ush xz 1) &&& 6148914691236517205)) &&& 3689348814741910323) + ((ush (xz - ((ush xz 1) &&& 6148914691236517205)) 2) &&& 3689348814741910323)) + (ush (((xz - ((ush xz 1) &&& 6148914691236517205)) &&& 3689348814741910323) + ((ush (xz - ((ush xz 1) &&& 6148914691236517205)) 2) &&& 3689348814741910323)) 4)) &&& 1085102592571150095) 8)) + (ush ((((((xz - ((ush xz 1) &&& 6148914691236517205)) &&& 3689348814741910323) + ((ush (xz - ((ush xz 1) &&& 6148914691236517205)) 2) &&& 3689348814741910323)) + (ush (((xz - ((ush xz 1) &&& 6148914691236517205)) &&& 3689348814741910323) + ((ush (xz - ((ush xz 1) &&& 6148914691236517205)) 2) &&& 3689348814741910323)) 4)) &&& 1085102592571150095) + (ush (((((xz - ((ush xz 1) &&& 6148914691236517205)) &&& 3689348814741910323) + ((ush (xz - ((ush xz 1) &&& 6148914691236517205)) 2) &&& 3689348814741910323)) + (ush (((xz - ((ush xz 1) &&& 6148914691236517205)) &&& 3689348814741910323) + ((ush (xz - ((ush xz 1) &&& 6148914691236517205)) 2) &&& 3689348814741910323)) 4)) &&& 1085102592571150095) 8)) 16)) 32)).toInt32) hx hb dJ13_bitCount_95d88_56 rfl ?_
  refine lv_bipush (v := nI 127) hx hb dJ13_bitCount_95d88_57 (by decide) ?_
  refine lv_iand hx hb dJ13_bitCount_95d88_59 ?_
  exact zE_i hF hr hlk hK hP hD hS dJ13_bitCount_95d88_60
set_option maxHeartbeats 4000000 in
set_option maxRecDepth 100000 in
theorem c_countBelow (l : Launch) (G : va_G) (cI : ClassId) (hz da la saz : Nat) (Dz Lz Sz : Fn) (nz : Nat) (cz gz : Int32) (hn : nz ≤ 63) (hS1 : okS Sz) (lim : Int32) : zC_i l yX0_countBelow wsX0_countBelow ({ frames := 4, cells := 0, slots := 0, locals := 85 }) G [(cI, .int)] (wh cI hz da la saz (Dz, Lz, Sz, nz, cz, gz)) (wh cI hz da la saz (Dz, Lz, Sz, nz, cz, gz)) [.ref hz, .int lim] (bcF (lN (mskF Sz Lz lim nz))) := by
  refine zB_i (cc := cX0_countBelow) (maxL := 6) (ret := (some .int)) (by decide) rfl (Nat.le_of_ble_eq_true rfl) ?_
  intro p e s m args below meth c0 A hF hr hlk hK hA hP hD hS ls hl
  have hx := hF.1
  have hb := hF.2.1
  have hown := hF.2.2.2.1
  have hts := hF.2.2.2.2
  have hf21 := hts (.fieldLink RX0 21 "SnoringDukes$WeakHeap" "size" "I") (by decide +kernel)
  have hinX0 : ∀ wz ∈ wsX00, wz ∈ wsX0_countBelow := by decide +kernel
  have hl : lv_has ls 6 [(0, .ref hz), (1, .int lim)] := hl
  refine lv_lconst (v := lN 0) hx hb dX0_countBelow_0 (by decide) ?_
  refine lv_lstore_n (lv' := [(2, .long (lN 0)), (0, .ref hz), (1, .int lim)]) hx hb dX0_countBelow_1 rfl hl (by decide) rfl (fun ls hl => ?_)
  refine lv_iconst (v := nI 0) hx hb dX0_countBelow_2 (by decide) ?_
  refine lv_istore (lv' := [(4, .int (nI 0)), (2, .long (lN 0)), (0, .ref hz), (1, .int lim)]) hx hb dX0_countBelow_3 hl (by decide) rfl (fun ls hl => ?_)
  have e0 : lN 0 = lN (mskF Sz Lz lim 0) := rfl
  have hl : lv_has ls 6 [(4, .int (nI 0)), (2, .long (lN (mskF Sz Lz lim 0))), (0, .ref hz), (1, .int lim)] := hl
  have loop : ∀ (f9 : Nat) (iz : Nat), (iz ≤ nz) → nz - iz < f9 → ∀ (H : Heap) (locs : List Loc) (ls : Array Slot), va_P G vwCl (wh cI hz da la saz (Dz, Lz, Sz, nz, cz, gz)) H → va_D A (wh cI hz da la saz (Dz, Lz, Sz, nz, cz, gz)) → va_S A s.heap H locs → lv_has ls 6 [(0, .ref hz), (1, .int lim), (2, .long (lN (mskF Sz Lz lim iz))), (4, .int (nI iz))] → W p l e ({ frames := 4, cells := 0, slots := 0, locals := 85 }) s m args below meth c0 H locs 0 0 (zQ_i below G [(cI, .int)] (wh cI hz da la saz (Dz, Lz, Sz, nz, cz, gz)) (bcF (lN (mskF Sz Lz lim nz))) A args s) (F0 m 5 ls []) := by
    intro f9
    induction f9 with
    | zero => intro iz h2 hf; exact absurd hf (Nat.not_lt_zero _)
    | succ f9 ih =>
      intro iz h2 hf H locs ls hP hD hS hl
      have hm8 := mskF_lt Sz Lz lim iz
      have hm6 : 2 ^ iz ≤ 2 ^ 63 := Nat.pow_le_pow_right (by decide) (by omega)
      have hm5 : mskF Sz Lz lim iz / 2 ^ (eld Sz iz) ≤ mskF Sz Lz lim iz := Nat.div_le_self _ _
      have hm9 : mskF Sz Lz lim iz / 2 ^ (eld Sz iz) < 2 ^ 64 := by omega
      have hm3 := eld_le Sz iz
      have hm2 := Nat.mod_lt (mskF Sz Lz lim iz / 2 ^ (eld Sz iz)) (show 0 < 2 by decide)
      refine lv_iload hx hb dX0_countBelow_5 (lv_at hl 3 rfl) ?_
      refine lv_aload_n hx hb dX0_countBelow_7 rfl (lv_at hl 0 rfl) ?_
      refine va_get (D := G) (ci := 0) (v := .int (nI nz)) (C := RX0) (T := TX0) (N := 6) hx hb hts hinX0 hown hK hP 0 rfl rfl 3 (by decide) hf21 (fun _ h9 => h9) rfl dX0_countBelow_8 ?_
      refine lv_icmp_ge (tgt := 69) hx hb dX0_countBelow_11 (by decide) (fun hc11 => ?_) (fun hc11 => ?_)
      · skip
        have k11 : nz ≤ iz := k_le (by omega) (by omega) hc11
        obtain rfl : nz = iz := by omega
        refine lv_lload_n hx hb dX0_countBelow_69 rfl (lv_at hl 2 rfl) ?_
        refine zK_si (av := [.long (lN (mskF Sz Lz lim nz))]) (rest := []) hF (c_bitCount l G (lN (mskF Sz Lz lim nz))) (va_cwS 1 hts gX0_countBelow_J13_bitCount_95d88 rfl rfl rfl (by decide +kernel) ⟨Nat.le_of_ble_eq_true rfl, Nat.le_of_ble_eq_true rfl⟩) hK hP hD hS hA (isC := []) (isR := [0, 1, 2, 3]) (perm := [0, 1, 2, 3]) (wr := wh cI hz da la saz (Dz, Lz, Sz, nz, cz, gz)) (wN := wh cI hz da la saz (Dz, Lz, Sz, nz, cz, gz)) ⟨rfl, by decide, rfl, by decide, (fun _ _ hz => by cases hz), rfl, by decide⟩ [] rfl rfl hl.1 rfl (Nat.le_of_ble_eq_true rfl) dX0_countBelow_70 ⟨Nat.le_refl _, Nat.le_refl _⟩ (fun H locs hP hD hS => ?_)
        exact zE_i hF hr hlk hK hP hD hS dX0_countBelow_73
      · skip
        have k11 : iz < nz := k_nle (by omega) (by omega) hc11
        refine lv_iload hx hb dX0_countBelow_14 (lv_at hl 3 rfl) ?_
        refine lv_if_eq (tgt := 34) hx hb dX0_countBelow_16 (by decide) (fun hc16 => ?_) (fun hc16 => ?_)
        · skip
          have k16 : iz = 0 := k0_eq (by omega) hc16
          refine lv_iconst (v := nI 1) hx hb dX0_countBelow_34 (by decide) ?_
          refine lv_goto (tgt := 39) hx hb dX0_countBelow_35 (by decide) ?_
          refine lv_istore (lv' := [(5, .int (nI 1)), (0, .ref hz), (1, .int lim), (2, .long (lN (mskF Sz Lz lim iz))), (4, .int (nI iz))]) hx hb dX0_countBelow_39 hl (by decide) rfl (fun ls hl => ?_)
          refine lv_iload hx hb dX0_countBelow_41 (lv_at hl 0 rfl) ?_
          refine lv_if_eq (tgt := 63) hx hb dX0_countBelow_43 (by decide) (fun hc43 => ?_) (fun hc43 => ?_)
          · exact absurd hc43 (by decide)
          · skip
            have k43 : 0 < 1 := k0_ne (by omega) hc43
            refine lv_aload_n hx hb dX0_countBelow_46 rfl (lv_at hl 1 rfl) ?_
            refine lv_iload hx hb dX0_countBelow_47 (lv_at hl 4 rfl) ?_
            refine zK_vi (As := [.int (nI iz)]) (rest := []) hF (c_loudnessAt l G cI hz da la saz (Dz) (Lz) (Sz) (nz) (cz) (gz) hn iz (by omega)) (cwV 1 hts gX0_countBelow_X0_loudnessAt rfl rfl rfl (by decide +kernel) ⟨Nat.le_of_ble_eq_true rfl, Nat.le_of_ble_eq_true rfl⟩) hK hP hD hS hA (ci := 0) (q0 := 0) rfl rfl rfl (isC := [0, 1, 2, 3]) (isR := []) (perm := [0, 1, 2, 3]) (wr := []) (wN := wh cI hz da la saz (Dz, Lz, Sz, nz, cz, gz)) ⟨rfl, by decide, rfl, rfl, (fun _ hz => by cases hz), rfl, by decide⟩ [0] rfl rfl hl.1 rfl (Nat.le_of_ble_eq_true rfl) dX0_countBelow_49 ⟨Nat.le_refl _, Nat.le_refl _⟩ (fun H locs hP hD hS => ?_)
            refine zN (Lz iz) (y := (if iz < nz then Lz iz else -1)) (if_pos k11) ?_
            refine lv_iload_n hx hb dX0_countBelow_52 rfl (lv_at hl 2 rfl) ?_
            refine lv_icmp_ge (tgt := 63) hx hb dX0_countBelow_53 (by decide) (fun hc53 => ?_) (fun hc53 => ?_)
            · skip
              have e9 : mskF Sz Lz lim iz = mskF Sz Lz lim (iz + 1) := by rw [mskF, if_neg (fun qz => fa_nle hc53 qz.2)]
              have hl : lv_has ls 6 [(5, .int (nI 1)), (0, .ref hz), (1, .int lim), (2, .long (lN (mskF Sz Lz lim (iz + 1)))), (4, .int (nI iz))] := by rw [← e9]; exact hl
              refine lv_iinc (v := nI (iz + 1)) (lv' := [(4, .int (nI (iz + 1))), (5, .int (nI 1)), (0, .ref hz), (1, .int lim), (2, .long (lN (mskF Sz Lz lim (iz + 1))))]) hx hb dX0_countBelow_63 hl (k := 4) rfl (nI_1 _) (by decide) rfl (fun ls hl => ?_)
              refine lv_goto (tgt := 5) hx hb dX0_countBelow_66 (by decide) ?_
              exact ih (iz + 1) (by omega) (by omega) _ _ _ hP hD hS (lv_sub hl [2, 3, 4, 0] rfl)
            · skip
              refine lv_lload_n hx hb dX0_countBelow_56 rfl (lv_at hl 3 rfl) ?_
              refine lv_lconst (v := lN 1) hx hb dX0_countBelow_57 (by decide) ?_
              refine lv_iload hx hb dX0_countBelow_58 (lv_at hl 4 rfl) ?_
              refine lv_lshl (v := lN (1 * 2 ^ iz)) hx hb dX0_countBelow_60 (wb_shl 1 (by omega)) ?_
              refine lv_lor hx hb dX0_countBelow_61 ?_
              refine zNl (lN (mskF Sz Lz lim iz + 2 ^ iz)) (by rw [Nat.one_mul, wb_or (by omega) (by omega), wb_add hm8]) ?_
              refine lv_lstore_n (lv' := [(2, .long (lN (mskF Sz Lz lim iz + 2 ^ iz))), (5, .int (nI 1)), (0, .ref hz), (1, .int lim), (4, .int (nI iz))]) hx hb dX0_countBelow_62 rfl hl (by decide) rfl (fun ls hl => ?_)
              have e9 : mskF Sz Lz lim iz + 2 ^ iz = mskF Sz Lz lim (iz + 1) := by rw [mskF, if_pos ⟨Or.inl k16, fa_nlt hc53⟩]
              have hl : lv_has ls 6 [(2, .long (lN (mskF Sz Lz lim (iz + 1)))), (5, .int (nI 1)), (0, .ref hz), (1, .int lim), (4, .int (nI iz))] := by rw [← e9]; exact hl
              refine lv_iinc (v := nI (iz + 1)) (lv' := [(4, .int (nI (iz + 1))), (2, .long (lN (mskF Sz Lz lim (iz + 1)))), (5, .int (nI 1)), (0, .ref hz), (1, .int lim)]) hx hb dX0_countBelow_63 hl (k := 4) rfl (nI_1 _) (by decide) rfl (fun ls hl => ?_)
              refine lv_goto (tgt := 5) hx hb dX0_countBelow_66 (by decide) ?_
              exact ih (iz + 1) (by omega) (by omega) _ _ _ hP hD hS (lv_sub hl [3, 4, 1, 0] rfl)
        · skip
          have k16 : 0 < iz := k0_ne (by omega) hc16
          refine lv_lload_n hx hb dX0_countBelow_19 rfl (lv_at hl 2 rfl) ?_
          refine lv_aload_n hx hb dX0_countBelow_20 rfl (lv_at hl 0 rfl) ?_
          refine lv_iload hx hb dX0_countBelow_21 (lv_at hl 3 rfl) ?_
          refine zK_vi (As := [.int (nI iz)]) (rest := [.long (lN (mskF Sz Lz lim iz))]) hF (c_elder l G cI hz da la saz (Dz) (Lz) (Sz) (nz) (cz) (gz) hn hS1 iz (by omega)) (cwV 1 hts gX0_countBelow_X0_elder rfl rfl rfl (by decide +kernel) ⟨Nat.le_of_ble_eq_true rfl, Nat.le_of_ble_eq_true rfl⟩) hK hP hD hS hA (ci := 0) (q0 := 0) rfl rfl rfl (isC := [0, 1, 2, 3]) (isR := []) (perm := [0, 1, 2, 3]) (wr := []) (wN := wh cI hz da la saz (Dz, Lz, Sz, nz, cz, gz)) ⟨rfl, by decide, rfl, rfl, (fun _ hz => by cases hz), rfl, by decide⟩ [0] rfl rfl hl.1 rfl (Nat.le_of_ble_eq_true rfl) dX0_countBelow_23 ⟨Nat.le_refl _, Nat.le_refl _⟩ (fun H locs hP hD hS => ?_)
          refine lv_lushr (v := lN (mskF Sz Lz lim iz / 2 ^ (eld Sz iz))) hx hb dX0_countBelow_26 (wb_shr (by omega) (by omega)) ?_
          refine lv_lconst (v := lN 1) hx hb dX0_countBelow_27 (by decide) ?_
          refine lv_land hx hb dX0_countBelow_28 ?_
          refine zNl (lN (mskF Sz Lz lim iz / 2 ^ (eld Sz iz) % 2)) (wb_mask (k := 1) hm9 (by decide)) ?_
          refine lv_lconst (v := lN 0) hx hb dX0_countBelow_29 (by decide) ?_
          refine W.lcmp hx hb dX0_countBelow_30 ?_
          refine lv_if_eq (tgt := 38) hx hb dX0_countBelow_31 (by decide) (fun hc31 => ?_) (fun hc31 => ?_)
          · skip
            refine lv_iconst (v := nI 0) hx hb dX0_countBelow_38 (by decide) ?_
            refine lv_istore (lv' := [(5, .int (nI 0)), (0, .ref hz), (1, .int lim), (2, .long (lN (mskF Sz Lz lim iz))), (4, .int (nI iz))]) hx hb dX0_countBelow_39 hl (by decide) rfl (fun ls hl => ?_)
            refine lv_iload hx hb dX0_countBelow_41 (lv_at hl 0 rfl) ?_
            refine lv_if_eq (tgt := 63) hx hb dX0_countBelow_43 (by decide) (fun hc43 => ?_) (fun hc43 => ?_)
            · skip
              have k43 : 0 = 0 := k0_eq (by omega) hc43
              have e9 : mskF Sz Lz lim iz = mskF Sz Lz lim (iz + 1) := by rw [mskF, if_neg (fun qz => by have zz := (z_cmp0 (by omega)).mp hc31; rcases qz.1 with q1 | q1 <;> omega)]
              have hl : lv_has ls 6 [(5, .int (nI 0)), (0, .ref hz), (1, .int lim), (2, .long (lN (mskF Sz Lz lim (iz + 1)))), (4, .int (nI iz))] := by rw [← e9]; exact hl
              refine lv_iinc (v := nI (iz + 1)) (lv' := [(4, .int (nI (iz + 1))), (5, .int (nI 0)), (0, .ref hz), (1, .int lim), (2, .long (lN (mskF Sz Lz lim (iz + 1))))]) hx hb dX0_countBelow_63 hl (k := 4) rfl (nI_1 _) (by decide) rfl (fun ls hl => ?_)
              refine lv_goto (tgt := 5) hx hb dX0_countBelow_66 (by decide) ?_
              exact ih (iz + 1) (by omega) (by omega) _ _ _ hP hD hS (lv_sub hl [2, 3, 4, 0] rfl)
            · exact absurd hc43 (by decide)
          · skip
            refine lv_iconst (v := nI 1) hx hb dX0_countBelow_34 (by decide) ?_
            refine lv_goto (tgt := 39) hx hb dX0_countBelow_35 (by decide) ?_
            refine lv_istore (lv' := [(5, .int (nI 1)), (0, .ref hz), (1, .int lim), (2, .long (lN (mskF Sz Lz lim iz))), (4, .int (nI iz))]) hx hb dX0_countBelow_39 hl (by decide) rfl (fun ls hl => ?_)
            refine lv_iload hx hb dX0_countBelow_41 (lv_at hl 0 rfl) ?_
            refine lv_if_eq (tgt := 63) hx hb dX0_countBelow_43 (by decide) (fun hc43 => ?_) (fun hc43 => ?_)
            · exact absurd hc43 (by decide)
            · skip
              have k43 : 0 < 1 := k0_ne (by omega) hc43
              refine lv_aload_n hx hb dX0_countBelow_46 rfl (lv_at hl 1 rfl) ?_
              refine lv_iload hx hb dX0_countBelow_47 (lv_at hl 4 rfl) ?_
              refine zK_vi (As := [.int (nI iz)]) (rest := []) hF (c_loudnessAt l G cI hz da la saz (Dz) (Lz) (Sz) (nz) (cz) (gz) hn iz (by omega)) (cwV 1 hts gX0_countBelow_X0_loudnessAt rfl rfl rfl (by decide +kernel) ⟨Nat.le_of_ble_eq_true rfl, Nat.le_of_ble_eq_true rfl⟩) hK hP hD hS hA (ci := 0) (q0 := 0) rfl rfl rfl (isC := [0, 1, 2, 3]) (isR := []) (perm := [0, 1, 2, 3]) (wr := []) (wN := wh cI hz da la saz (Dz, Lz, Sz, nz, cz, gz)) ⟨rfl, by decide, rfl, rfl, (fun _ hz => by cases hz), rfl, by decide⟩ [0] rfl rfl hl.1 rfl (Nat.le_of_ble_eq_true rfl) dX0_countBelow_49 ⟨Nat.le_refl _, Nat.le_refl _⟩ (fun H locs hP hD hS => ?_)
              refine zN (Lz iz) (y := (if iz < nz then Lz iz else -1)) (if_pos k11) ?_
              refine lv_iload_n hx hb dX0_countBelow_52 rfl (lv_at hl 2 rfl) ?_
              refine lv_icmp_ge (tgt := 63) hx hb dX0_countBelow_53 (by decide) (fun hc53 => ?_) (fun hc53 => ?_)
              · skip
                have e9 : mskF Sz Lz lim iz = mskF Sz Lz lim (iz + 1) := by rw [mskF, if_neg (fun qz => fa_nle hc53 qz.2)]
                have hl : lv_has ls 6 [(5, .int (nI 1)), (0, .ref hz), (1, .int lim), (2, .long (lN (mskF Sz Lz lim (iz + 1)))), (4, .int (nI iz))] := by rw [← e9]; exact hl
                refine lv_iinc (v := nI (iz + 1)) (lv' := [(4, .int (nI (iz + 1))), (5, .int (nI 1)), (0, .ref hz), (1, .int lim), (2, .long (lN (mskF Sz Lz lim (iz + 1))))]) hx hb dX0_countBelow_63 hl (k := 4) rfl (nI_1 _) (by decide) rfl (fun ls hl => ?_)
                refine lv_goto (tgt := 5) hx hb dX0_countBelow_66 (by decide) ?_
                exact ih (iz + 1) (by omega) (by omega) _ _ _ hP hD hS (lv_sub hl [2, 3, 4, 0] rfl)
              · skip
                refine lv_lload_n hx hb dX0_countBelow_56 rfl (lv_at hl 3 rfl) ?_
                refine lv_lconst (v := lN 1) hx hb dX0_countBelow_57 (by decide) ?_
                refine lv_iload hx hb dX0_countBelow_58 (lv_at hl 4 rfl) ?_
                refine lv_lshl (v := lN (1 * 2 ^ iz)) hx hb dX0_countBelow_60 (wb_shl 1 (by omega)) ?_
                refine lv_lor hx hb dX0_countBelow_61 ?_
                refine zNl (lN (mskF Sz Lz lim iz + 2 ^ iz)) (by rw [Nat.one_mul, wb_or (by omega) (by omega), wb_add hm8]) ?_
                refine lv_lstore_n (lv' := [(2, .long (lN (mskF Sz Lz lim iz + 2 ^ iz))), (5, .int (nI 1)), (0, .ref hz), (1, .int lim), (4, .int (nI iz))]) hx hb dX0_countBelow_62 rfl hl (by decide) rfl (fun ls hl => ?_)
                have e9 : mskF Sz Lz lim iz + 2 ^ iz = mskF Sz Lz lim (iz + 1) := by rw [mskF, if_pos ⟨Or.inr (by have z9 : ¬ (mskF Sz Lz lim iz / 2 ^ (eld Sz iz) % 2 = 0) := fun zz => hc31 ((z_cmp0 (by omega)).mpr zz); omega), fa_nlt hc53⟩]
                have hl : lv_has ls 6 [(2, .long (lN (mskF Sz Lz lim (iz + 1)))), (5, .int (nI 1)), (0, .ref hz), (1, .int lim), (4, .int (nI iz))] := by rw [← e9]; exact hl
                refine lv_iinc (v := nI (iz + 1)) (lv' := [(4, .int (nI (iz + 1))), (2, .long (lN (mskF Sz Lz lim (iz + 1)))), (5, .int (nI 1)), (0, .ref hz), (1, .int lim)]) hx hb dX0_countBelow_63 hl (k := 4) rfl (nI_1 _) (by decide) rfl (fun ls hl => ?_)
                refine lv_goto (tgt := 5) hx hb dX0_countBelow_66 (by decide) ?_
                exact ih (iz + 1) (by omega) (by omega) _ _ _ hP hD hS (lv_sub hl [3, 4, 1, 0] rfl)
  exact loop (nz + 1) 0 (by omega) (by omega) _ _ _ hP hD hS (lv_sub hl [2, 3, 1, 0] rfl)
