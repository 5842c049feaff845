/-! the reference: its methods -/
set_option maxHeartbeats 4000000 in
set_option maxRecDepth 100000 in
theorem m_thrown (l : Launch) (G : va_G) (cI : ClassId) (oz loz liz siz shz saz : Nat) (nz camez : Nat) (cz gz : Int32) (louz Dz Sz shdz shsz : Fn) (thz : Int32)  : zC_i l yX2_thrown wsX2_thrown ({ frames := 0, cells := 0, slots := 0, locals := 0 }) G [(cI, .int)] (wm cI oz loz liz siz shz saz nz camez cz gz louz Dz Sz shdz shsz thz) (wm cI oz loz liz siz shz saz nz camez cz gz louz Dz Sz shdz shsz thz) [.ref oz] thz := by
  refine zB_i (cc := cX2_thrown) (maxL := 1) (ret := (some .int)) (by decide) rfl (Nat.le_of_ble_eq_true rfl) ?_
  intro p e s m args below meth c0 A hF hr hlk hK hA hP hD hS ls hl
  have hx := hF.1
  have hb := hF.2.1
  have hown := hF.2.2.2.1
  have hts := hF.2.2.2.2
  have hf25 := hts (.fieldLink RX2 25 "SnoringDukesModel" "thrown" "I") (by decide +kernel)
  have hinX2 : ∀ wz ∈ wsX20, wz ∈ wsX2_thrown := by decide +kernel
  have hl : lv_has ls 1 [(0, .ref oz)] := hl
  refine lv_aload_n hx hb dX2_thrown_0 rfl (lv_at hl 0 rfl) ?_
  refine va_get (D := G) (ci := 2) (v := .int thz) (C := RX2) (T := TX2) (N := 10) hx hb hts hinX2 hown hK hP 0 rfl rfl 9 (by decide) hf25 (fun _ h9 => h9) rfl dX2_thrown_1 ?_
  exact zE_i hF hr hlk hK hP hD hS dX2_thrown_4
set_option maxHeartbeats 4000000 in
set_option maxRecDepth 100000 in
theorem m_isOf (l : Launch) (G : va_G) (v1 a1 b1 : Int32) : zC_i l yX2_isOf wsX2_isOf ({ frames := 0, cells := 0, slots := 0, locals := 0 }) G [] ([]) ([]) [.int v1, .int a1, .int b1] (bI (isO v1 a1 b1)) := by
  refine zB_i (cc := cX2_isOf) (maxL := 3) (ret := (some .boolean)) (by decide) rfl (Nat.le_of_ble_eq_true rfl) ?_
  intro p e s m args below meth c0 A hF hr hlk hK hA hP hD hS ls hl
  have hx := hF.1
  have hb := hF.2.1
  have hown := hF.2.2.2.1
  have hts := hF.2.2.2.2
  have hl : lv_has ls 3 [(0, .int v1), (1, .int a1), (2, .int b1)] := hl
  refine lv_iload_n hx hb dX2_isOf_0 rfl (lv_at hl 0 rfl) ?_
  refine lv_iload_n hx hb dX2_isOf_1 rfl (lv_at hl 1 rfl) ?_
  refine lv_icmp_lt (tgt := 14) hx hb dX2_isOf_2 (by decide) (fun hc2 => ?_) (fun hc2 => ?_)
  · skip
    refine lv_iconst (v := nI 0) hx hb dX2_isOf_14 (by decide) ?_
    rw [isO_f1 hc2]
    exact zE_z hF hr hlk (Or.inl rfl) hK hP hD hS dX2_isOf_15
  · skip
    refine lv_iload_n hx hb dX2_isOf_5 rfl (lv_at hl 0 rfl) ?_
    refine lv_iload_n hx hb dX2_isOf_6 rfl (lv_at hl 2 rfl) ?_
    refine lv_icmp_gt (tgt := 14) hx hb dX2_isOf_7 (by decide) (fun hc7 => ?_) (fun hc7 => ?_)
    · skip
      refine lv_iconst (v := nI 0) hx hb dX2_isOf_14 (by decide) ?_
      rw [isO_f2 hc7]
      exact zE_z hF hr hlk (Or.inl rfl) hK hP hD hS dX2_isOf_15
    · skip
      refine lv_iconst (v := nI 1) hx hb dX2_isOf_10 (by decide) ?_
      refine lv_goto (tgt := 15) hx hb dX2_isOf_11 (by decide) ?_
      rw [isO_t hc2 hc7]
      exact zE_z hF hr hlk (Or.inr rfl) hK hP hD hS dX2_isOf_15
set_option maxHeartbeats 4000000 in
set_option maxRecDepth 100000 in
theorem m_find (l : Launch) (G : va_G) (cI : ClassId) (oz loz liz siz shz saz : Nat) (nz camez : Nat) (cz gz : Int32) (louz Dz Sz shdz shsz : Fn) (thz : Int32) (hn : nz ≤ 63) (hc9 : camez ≤ 500) (hS1 : okS Sz) (hD1 : okD nz Dz) (xz : Int32) : zC_i l yX2_find wsX2_find ({ frames := 0, cells := 0, slots := 0, locals := 0 }) G [(cI, .int)] (wm cI oz loz liz siz shz saz nz camez cz gz louz Dz Sz shdz shsz thz) (wm cI oz loz liz siz shz saz nz camez cz gz louz Dz Sz shdz shsz thz) [.ref oz, .int xz] (fndI Dz nz xz) := by
  refine zB_i (cc := cX2_find) (maxL := 3) (ret := (some .int)) (by decide) rfl (Nat.le_of_ble_eq_true rfl) ?_
  intro p e s m args below meth c0 A hF hr hlk hK hA hP hD hS ls hl
  have hx := hF.1
  have hb := hF.2.1
  have hown := hF.2.2.2.1
  have hts := hF.2.2.2.2
  have hf29 := hts (.fieldLink RX2 29 "SnoringDukesModel" "many" "I") (by decide +kernel)
  have hf13 := hts (.fieldLink RX2 13 "SnoringDukesModel" "lies" "[I") (by decide +kernel)
  have hinX2 : ∀ wz ∈ wsX20, wz ∈ wsX2_find := by decide +kernel
  have hl : lv_has ls 3 [(0, .ref oz), (1, .int xz)] := hl
  refine lv_iconst (v := nI 0) hx hb dX2_find_0 (by decide) ?_
  refine lv_istore_n (lv' := [(2, .int (nI 0)), (0, .ref oz), (1, .int xz)]) hx hb dX2_find_1 rfl hl (by decide) rfl (fun ls hl => ?_)
  have loop : ∀ (f9 : Nat) (iz : Nat), (iz ≤ nz) → (∀ j, j < iz → Dz j ≠ xz) → nz - iz < f9 → ∀ (H : Heap) (locs : List Loc) (ls : Array Slot), va_P G vwCl (wm cI oz loz liz siz shz saz nz camez cz gz louz Dz Sz shdz shsz thz) H → va_D A (wm cI oz loz liz siz shz saz nz camez cz gz louz Dz Sz shdz shsz thz) → va_S A s.heap H locs → lv_has ls 3 [(0, .ref oz), (1, .int xz), (2, .int (nI iz))] → W p l e ({ frames := 0, cells := 0, slots := 0, locals := 0 }) s m args below meth c0 H locs 0 0 (zQ_i below G [(cI, .int)] (wm cI oz loz liz siz shz saz nz camez cz gz louz Dz Sz shdz shsz thz) (fndI Dz nz xz) A args s) (F0 m 2 ls []) := by
    intro f9
    induction f9 with
    | zero => intro iz hi hi2 hf; exact absurd hf (Nat.not_lt_zero _)
    | succ f9 ih =>
      intro iz hi hi2 hf H locs ls hP hD hS hl
      refine lv_iload_n hx hb dX2_find_2 rfl (lv_at hl 2 rfl) ?_
      refine lv_aload_n hx hb dX2_find_3 rfl (lv_at hl 0 rfl) ?_
      refine va_get (D := G) (ci := 2) (v := .int (nI nz)) (C := RX2) (T := TX2) (N := 10) hx hb hts hinX2 hown hK hP 0 rfl rfl 0 (by decide) hf29 (fun _ h9 => h9) rfl dX2_find_4 ?_
      refine lv_icmp_ge (tgt := 28) hx hb dX2_find_7 (by decide) (fun hc7 => ?_) (fun hc7 => ?_)
      · skip
        have k7 : nz ≤ iz := k_le (by omega) (by omega) hc7
        refine lv_iconst (v := (-1)) hx hb dX2_find_28 (by decide) ?_
        have e9 : fndI Dz nz xz = -1 := by unfold fndI; rw [if_neg (fnd_none (n := nz) (fun j hj => hi2 j (by omega)))]
        rw [e9]
        exact zE_i hF hr hlk hK hP hD hS dX2_find_29
      · skip
        have k7 : iz < nz := k_nle (by omega) (by omega) hc7
        refine lv_aload_n hx hb dX2_find_10 rfl (lv_at hl 0 rfl) ?_
        refine va_get (D := G) (ci := 2) (v := .ref liz) (C := RX2) (T := TX2) (N := 10) hx hb hts hinX2 hown hK hP 0 rfl rfl 5 (by decide) hf13 (fun _ h9 => h9) rfl dX2_find_11 ?_
        refine lv_iload_n hx hb dX2_find_14 rfl (lv_at hl 2 rfl) ?_
        refine zA_ld hx hb hK hP 2 0 rfl rfl (by omega) (by decide) dX2_find_15 ?_
        refine lv_iload_n hx hb dX2_find_16 rfl (lv_at hl 1 rfl) ?_
        refine lv_icmp_ne (tgt := 22) hx hb dX2_find_17 (by decide) (fun hc17 => ?_) (fun hc17 => ?_)
        · skip
          refine lv_iinc (v := nI (iz + 1)) (lv' := [(2, .int (nI (iz + 1))), (0, .ref oz), (1, .int xz)]) hx hb dX2_find_22 hl (k := 2) rfl (nI_1 _) (by decide) rfl (fun ls hl => ?_)
          refine lv_goto (tgt := 2) hx hb dX2_find_25 (by decide) ?_
          exact ih (iz + 1) k7 (fun j hj => by rcases Nat.lt_succ_iff_lt_or_eq.mp hj with qz | qz; exact hi2 j qz; rw [qz]; exact hc17) (by omega) _ _ _ hP hD hS (lv_sub hl [1, 2, 0] rfl)
        · skip
          refine lv_iload_n hx hb dX2_find_20 rfl (lv_at hl 2 rfl) ?_
          have e9 : fndI Dz nz xz = nI iz := by unfold fndI; rw [fnd_at k7 hc17 hi2, if_pos k7]
          rw [e9]
          exact zE_i hF hr hlk hK hP hD hS dX2_find_21
  exact loop (nz + 1) 0 (Nat.zero_le _) (fun j hj => absurd hj (Nat.not_lt_zero _)) (by omega) _ _ _ hP hD hS (lv_sub hl [1, 2, 0] rfl)
set_option maxHeartbeats 4000000 in
set_option maxRecDepth 100000 in
theorem m_left (l : Launch) (G : va_G) (cI : ClassId) (oz loz liz siz shz saz : Nat) (nz camez : Nat) (cz gz : Int32) (louz Dz Sz shdz shsz : Fn) (thz : Int32) (hn : nz ≤ 63) (hc9 : camez ≤ 500) (hS1 : okS Sz) (hD1 : okD nz Dz) (bz : Nat) (hb9 : bz < 63) : zC_i l yX2_left wsX2_left ({ frames := 0, cells := 0, slots := 0, locals := 0 }) G [(cI, .int)] (wm cI oz loz liz siz shz saz nz camez cz gz louz Dz Sz shdz shsz thz) (wm cI oz loz liz siz shz saz nz camez cz gz louz Dz Sz shdz shsz thz) [.ref oz, .int (nI bz)] (nI (2 * bz + sd Sz bz)) := by
  refine zB_i (cc := cX2_left) (maxL := 2) (ret := (some .int)) (by decide) rfl (Nat.le_of_ble_eq_true rfl) ?_
  intro p e s m args below meth c0 A hF hr hlk hK hA hP hD hS ls hl
  have hx := hF.1
  have hb := hF.2.1
  have hown := hF.2.2.2.1
  have hts := hF.2.2.2.2
  have hf16 := hts (.fieldLink RX2 16 "SnoringDukesModel" "side" "[I") (by decide +kernel)
  have hinX2 : ∀ wz ∈ wsX20, wz ∈ wsX2_left := by decide +kernel
  have hl : lv_has ls 2 [(0, .ref oz), (1, .int (nI bz))] := hl
  refine lv_iconst (v := nI 2) hx hb dX2_left_0 (by decide) ?_
  refine lv_iload_n hx hb dX2_left_1 rfl (lv_at hl 1 rfl) ?_
  refine lv_imul hx hb dX2_left_2 ?_
  refine zN (nI (2 * bz)) (y := ((nI 2) * (nI bz))) (pk_mul _ _) ?_
  refine lv_aload_n hx hb dX2_left_3 rfl (lv_at hl 0 rfl) ?_
  refine va_get (D := G) (ci := 2) (v := .ref siz) (C := RX2) (T := TX2) (N := 10) hx hb hts hinX2 hown hK hP 0 rfl rfl 6 (by decide) hf16 (fun _ h9 => h9) rfl dX2_left_4 ?_
  refine lv_iload_n hx hb dX2_left_7 rfl (lv_at hl 1 rfl) ?_
  refine zA_ld hx hb hK hP 3 0 rfl rfl (by omega) (by decide) dX2_left_8 ?_
  refine zN (nI (sd Sz bz)) (y := (Sz bz)) (sd_nI hS1 bz) ?_
  refine lv_iadd hx hb dX2_left_9 ?_
  refine zN (nI ((2 * bz) + (sd Sz bz))) (y := ((nI (2 * bz)) + (nI (sd Sz bz)))) (nI_add _ _) ?_
  exact zE_i hF hr hlk hK hP hD hS dX2_left_10
set_option maxHeartbeats 4000000 in
set_option maxRecDepth 100000 in
theorem m_elder (l : Launch) (G : va_G) (cI : ClassId) (oz loz liz siz shz saz : Nat) (nz camez : Nat) (cz gz : Int32) (louz Dz Sz shdz shsz : Fn) (thz : Int32) (hn : nz ≤ 63) (hc9 : camez ≤ 500) (hS1 : okS Sz) (hD1 : okD nz Dz) (bz : Nat) (hb0 : 1 ≤ bz) (hb9 : bz < 63) : zC_i l yX2_elder wsX2_elder ({ frames := 1, cells := 0, slots := 0, locals := 21 }) G [(cI, .int)] (wm cI oz loz liz siz shz saz nz camez cz gz louz Dz Sz shdz shsz thz) (wm cI oz loz liz siz shz saz nz camez cz gz louz Dz Sz shdz shsz thz) [.ref oz, .int (nI bz)] (nI (eld Sz bz)) := by
  refine zB_i (cc := cX2_elder) (maxL := 3) (ret := (some .int)) (by decide) rfl (Nat.le_of_ble_eq_true rfl) ?_
  intro p e s m args below meth c0 A hF hr hlk hK hA hP hD hS ls hl
  have hx := hF.1
  have hb := hF.2.1
  have hown := hF.2.2.2.1
  have hts := hF.2.2.2.2
  have hl : lv_has ls 3 [(0, .ref oz), (1, .int (nI bz))] := hl
  refine lv_iload_n hx hb dX2_elder_0 rfl (lv_at hl 1 rfl) ?_
  refine lv_istore_n (lv' := [(2, .int (nI bz)), (0, .ref oz), (1, .int (nI bz))]) hx hb dX2_elder_1 rfl hl (by decide) rfl (fun ls hl => ?_)
  have loop : ∀ (f9 : Nat) (at9 : Nat), (1 ≤ at9) → (at9 ≤ bz) → (eld Sz at9 = eld Sz bz) → at9 < f9 → ∀ (H : Heap) (locs : List Loc) (ls : Array Slot), va_P G vwCl (wm cI oz loz liz siz shz saz nz camez cz gz louz Dz Sz shdz shsz thz) H → va_D A (wm cI oz loz liz siz shz saz nz camez cz gz louz Dz Sz shdz shsz thz) → va_S A s.heap H locs → lv_has ls 3 [(0, .ref oz), (1, .int (nI bz)), (2, .int (nI at9))] → W p l e ({ frames := 1, cells := 0, slots := 0, locals := 21 }) s m args below meth c0 H locs 0 0 (zQ_i below G [(cI, .int)] (wm cI oz loz liz siz shz saz nz camez cz gz louz Dz Sz shdz shsz thz) (nI (eld Sz bz)) A args s) (F0 m 2 ls []) := by
    intro f9
    induction f9 with
    | zero => intro at9 h0 h1 h2 hf; exact absurd hf (Nat.not_lt_zero _)
    | succ f9 ih =>
      intro at9 h0 h1 h2 hf H locs ls hP hD hS hl
      have z1 := sd_le Sz (at9 / 2)
      refine lv_iload_n hx hb dX2_elder_2 rfl (lv_at hl 2 rfl) ?_
      refine lv_aload_n hx hb dX2_elder_3 rfl (lv_at hl 0 rfl) ?_
      refine lv_iload_n hx hb dX2_elder_4 rfl (lv_at hl 2 rfl) ?_
      refine lv_iconst (v := nI 2) hx hb dX2_elder_5 (by decide) ?_
      refine lv_idiv hx hb dX2_elder_6 (by decide) ?_
      refine zN (nI (at9 / 2)) (y := ((nI at9) / (nI 2))) (pk_div (by omega) (by decide) (by decide)) ?_
      refine zK_vi (As := [.int (nI (at9 / 2))]) (rest := [.int (nI at9)]) hF (m_left l G cI oz loz liz siz shz saz nz camez cz gz louz Dz Sz shdz shsz thz (by omega) (by omega) hS1 hD1 (at9 / 2) (by omega)) (cwV 1 hts gX2_elder_X2_left rfl rfl rfl (by decide +kernel) ⟨Nat.le_of_ble_eq_true rfl, Nat.le_of_ble_eq_true rfl⟩) hK hP hD hS hA (ci := 2) (q0 := 0) rfl rfl rfl (isC := [0, 1, 2, 3, 4, 5]) (isR := []) (perm := [0, 1, 2, 3, 4, 5]) (wr := []) (wN := wm cI oz loz liz siz shz saz nz camez cz gz louz Dz Sz shdz shsz thz) ⟨rfl, by decide, rfl, rfl, (fun _ hz => by cases hz), rfl, by decide⟩ [0] rfl rfl hl.1 rfl (Nat.le_of_ble_eq_true rfl) dX2_elder_7 ⟨Nat.le_refl _, Nat.le_refl _⟩ (fun H locs hP hD hS => ?_)
      refine lv_icmp_ne (tgt := 20) hx hb dX2_elder_10 (by decide) (fun hc10 => ?_) (fun hc10 => ?_)
      · skip
        have k10 : at9 ≠ (2 * (at9 / 2) + sd Sz (at9 / 2)) := k_ne (by omega) (by omega) hc10
        refine lv_iload_n hx hb dX2_elder_20 rfl (lv_at hl 2 rfl) ?_
        refine lv_iconst (v := nI 2) hx hb dX2_elder_21 (by decide) ?_
        refine lv_idiv hx hb dX2_elder_22 (by decide) ?_
        refine zN (nI (at9 / 2)) (y := ((nI at9) / (nI 2))) (pk_div (by omega) (by decide) (by decide)) ?_
        have e9 : at9 / 2 = eld Sz bz := by
          rw [← h2]
          by_cases z9 : at9 ≤ 1
          · rw [eld_1 z9]; omega
          · rw [eld_st z9 (by omega)]
        rw [← e9]
        exact zE_i hF hr hlk hK hP hD hS dX2_elder_23
      · skip
        have k10 : at9 = (2 * (at9 / 2) + sd Sz (at9 / 2)) := k_eq (by omega) (by omega) hc10
        have z9 : ¬ at9 ≤ 1 := fun zz => by
          have e7 : at9 / 2 = 0 := by omega
          rw [e7, sd_0 hS1] at k10
          omega
        refine lv_iload_n hx hb dX2_elder_13 rfl (lv_at hl 2 rfl) ?_
        refine lv_iconst (v := nI 2) hx hb dX2_elder_14 (by decide) ?_
        refine lv_idiv hx hb dX2_elder_15 (by decide) ?_
        refine zN (nI (at9 / 2)) (y := ((nI at9) / (nI 2))) (pk_div (by omega) (by decide) (by decide)) ?_
        refine lv_istore_n (lv' := [(2, .int (nI (at9 / 2))), (0, .ref oz), (1, .int (nI bz))]) hx hb dX2_elder_16 rfl hl (by decide) rfl (fun ls hl => ?_)
        refine lv_goto (tgt := 2) hx hb dX2_elder_17 (by decide) ?_
        exact ih (at9 / 2) (by omega) (by omega) ((eld_up (b := at9) (by omega) (by omega)).symm.trans h2) (by omega) _ _ _ hP hD hS (lv_sub hl [1, 2, 0] rfl)
  exact loop (bz + 1) bz hb0 (Nat.le_refl _) rfl (by omega) _ _ _ hP hD hS (lv_sub hl [1, 2, 0] rfl)
set_option maxHeartbeats 4000000 in
set_option maxRecDepth 100000 in
theorem m_joins (l : Launch) (G : va_G) (cI : ClassId) (oz loz liz siz shz saz : Nat) (nz camez : Nat) (cz gz : Int32) (louz Dz Sz shdz shsz : Fn) (thz : Int32) (hn : nz ≤ 63) (hc9 : camez ≤ 500) (hS1 : okS Sz) (hD1 : okD nz Dz) (e1 j1 : Nat) (he : e1 < nz) (hj : j1 < nz) (sure : Bool) : zC_i l yX2_joins wsX2_joins ({ frames := 0, cells := 0, slots := 0, locals := 0 }) G [(cI, .int)] (wm cI oz loz liz siz shz saz nz camez cz gz louz Dz Sz shdz shsz thz) (wm cI oz loz liz siz shz saz nz camez (wc (joinF sure (vM louz Dz Sz nz cz gz) e1 j1)) (wg (joinF sure (vM louz Dz Sz nz cz gz) e1 j1)) louz (wD (joinF sure (vM louz Dz Sz nz cz gz) e1 j1)) (wS (joinF sure (vM louz Dz Sz nz cz gz) e1 j1)) shdz shsz thz) [.ref oz, .int (nI e1), .int (nI j1), .int (bI sure)] (bI (jc sure (vM louz Dz Sz nz cz gz) e1 j1)) := by
  refine zB_i (cc := cX2_joins) (maxL := 6) (ret := (some .boolean)) (by decide) rfl (Nat.le_of_ble_eq_true rfl) ?_
  intro p e s m args below meth c0 A hF hr hlk hK hA hP hD hS ls hl
  have hx := hF.1
  have hb := hF.2.1
  have hown := hF.2.2.2.1
  have hts := hF.2.2.2.2
  have hf36 := hts (.fieldLink RX2 36 "SnoringDukesModel" "compared" "I") (by decide +kernel)
  have hf7 := hts (.fieldLink RX2 7 "SnoringDukesModel" "loud" "[I") (by decide +kernel)
  have hf13 := hts (.fieldLink RX2 13 "SnoringDukesModel" "lies" "[I") (by decide +kernel)
  have hf16 := hts (.fieldLink RX2 16 "SnoringDukesModel" "side" "[I") (by decide +kernel)
  have hf39 := hts (.fieldLink RX2 39 "SnoringDukesModel" "changed" "I") (by decide +kernel)
  have hinX2 : ∀ wz ∈ wsX20, wz ∈ wsX2_joins := by decide +kernel
  have hl : lv_has ls 6 [(0, .ref oz), (1, .int (nI e1)), (2, .int (nI j1)), (3, .int (bI sure))] := hl
  obtain ⟨ke, hke, hDe⟩ := hD1 e1 he
  obtain ⟨kj, hkj, hDj⟩ := hD1 j1 hj
  have e5 : jc sure (vM louz Dz Sz nz cz gz) e1 j1 = (sure || decide (louz kj < louz ke)) := by unfold jc; show (sure || decide (louz (Dz j1).toNatClampNeg < louz (Dz e1).toNatClampNeg)) = _; rw [hDe, hDj, nI_clamp (by omega), nI_clamp (by omega)]
  refine lv_aload_n hx hb dX2_joins_0 rfl (lv_at hl 0 rfl) ?_
  refine lv_dup hx hb dX2_joins_1 rfl ?_
  refine va_get (D := G) (ci := 2) (v := .int cz) (C := RX2) (T := TX2) (N := 10) hx hb hts hinX2 hown hK hP 0 rfl rfl 2 (by decide) hf36 (fun _ h9 => h9) rfl dX2_joins_2 ?_
  refine lv_iconst (v := nI 1) hx hb dX2_joins_5 (by decide) ?_
  refine lv_iadd hx hb dX2_joins_6 ?_
  refine va_put (D := G) (ci := 2) (v := .int (cz + (nI 1))) (ty := .int) (C := RX2) (T := TX2) (N := 10) hx hb hts hinX2 tyX2 tyX2_ok nmX2 hown hK hP hD hS 0 rfl rfl 2 (by decide) hf36 (fun _ h9 => h9) rfl (by decide +kernel) rfl rfl (Nat.le_of_ble_eq_true rfl) dX2_joins_7 (fun H locs hP hD hS => ?_)
  have hP : va_P G vwCl (wm cI oz loz liz siz shz saz nz camez (cz + (nI 1)) gz louz Dz Sz shdz shsz thz) H := hP
  have hD : va_D A (wm cI oz loz liz siz shz saz nz camez (cz + (nI 1)) gz louz Dz Sz shdz shsz thz) := hD
  refine lv_iload_n hx hb dX2_joins_10 rfl (lv_at hl 3 rfl) ?_
  refine lv_if_ne (tgt := 39) hx hb dX2_joins_11 (by decide) (fun hc11 => ?_) (fun hc11 => ?_)
  · skip
    have k11 : sure = true := bI_ne.mp hc11
    refine lv_iconst (v := nI 1) hx hb dX2_joins_39 (by decide) ?_
    refine lv_goto (tgt := 44) hx hb dX2_joins_40 (by decide) ?_
    have e8 : jc sure (vM louz Dz Sz nz cz gz) e1 j1 = true := by rw [e5, k11]; rfl
    refine lv_istore (lv' := [(4, .int (nI 1)), (0, .ref oz), (1, .int (nI e1)), (2, .int (nI j1)), (3, .int (bI sure))]) hx hb dX2_joins_44 hl (by decide) rfl (fun ls hl => ?_)
    refine lv_iload hx hb dX2_joins_46 (lv_at hl 0 rfl) ?_
    refine lv_if_eq (tgt := 103) hx hb dX2_joins_48 (by decide) (fun hc48 => ?_) (fun hc48 => ?_)
    · exact absurd hc48 (by decide)
    · skip
      have k48 : 0 < 1 := k0_ne (by omega) hc48
      refine lv_aload_n hx hb dX2_joins_51 rfl (lv_at hl 1 rfl) ?_
      refine va_get (D := G) (ci := 2) (v := .ref liz) (C := RX2) (T := TX2) (N := 10) hx hb hts hinX2 hown hK hP 0 rfl rfl 5 (by decide) hf13 (fun _ h9 => h9) rfl dX2_joins_52 ?_
      refine lv_iload_n hx hb dX2_joins_55 rfl (lv_at hl 3 rfl) ?_
      refine zA_ld hx hb hK hP 2 0 rfl rfl (by omega) (by decide) dX2_joins_56 ?_
      refine lv_istore (lv' := [(5, .int (Dz j1)), (4, .int (nI 1)), (0, .ref oz), (1, .int (nI e1)), (2, .int (nI j1)), (3, .int (bI sure))]) hx hb dX2_joins_57 hl (by decide) rfl (fun ls hl => ?_)
      refine lv_aload_n hx hb dX2_joins_59 rfl (lv_at hl 2 rfl) ?_
      refine va_get (D := G) (ci := 2) (v := .ref liz) (C := RX2) (T := TX2) (N := 10) hx hb hts hinX2 hown hK hP 0 rfl rfl 5 (by decide) hf13 (fun _ h9 => h9) rfl dX2_joins_60 ?_
      refine lv_iload_n hx hb dX2_joins_63 rfl (lv_at hl 4 rfl) ?_
      refine lv_aload_n hx hb dX2_joins_64 rfl (lv_at hl 2 rfl) ?_
      refine va_get (D := G) (ci := 2) (v := .ref liz) (C := RX2) (T := TX2) (N := 10) hx hb hts hinX2 hown hK hP 0 rfl rfl 5 (by decide) hf13 (fun _ h9 => h9) rfl dX2_joins_65 ?_
      refine lv_iload_n hx hb dX2_joins_68 rfl (lv_at hl 3 rfl) ?_
      refine zA_ld hx hb hK hP 2 0 rfl rfl (by omega) (by decide) dX2_joins_69 ?_
      refine zA_st (x := Dz e1) hx hb hK hP hD hS 2 0 rfl rfl (by omega) (by decide) dX2_joins_70 (fun H locs hP hD hS => ?_)
      have hP : va_P G vwCl (wm cI oz loz liz siz shz saz nz camez (cz + (nI 1)) gz louz (upd Dz j1 (Dz e1)) Sz shdz shsz thz) H := hP
      have hD : va_D A (wm cI oz loz liz siz shz saz nz camez (cz + (nI 1)) gz louz (upd Dz j1 (Dz e1)) Sz shdz shsz thz) := hD
      refine lv_aload_n hx hb dX2_joins_71 rfl (lv_at hl 2 rfl) ?_
      refine va_get (D := G) (ci := 2) (v := .ref liz) (C := RX2) (T := TX2) (N := 10) hx hb hts hinX2 hown hK hP 0 rfl rfl 5 (by decide) hf13 (fun _ h9 => h9) rfl dX2_joins_72 ?_
      refine lv_iload_n hx hb dX2_joins_75 rfl (lv_at hl 3 rfl) ?_
      refine lv_iload hx hb dX2_joins_76 (lv_at hl 0 rfl) ?_
      refine zA_st (x := Dz j1) hx hb hK hP hD hS 2 0 rfl rfl (by omega) (by decide) dX2_joins_78 (fun H locs hP hD hS => ?_)
      have hP : va_P G vwCl (wm cI oz loz liz siz shz saz nz camez (cz + (nI 1)) gz louz (upd (upd Dz j1 (Dz e1)) e1 (Dz j1)) Sz shdz shsz thz) H := hP
      have hD : va_D A (wm cI oz loz liz siz shz saz nz camez (cz + (nI 1)) gz louz (upd (upd Dz j1 (Dz e1)) e1 (Dz j1)) Sz shdz shsz thz) := hD
      refine lv_aload_n hx hb dX2_joins_79 rfl (lv_at hl 2 rfl) ?_
      refine va_get (D := G) (ci := 2) (v := .ref siz) (C := RX2) (T := TX2) (N := 10) hx hb hts hinX2 hown hK hP 0 rfl rfl 6 (by decide) hf16 (fun _ h9 => h9) rfl dX2_joins_80 ?_
      refine lv_iload_n hx hb dX2_joins_83 rfl (lv_at hl 4 rfl) ?_
      refine lv_iconst (v := nI 1) hx hb dX2_joins_84 (by decide) ?_
      refine lv_aload_n hx hb dX2_joins_85 rfl (lv_at hl 2 rfl) ?_
      refine va_get (D := G) (ci := 2) (v := .ref siz) (C := RX2) (T := TX2) (N := 10) hx hb hts hinX2 hown hK hP 0 rfl rfl 6 (by decide) hf16 (fun _ h9 => h9) rfl dX2_joins_86 ?_
      refine lv_iload_n hx hb dX2_joins_89 rfl (lv_at hl 4 rfl) ?_
      refine zA_ld hx hb hK hP 3 0 rfl rfl (by omega) (by decide) dX2_joins_90 ?_
      refine lv_isub hx hb dX2_joins_91 ?_
      refine zA_st (x := (nI 1) - (Sz j1)) hx hb hK hP hD hS 3 0 rfl rfl (by omega) (by decide) dX2_joins_92 (fun H locs hP hD hS => ?_)
      have hP : va_P G vwCl (wm cI oz loz liz siz shz saz nz camez (cz + (nI 1)) gz louz (upd (upd Dz j1 (Dz e1)) e1 (Dz j1)) (upd Sz j1 ((nI 1) - (Sz j1))) shdz shsz thz) H := hP
      have hD : va_D A (wm cI oz loz liz siz shz saz nz camez (cz + (nI 1)) gz louz (upd (upd Dz j1 (Dz e1)) e1 (Dz j1)) (upd Sz j1 ((nI 1) - (Sz j1))) shdz shsz thz) := hD
      refine lv_aload_n hx hb dX2_joins_93 rfl (lv_at hl 2 rfl) ?_
      refine lv_dup hx hb dX2_joins_94 rfl ?_
      refine va_get (D := G) (ci := 2) (v := .int gz) (C := RX2) (T := TX2) (N := 10) hx hb hts hinX2 hown hK hP 0 rfl rfl 3 (by decide) hf39 (fun _ h9 => h9) rfl dX2_joins_95 ?_
      refine lv_iconst (v := nI 1) hx hb dX2_joins_98 (by decide) ?_
      refine lv_iadd hx hb dX2_joins_99 ?_
      refine va_put (D := G) (ci := 2) (v := .int (gz + (nI 1))) (ty := .int) (C := RX2) (T := TX2) (N := 10) hx hb hts hinX2 tyX2 tyX2_ok nmX2 hown hK hP hD hS 0 rfl rfl 3 (by decide) hf39 (fun _ h9 => h9) rfl (by decide +kernel) rfl rfl (Nat.le_of_ble_eq_true rfl) dX2_joins_100 (fun H locs hP hD hS => ?_)
      have hP : va_P G vwCl (wm cI oz loz liz siz shz saz nz camez (cz + (nI 1)) (gz + (nI 1)) louz (upd (upd Dz j1 (Dz e1)) e1 (Dz j1)) (upd Sz j1 ((nI 1) - (Sz j1))) shdz shsz thz) H := hP
      have hD : va_D A (wm cI oz loz liz siz shz saz nz camez (cz + (nI 1)) (gz + (nI 1)) louz (upd (upd Dz j1 (Dz e1)) e1 (Dz j1)) (upd Sz j1 ((nI 1) - (Sz j1))) shdz shsz thz) := hD
      refine lv_iload hx hb dX2_joins_103 (lv_at hl 1 rfl) ?_
      have e7 : joinF sure (vM louz Dz Sz nz cz gz) e1 j1 = vM louz (exF Dz e1 j1) (upd Sz j1 (nI 1 - Sz j1)) nz (cz + nI 1) (gz + nI 1) := by rw [joinM, e8]; rfl
      rw [e7, e8]
      have e6 : upd (upd Dz j1 (Dz e1)) e1 (Dz j1) = exF Dz e1 j1 := exF_sw Dz e1 j1
      rw [e6] at hP hD
      exact zE_z hF hr hlk (Or.inr rfl) hK hP hD hS dX2_joins_105
  · skip
    have k11 : sure = false := bI_e0.mp hc11
    refine lv_aload_n hx hb dX2_joins_14 rfl (lv_at hl 0 rfl) ?_
    refine va_get (D := G) (ci := 2) (v := .ref loz) (C := RX2) (T := TX2) (N := 10) hx hb hts hinX2 hown hK hP 0 rfl rfl 4 (by decide) hf7 (fun _ h9 => h9) rfl dX2_joins_15 ?_
    refine lv_aload_n hx hb dX2_joins_18 rfl (lv_at hl 0 rfl) ?_
    refine va_get (D := G) (ci := 2) (v := .ref liz) (C := RX2) (T := TX2) (N := 10) hx hb hts hinX2 hown hK hP 0 rfl rfl 5 (by decide) hf13 (fun _ h9 => h9) rfl dX2_joins_19 ?_
    refine lv_iload_n hx hb dX2_joins_22 rfl (lv_at hl 2 rfl) ?_
    refine zA_ld hx hb hK hP 2 0 rfl rfl (by omega) (by decide) dX2_joins_23 ?_
    refine zN (nI kj) (y := (Dz j1)) (hDj) ?_
    refine zA_ld hx hb hK hP 1 0 rfl rfl (by omega) (by decide) dX2_joins_24 ?_
    refine lv_aload_n hx hb dX2_joins_25 rfl (lv_at hl 0 rfl) ?_
    refine va_get (D := G) (ci := 2) (v := .ref loz) (C := RX2) (T := TX2) (N := 10) hx hb hts hinX2 hown hK hP 0 rfl rfl 4 (by decide) hf7 (fun _ h9 => h9) rfl dX2_joins_26 ?_
    refine lv_aload_n hx hb dX2_joins_29 rfl (lv_at hl 0 rfl) ?_
    refine va_get (D := G) (ci := 2) (v := .ref liz) (C := RX2) (T := TX2) (N := 10) hx hb hts hinX2 hown hK hP 0 rfl rfl 5 (by decide) hf13 (fun _ h9 => h9) rfl dX2_joins_30 ?_
    refine lv_iload_n hx hb dX2_joins_33 rfl (lv_at hl 1 rfl) ?_
    refine zA_ld hx hb hK hP 2 0 rfl rfl (by omega) (by decide) dX2_joins_34 ?_
    refine zN (nI ke) (y := (Dz e1)) (hDe) ?_
    refine zA_ld hx hb hK hP 1 0 rfl rfl (by omega) (by decide) dX2_joins_35 ?_
    refine lv_icmp_ge (tgt := 43) hx hb dX2_joins_36 (by decide) (fun hc36 => ?_) (fun hc36 => ?_)
    · skip
      refine lv_iconst (v := nI 0) hx hb dX2_joins_43 (by decide) ?_
      have e8 : jc sure (vM louz Dz Sz nz cz gz) e1 j1 = false := by rw [e5, k11, decide_eq_false (fa_nle hc36)]; rfl
      refine lv_istore (lv' := [(4, .int (nI 0)), (0, .ref oz), (1, .int (nI e1)), (2, .int (nI j1)), (3, .int (bI sure))]) hx hb dX2_joins_44 hl (by decide) rfl (fun ls hl => ?_)
      refine lv_iload hx hb dX2_joins_46 (lv_at hl 0 rfl) ?_
      refine lv_if_eq (tgt := 103) hx hb dX2_joins_48 (by decide) (fun hc48 => ?_) (fun hc48 => ?_)
      · skip
        have k48 : 0 = 0 := k0_eq (by omega) hc48
        refine lv_iload hx hb dX2_joins_103 (lv_at hl 0 rfl) ?_
        have e7 : joinF sure (vM louz Dz Sz nz cz gz) e1 j1 = vM louz Dz Sz nz (cz + nI 1) gz := by rw [joinM, e8]; rfl
        rw [e7, e8]
        exact zE_z hF hr hlk (Or.inl rfl) hK hP hD hS dX2_joins_105
      · exact absurd hc48 (by decide)
    · skip
      refine lv_iconst (v := nI 1) hx hb dX2_joins_39 (by decide) ?_
      refine lv_goto (tgt := 44) hx hb dX2_joins_40 (by decide) ?_
      have e8 : jc sure (vM louz Dz Sz nz cz gz) e1 j1 = true := by rw [e5, decide_eq_true (fa_nlt hc36), Bool.or_true]
      refine lv_istore (lv' := [(4, .int (nI 1)), (0, .ref oz), (1, .int (nI e1)), (2, .int (nI j1)), (3, .int (bI sure))]) hx hb dX2_joins_44 hl (by decide) rfl (fun ls hl => ?_)
      refine lv_iload hx hb dX2_joins_46 (lv_at hl 0 rfl) ?_
      refine lv_if_eq (tgt := 103) hx hb dX2_joins_48 (by decide) (fun hc48 => ?_) (fun hc48 => ?_)
      · exact absurd hc48 (by decide)
      · skip
        have k48 : 0 < 1 := k0_ne (by omega) hc48
        refine lv_aload_n hx hb dX2_joins_51 rfl (lv_at hl 1 rfl) ?_
        refine va_get (D := G) (ci := 2) (v := .ref liz) (C := RX2) (T := TX2) (N := 10) hx hb hts hinX2 hown hK hP 0 rfl rfl 5 (by decide) hf13 (fun _ h9 => h9) rfl dX2_joins_52 ?_
        refine lv_iload_n hx hb dX2_joins_55 rfl (lv_at hl 3 rfl) ?_
        refine zA_ld hx hb hK hP 2 0 rfl rfl (by omega) (by decide) dX2_joins_56 ?_
        refine lv_istore (lv' := [(5, .int (Dz j1)), (4, .int (nI 1)), (0, .ref oz), (1, .int (nI e1)), (2, .int (nI j1)), (3, .int (bI sure))]) hx hb dX2_joins_57 hl (by decide) rfl (fun ls hl => ?_)
        refine lv_aload_n hx hb dX2_joins_59 rfl (lv_at hl 2 rfl) ?_
        refine va_get (D := G) (ci := 2) (v := .ref liz) (C := RX2) (T := TX2) (N := 10) hx hb hts hinX2 hown hK hP 0 rfl rfl 5 (by decide) hf13 (fun _ h9 => h9) rfl dX2_joins_60 ?_
        refine lv_iload_n hx hb dX2_joins_63 rfl (lv_at hl 4 rfl) ?_
        refine lv_aload_n hx hb dX2_joins_64 rfl (lv_at hl 2 rfl) ?_
        refine va_get (D := G) (ci := 2) (v := .ref liz) (C := RX2) (T := TX2) (N := 10) hx hb hts hinX2 hown hK hP 0 rfl rfl 5 (by decide) hf13 (fun _ h9 => h9) rfl dX2_joins_65 ?_
        refine lv_iload_n hx hb dX2_joins_68 rfl (lv_at hl 3 rfl) ?_
        refine zA_ld hx hb hK hP 2 0 rfl rfl (by omega) (by decide) dX2_joins_69 ?_
        refine zA_st (x := Dz e1) hx hb hK hP hD hS 2 0 rfl rfl (by omega) (by decide) dX2_joins_70 (fun H locs hP hD hS => ?_)
        have hP : va_P G vwCl (wm cI oz loz liz siz shz saz nz camez (cz + (nI 1)) gz louz (upd Dz j1 (Dz e1)) Sz shdz shsz thz) H := hP
        have hD : va_D A (wm cI oz loz liz siz shz saz nz camez (cz + (nI 1)) gz louz (upd Dz j1 (Dz e1)) Sz shdz shsz thz) := hD
        refine lv_aload_n hx hb dX2_joins_71 rfl (lv_at hl 2 rfl) ?_
        refine va_get (D := G) (ci := 2) (v := .ref liz) (C := RX2) (T := TX2) (N := 10) hx hb hts hinX2 hown hK hP 0 rfl rfl 5 (by decide) hf13 (fun _ h9 => h9) rfl dX2_joins_72 ?_
        refine lv_iload_n hx hb dX2_joins_75 rfl (lv_at hl 3 rfl) ?_
        refine lv_iload hx hb dX2_joins_76 (lv_at hl 0 rfl) ?_
        refine zA_st (x := Dz j1) hx hb hK hP hD hS 2 0 rfl rfl (by omega) (by decide) dX2_joins_78 (fun H locs hP hD hS => ?_)
        have hP : va_P G vwCl (wm cI oz loz liz siz shz saz nz camez (cz + (nI 1)) gz louz (upd (upd Dz j1 (Dz e1)) e1 (Dz j1)) Sz shdz shsz thz) H := hP
        have hD : va_D A (wm cI oz loz liz siz shz saz nz camez (cz + (nI 1)) gz louz (upd (upd Dz j1 (Dz e1)) e1 (Dz j1)) Sz shdz shsz thz) := hD
        refine lv_aload_n hx hb dX2_joins_79 rfl (lv_at hl 2 rfl) ?_
        refine va_get (D := G) (ci := 2) (v := .ref siz) (C := RX2) (T := TX2) (N := 10) hx hb hts hinX2 hown hK hP 0 rfl rfl 6 (by decide) hf16 (fun _ h9 => h9) rfl dX2_joins_80 ?_
        refine lv_iload_n hx hb dX2_joins_83 rfl (lv_at hl 4 rfl) ?_
        refine lv_iconst (v := nI 1) hx hb dX2_joins_84 (by decide) ?_
        refine lv_aload_n hx hb dX2_joins_85 rfl (lv_at hl 2 rfl) ?_
        refine va_get (D := G) (ci := 2) (v := .ref siz) (C := RX2) (T := TX2) (N := 10) hx hb hts hinX2 hown hK hP 0 rfl rfl 6 (by decide) hf16 (fun _ h9 => h9) rfl dX2_joins_86 ?_
        refine lv_iload_n hx hb dX2_joins_89 rfl (lv_at hl 4 rfl) ?_
        refine zA_ld hx hb hK hP 3 0 rfl rfl (by omega) (by decide) dX2_joins_90 ?_
        refine lv_isub hx hb dX2_joins_91 ?_
        refine zA_st (x := (nI 1) - (Sz j1)) hx hb hK hP hD hS 3 0 rfl rfl (by omega) (by decide) dX2_joins_92 (fun H locs hP hD hS => ?_)
        have hP : va_P G vwCl (wm cI oz loz liz siz shz saz nz camez (cz + (nI 1)) gz louz (upd (upd Dz j1 (Dz e1)) e1 (Dz j1)) (upd Sz j1 ((nI 1) - (Sz j1))) shdz shsz thz) H := hP
        have hD : va_D A (wm cI oz loz liz siz shz saz nz camez (cz + (nI 1)) gz louz (upd (upd Dz j1 (Dz e1)) e1 (Dz j1)) (upd Sz j1 ((nI 1) - (Sz j1))) shdz shsz thz) := hD
        refine lv_aload_n hx hb dX2_joins_93 rfl (lv_at hl 2 rfl) ?_
        refine lv_dup hx hb dX2_joins_94 rfl ?_
        refine va_get (D := G) (ci := 2) (v := .int gz) (C := RX2) (T := TX2) (N := 10) hx hb hts hinX2 hown hK hP 0 rfl rfl 3 (by decide) hf39 (fun _ h9 => h9) rfl dX2_joins_95 ?_
        refine lv_iconst (v := nI 1) hx hb dX2_joins_98 (by decide) ?_
        refine lv_iadd hx hb dX2_joins_99 ?_
        refine va_put (D := G) (ci := 2) (v := .int (gz + (nI 1))) (ty := .int) (C := RX2) (T := TX2) (N := 10) hx hb hts hinX2 tyX2 tyX2_ok nmX2 hown hK hP hD hS 0 rfl rfl 3 (by decide) hf39 (fun _ h9 => h9) rfl (by decide +kernel) rfl rfl (Nat.le_of_ble_eq_true rfl) dX2_joins_100 (fun H locs hP hD hS => ?_)
        have hP : va_P G vwCl (wm cI oz loz liz siz shz saz nz camez (cz + (nI 1)) (gz + (nI 1)) louz (upd (upd Dz j1 (Dz e1)) e1 (Dz j1)) (upd Sz j1 ((nI 1) - (Sz j1))) shdz shsz thz) H := hP
        have hD : va_D A (wm cI oz loz liz siz shz saz nz camez (cz + (nI 1)) (gz + (nI 1)) louz (upd (upd Dz j1 (Dz e1)) e1 (Dz j1)) (upd Sz j1 ((nI 1) - (Sz j1))) shdz shsz thz) := hD
        refine lv_iload hx hb dX2_joins_103 (lv_at hl 1 rfl) ?_
        have e7 : joinF sure (vM louz Dz Sz nz cz gz) e1 j1 = vM louz (exF Dz e1 j1) (upd Sz j1 (nI 1 - Sz j1)) nz (cz + nI 1) (gz + nI 1) := by rw [joinM, e8]; rfl
        rw [e7, e8]
        have e6 : upd (upd Dz j1 (Dz e1)) e1 (Dz j1) = exF Dz e1 j1 := exF_sw Dz e1 j1
        rw [e6] at hP hD
        exact zE_z hF hr hlk (Or.inr rfl) hK hP hD hS dX2_joins_105
set_option maxHeartbeats 4000000 in
set_option maxRecDepth 100000 in
theorem m_rises (l : Launch) (G : va_G) (cI : ClassId) (oz loz liz siz shz saz : Nat) (nz camez : Nat) (cz gz : Int32) (louz Dz Sz shdz shsz : Fn) (thz : Int32) (hn : nz ≤ 63) (hc9 : camez ≤ 500) (hS1 : okS Sz) (hD1 : okD nz Dz) (bz : Nat) (hb9 : bz < nz) (sure : Bool) : zC_i l yX2_rises wsX2_rises ({ frames := 2, cells := 0, slots := 0, locals := 43 }) G [(cI, .int)] (wm cI oz loz liz siz shz saz nz camez cz gz louz Dz Sz shdz shsz thz) (wm cI oz loz liz siz shz saz nz camez (wc ((riseF sure 63 (vM louz Dz Sz nz cz gz) bz).1)) (wg ((riseF sure 63 (vM louz Dz Sz nz cz gz) bz).1)) louz (wD ((riseF sure 63 (vM louz Dz Sz nz cz gz) bz).1)) (wS ((riseF sure 63 (vM louz Dz Sz nz cz gz) bz).1)) shdz shsz thz) [.ref oz, .int (nI bz), .int (bI sure)] (nI (riseF sure 63 (vM louz Dz Sz nz cz gz) bz).2) := by
  refine zB_i (cc := cX2_rises) (maxL := 6) (ret := (some .int)) (by decide) rfl (Nat.le_of_ble_eq_true rfl) ?_
  intro p e s m args below meth c0 A hF hr hlk hK hA hP hD hS ls hl
  have hx := hF.1
  have hb := hF.2.1
  have hown := hF.2.2.2.1
  have hts := hF.2.2.2.2
  have hl : lv_has ls 6 [(0, .ref oz), (1, .int (nI bz)), (2, .int (bI sure))] := hl
  refine lv_iload_n hx hb dX2_rises_0 rfl (lv_at hl 1 rfl) ?_
  refine lv_istore_n (lv' := [(3, .int (nI bz)), (0, .ref oz), (1, .int (nI bz)), (2, .int (bI sure))]) hx hb dX2_rises_1 rfl hl (by decide) rfl (fun ls hl => ?_)
  refine lv_iconst (v := nI 1) hx hb dX2_rises_2 (by decide) ?_
  refine lv_istore (lv' := [(4, .int (nI 1)), (3, .int (nI bz)), (0, .ref oz), (1, .int (nI bz)), (2, .int (bI sure))]) hx hb dX2_rises_3 hl (by decide) rfl (fun ls hl => ?_)
  have loop : ∀ (f9 : Nat) (D1 : Fn) (S1 : Fn) (x1 : Int32) (y1 : Int32) (b1 : Nat) (f0 : Nat), (okS S1) → (okD nz D1) → (riseF sure f0 (vM louz D1 S1 nz x1 y1) b1 = riseF sure 63 (vM louz Dz Sz nz cz gz) bz) → (b1 < nz) → (b1 ≤ f0) → b1 < f9 → ∀ (H : Heap) (locs : List Loc) (ls : Array Slot), va_P G vwCl (wm cI oz loz liz siz shz saz nz camez x1 y1 louz D1 S1 shdz shsz thz) H → va_D A (wm cI oz loz liz siz shz saz nz camez x1 y1 louz D1 S1 shdz shsz thz) → va_S A s.heap H locs → lv_has ls 6 [(0, .ref oz), (1, .int (nI bz)), (2, .int (bI sure)), (3, .int (nI b1)), (4, .int (nI 1))] → W p l e ({ frames := 2, cells := 0, slots := 0, locals := 43 }) s m args below meth c0 H locs 0 0 (zQ_i below G [(cI, .int)] (wm cI oz loz liz siz shz saz nz camez (wc ((riseF sure 63 (vM louz Dz Sz nz cz gz) bz).1)) (wg ((riseF sure 63 (vM louz Dz Sz nz cz gz) bz).1)) louz (wD ((riseF sure 63 (vM louz Dz Sz nz cz gz) bz).1)) (wS ((riseF sure 63 (vM louz Dz Sz nz cz gz) bz).1)) shdz shsz thz) (nI (riseF sure 63 (vM louz Dz Sz nz cz gz) bz).2) A args s) (F0 m 5 ls []) := by
    intro f9
    induction f9 with
    | zero => intro D1 S1 x1 y1 b1 f0 hS1 hD1 hr9 hb1 hs1 hf; exact absurd hf (Nat.not_lt_zero _)
    | succ f9 ih =>
      intro D1 S1 x1 y1 b1 f0 hS1 hD1 hr9 hb1 hs1 hf H locs ls hP hD hS hl
      refine lv_iload_n hx hb dX2_rises_5 rfl (lv_at hl 3 rfl) ?_
      refine lv_if_le (tgt := 46) hx hb dX2_rises_6 (by decide) (fun hc6 => ?_) (fun hc6 => ?_)
      · skip
        have k6 : b1 = 0 := k0_le (by omega) hc6
        refine lv_iload_n hx hb dX2_rises_46 rfl (lv_at hl 3 rfl) ?_
        obtain rfl : 0 = b1 := k6.symm
        have e8 := hr9.symm.trans riseF_0
        rw [e8]
        exact zE_i hF hr hlk hK hP hD hS dX2_rises_47
      · skip
        have k6 : 0 < b1 := k0_nle (by omega) hc6
        obtain ⟨f1, rfl⟩ : ∃ kz, f0 = kz + 1 := ⟨f0 - 1, by omega⟩
        refine lv_iload hx hb dX2_rises_9 (lv_at hl 4 rfl) ?_
        refine lv_if_eq (tgt := 46) hx hb dX2_rises_11 (by decide) (fun hc11 => ?_) (fun hc11 => ?_)
        · exact absurd hc11 (by decide)
        · skip
          have k11 : 0 < 1 := k0_ne (by omega) hc11
          have ze := eld_lt (S := S1) (b := b1) k6
          refine lv_aload_n hx hb dX2_rises_14 rfl (lv_at hl 0 rfl) ?_
          refine lv_iload_n hx hb dX2_rises_15 rfl (lv_at hl 3 rfl) ?_
          refine zK_vi (As := [.int (nI b1)]) (rest := []) hF (m_elder l G cI oz loz liz siz shz saz nz camez x1 y1 louz D1 S1 shdz shsz thz (by omega) (by omega) hS1 hD1 b1 (by omega) (by omega)) (cwV 1 hts gX2_rises_X2_elder rfl rfl rfl (by decide +kernel) ⟨Nat.le_of_ble_eq_true rfl, Nat.le_of_ble_eq_true rfl⟩) hK hP hD hS hA (ci := 2) (q0 := 0) rfl rfl rfl (isC := [0, 1, 2, 3, 4, 5]) (isR := []) (perm := [0, 1, 2, 3, 4, 5]) (wr := []) (wN := wm cI oz loz liz siz shz saz nz camez x1 y1 louz D1 S1 shdz shsz thz) ⟨rfl, by decide, rfl, rfl, (fun _ hz => by cases hz), rfl, by decide⟩ [0] rfl rfl hl.1 rfl (Nat.le_of_ble_eq_true rfl) dX2_rises_16 ⟨Nat.le_refl _, Nat.le_refl _⟩ (fun H locs hP hD hS => ?_)
          refine lv_istore (lv' := [(5, .int (nI (eld S1 b1))), (0, .ref oz), (1, .int (nI bz)), (2, .int (bI sure)), (3, .int (nI b1)), (4, .int (nI 1))]) hx hb dX2_rises_19 hl (by decide) rfl (fun ls hl => ?_)
          refine lv_aload_n hx hb dX2_rises_21 rfl (lv_at hl 1 rfl) ?_
          refine lv_iload hx hb dX2_rises_22 (lv_at hl 0 rfl) ?_
          refine lv_iload_n hx hb dX2_rises_24 rfl (lv_at hl 4 rfl) ?_
          refine lv_iload_n hx hb dX2_rises_25 rfl (lv_at hl 3 rfl) ?_
          refine zK_vi (As := [.int (nI (eld S1 b1)), .int (nI b1), .int (bI sure)]) (rest := []) hF (m_joins l G cI oz loz liz siz shz saz nz camez x1 y1 louz D1 S1 shdz shsz thz (by omega) (by omega) hS1 hD1 (eld S1 b1) b1 (by omega) (by omega) sure) (cwV 3 hts gX2_rises_X2_joins rfl rfl rfl (by decide +kernel) ⟨Nat.le_of_ble_eq_true rfl, Nat.le_of_ble_eq_true rfl⟩) hK hP hD hS hA (ci := 2) (q0 := 0) rfl rfl rfl (isC := [0, 1, 2, 3, 4, 5]) (isR := []) (perm := [0, 1, 2, 3, 4, 5]) (wr := []) (wN := wm cI oz loz liz siz shz saz nz camez (wc (joinF sure (vM louz D1 S1 nz x1 y1) (eld S1 b1) b1)) (wg (joinF sure (vM louz D1 S1 nz x1 y1) (eld S1 b1) b1)) louz (wD (joinF sure (vM louz D1 S1 nz x1 y1) (eld S1 b1) b1)) (wS (joinF sure (vM louz D1 S1 nz x1 y1) (eld S1 b1) b1)) shdz shsz thz) ⟨rfl, by decide, rfl, rfl, (fun _ hz => by cases hz), rfl, by decide⟩ [0] rfl rfl hl.1 rfl (Nat.le_of_ble_eq_true rfl) dX2_rises_26 ⟨Nat.le_refl _, Nat.le_refl _⟩ (fun H locs hP hD hS => ?_)
          obtain ⟨D2, S2, c2, g2, hu2, hz2, hy2⟩ := joinM_ex sure (lou := louz) (c := x1) (g := y1) (e := eld S1 b1) (j := b1) hS1 hD1 (by omega) (by omega) (by omega)
          have hP : va_P G vwCl (wm cI oz loz liz siz shz saz nz camez c2 g2 louz D2 S2 shdz shsz thz) H := by have qz := hP; rw [hu2] at qz; exact qz
          have hD : va_D A (wm cI oz loz liz siz shz saz nz camez c2 g2 louz D2 S2 shdz shsz thz) := by have qz := hD; rw [hu2] at qz; exact qz
          refine lv_istore (lv' := [(4, .int (bI (jc sure (vM louz D1 S1 nz x1 y1) (eld S1 b1) b1))), (5, .int (nI (eld S1 b1))), (0, .ref oz), (1, .int (nI bz)), (2, .int (bI sure)), (3, .int (nI b1))]) hx hb dX2_rises_29 hl (by decide) rfl (fun ls hl => ?_)
          refine lv_iload hx hb dX2_rises_31 (lv_at hl 0 rfl) ?_
          refine lv_if_eq (tgt := 41) hx hb dX2_rises_33 (by decide) (fun hc33 => ?_) (fun hc33 => ?_)
          · skip
            have k33 : (jc sure (vM louz D1 S1 nz x1 y1) (eld S1 b1) b1) = false := bI_e0.mp hc33
            refine lv_iload_n hx hb dX2_rises_41 rfl (lv_at hl 5 rfl) ?_
            refine lv_istore_n (lv' := [(3, .int (nI b1)), (4, .int (bI (jc sure (vM louz D1 S1 nz x1 y1) (eld S1 b1) b1))), (5, .int (nI (eld S1 b1))), (0, .ref oz), (1, .int (nI bz)), (2, .int (bI sure))]) hx hb dX2_rises_42 rfl hl (by decide) rfl (fun ls hl => ?_)
            refine lv_goto (tgt := 5) hx hb dX2_rises_43 (by decide) ?_
            refine lv_iload_n hx hb dX2_rises_5 rfl (lv_at hl 0 rfl) ?_
            refine lv_if_le (tgt := 46) hx hb dX2_rises_6 (by decide) (fun hc6 => ?_) (fun hc6 => ?_)
            · skip
              have k6 : b1 = 0 := k0_le (by omega) hc6
              refine lv_iload_n hx hb dX2_rises_46 rfl (lv_at hl 0 rfl) ?_
              have e8 : riseF sure 63 (vM louz Dz Sz nz cz gz) bz = (joinF sure (vM louz D1 S1 nz x1 y1) (eld S1 b1) b1, b1) := hr9.symm.trans (riseF_no (by omega) k33)
              rw [e8, hu2]
              exact zE_i hF hr hlk hK hP hD hS dX2_rises_47
            · skip
              have k6 : 0 < b1 := k0_nle (by omega) hc6
              refine lv_iload hx hb dX2_rises_9 (lv_at hl 1 rfl) ?_
              refine lv_if_eq (tgt := 46) hx hb dX2_rises_11 (by decide) (fun hc11 => ?_) (fun hc11 => ?_)
              · skip
                have k11 : (jc sure (vM louz D1 S1 nz x1 y1) (eld S1 b1) b1) = false := bI_e0.mp hc11
                refine lv_iload_n hx hb dX2_rises_46 rfl (lv_at hl 0 rfl) ?_
                have e8 : riseF sure 63 (vM louz Dz Sz nz cz gz) bz = (joinF sure (vM louz D1 S1 nz x1 y1) (eld S1 b1) b1, b1) := hr9.symm.trans (riseF_no (by omega) k33)
                rw [e8, hu2]
                exact zE_i hF hr hlk hK hP hD hS dX2_rises_47
              · skip
                have k11 : (jc sure (vM louz D1 S1 nz x1 y1) (eld S1 b1) b1) = true := bI_ne.mp hc11
                exact absurd (k33.symm.trans k11) (by decide)
          · skip
            have k33 : (jc sure (vM louz D1 S1 nz x1 y1) (eld S1 b1) b1) = true := bI_ne.mp hc33
            refine lv_iload hx hb dX2_rises_36 (lv_at hl 1 rfl) ?_
            refine lv_goto (tgt := 42) hx hb dX2_rises_38 (by decide) ?_
            refine lv_istore_n (lv' := [(3, .int (nI (eld S1 b1))), (4, .int (bI (jc sure (vM louz D1 S1 nz x1 y1) (eld S1 b1) b1))), (5, .int (nI (eld S1 b1))), (0, .ref oz), (1, .int (nI bz)), (2, .int (bI sure))]) hx hb dX2_rises_42 rfl hl (by decide) rfl (fun ls hl => ?_)
            refine lv_goto (tgt := 5) hx hb dX2_rises_43 (by decide) ?_
            have hl : lv_has ls 6 [(3, .int (nI (eld S1 b1))), (4, .int (nI 1)), (5, .int (nI (eld S1 b1))), (0, .ref oz), (1, .int (nI bz)), (2, .int (bI sure))] := by have qz := hl; rw [k33] at qz; exact qz
            exact ih D2 S2 c2 g2 (eld S1 b1) f1 hz2 hy2 (by rw [← hu2]; exact (riseF_go (by omega) k33).symm.trans hr9) (by omega) (by omega) (by omega) _ _ _ hP hD hS (lv_sub hl [3, 4, 5, 0, 1] rfl)
  exact loop (bz + 1) Dz Sz cz gz bz 63 hS1 hD1 rfl hb9 (by omega) (by omega) _ _ _ hP hD hS (lv_sub hl [2, 3, 4, 1, 0] rfl)
set_option maxHeartbeats 4000000 in
set_option maxRecDepth 100000 in
theorem m_leaves (l : Launch) (G : va_G) (cI : ClassId) (oz loz liz siz shz saz : Nat) (nz camez : Nat) (cz gz : Int32) (louz Dz Sz shdz shsz : Fn) (thz : Int32) (hn : nz ≤ 63) (hc9 : camez ≤ 500) (hS1 : okS Sz) (hD1 : okD nz Dz) (hn1 : 1 ≤ nz) : zC_i l yX2_leaves wsX2_leaves ({ frames := 1, cells := 0, slots := 0, locals := 25 }) G [(cI, .int)] (wm cI oz loz liz siz shz saz nz camez cz gz louz Dz Sz shdz shsz thz) (wm cI oz loz liz siz shz saz (nz - 1) camez (wc (rmF (vM louz Dz Sz nz cz gz))) (wg (rmF (vM louz Dz Sz nz cz gz))) louz (wD (rmF (vM louz Dz Sz nz cz gz))) (wS (rmF (vM louz Dz Sz nz cz gz))) shdz shsz thz) [.ref oz] (Dz 0) := by
  refine zB_i (cc := cX2_leaves) (maxL := 4) (ret := (some .int)) (by decide) rfl (Nat.le_of_ble_eq_true rfl) ?_
  intro p e s m args below meth c0 A hF hr hlk hK hA hP hD hS ls hl
  have hx := hF.1
  have hb := hF.2.1
  have hown := hF.2.2.2.1
  have hts := hF.2.2.2.2
  have hf13 := hts (.fieldLink RX2 13 "SnoringDukesModel" "lies" "[I") (by decide +kernel)
  have hf29 := hts (.fieldLink RX2 29 "SnoringDukesModel" "many" "I") (by decide +kernel)
  have hinX2 : ∀ wz ∈ wsX20, wz ∈ wsX2_leaves := by decide +kernel
  have hl : lv_has ls 4 [(0, .ref oz)] := hl
  refine lv_aload_n hx hb dX2_leaves_0 rfl (lv_at hl 0 rfl) ?_
  refine va_get (D := G) (ci := 2) (v := .ref liz) (C := RX2) (T := TX2) (N := 10) hx hb hts hinX2 hown hK hP 0 rfl rfl 5 (by decide) hf13 (fun _ h9 => h9) rfl dX2_leaves_1 ?_
  refine lv_iconst (v := nI 0) hx hb dX2_leaves_4 (by decide) ?_
  refine zA_ld hx hb hK hP 2 0 rfl rfl (by omega) (by decide) dX2_leaves_5 ?_
  refine lv_istore_n (lv' := [(1, .int (Dz 0)), (0, .ref oz)]) hx hb dX2_leaves_6 rfl hl (by decide) rfl (fun ls hl => ?_)
  refine lv_aload_n hx hb dX2_leaves_7 rfl (lv_at hl 1 rfl) ?_
  refine lv_dup hx hb dX2_leaves_8 rfl ?_
  refine va_get (D := G) (ci := 2) (v := .int (nI nz)) (C := RX2) (T := TX2) (N := 10) hx hb hts hinX2 hown hK hP 0 rfl rfl 0 (by decide) hf29 (fun _ h9 => h9) rfl dX2_leaves_9 ?_
  refine lv_iconst (v := nI 1) hx hb dX2_leaves_12 (by decide) ?_
  refine lv_isub hx hb dX2_leaves_13 ?_
  refine zN (nI (nz - 1)) (y := ((nI nz) - (nI 1))) (pk_sub (by omega)) ?_
  refine va_put (D := G) (ci := 2) (v := .int (nI (nz - 1))) (ty := .int) (C := RX2) (T := TX2) (N := 10) hx hb hts hinX2 tyX2 tyX2_ok nmX2 hown hK hP hD hS 0 rfl rfl 0 (by decide) hf29 (fun _ h9 => h9) rfl (by decide +kernel) rfl rfl (Nat.le_of_ble_eq_true rfl) dX2_leaves_14 (fun H locs hP hD hS => ?_)
  have hP : va_P G vwCl (wm cI oz loz liz siz shz saz (nz - 1) camez cz gz louz Dz Sz shdz shsz thz) H := hP
  have hD : va_D A (wm cI oz loz liz siz shz saz (nz - 1) camez cz gz louz Dz Sz shdz shsz thz) := hD
  refine lv_aload_n hx hb dX2_leaves_17 rfl (lv_at hl 1 rfl) ?_
  refine va_get (D := G) (ci := 2) (v := .ref liz) (C := RX2) (T := TX2) (N := 10) hx hb hts hinX2 hown hK hP 0 rfl rfl 5 (by decide) hf13 (fun _ h9 => h9) rfl dX2_leaves_18 ?_
  refine lv_iconst (v := nI 0) hx hb dX2_leaves_21 (by decide) ?_
  refine lv_aload_n hx hb dX2_leaves_22 rfl (lv_at hl 1 rfl) ?_
  refine va_get (D := G) (ci := 2) (v := .ref liz) (C := RX2) (T := TX2) (N := 10) hx hb hts hinX2 hown hK hP 0 rfl rfl 5 (by decide) hf13 (fun _ h9 => h9) rfl dX2_leaves_23 ?_
  refine lv_aload_n hx hb dX2_leaves_26 rfl (lv_at hl 1 rfl) ?_
  refine va_get (D := G) (ci := 2) (v := .int (nI (nz - 1))) (C := RX2) (T := TX2) (N := 10) hx hb hts hinX2 hown hK hP 0 rfl rfl 0 (by decide) hf29 (fun _ h9 => h9) rfl dX2_leaves_27 ?_
  refine zA_ld hx hb hK hP 2 0 rfl rfl (by omega) (by decide) dX2_leaves_30 ?_
  refine zA_st (x := Dz (nz - 1)) hx hb hK hP hD hS 2 0 rfl rfl (by omega) (by decide) dX2_leaves_31 (fun H locs hP hD hS => ?_)
  have hP : va_P G vwCl (wm cI oz loz liz siz shz saz (nz - 1) camez cz gz louz (upd Dz 0 (Dz (nz - 1))) Sz shdz shsz thz) H := hP
  have hD : va_D A (wm cI oz loz liz siz shz saz (nz - 1) camez cz gz louz (upd Dz 0 (Dz (nz - 1))) Sz shdz shsz thz) := hD
  have hD9 : okD (nz - 1) (upd Dz 0 (Dz (nz - 1))) := okD_upd (fun bz hb => hD1 bz (by omega)) (hD1 (nz - 1) (by omega))
  refine lv_aload_n hx hb dX2_leaves_32 rfl (lv_at hl 1 rfl) ?_
  refine va_get (D := G) (ci := 2) (v := .int (nI (nz - 1))) (C := RX2) (T := TX2) (N := 10) hx hb hts hinX2 hown hK hP 0 rfl rfl 0 (by decide) hf29 (fun _ h9 => h9) rfl dX2_leaves_33 ?_
  refine lv_iconst (v := nI 1) hx hb dX2_leaves_36 (by decide) ?_
  refine lv_icmp_le (tgt := 82) hx hb dX2_leaves_37 (by decide) (fun hc37 => ?_) (fun hc37 => ?_)
  · skip
    have k37 : (nz - 1) ≤ 1 := k_le (by omega) (by omega) hc37
    have e7 : rmF (vM louz Dz Sz nz cz gz) = vM louz (upd Dz 0 (Dz (nz - 1))) Sz (nz - 1) cz gz := by
      rw [rmM, if_neg (show ¬ 1 < nz - 1 by omega)]
    rw [e7]
    refine lv_iload_n hx hb dX2_leaves_82 rfl (lv_at hl 0 rfl) ?_
    exact zE_i hF hr hlk hK hP hD hS dX2_leaves_83
  · skip
    have k37 : 1 < (nz - 1) := k_nle (by omega) (by omega) hc37
    refine lv_iconst (v := nI 1) hx hb dX2_leaves_40 (by decide) ?_
    refine lv_istore_n (lv' := [(2, .int (nI 1)), (1, .int (Dz 0)), (0, .ref oz)]) hx hb dX2_leaves_41 rfl hl (by decide) rfl (fun ls hl => ?_)
    have loop : ∀ (f9 : Nat) (b1 : Nat) (f0 : Nat), (lowF Sz (nz - 1) f0 b1 = lowF Sz (nz - 1) 63 1) → (b1 < nz - 1) → (nz ≤ b1 + f0) → (1 ≤ b1) → nz - b1 < f9 → ∀ (H : Heap) (locs : List Loc) (ls : Array Slot), va_P G vwCl (wm cI oz loz liz siz shz saz (nz - 1) camez cz gz louz (upd Dz 0 (Dz (nz - 1))) Sz shdz shsz thz) H → va_D A (wm cI oz loz liz siz shz saz (nz - 1) camez cz gz louz (upd Dz 0 (Dz (nz - 1))) Sz shdz shsz thz) → va_S A s.heap H locs → lv_has ls 4 [(0, .ref oz), (1, .int (Dz 0)), (2, .int (nI b1))] → W p l e ({ frames := 1, cells := 0, slots := 0, locals := 25 }) s m args below meth c0 H locs 0 0 (zQ_i below G [(cI, .int)] (wm cI oz loz liz siz shz saz (nz - 1) camez (wc (rmF (vM louz Dz Sz nz cz gz))) (wg (rmF (vM louz Dz Sz nz cz gz))) louz (wD (rmF (vM louz Dz Sz nz cz gz))) (wS (rmF (vM louz Dz Sz nz cz gz))) shdz shsz thz) (Dz 0) A args s) (F0 m 42 ls []) := by
      intro f9
      induction f9 with
      | zero => intro b1 f0 hr9 hb1 hs1 hs2 hf; exact absurd hf (Nat.not_lt_zero _)
      | succ f9 ih =>
        intro b1 f0 hr9 hb1 hs1 hs2 hf H locs ls hP hD hS hl
        obtain ⟨f1, rfl⟩ : ∃ kz, f0 = kz + 1 := ⟨f0 - 1, by omega⟩
        have z1 := sd_le Sz b1
        refine lv_aload_n hx hb dX2_leaves_42 rfl (lv_at hl 0 rfl) ?_
        refine lv_iload_n hx hb dX2_leaves_43 rfl (lv_at hl 2 rfl) ?_
        refine zK_vi (As := [.int (nI b1)]) (rest := []) hF (m_left l G cI oz loz liz siz shz saz (nz - 1) camez cz gz louz (upd Dz 0 (Dz (nz - 1))) Sz shdz shsz thz (by omega) (by omega) hS1 hD9 b1 (by omega)) (cwV 1 hts gX2_leaves_X2_left rfl rfl rfl (by decide +kernel) ⟨Nat.le_of_ble_eq_true rfl, Nat.le_of_ble_eq_true rfl⟩) hK hP hD hS hA (ci := 2) (q0 := 0) rfl rfl rfl (isC := [0, 1, 2, 3, 4, 5]) (isR := []) (perm := [0, 1, 2, 3, 4, 5]) (wr := []) (wN := wm cI oz loz liz siz shz saz (nz - 1) camez cz gz louz (upd Dz 0 (Dz (nz - 1))) Sz shdz shsz thz) ⟨rfl, by decide, rfl, rfl, (fun _ hz => by cases hz), rfl, by decide⟩ [0] rfl rfl hl.1 rfl (Nat.le_of_ble_eq_true rfl) dX2_leaves_44 ⟨Nat.le_refl _, Nat.le_refl _⟩ (fun H locs hP hD hS => ?_)
        refine lv_aload_n hx hb dX2_leaves_47 rfl (lv_at hl 0 rfl) ?_
        refine va_get (D := G) (ci := 2) (v := .int (nI (nz - 1))) (C := RX2) (T := TX2) (N := 10) hx hb hts hinX2 hown hK hP 0 rfl rfl 0 (by decide) hf29 (fun _ h9 => h9) rfl dX2_leaves_48 ?_
        refine lv_icmp_ge (tgt := 63) hx hb dX2_leaves_51 (by decide) (fun hc51 => ?_) (fun hc51 => ?_)
        · skip
          have k51 : (nz - 1) ≤ (2 * b1 + sd Sz b1) := k_le (by omega) (by omega) hc51
          have e8 : lowF Sz (nz - 1) 63 1 = b1 := by rw [← hr9]; exact lowF_no (by omega)
          have e7 : rmF (vM louz Dz Sz nz cz gz) = topF 63 (vM louz (upd Dz 0 (Dz (nz - 1))) Sz (nz - 1) cz gz) b1 := by
            rw [rmM, if_pos (show 1 < nz - 1 by omega), ← e8]
            rfl
          have loop2 : ∀ (f9 : Nat) (D1 : Fn) (S1 : Fn) (x1 : Int32) (y1 : Int32) (b2 : Nat) (f2 : Nat), (okS S1) → (okD (nz - 1) D1) → (topF f2 (vM louz D1 S1 (nz - 1) x1 y1) b2 = topF 63 (vM louz (upd Dz 0 (Dz (nz - 1))) Sz (nz - 1) cz gz) b1) → (b2 < nz - 1) → (b2 ≤ f2) → b2 < f9 → ∀ (H : Heap) (locs : List Loc) (ls : Array Slot), va_P G vwCl (wm cI oz loz liz siz shz saz (nz - 1) camez x1 y1 louz D1 S1 shdz shsz thz) H → va_D A (wm cI oz loz liz siz shz saz (nz - 1) camez x1 y1 louz D1 S1 shdz shsz thz) → va_S A s.heap H locs → lv_has ls 4 [(0, .ref oz), (1, .int (Dz 0)), (2, .int (nI b2))] → W p l e ({ frames := 1, cells := 0, slots := 0, locals := 25 }) s m args below meth c0 H locs 0 0 (zQ_i below G [(cI, .int)] (wm cI oz loz liz siz shz saz (nz - 1) camez (wc (rmF (vM louz Dz Sz nz cz gz))) (wg (rmF (vM louz Dz Sz nz cz gz))) louz (wD (rmF (vM louz Dz Sz nz cz gz))) (wS (rmF (vM louz Dz Sz nz cz gz))) shdz shsz thz) (Dz 0) A args s) (F0 m 63 ls []) := by
            intro f9
            induction f9 with
            | zero => intro D1 S1 x1 y1 b2 f2 hS3 hD3 hr8 hb2 hb3 hf; exact absurd hf (Nat.not_lt_zero _)
            | succ f9 ih =>
              intro D1 S1 x1 y1 b2 f2 hS3 hD3 hr8 hb2 hb3 hf H locs ls hP hD hS hl
              refine lv_iload_n hx hb dX2_leaves_63 rfl (lv_at hl 2 rfl) ?_
              refine lv_if_le (tgt := 82) hx hb dX2_leaves_64 (by decide) (fun hc64 => ?_) (fun hc64 => ?_)
              · skip
                have k64 : b2 = 0 := k0_le (by omega) hc64
                obtain rfl : 0 = b2 := k64.symm
                rw [e7, ← hr8, topF_0]
                refine lv_iload_n hx hb dX2_leaves_82 rfl (lv_at hl 1 rfl) ?_
                exact zE_i hF hr hlk hK hP hD hS dX2_leaves_83
              · skip
                have k64 : 0 < b2 := k0_nle (by omega) hc64
                obtain ⟨f3, rfl⟩ : ∃ kz, f2 = kz + 1 := ⟨f2 - 1, by omega⟩
                refine lv_aload_n hx hb dX2_leaves_67 rfl (lv_at hl 0 rfl) ?_
                refine lv_iconst (v := nI 0) hx hb dX2_leaves_68 (by decide) ?_
                refine lv_iload_n hx hb dX2_leaves_69 rfl (lv_at hl 2 rfl) ?_
                refine lv_iconst (v := nI 0) hx hb dX2_leaves_70 (by decide) ?_
                refine zK_vi (As := [.int (nI 0), .int (nI b2), .int (nI 0)]) (rest := []) hF (m_joins l G cI oz loz liz siz shz saz (nz - 1) camez x1 y1 louz D1 S1 shdz shsz thz (by omega) (by omega) hS3 hD3 0 b2 (by omega) (by omega) false) (cwV 3 hts gX2_leaves_X2_joins rfl rfl rfl (by decide +kernel) ⟨Nat.le_of_ble_eq_true rfl, Nat.le_of_ble_eq_true rfl⟩) hK hP hD hS hA (ci := 2) (q0 := 0) rfl rfl rfl (isC := [0, 1, 2, 3, 4, 5]) (isR := []) (perm := [0, 1, 2, 3, 4, 5]) (wr := []) (wN := wm cI oz loz liz siz shz saz (nz - 1) camez (wc (joinF false (vM louz D1 S1 (nz - 1) x1 y1) 0 b2)) (wg (joinF false (vM louz D1 S1 (nz - 1) x1 y1) 0 b2)) louz (wD (joinF false (vM louz D1 S1 (nz - 1) x1 y1) 0 b2)) (wS (joinF false (vM louz D1 S1 (nz - 1) x1 y1) 0 b2)) shdz shsz thz) ⟨rfl, by decide, rfl, rfl, (fun _ hz => by cases hz), rfl, by decide⟩ [0] rfl rfl hl.1 rfl (Nat.le_of_ble_eq_true rfl) dX2_leaves_71 ⟨Nat.le_refl _, Nat.le_refl _⟩ (fun H locs hP hD hS => ?_)
                obtain ⟨D3, S3, c3, g3, hu3, hz3, hy3⟩ := joinM_ex false (lou := louz) (c := x1) (g := y1) (e := 0) (j := b2) hS3 hD3 (by omega) (by omega) (by omega)
                have hP : va_P G vwCl (wm cI oz loz liz siz shz saz (nz - 1) camez c3 g3 louz D3 S3 shdz shsz thz) H := by have qz := hP; rw [hu3] at qz; exact qz
                have hD : va_D A (wm cI oz loz liz siz shz saz (nz - 1) camez c3 g3 louz D3 S3 shdz shsz thz) := by have qz := hD; rw [hu3] at qz; exact qz
                refine lv_istore_n (lv' := [(3, .int (bI (jc false (vM louz D1 S1 (nz - 1) x1 y1) 0 b2))), (0, .ref oz), (1, .int (Dz 0)), (2, .int (nI b2))]) hx hb dX2_leaves_74 rfl hl (by decide) rfl (fun ls hl => ?_)
                refine lv_iload_n hx hb dX2_leaves_75 rfl (lv_at hl 3 rfl) ?_
                refine lv_iconst (v := nI 2) hx hb dX2_leaves_76 (by decide) ?_
                refine lv_idiv hx hb dX2_leaves_77 (by decide) ?_
                refine zN (nI (b2 / 2)) (y := ((nI b2) / (nI 2))) (pk_div (by omega) (by decide) (by decide)) ?_
                refine lv_istore_n (lv' := [(2, .int (nI (b2 / 2))), (3, .int (bI (jc false (vM louz D1 S1 (nz - 1) x1 y1) 0 b2))), (0, .ref oz), (1, .int (Dz 0))]) hx hb dX2_leaves_78 rfl hl (by decide) rfl (fun ls hl => ?_)
                refine lv_goto (tgt := 63) hx hb dX2_leaves_79 (by decide) ?_
                exact ih D3 S3 c3 g3 (b2 / 2) f3 hz3 hy3 (by rw [← hu3]; exact (topF_go k64).symm.trans hr8) (by omega) (by omega) (by omega) _ _ _ hP hD hS (lv_sub hl [2, 3, 0] rfl)
          exact loop2 (nz + 1) (upd Dz 0 (Dz (nz - 1))) Sz cz gz b1 63 hS1 hD9 rfl (by omega) (by omega) (by omega) _ _ _ hP hD hS (lv_sub hl [0, 1, 2] rfl)
        · skip
          have k51 : (2 * b1 + sd Sz b1) < (nz - 1) := k_nle (by omega) (by omega) hc51
          refine lv_aload_n hx hb dX2_leaves_54 rfl (lv_at hl 0 rfl) ?_
          refine lv_iload_n hx hb dX2_leaves_55 rfl (lv_at hl 2 rfl) ?_
          refine zK_vi (As := [.int (nI b1)]) (rest := []) hF (m_left l G cI oz loz liz siz shz saz (nz - 1) camez cz gz louz (upd Dz 0 (Dz (nz - 1))) Sz shdz shsz thz (by omega) (by omega) hS1 hD9 b1 (by omega)) (cwV 1 hts gX2_leaves_X2_left rfl rfl rfl (by decide +kernel) ⟨Nat.le_of_ble_eq_true rfl, Nat.le_of_ble_eq_true rfl⟩) hK hP hD hS hA (ci := 2) (q0 := 0) rfl rfl rfl (isC := [0, 1, 2, 3, 4, 5]) (isR := []) (perm := [0, 1, 2, 3, 4, 5]) (wr := []) (wN := wm cI oz loz liz siz shz saz (nz - 1) camez cz gz louz (upd Dz 0 (Dz (nz - 1))) Sz shdz shsz thz) ⟨rfl, by decide, rfl, rfl, (fun _ hz => by cases hz), rfl, by decide⟩ [0] rfl rfl hl.1 rfl (Nat.le_of_ble_eq_true rfl) dX2_leaves_56 ⟨Nat.le_refl _, Nat.le_refl _⟩ (fun H locs hP hD hS => ?_)
          refine lv_istore_n (lv' := [(2, .int (nI (2 * b1 + sd Sz b1))), (0, .ref oz), (1, .int (Dz 0))]) hx hb dX2_leaves_59 rfl hl (by decide) rfl (fun ls hl => ?_)
          refine lv_goto (tgt := 42) hx hb dX2_leaves_60 (by decide) ?_
          exact ih (2 * b1 + sd Sz b1) f1 ((lowF_go k51).symm.trans hr9) (by omega) (by omega) (by omega) (by omega) _ _ _ hP hD hS (lv_sub hl [1, 2, 0] rfl)
    exact loop (nz + 1) 1 63 rfl (by omega) (by omega) (by omega) (by omega) _ _ _ hP hD hS (lv_sub hl [2, 1, 0] rfl)
set_option maxHeartbeats 4000000 in
set_option maxRecDepth 100000 in
theorem m_lays (l : Launch) (G : va_G) (cI : ClassId) (oz loz liz siz shz saz : Nat) (nz camez : Nat) (cz gz : Int32) (louz Dz Sz shdz shsz : Fn) (thz : Int32) (hn : nz ≤ 63) (hc9 : camez ≤ 500) (hS1 : okS Sz) (hD1 : okD nz Dz) (hn1 : nz < 63) (hc1 : camez < 500) (xz : Int32) : zC_v l yX2_lays wsX2_lays ({ frames := 0, cells := 0, slots := 0, locals := 0 }) G [(cI, .int)] (wm cI oz loz liz siz shz saz nz camez cz gz louz Dz Sz shdz shsz thz) (wm cI oz loz liz siz shz saz (nz + 1) (camez + 1) cz gz (upd louz camez xz) (upd Dz nz (nI camez)) (upd Sz nz 0) shdz shsz thz) [.ref oz, .int xz] := by
  refine zB_v (cc := cX2_lays) (maxL := 2) (ret := none) (by decide) rfl (Nat.le_of_ble_eq_true rfl) ?_
  intro p e s m args below meth c0 A hF hr hlk hK hA hP hD hS ls hl
  have hx := hF.1
  have hb := hF.2.1
  have hown := hF.2.2.2.1
  have hts := hF.2.2.2.2
  have hf7 := hts (.fieldLink RX2 7 "SnoringDukesModel" "loud" "[I") (by decide +kernel)
  have hf49 := hts (.fieldLink RX2 49 "SnoringDukesModel" "came" "I") (by decide +kernel)
  have hf13 := hts (.fieldLink RX2 13 "SnoringDukesModel" "lies" "[I") (by decide +kernel)
  have hf29 := hts (.fieldLink RX2 29 "SnoringDukesModel" "many" "I") (by decide +kernel)
  have hf16 := hts (.fieldLink RX2 16 "SnoringDukesModel" "side" "[I") (by decide +kernel)
  have hinX2 : ∀ wz ∈ wsX20, wz ∈ wsX2_lays := by decide +kernel
  have hl : lv_has ls 2 [(0, .ref oz), (1, .int xz)] := hl
  refine lv_aload_n hx hb dX2_lays_0 rfl (lv_at hl 0 rfl) ?_
  refine va_get (D := G) (ci := 2) (v := .ref loz) (C := RX2) (T := TX2) (N := 10) hx hb hts hinX2 hown hK hP 0 rfl rfl 4 (by decide) hf7 (fun _ h9 => h9) rfl dX2_lays_1 ?_
  refine lv_aload_n hx hb dX2_lays_4 rfl (lv_at hl 0 rfl) ?_
  refine va_get (D := G) (ci := 2) (v := .int (nI camez)) (C := RX2) (T := TX2) (N := 10) hx hb hts hinX2 hown hK hP 0 rfl rfl 1 (by decide) hf49 (fun _ h9 => h9) rfl dX2_lays_5 ?_
  refine lv_iload_n hx hb dX2_lays_8 rfl (lv_at hl 1 rfl) ?_
  refine zA_st (x := xz) hx hb hK hP hD hS 1 0 rfl rfl (by omega) (by decide) dX2_lays_9 (fun H locs hP hD hS => ?_)
  have hP : va_P G vwCl (wm cI oz loz liz siz shz saz nz camez cz gz (upd louz camez xz) Dz Sz shdz shsz thz) H := hP
  have hD : va_D A (wm cI oz loz liz siz shz saz nz camez cz gz (upd louz camez xz) Dz Sz shdz shsz thz) := hD
  refine lv_aload_n hx hb dX2_lays_10 rfl (lv_at hl 0 rfl) ?_
  refine va_get (D := G) (ci := 2) (v := .ref liz) (C := RX2) (T := TX2) (N := 10) hx hb hts hinX2 hown hK hP 0 rfl rfl 5 (by decide) hf13 (fun _ h9 => h9) rfl dX2_lays_11 ?_
  refine lv_aload_n hx hb dX2_lays_14 rfl (lv_at hl 0 rfl) ?_
  refine va_get (D := G) (ci := 2) (v := .int (nI nz)) (C := RX2) (T := TX2) (N := 10) hx hb hts hinX2 hown hK hP 0 rfl rfl 0 (by decide) hf29 (fun _ h9 => h9) rfl dX2_lays_15 ?_
  refine lv_aload_n hx hb dX2_lays_18 rfl (lv_at hl 0 rfl) ?_
  refine va_get (D := G) (ci := 2) (v := .int (nI camez)) (C := RX2) (T := TX2) (N := 10) hx hb hts hinX2 hown hK hP 0 rfl rfl 1 (by decide) hf49 (fun _ h9 => h9) rfl dX2_lays_19 ?_
  refine zA_st (x := nI camez) hx hb hK hP hD hS 2 0 rfl rfl (by omega) (by decide) dX2_lays_22 (fun H locs hP hD hS => ?_)
  have hP : va_P G vwCl (wm cI oz loz liz siz shz saz nz camez cz gz (upd louz camez xz) (upd Dz nz (nI camez)) Sz shdz shsz thz) H := hP
  have hD : va_D A (wm cI oz loz liz siz shz saz nz camez cz gz (upd louz camez xz) (upd Dz nz (nI camez)) Sz shdz shsz thz) := hD
  refine lv_aload_n hx hb dX2_lays_23 rfl (lv_at hl 0 rfl) ?_
  refine va_get (D := G) (ci := 2) (v := .ref siz) (C := RX2) (T := TX2) (N := 10) hx hb hts hinX2 hown hK hP 0 rfl rfl 6 (by decide) hf16 (fun _ h9 => h9) rfl dX2_lays_24 ?_
  refine lv_aload_n hx hb dX2_lays_27 rfl (lv_at hl 0 rfl) ?_
  refine va_get (D := G) (ci := 2) (v := .int (nI nz)) (C := RX2) (T := TX2) (N := 10) hx hb hts hinX2 hown hK hP 0 rfl rfl 0 (by decide) hf29 (fun _ h9 => h9) rfl dX2_lays_28 ?_
  refine lv_iconst (v := nI 0) hx hb dX2_lays_31 (by decide) ?_
  refine zA_st (x := nI 0) hx hb hK hP hD hS 3 0 rfl rfl (by omega) (by decide) dX2_lays_32 (fun H locs hP hD hS => ?_)
  have hP : va_P G vwCl (wm cI oz loz liz siz shz saz nz camez cz gz (upd louz camez xz) (upd Dz nz (nI camez)) (upd Sz nz (nI 0)) shdz shsz thz) H := hP
  have hD : va_D A (wm cI oz loz liz siz shz saz nz camez cz gz (upd louz camez xz) (upd Dz nz (nI camez)) (upd Sz nz (nI 0)) shdz shsz thz) := hD
  refine lv_aload_n hx hb dX2_lays_33 rfl (lv_at hl 0 rfl) ?_
  refine lv_dup hx hb dX2_lays_34 rfl ?_
  refine va_get (D := G) (ci := 2) (v := .int (nI camez)) (C := RX2) (T := TX2) (N := 10) hx hb hts hinX2 hown hK hP 0 rfl rfl 1 (by decide) hf49 (fun _ h9 => h9) rfl dX2_lays_35 ?_
  refine lv_iconst (v := nI 1) hx hb dX2_lays_38 (by decide) ?_
  refine lv_iadd hx hb dX2_lays_39 ?_
  refine zN (nI (camez + 1)) (y := ((nI camez) + (nI 1))) (nI_add _ _) ?_
  refine va_put (D := G) (ci := 2) (v := .int (nI (camez + 1))) (ty := .int) (C := RX2) (T := TX2) (N := 10) hx hb hts hinX2 tyX2 tyX2_ok nmX2 hown hK hP hD hS 0 rfl rfl 1 (by decide) hf49 (fun _ h9 => h9) rfl (by decide +kernel) rfl rfl (Nat.le_of_ble_eq_true rfl) dX2_lays_40 (fun H locs hP hD hS => ?_)
  have hP : va_P G vwCl (wm cI oz loz liz siz shz saz nz (camez + 1) cz gz (upd louz camez xz) (upd Dz nz (nI camez)) (upd Sz nz (nI 0)) shdz shsz thz) H := hP
  have hD : va_D A (wm cI oz loz liz siz shz saz nz (camez + 1) cz gz (upd louz camez xz) (upd Dz nz (nI camez)) (upd Sz nz (nI 0)) shdz shsz thz) := hD
  refine lv_aload_n hx hb dX2_lays_43 rfl (lv_at hl 0 rfl) ?_
  refine lv_dup hx hb dX2_lays_44 rfl ?_
  refine va_get (D := G) (ci := 2) (v := .int (nI nz)) (C := RX2) (T := TX2) (N := 10) hx hb hts hinX2 hown hK hP 0 rfl rfl 0 (by decide) hf29 (fun _ h9 => h9) rfl dX2_lays_45 ?_
  refine lv_iconst (v := nI 1) hx hb dX2_lays_48 (by decide) ?_
  refine lv_iadd hx hb dX2_lays_49 ?_
  refine zN (nI (nz + 1)) (y := ((nI nz) + (nI 1))) (nI_add _ _) ?_
  refine va_put (D := G) (ci := 2) (v := .int (nI (nz + 1))) (ty := .int) (C := RX2) (T := TX2) (N := 10) hx hb hts hinX2 tyX2 tyX2_ok nmX2 hown hK hP hD hS 0 rfl rfl 0 (by decide) hf29 (fun _ h9 => h9) rfl (by decide +kernel) rfl rfl (Nat.le_of_ble_eq_true rfl) dX2_lays_50 (fun H locs hP hD hS => ?_)
  have hP : va_P G vwCl (wm cI oz loz liz siz shz saz (nz + 1) (camez + 1) cz gz (upd louz camez xz) (upd Dz nz (nI camez)) (upd Sz nz (nI 0)) shdz shsz thz) H := hP
  have hD : va_D A (wm cI oz loz liz siz shz saz (nz + 1) (camez + 1) cz gz (upd louz camez xz) (upd Dz nz (nI camez)) (upd Sz nz (nI 0)) shdz shsz thz) := hD
  exact zE_v hF hr hlk hK hP hD hS dX2_lays_53
