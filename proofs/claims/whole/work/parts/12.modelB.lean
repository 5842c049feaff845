/-! the reference: its public methods, one contract a way that a call may go -/
set_option maxHeartbeats 4000000 in
set_option maxRecDepth 100000 in
theorem m_dukes (l : Launch) (G : va_G) (cI : ClassId) (oz loz liz siz shz saz : Nat) (nz camez : Nat) (cz gz : Int32) (louz Dz Sz shdz shsz : Fn) (thz : Int32) (hn : nz ≤ 63) (hc9 : camez ≤ 500) (hS1 : okS Sz) (hD1 : okD nz Dz)  : zC_i l yX2_dukes wsX2_dukes ({ frames := 0, cells := 0, slots := 0, locals := 0 }) G [(cI, .int)] (wm cI oz loz liz siz shz saz nz camez cz gz louz Dz Sz shdz shsz thz) (wm cI oz loz liz siz shz saz nz camez cz gz louz Dz Sz shdz shsz (nI 0)) [.ref oz] (nI nz) := by
  refine zB_i (cc := cX2_dukes) (maxL := 1) (ret := (some .int)) (by decide) rfl (Nat.le_of_ble_eq_true rfl) ?_
  intro p e s m args below meth c0 A hF hr hlk hK hA hP hD hS ls hl
  have hx := hF.1
  have hb := hF.2.1
  have hown := hF.2.2.2.1
  have hts := hF.2.2.2.2
  have hf25 := hts (.fieldLink RX2 25 "SnoringDukesModel" "thrown" "I") (by decide +kernel)
  have hf29 := hts (.fieldLink RX2 29 "SnoringDukesModel" "many" "I") (by decide +kernel)
  have hinX2 : ∀ wz ∈ wsX20, wz ∈ wsX2_dukes := by decide +kernel
  have hl : lv_has ls 1 [(0, .ref oz)] := hl
  refine lv_aload_n hx hb dX2_dukes_0 rfl (lv_at hl 0 rfl) ?_
  refine lv_iconst (v := nI 0) hx hb dX2_dukes_1 (by decide) ?_
  refine va_put (D := G) (ci := 2) (v := .int (nI 0)) (ty := .int) (C := RX2) (T := TX2) (N := 10) hx hb hts hinX2 tyX2 tyX2_ok nmX2 hown hK hP hD hS 0 rfl rfl 9 (by decide) hf25 (fun _ h9 => h9) rfl (by decide +kernel) rfl rfl (Nat.le_of_ble_eq_true rfl) dX2_dukes_2 (fun H locs hP hD hS => ?_)
  have hP : va_P G vwCl (wm cI oz loz liz siz shz saz nz camez cz gz louz Dz Sz shdz shsz (nI 0)) H := hP
  have hD : va_D A (wm cI oz loz liz siz shz saz nz camez cz gz louz Dz Sz shdz shsz (nI 0)) := hD
  refine lv_aload_n hx hb dX2_dukes_5 rfl (lv_at hl 0 rfl) ?_
  refine va_get (D := G) (ci := 2) (v := .int (nI nz)) (C := RX2) (T := TX2) (N := 10) hx hb hts hinX2 hown hK hP 0 rfl rfl 0 (by decide) hf29 (fun _ h9 => h9) rfl dX2_dukes_6 ?_
  exact zE_i hF hr hlk hK hP hD hS dX2_dukes_9
set_option maxHeartbeats 4000000 in
set_option maxRecDepth 100000 in
theorem m_comparisons (l : Launch) (G : va_G) (cI : ClassId) (oz loz liz siz shz saz : Nat) (nz camez : Nat) (cz gz : Int32) (louz Dz Sz shdz shsz : Fn) (thz : Int32) (hn : nz ≤ 63) (hc9 : camez ≤ 500) (hS1 : okS Sz) (hD1 : okD nz Dz)  : zC_i l yX2_comparisons wsX2_comparisons ({ frames := 0, cells := 0, slots := 0, locals := 0 }) G [(cI, .int)] (wm cI oz loz liz siz shz saz nz camez cz gz louz Dz Sz shdz shsz thz) (wm cI oz loz liz siz shz saz nz camez cz gz louz Dz Sz shdz shsz (nI 0)) [.ref oz] cz := by
  refine zB_i (cc := cX2_comparisons) (maxL := 1) (ret := (some .int)) (by decide) rfl (Nat.le_of_ble_eq_true rfl) ?_
  intro p e s m args below meth c0 A hF hr hlk hK hA hP hD hS ls hl
  have hx := hF.1
  have hb := hF.2.1
  have hown := hF.2.2.2.1
  have hts := hF.2.2.2.2
  have hf25 := hts (.fieldLink RX2 25 "SnoringDukesModel" "thrown" "I") (by decide +kernel)
  have hf36 := hts (.fieldLink RX2 36 "SnoringDukesModel" "compared" "I") (by decide +kernel)
  have hinX2 : ∀ wz ∈ wsX20, wz ∈ wsX2_comparisons := by decide +kernel
  have hl : lv_has ls 1 [(0, .ref oz)] := hl
  refine lv_aload_n hx hb dX2_comparisons_0 rfl (lv_at hl 0 rfl) ?_
  refine lv_iconst (v := nI 0) hx hb dX2_comparisons_1 (by decide) ?_
  refine va_put (D := G) (ci := 2) (v := .int (nI 0)) (ty := .int) (C := RX2) (T := TX2) (N := 10) hx hb hts hinX2 tyX2 tyX2_ok nmX2 hown hK hP hD hS 0 rfl rfl 9 (by decide) hf25 (fun _ h9 => h9) rfl (by decide +kernel) rfl rfl (Nat.le_of_ble_eq_true rfl) dX2_comparisons_2 (fun H locs hP hD hS => ?_)
  have hP : va_P G vwCl (wm cI oz loz liz siz shz saz nz camez cz gz louz Dz Sz shdz shsz (nI 0)) H := hP
  have hD : va_D A (wm cI oz loz liz siz shz saz nz camez cz gz louz Dz Sz shdz shsz (nI 0)) := hD
  refine lv_aload_n hx hb dX2_comparisons_5 rfl (lv_at hl 0 rfl) ?_
  refine va_get (D := G) (ci := 2) (v := .int cz) (C := RX2) (T := TX2) (N := 10) hx hb hts hinX2 hown hK hP 0 rfl rfl 2 (by decide) hf36 (fun _ h9 => h9) rfl dX2_comparisons_6 ?_
  exact zE_i hF hr hlk hK hP hD hS dX2_comparisons_9
set_option maxHeartbeats 4000000 in
set_option maxRecDepth 100000 in
theorem m_changes (l : Launch) (G : va_G) (cI : ClassId) (oz loz liz siz shz saz : Nat) (nz camez : Nat) (cz gz : Int32) (louz Dz Sz shdz shsz : Fn) (thz : Int32) (hn : nz ≤ 63) (hc9 : camez ≤ 500) (hS1 : okS Sz) (hD1 : okD nz Dz)  : zC_i l yX2_changes wsX2_changes ({ frames := 0, cells := 0, slots := 0, locals := 0 }) G [(cI, .int)] (wm cI oz loz liz siz shz saz nz camez cz gz louz Dz Sz shdz shsz thz) (wm cI oz loz liz siz shz saz nz camez cz gz louz Dz Sz shdz shsz (nI 0)) [.ref oz] gz := by
  refine zB_i (cc := cX2_changes) (maxL := 1) (ret := (some .int)) (by decide) rfl (Nat.le_of_ble_eq_true rfl) ?_
  intro p e s m args below meth c0 A hF hr hlk hK hA hP hD hS ls hl
  have hx := hF.1
  have hb := hF.2.1
  have hown := hF.2.2.2.1
  have hts := hF.2.2.2.2
  have hf25 := hts (.fieldLink RX2 25 "SnoringDukesModel" "thrown" "I") (by decide +kernel)
  have hf39 := hts (.fieldLink RX2 39 "SnoringDukesModel" "changed" "I") (by decide +kernel)
  have hinX2 : ∀ wz ∈ wsX20, wz ∈ wsX2_changes := by decide +kernel
  have hl : lv_has ls 1 [(0, .ref oz)] := hl
  refine lv_aload_n hx hb dX2_changes_0 rfl (lv_at hl 0 rfl) ?_
  refine lv_iconst (v := nI 0) hx hb dX2_changes_1 (by decide) ?_
  refine va_put (D := G) (ci := 2) (v := .int (nI 0)) (ty := .int) (C := RX2) (T := TX2) (N := 10) hx hb hts hinX2 tyX2 tyX2_ok nmX2 hown hK hP hD hS 0 rfl rfl 9 (by decide) hf25 (fun _ h9 => h9) rfl (by decide +kernel) rfl rfl (Nat.le_of_ble_eq_true rfl) dX2_changes_2 (fun H locs hP hD hS => ?_)
  have hP : va_P G vwCl (wm cI oz loz liz siz shz saz nz camez cz gz louz Dz Sz shdz shsz (nI 0)) H := hP
  have hD : va_D A (wm cI oz loz liz siz shz saz nz camez cz gz louz Dz Sz shdz shsz (nI 0)) := hD
  refine lv_aload_n hx hb dX2_changes_5 rfl (lv_at hl 0 rfl) ?_
  refine va_get (D := G) (ci := 2) (v := .int gz) (C := RX2) (T := TX2) (N := 10) hx hb hts hinX2 hown hK hP 0 rfl rfl 3 (by decide) hf39 (fun _ h9 => h9) rfl dX2_changes_6 ?_
  exact zE_i hF hr hlk hK hP hD hS dX2_changes_9
set_option maxHeartbeats 4000000 in
set_option maxRecDepth 100000 in
theorem m_berthOf (l : Launch) (G : va_G) (cI : ClassId) (oz loz liz siz shz saz : Nat) (nz camez : Nat) (cz gz : Int32) (louz Dz Sz shdz shsz : Fn) (thz : Int32) (hn : nz ≤ 63) (hc9 : camez ≤ 500) (hS1 : okS Sz) (hD1 : okD nz Dz) (xz : Int32) : zC_i l yX2_berthOf wsX2_berthOf ({ frames := 1, cells := 0, slots := 0, locals := 22 }) G [(cI, .int)] (wm cI oz loz liz siz shz saz nz camez cz gz louz Dz Sz shdz shsz thz) (wm cI oz loz liz siz shz saz nz camez cz gz louz Dz Sz shdz shsz (nI 0)) [.ref oz, .int xz] (fndI Dz nz xz) := by
  refine zB_i (cc := cX2_berthOf) (maxL := 2) (ret := (some .int)) (by decide) rfl (Nat.le_of_ble_eq_true rfl) ?_
  intro p e s m args below meth c0 A hF hr hlk hK hA hP hD hS ls hl
  have hx := hF.1
  have hb := hF.2.1
  have hown := hF.2.2.2.1
  have hts := hF.2.2.2.2
  have hf25 := hts (.fieldLink RX2 25 "SnoringDukesModel" "thrown" "I") (by decide +kernel)
  have hinX2 : ∀ wz ∈ wsX20, wz ∈ wsX2_berthOf := by decide +kernel
  have hl : lv_has ls 2 [(0, .ref oz), (1, .int xz)] := hl
  refine lv_aload_n hx hb dX2_berthOf_0 rfl (lv_at hl 0 rfl) ?_
  refine lv_iconst (v := nI 0) hx hb dX2_berthOf_1 (by decide) ?_
  refine va_put (D := G) (ci := 2) (v := .int (nI 0)) (ty := .int) (C := RX2) (T := TX2) (N := 10) hx hb hts hinX2 tyX2 tyX2_ok nmX2 hown hK hP hD hS 0 rfl rfl 9 (by decide) hf25 (fun _ h9 => h9) rfl (by decide +kernel) rfl rfl (Nat.le_of_ble_eq_true rfl) dX2_berthOf_2 (fun H locs hP hD hS => ?_)
  have hP : va_P G vwCl (wm cI oz loz liz siz shz saz nz camez cz gz louz Dz Sz shdz shsz (nI 0)) H := hP
  have hD : va_D A (wm cI oz loz liz siz shz saz nz camez cz gz louz Dz Sz shdz shsz (nI 0)) := hD
  refine lv_aload_n hx hb dX2_berthOf_5 rfl (lv_at hl 0 rfl) ?_
  refine lv_iload_n hx hb dX2_berthOf_6 rfl (lv_at hl 1 rfl) ?_
  refine zK_vi (As := [.int xz]) (rest := []) hF (m_find l G cI oz loz liz siz shz saz nz camez cz gz louz Dz Sz shdz shsz (nI 0) hn hc9 hS1 hD1 xz) (cwV 1 hts gX2_berthOf_X2_find rfl rfl rfl (by decide +kernel) ⟨Nat.le_of_ble_eq_true rfl, Nat.le_of_ble_eq_true rfl⟩) hK hP hD hS hA (ci := 2) (q0 := 0) rfl rfl rfl (isC := [0, 1, 2, 3, 4, 5]) (isR := []) (perm := [0, 1, 2, 3, 4, 5]) (wr := []) (wN := wm cI oz loz liz siz shz saz nz camez cz gz louz Dz Sz shdz shsz (nI 0)) ⟨rfl, by decide, rfl, rfl, (fun _ hz => by cases hz), rfl, by decide⟩ [0] rfl rfl hl.1 rfl (Nat.le_of_ble_eq_true rfl) dX2_berthOf_7 ⟨Nat.le_refl _, Nat.le_refl _⟩ (fun H locs hP hD hS => ?_)
  exact zE_i hF hr hlk hK hP hD hS dX2_berthOf_10
set_option maxHeartbeats 4000000 in
set_option maxRecDepth 100000 in
theorem m_quietest (l : Launch) (G : va_G) (cI : ClassId) (oz loz liz siz shz saz : Nat) (nz camez : Nat) (cz gz : Int32) (louz Dz Sz shdz shsz : Fn) (thz : Int32) (hn : nz ≤ 63) (hc9 : camez ≤ 500) (hS1 : okS Sz) (hD1 : okD nz Dz)  : zC_i l yX2_quietest wsX2_quietest ({ frames := 0, cells := 0, slots := 0, locals := 0 }) G [(cI, .int)] (wm cI oz loz liz siz shz saz nz camez cz gz louz Dz Sz shdz shsz thz) (wm cI oz loz liz siz shz saz nz camez cz gz louz Dz Sz shdz shsz (nI 0)) [.ref oz] (if nz = 0 then -1 else Dz 0) := by
  refine zB_i (cc := cX2_quietest) (maxL := 1) (ret := (some .int)) (by decide) rfl (Nat.le_of_ble_eq_true rfl) ?_
  intro p e s m args below meth c0 A hF hr hlk hK hA hP hD hS ls hl
  have hx := hF.1
  have hb := hF.2.1
  have hown := hF.2.2.2.1
  have hts := hF.2.2.2.2
  have hf25 := hts (.fieldLink RX2 25 "SnoringDukesModel" "thrown" "I") (by decide +kernel)
  have hf29 := hts (.fieldLink RX2 29 "SnoringDukesModel" "many" "I") (by decide +kernel)
  have hf13 := hts (.fieldLink RX2 13 "SnoringDukesModel" "lies" "[I") (by decide +kernel)
  have hinX2 : ∀ wz ∈ wsX20, wz ∈ wsX2_quietest := by decide +kernel
  have hl : lv_has ls 1 [(0, .ref oz)] := hl
  refine lv_aload_n hx hb dX2_quietest_0 rfl (lv_at hl 0 rfl) ?_
  refine lv_iconst (v := nI 0) hx hb dX2_quietest_1 (by decide) ?_
  refine va_put (D := G) (ci := 2) (v := .int (nI 0)) (ty := .int) (C := RX2) (T := TX2) (N := 10) hx hb hts hinX2 tyX2 tyX2_ok nmX2 hown hK hP hD hS 0 rfl rfl 9 (by decide) hf25 (fun _ h9 => h9) rfl (by decide +kernel) rfl rfl (Nat.le_of_ble_eq_true rfl) dX2_quietest_2 (fun H locs hP hD hS => ?_)
  have hP : va_P G vwCl (wm cI oz loz liz siz shz saz nz camez cz gz louz Dz Sz shdz shsz (nI 0)) H := hP
  have hD : va_D A (wm cI oz loz liz siz shz saz nz camez cz gz louz Dz Sz shdz shsz (nI 0)) := hD
  refine lv_aload_n hx hb dX2_quietest_5 rfl (lv_at hl 0 rfl) ?_
  refine va_get (D := G) (ci := 2) (v := .int (nI nz)) (C := RX2) (T := TX2) (N := 10) hx hb hts hinX2 hown hK hP 0 rfl rfl 0 (by decide) hf29 (fun _ h9 => h9) rfl dX2_quietest_6 ?_
  refine lv_if_ne (tgt := 16) hx hb dX2_quietest_9 (by decide) (fun hc9 => ?_) (fun hc9 => ?_)
  · skip
    have k9 : 0 < nz := k0_ne (by omega) hc9
    refine lv_aload_n hx hb dX2_quietest_16 rfl (lv_at hl 0 rfl) ?_
    refine va_get (D := G) (ci := 2) (v := .ref liz) (C := RX2) (T := TX2) (N := 10) hx hb hts hinX2 hown hK hP 0 rfl rfl 5 (by decide) hf13 (fun _ h9 => h9) rfl dX2_quietest_17 ?_
    refine lv_iconst (v := nI 0) hx hb dX2_quietest_20 (by decide) ?_
    refine zA_ld hx hb hK hP 2 0 rfl rfl (by omega) (by decide) dX2_quietest_21 ?_
    rw [if_neg (by omega)]
    exact zE_i hF hr hlk hK hP hD hS dX2_quietest_22
  · skip
    have k9 : nz = 0 := k0_eq (by omega) hc9
    refine lv_iconst (v := (-1)) hx hb dX2_quietest_12 (by decide) ?_
    refine lv_goto (tgt := 22) hx hb dX2_quietest_13 (by decide) ?_
    rw [if_pos k9]
    exact zE_i hF hr hlk hK hP hD hS dX2_quietest_22
set_option maxHeartbeats 4000000 in
set_option maxRecDepth 100000 in
theorem m_flipped (l : Launch) (G : va_G) (cI : ClassId) (oz loz liz siz shz saz : Nat) (nz camez : Nat) (cz gz : Int32) (louz Dz Sz shdz shsz : Fn) (thz : Int32) (hn : nz ≤ 63) (hc9 : camez ≤ 500) (hS1 : okS Sz) (hD1 : okD nz Dz)  : zC_i l yX2_flipped wsX2_flipped ({ frames := 0, cells := 0, slots := 0, locals := 0 }) G [(cI, .int)] (wm cI oz loz liz siz shz saz nz camez cz gz louz Dz Sz shdz shsz thz) (wm cI oz loz liz siz shz saz nz camez cz gz louz Dz Sz shdz shsz (nI 0)) [.ref oz] (flp Sz nz) := by
  refine zB_i (cc := cX2_flipped) (maxL := 3) (ret := (some .int)) (by decide) rfl (Nat.le_of_ble_eq_true rfl) ?_
  intro p e s m args below meth c0 A hF hr hlk hK hA hP hD hS ls hl
  have hx := hF.1
  have hb := hF.2.1
  have hown := hF.2.2.2.1
  have hts := hF.2.2.2.2
  have hf25 := hts (.fieldLink RX2 25 "SnoringDukesModel" "thrown" "I") (by decide +kernel)
  have hf29 := hts (.fieldLink RX2 29 "SnoringDukesModel" "many" "I") (by decide +kernel)
  have hf16 := hts (.fieldLink RX2 16 "SnoringDukesModel" "side" "[I") (by decide +kernel)
  have hinX2 : ∀ wz ∈ wsX20, wz ∈ wsX2_flipped := by decide +kernel
  have hl : lv_has ls 3 [(0, .ref oz)] := hl
  refine lv_aload_n hx hb dX2_flipped_0 rfl (lv_at hl 0 rfl) ?_
  refine lv_iconst (v := nI 0) hx hb dX2_flipped_1 (by decide) ?_
  refine va_put (D := G) (ci := 2) (v := .int (nI 0)) (ty := .int) (C := RX2) (T := TX2) (N := 10) hx hb hts hinX2 tyX2 tyX2_ok nmX2 hown hK hP hD hS 0 rfl rfl 9 (by decide) hf25 (fun _ h9 => h9) rfl (by decide +kernel) rfl rfl (Nat.le_of_ble_eq_true rfl) dX2_flipped_2 (fun H locs hP hD hS => ?_)
  have hP : va_P G vwCl (wm cI oz loz liz siz shz saz nz camez cz gz louz Dz Sz shdz shsz (nI 0)) H := hP
  have hD : va_D A (wm cI oz loz liz siz shz saz nz camez cz gz louz Dz Sz shdz shsz (nI 0)) := hD
  refine lv_iconst (v := nI 0) hx hb dX2_flipped_5 (by decide) ?_
  refine lv_istore_n (lv' := [(1, .int (nI 0)), (0, .ref oz)]) hx hb dX2_flipped_6 rfl hl (by decide) rfl (fun ls hl => ?_)
  refine lv_iconst (v := nI 0) hx hb dX2_flipped_7 (by decide) ?_
  refine lv_istore_n (lv' := [(2, .int (nI 0)), (1, .int (nI 0)), (0, .ref oz)]) hx hb dX2_flipped_8 rfl hl (by decide) rfl (fun ls hl => ?_)
  have hl : lv_has ls 3 [(2, .int (nI 0)), (1, .int (flp Sz 0)), (0, .ref oz)] := hl
  have loop : ∀ (f9 : Nat) (iz : Nat), (iz ≤ nz) → nz - iz < f9 → ∀ (H : Heap) (locs : List Loc) (ls : Array Slot), va_P G vwCl (wm cI oz loz liz siz shz saz nz camez cz gz louz Dz Sz shdz shsz (nI 0)) H → va_D A (wm cI oz loz liz siz shz saz nz camez cz gz louz Dz Sz shdz shsz (nI 0)) → va_S A s.heap H locs → lv_has ls 3 [(0, .ref oz), (1, .int (flp Sz iz)), (2, .int (nI iz))] → W p l e ({ frames := 0, cells := 0, slots := 0, locals := 0 }) s m args below meth c0 H locs 0 0 (zQ_i below G [(cI, .int)] (wm cI oz loz liz siz shz saz nz camez cz gz louz Dz Sz shdz shsz (nI 0)) (flp Sz nz) A args s) (F0 m 9 ls []) := by
    intro f9
    induction f9 with
    | zero => intro iz h2 hf; exact absurd hf (Nat.not_lt_zero _)
    | succ f9 ih =>
      intro iz h2 hf H locs ls hP hD hS hl
      refine lv_iload_n hx hb dX2_flipped_9 rfl (lv_at hl 2 rfl) ?_
      refine lv_aload_n hx hb dX2_flipped_10 rfl (lv_at hl 0 rfl) ?_
      refine va_get (D := G) (ci := 2) (v := .int (nI nz)) (C := RX2) (T := TX2) (N := 10) hx hb hts hinX2 hown hK hP 0 rfl rfl 0 (by decide) hf29 (fun _ h9 => h9) rfl dX2_flipped_11 ?_
      refine lv_icmp_ge (tgt := 32) hx hb dX2_flipped_14 (by decide) (fun hc14 => ?_) (fun hc14 => ?_)
      · skip
        have k14 : nz ≤ iz := k_le (by omega) (by omega) hc14
        refine lv_iload_n hx hb dX2_flipped_32 rfl (lv_at hl 1 rfl) ?_
        obtain rfl : nz = iz := by omega
        exact zE_i hF hr hlk hK hP hD hS dX2_flipped_33
      · skip
        have k14 : iz < nz := k_nle (by omega) (by omega) hc14
        refine lv_iload_n hx hb dX2_flipped_17 rfl (lv_at hl 1 rfl) ?_
        refine lv_aload_n hx hb dX2_flipped_18 rfl (lv_at hl 0 rfl) ?_
        refine va_get (D := G) (ci := 2) (v := .ref siz) (C := RX2) (T := TX2) (N := 10) hx hb hts hinX2 hown hK hP 0 rfl rfl 6 (by decide) hf16 (fun _ h9 => h9) rfl dX2_flipped_19 ?_
        refine lv_iload_n hx hb dX2_flipped_22 rfl (lv_at hl 2 rfl) ?_
        refine zA_ld hx hb hK hP 3 0 rfl rfl (by omega) (by decide) dX2_flipped_23 ?_
        refine lv_iadd hx hb dX2_flipped_24 ?_
        refine zN (flp Sz (iz + 1)) (y := ((flp Sz iz) + (Sz iz))) (rfl) ?_
        refine lv_istore_n (lv' := [(1, .int (flp Sz (iz + 1))), (0, .ref oz), (2, .int (nI iz))]) hx hb dX2_flipped_25 rfl hl (by decide) rfl (fun ls hl => ?_)
        refine lv_iinc (v := nI (iz + 1)) (lv' := [(2, .int (nI (iz + 1))), (1, .int (flp Sz (iz + 1))), (0, .ref oz)]) hx hb dX2_flipped_26 hl (k := 2) rfl (nI_1 _) (by decide) rfl (fun ls hl => ?_)
        refine lv_goto (tgt := 9) hx hb dX2_flipped_29 (by decide) ?_
        exact ih (iz + 1) (by omega) (by omega) _ _ _ hP hD hS (lv_sub hl [2, 1, 0] rfl)
  exact loop (nz + 1) 0 (by omega) (by omega) _ _ _ hP hD hS (lv_sub hl [2, 1, 0] rfl)
set_option maxHeartbeats 4000000 in
set_option maxRecDepth 100000 in
theorem m_isBerth (l : Launch) (G : va_G) (cI : ClassId) (oz loz liz siz shz saz : Nat) (nz camez : Nat) (cz gz : Int32) (louz Dz Sz shdz shsz : Fn) (thz : Int32) (hn : nz ≤ 63) (hc9 : camez ≤ 500) (hS1 : okS Sz) (hD1 : okD nz Dz) (xz : Int32) : zC_i l yX2_isBerth wsX2_isBerth ({ frames := 1, cells := 0, slots := 0, locals := 22 }) G [(cI, .int)] (wm cI oz loz liz siz shz saz nz camez cz gz louz Dz Sz shdz shsz thz) (wm cI oz loz liz siz shz saz nz camez cz gz louz Dz Sz shdz shsz (bI (!hasI nz xz))) [.ref oz, .int xz] (bI (hasI nz xz)) := by
  refine zB_i (cc := cX2_isBerth) (maxL := 2) (ret := (some .boolean)) (by decide) rfl (Nat.le_of_ble_eq_true rfl) ?_
  intro p e s m args below meth c0 A hF hr hlk hK hA hP hD hS ls hl
  have hx := hF.1
  have hb := hF.2.1
  have hown := hF.2.2.2.1
  have hts := hF.2.2.2.2
  have hf29 := hts (.fieldLink RX2 29 "SnoringDukesModel" "many" "I") (by decide +kernel)
  have hf25 := hts (.fieldLink RX2 25 "SnoringDukesModel" "thrown" "I") (by decide +kernel)
  have hinX2 : ∀ wz ∈ wsX20, wz ∈ wsX2_isBerth := by decide +kernel
  have hl : lv_has ls 2 [(0, .ref oz), (1, .int xz)] := hl
  have e9 : isO xz (nI 0) (nI nz - nI 1) = hasI nz xz := isO_has (by omega)
  refine lv_aload_n hx hb dX2_isBerth_0 rfl (lv_at hl 0 rfl) ?_
  refine lv_iload_n hx hb dX2_isBerth_1 rfl (lv_at hl 1 rfl) ?_
  refine lv_iconst (v := nI 0) hx hb dX2_isBerth_2 (by decide) ?_
  refine lv_aload_n hx hb dX2_isBerth_3 rfl (lv_at hl 0 rfl) ?_
  refine va_get (D := G) (ci := 2) (v := .int (nI nz)) (C := RX2) (T := TX2) (N := 10) hx hb hts hinX2 hown hK hP 0 rfl rfl 0 (by decide) hf29 (fun _ h9 => h9) rfl dX2_isBerth_4 ?_
  refine lv_iconst (v := nI 1) hx hb dX2_isBerth_7 (by decide) ?_
  refine lv_isub hx hb dX2_isBerth_8 ?_
  refine zK_si (av := [.int xz, .int (nI 0), .int ((nI nz) - (nI 1))]) (rest := [.ref oz]) hF (m_isOf l G xz (nI 0) ((nI nz) - (nI 1))) (va_cwS 3 hts gX2_isBerth_X2_isOf rfl rfl rfl (by decide +kernel) ⟨Nat.le_of_ble_eq_true rfl, Nat.le_of_ble_eq_true rfl⟩) hK hP hD hS hA (isC := []) (isR := [0, 1, 2, 3, 4, 5]) (perm := [0, 1, 2, 3, 4, 5]) (wr := wm cI oz loz liz siz shz saz nz camez cz gz louz Dz Sz shdz shsz thz) (wN := wm cI oz loz liz siz shz saz nz camez cz gz louz Dz Sz shdz shsz thz) ⟨rfl, by decide, rfl, by decide, (fun _ _ hz => by cases hz), rfl, by decide⟩ [] rfl rfl hl.1 rfl (Nat.le_of_ble_eq_true rfl) dX2_isBerth_9 ⟨Nat.le_refl _, Nat.le_refl _⟩ (fun H locs hP hD hS => ?_)
  refine zN (bI (hasI nz xz)) (y := (bI (isO xz (nI 0) ((nI nz) - (nI 1))))) (by rw [e9]) ?_
  refine lv_if_eq (tgt := 19) hx hb dX2_isBerth_12 (by decide) (fun hc12 => ?_) (fun hc12 => ?_)
  · skip
    have k12 : (hasI nz xz) = false := bI_e0.mp hc12
    refine lv_iconst (v := nI 1) hx hb dX2_isBerth_19 (by decide) ?_
    refine va_put (D := G) (ci := 2) (v := .int (nI 1)) (ty := .int) (C := RX2) (T := TX2) (N := 10) hx hb hts hinX2 tyX2 tyX2_ok nmX2 hown hK hP hD hS 0 rfl rfl 9 (by decide) hf25 (fun _ h9 => h9) rfl (by decide +kernel) rfl rfl (Nat.le_of_ble_eq_true rfl) dX2_isBerth_20 (fun H locs hP hD hS => ?_)
    have hP : va_P G vwCl (wm cI oz loz liz siz shz saz nz camez cz gz louz Dz Sz shdz shsz (nI 1)) H := hP
    have hD : va_D A (wm cI oz loz liz siz shz saz nz camez cz gz louz Dz Sz shdz shsz (nI 1)) := hD
    refine lv_aload_n hx hb dX2_isBerth_23 rfl (lv_at hl 0 rfl) ?_
    refine va_get (D := G) (ci := 2) (v := .int (nI 1)) (C := RX2) (T := TX2) (N := 10) hx hb hts hinX2 hown hK hP 0 rfl rfl 9 (by decide) hf25 (fun _ h9 => h9) rfl dX2_isBerth_24 ?_
    refine lv_if_ne (tgt := 34) hx hb dX2_isBerth_27 (by decide) (fun hc27 => ?_) (fun hc27 => ?_)
    · skip
      have k27 : 0 < 1 := k0_ne (by omega) hc27
      refine lv_iconst (v := nI 0) hx hb dX2_isBerth_34 (by decide) ?_
      rw [k12]
      exact zE_z hF hr hlk (Or.inl rfl) hK hP hD hS dX2_isBerth_35
    · exact absurd hc27 (by decide)
  · skip
    have k12 : (hasI nz xz) = true := bI_ne.mp hc12
    refine lv_iconst (v := nI 0) hx hb dX2_isBerth_15 (by decide) ?_
    refine lv_goto (tgt := 20) hx hb dX2_isBerth_16 (by decide) ?_
    refine va_put (D := G) (ci := 2) (v := .int (nI 0)) (ty := .int) (C := RX2) (T := TX2) (N := 10) hx hb hts hinX2 tyX2 tyX2_ok nmX2 hown hK hP hD hS 0 rfl rfl 9 (by decide) hf25 (fun _ h9 => h9) rfl (by decide +kernel) rfl rfl (Nat.le_of_ble_eq_true rfl) dX2_isBerth_20 (fun H locs hP hD hS => ?_)
    have hP : va_P G vwCl (wm cI oz loz liz siz shz saz nz camez cz gz louz Dz Sz shdz shsz (nI 0)) H := hP
    have hD : va_D A (wm cI oz loz liz siz shz saz nz camez cz gz louz Dz Sz shdz shsz (nI 0)) := hD
    refine lv_aload_n hx hb dX2_isBerth_23 rfl (lv_at hl 0 rfl) ?_
    refine va_get (D := G) (ci := 2) (v := .int (nI 0)) (C := RX2) (T := TX2) (N := 10) hx hb hts hinX2 hown hK hP 0 rfl rfl 9 (by decide) hf25 (fun _ h9 => h9) rfl dX2_isBerth_24 ?_
    refine lv_if_ne (tgt := 34) hx hb dX2_isBerth_27 (by decide) (fun hc27 => ?_) (fun hc27 => ?_)
    · exact absurd hc27 (by decide)
    · skip
      have k27 : 0 = 0 := k0_eq (by omega) hc27
      refine lv_iconst (v := nI 1) hx hb dX2_isBerth_30 (by decide) ?_
      refine lv_goto (tgt := 35) hx hb dX2_isBerth_31 (by decide) ?_
      rw [k12]
      exact zE_z hF hr hlk (Or.inr rfl) hK hP hD hS dX2_isBerth_35
set_option maxHeartbeats 4000000 in
set_option maxRecDepth 100000 in
theorem m_dukeIn_x (l : Launch) (G : va_G) (cI : ClassId) (oz loz liz siz shz saz : Nat) (nz camez : Nat) (cz gz : Int32) (louz Dz Sz shdz shsz : Fn) (thz : Int32) (hn : nz ≤ 63) (hc9 : camez ≤ 500) (hS1 : okS Sz) (hD1 : okD nz Dz) (xz : Int32) (hno : hasI nz xz = false) : zC_i l yX2_dukeIn wsX2_dukeIn ({ frames := 2, cells := 0, slots := 0, locals := 43 }) G [(cI, .int)] (wm cI oz loz liz siz shz saz nz camez cz gz louz Dz Sz shdz shsz thz) (wm cI oz loz liz siz shz saz nz camez cz gz louz Dz Sz shdz shsz (nI 1)) [.ref oz, .int xz] (nI 0) := by
  refine zB_i (cc := cX2_dukeIn) (maxL := 2) (ret := (some .int)) (by decide) rfl (Nat.le_of_ble_eq_true rfl) ?_
  intro p e s m args below meth c0 A hF hr hlk hK hA hP hD hS ls hl
  have hx := hF.1
  have hb := hF.2.1
  have hown := hF.2.2.2.1
  have hts := hF.2.2.2.2
  have hf13 := hts (.fieldLink RX2 13 "SnoringDukesModel" "lies" "[I") (by decide +kernel)
  have hinX2 : ∀ wz ∈ wsX20, wz ∈ wsX2_dukeIn := by decide +kernel
  have hl : lv_has ls 2 [(0, .ref oz), (1, .int xz)] := hl
  refine lv_aload_n hx hb dX2_dukeIn_0 rfl (lv_at hl 0 rfl) ?_
  refine lv_iload_n hx hb dX2_dukeIn_1 rfl (lv_at hl 1 rfl) ?_
  refine zK_vi (As := [.int xz]) (rest := []) hF (m_isBerth l G cI oz loz liz siz shz saz nz camez cz gz louz Dz Sz shdz shsz thz hn hc9 hS1 hD1 xz) (cwV 1 hts gX2_dukeIn_X2_isBerth rfl rfl rfl (by decide +kernel) ⟨Nat.le_of_ble_eq_true rfl, Nat.le_of_ble_eq_true rfl⟩) hK hP hD hS hA (ci := 2) (q0 := 0) rfl rfl rfl (isC := [0, 1, 2, 3, 4, 5]) (isR := []) (perm := [0, 1, 2, 3, 4, 5]) (wr := []) (wN := wm cI oz loz liz siz shz saz nz camez cz gz louz Dz Sz shdz shsz (bI (!hasI nz xz))) ⟨rfl, by decide, rfl, rfl, (fun _ hz => by cases hz), rfl, by decide⟩ [0] rfl rfl hl.1 rfl (Nat.le_of_ble_eq_true rfl) dX2_dukeIn_2 ⟨Nat.le_refl _, Nat.le_refl _⟩ (fun H locs hP hD hS => ?_)
  rw [hno] at hP hD
  have hP : va_P G vwCl (wm cI oz loz liz siz shz saz nz camez cz gz louz Dz Sz shdz shsz (nI 1)) H := hP
  have hD : va_D A (wm cI oz loz liz siz shz saz nz camez cz gz louz Dz Sz shdz shsz (nI 1)) := hD
  refine zN (nI 0) (y := (bI (hasI nz xz))) (by rw [hno]; rfl) ?_
  refine lv_if_eq (tgt := 17) hx hb dX2_dukeIn_5 (by decide) (fun hc5 => ?_) (fun hc5 => ?_)
  · skip
    have k5 : 0 = 0 := k0_eq (by omega) hc5
    refine lv_iconst (v := nI 0) hx hb dX2_dukeIn_17 (by decide) ?_
    exact zE_i hF hr hlk hK hP hD hS dX2_dukeIn_18
  · exact absurd hc5 (by decide)
set_option maxHeartbeats 4000000 in
set_option maxRecDepth 100000 in
theorem m_dukeIn_t (l : Launch) (G : va_G) (cI : ClassId) (oz loz liz siz shz saz : Nat) (nz camez : Nat) (cz gz : Int32) (louz Dz Sz shdz shsz : Fn) (thz : Int32) (hn : nz ≤ 63) (hc9 : camez ≤ 500) (hS1 : okS Sz) (hD1 : okD nz Dz) (bz : Nat) (hb9 : bz < nz) : zC_i l yX2_dukeIn wsX2_dukeIn ({ frames := 2, cells := 0, slots := 0, locals := 43 }) G [(cI, .int)] (wm cI oz loz liz siz shz saz nz camez cz gz louz Dz Sz shdz shsz thz) (wm cI oz loz liz siz shz saz nz camez cz gz louz Dz Sz shdz shsz (nI 0)) [.ref oz, .int (nI bz)] (Dz bz) := by
  refine zB_i (cc := cX2_dukeIn) (maxL := 2) (ret := (some .int)) (by decide) rfl (Nat.le_of_ble_eq_true rfl) ?_
  intro p e s m args below meth c0 A hF hr hlk hK hA hP hD hS ls hl
  have hx := hF.1
  have hb := hF.2.1
  have hown := hF.2.2.2.1
  have hts := hF.2.2.2.2
  have hf13 := hts (.fieldLink RX2 13 "SnoringDukesModel" "lies" "[I") (by decide +kernel)
  have hinX2 : ∀ wz ∈ wsX20, wz ∈ wsX2_dukeIn := by decide +kernel
  have hl : lv_has ls 2 [(0, .ref oz), (1, .int (nI bz))] := hl
  have hyes : hasI nz (nI bz) = true := by rw [hasI_nI (by omega) (by omega)]; exact decide_eq_true hb9
  refine lv_aload_n hx hb dX2_dukeIn_0 rfl (lv_at hl 0 rfl) ?_
  refine lv_iload_n hx hb dX2_dukeIn_1 rfl (lv_at hl 1 rfl) ?_
  refine zK_vi (As := [.int (nI bz)]) (rest := []) hF (m_isBerth l G cI oz loz liz siz shz saz nz camez cz gz louz Dz Sz shdz shsz thz hn hc9 hS1 hD1 (nI bz)) (cwV 1 hts gX2_dukeIn_X2_isBerth rfl rfl rfl (by decide +kernel) ⟨Nat.le_of_ble_eq_true rfl, Nat.le_of_ble_eq_true rfl⟩) hK hP hD hS hA (ci := 2) (q0 := 0) rfl rfl rfl (isC := [0, 1, 2, 3, 4, 5]) (isR := []) (perm := [0, 1, 2, 3, 4, 5]) (wr := []) (wN := wm cI oz loz liz siz shz saz nz camez cz gz louz Dz Sz shdz shsz (bI (!hasI nz (nI bz)))) ⟨rfl, by decide, rfl, rfl, (fun _ hz => by cases hz), rfl, by decide⟩ [0] rfl rfl hl.1 rfl (Nat.le_of_ble_eq_true rfl) dX2_dukeIn_2 ⟨Nat.le_refl _, Nat.le_refl _⟩ (fun H locs hP hD hS => ?_)
  rw [hyes] at hP hD
  have hP : va_P G vwCl (wm cI oz loz liz siz shz saz nz camez cz gz louz Dz Sz shdz shsz (nI 0)) H := hP
  have hD : va_D A (wm cI oz loz liz siz shz saz nz camez cz gz louz Dz Sz shdz shsz (nI 0)) := hD
  refine zN (nI 1) (y := (bI (hasI nz (nI bz)))) (by rw [hyes]; rfl) ?_
  refine lv_if_eq (tgt := 17) hx hb dX2_dukeIn_5 (by decide) (fun hc5 => ?_) (fun hc5 => ?_)
  · exact absurd hc5 (by decide)
  · skip
    have k5 : 0 < 1 := k0_ne (by omega) hc5
    refine lv_aload_n hx hb dX2_dukeIn_8 rfl (lv_at hl 0 rfl) ?_
    refine va_get (D := G) (ci := 2) (v := .ref liz) (C := RX2) (T := TX2) (N := 10) hx hb hts hinX2 hown hK hP 0 rfl rfl 5 (by decide) hf13 (fun _ h9 => h9) rfl dX2_dukeIn_9 ?_
    refine lv_iload_n hx hb dX2_dukeIn_12 rfl (lv_at hl 1 rfl) ?_
    refine zA_ld hx hb hK hP 2 0 rfl rfl (by omega) (by decide) dX2_dukeIn_13 ?_
    refine lv_goto (tgt := 18) hx hb dX2_dukeIn_14 (by decide) ?_
    exact zE_i hF hr hlk hK hP hD hS dX2_dukeIn_18
set_option maxHeartbeats 4000000 in
set_option maxRecDepth 100000 in
theorem m_sideOf_x (l : Launch) (G : va_G) (cI : ClassId) (oz loz liz siz shz saz : Nat) (nz camez : Nat) (cz gz : Int32) (louz Dz Sz shdz shsz : Fn) (thz : Int32) (hn : nz ≤ 63) (hc9 : camez ≤ 500) (hS1 : okS Sz) (hD1 : okD nz Dz) (xz : Int32) (hno : hasI nz xz = false) : zC_i l yX2_sideOf wsX2_sideOf ({ frames := 2, cells := 0, slots := 0, locals := 43 }) G [(cI, .int)] (wm cI oz loz liz siz shz saz nz camez cz gz louz Dz Sz shdz shsz thz) (wm cI oz loz liz siz shz saz nz camez cz gz louz Dz Sz shdz shsz (nI 1)) [.ref oz, .int xz] (nI 0) := by
  refine zB_i (cc := cX2_sideOf) (maxL := 2) (ret := (some .int)) (by decide) rfl (Nat.le_of_ble_eq_true rfl) ?_
  intro p e s m args below meth c0 A hF hr hlk hK hA hP hD hS ls hl
  have hx := hF.1
  have hb := hF.2.1
  have hown := hF.2.2.2.1
  have hts := hF.2.2.2.2
  have hf16 := hts (.fieldLink RX2 16 "SnoringDukesModel" "side" "[I") (by decide +kernel)
  have hinX2 : ∀ wz ∈ wsX20, wz ∈ wsX2_sideOf := by decide +kernel
  have hl : lv_has ls 2 [(0, .ref oz), (1, .int xz)] := hl
  refine lv_aload_n hx hb dX2_sideOf_0 rfl (lv_at hl 0 rfl) ?_
  refine lv_iload_n hx hb dX2_sideOf_1 rfl (lv_at hl 1 rfl) ?_
  refine zK_vi (As := [.int xz]) (rest := []) hF (m_isBerth l G cI oz loz liz siz shz saz nz camez cz gz louz Dz Sz shdz shsz thz hn hc9 hS1 hD1 xz) (cwV 1 hts gX2_sideOf_X2_isBerth rfl rfl rfl (by decide +kernel) ⟨Nat.le_of_ble_eq_true rfl, Nat.le_of_ble_eq_true rfl⟩) hK hP hD hS hA (ci := 2) (q0 := 0) rfl rfl rfl (isC := [0, 1, 2, 3, 4, 5]) (isR := []) (perm := [0, 1, 2, 3, 4, 5]) (wr := []) (wN := wm cI oz loz liz siz shz saz nz camez cz gz louz Dz Sz shdz shsz (bI (!hasI nz xz))) ⟨rfl, by decide, rfl, rfl, (fun _ hz => by cases hz), rfl, by decide⟩ [0] rfl rfl hl.1 rfl (Nat.le_of_ble_eq_true rfl) dX2_sideOf_2 ⟨Nat.le_refl _, Nat.le_refl _⟩ (fun H locs hP hD hS => ?_)
  rw [hno] at hP hD
  have hP : va_P G vwCl (wm cI oz loz liz siz shz saz nz camez cz gz louz Dz Sz shdz shsz (nI 1)) H := hP
  have hD : va_D A (wm cI oz loz liz siz shz saz nz camez cz gz louz Dz Sz shdz shsz (nI 1)) := hD
  refine zN (nI 0) (y := (bI (hasI nz xz))) (by rw [hno]; rfl) ?_
  refine lv_if_eq (tgt := 17) hx hb dX2_sideOf_5 (by decide) (fun hc5 => ?_) (fun hc5 => ?_)
  · skip
    have k5 : 0 = 0 := k0_eq (by omega) hc5
    refine lv_iconst (v := nI 0) hx hb dX2_sideOf_17 (by decide) ?_
    exact zE_i hF hr hlk hK hP hD hS dX2_sideOf_18
  · exact absurd hc5 (by decide)
set_option maxHeartbeats 4000000 in
set_option maxRecDepth 100000 in
theorem m_sideOf_t (l : Launch) (G : va_G) (cI : ClassId) (oz loz liz siz shz saz : Nat) (nz camez : Nat) (cz gz : Int32) (louz Dz Sz shdz shsz : Fn) (thz : Int32) (hn : nz ≤ 63) (hc9 : camez ≤ 500) (hS1 : okS Sz) (hD1 : okD nz Dz) (bz : Nat) (hb9 : bz < nz) : zC_i l yX2_sideOf wsX2_sideOf ({ frames := 2, cells := 0, slots := 0, locals := 43 }) G [(cI, .int)] (wm cI oz loz liz siz shz saz nz camez cz gz louz Dz Sz shdz shsz thz) (wm cI oz loz liz siz shz saz nz camez cz gz louz Dz Sz shdz shsz (nI 0)) [.ref oz, .int (nI bz)] (Sz bz) := by
  refine zB_i (cc := cX2_sideOf) (maxL := 2) (ret := (some .int)) (by decide) rfl (Nat.le_of_ble_eq_true rfl) ?_
  intro p e s m args below meth c0 A hF hr hlk hK hA hP hD hS ls hl
  have hx := hF.1
  have hb := hF.2.1
  have hown := hF.2.2.2.1
  have hts := hF.2.2.2.2
  have hf16 := hts (.fieldLink RX2 16 "SnoringDukesModel" "side" "[I") (by decide +kernel)
  have hinX2 : ∀ wz ∈ wsX20, wz ∈ wsX2_sideOf := by decide +kernel
  have hl : lv_has ls 2 [(0, .ref oz), (1, .int (nI bz))] := hl
  have hyes : hasI nz (nI bz) = true := by rw [hasI_nI (by omega) (by omega)]; exact decide_eq_true hb9
  refine lv_aload_n hx hb dX2_sideOf_0 rfl (lv_at hl 0 rfl) ?_
  refine lv_iload_n hx hb dX2_sideOf_1 rfl (lv_at hl 1 rfl) ?_
  refine zK_vi (As := [.int (nI bz)]) (rest := []) hF (m_isBerth l G cI oz loz liz siz shz saz nz camez cz gz louz Dz Sz shdz shsz thz hn hc9 hS1 hD1 (nI bz)) (cwV 1 hts gX2_sideOf_X2_isBerth rfl rfl rfl (by decide +kernel) ⟨Nat.le_of_ble_eq_true rfl, Nat.le_of_ble_eq_true rfl⟩) hK hP hD hS hA (ci := 2) (q0 := 0) rfl rfl rfl (isC := [0, 1, 2, 3, 4, 5]) (isR := []) (perm := [0, 1, 2, 3, 4, 5]) (wr := []) (wN := wm cI oz loz liz siz shz saz nz camez cz gz louz Dz Sz shdz shsz (bI (!hasI nz (nI bz)))) ⟨rfl, by decide, rfl, rfl, (fun _ hz => by cases hz), rfl, by decide⟩ [0] rfl rfl hl.1 rfl (Nat.le_of_ble_eq_true rfl) dX2_sideOf_2 ⟨Nat.le_refl _, Nat.le_refl _⟩ (fun H locs hP hD hS => ?_)
  rw [hyes] at hP hD
  have hP : va_P G vwCl (wm cI oz loz liz siz shz saz nz camez cz gz louz Dz Sz shdz shsz (nI 0)) H := hP
  have hD : va_D A (wm cI oz loz liz siz shz saz nz camez cz gz louz Dz Sz shdz shsz (nI 0)) := hD
  refine zN (nI 1) (y := (bI (hasI nz (nI bz)))) (by rw [hyes]; rfl) ?_
  refine lv_if_eq (tgt := 17) hx hb dX2_sideOf_5 (by decide) (fun hc5 => ?_) (fun hc5 => ?_)
  · exact absurd hc5 (by decide)
  · skip
    have k5 : 0 < 1 := k0_ne (by omega) hc5
    refine lv_aload_n hx hb dX2_sideOf_8 rfl (lv_at hl 0 rfl) ?_
    refine va_get (D := G) (ci := 2) (v := .ref siz) (C := RX2) (T := TX2) (N := 10) hx hb hts hinX2 hown hK hP 0 rfl rfl 6 (by decide) hf16 (fun _ h9 => h9) rfl dX2_sideOf_9 ?_
    refine lv_iload_n hx hb dX2_sideOf_12 rfl (lv_at hl 1 rfl) ?_
    refine zA_ld hx hb hK hP 3 0 rfl rfl (by omega) (by decide) dX2_sideOf_13 ?_
    refine lv_goto (tgt := 18) hx hb dX2_sideOf_14 (by decide) ?_
    exact zE_i hF hr hlk hK hP hD hS dX2_sideOf_18
set_option maxHeartbeats 4000000 in
set_option maxRecDepth 100000 in
theorem m_loudnessIn_x (l : Launch) (G : va_G) (cI : ClassId) (oz loz liz siz shz saz : Nat) (nz camez : Nat) (cz gz : Int32) (louz Dz Sz shdz shsz : Fn) (thz : Int32) (hn : nz ≤ 63) (hc9 : camez ≤ 500) (hS1 : okS Sz) (hD1 : okD nz Dz) (xz : Int32) (hno : hasI nz xz = false) : zC_i l yX2_loudnessIn wsX2_loudnessIn ({ frames := 2, cells := 0, slots := 0, locals := 43 }) G [(cI, .int)] (wm cI oz loz liz siz shz saz nz camez cz gz louz Dz Sz shdz shsz thz) (wm cI oz loz liz siz shz saz nz camez cz gz louz Dz Sz shdz shsz (nI 1)) [.ref oz, .int xz] (nI 0) := by
  refine zB_i (cc := cX2_loudnessIn) (maxL := 2) (ret := (some .int)) (by decide) rfl (Nat.le_of_ble_eq_true rfl) ?_
  intro p e s m args below meth c0 A hF hr hlk hK hA hP hD hS ls hl
  have hx := hF.1
  have hb := hF.2.1
  have hown := hF.2.2.2.1
  have hts := hF.2.2.2.2
  have hf7 := hts (.fieldLink RX2 7 "SnoringDukesModel" "loud" "[I") (by decide +kernel)
  have hf13 := hts (.fieldLink RX2 13 "SnoringDukesModel" "lies" "[I") (by decide +kernel)
  have hinX2 : ∀ wz ∈ wsX20, wz ∈ wsX2_loudnessIn := by decide +kernel
  have hl : lv_has ls 2 [(0, .ref oz), (1, .int xz)] := hl
  refine lv_aload_n hx hb dX2_loudnessIn_0 rfl (lv_at hl 0 rfl) ?_
  refine lv_iload_n hx hb dX2_loudnessIn_1 rfl (lv_at hl 1 rfl) ?_
  refine zK_vi (As := [.int xz]) (rest := []) hF (m_isBerth l G cI oz loz liz siz shz saz nz camez cz gz louz Dz Sz shdz shsz thz hn hc9 hS1 hD1 xz) (cwV 1 hts gX2_loudnessIn_X2_isBerth rfl rfl rfl (by decide +kernel) ⟨Nat.le_of_ble_eq_true rfl, Nat.le_of_ble_eq_true rfl⟩) hK hP hD hS hA (ci := 2) (q0 := 0) rfl rfl rfl (isC := [0, 1, 2, 3, 4, 5]) (isR := []) (perm := [0, 1, 2, 3, 4, 5]) (wr := []) (wN := wm cI oz loz liz siz shz saz nz camez cz gz louz Dz Sz shdz shsz (bI (!hasI nz xz))) ⟨rfl, by decide, rfl, rfl, (fun _ hz => by cases hz), rfl, by decide⟩ [0] rfl rfl hl.1 rfl (Nat.le_of_ble_eq_true rfl) dX2_loudnessIn_2 ⟨Nat.le_refl _, Nat.le_refl _⟩ (fun H locs hP hD hS => ?_)
  rw [hno] at hP hD
  have hP : va_P G vwCl (wm cI oz loz liz siz shz saz nz camez cz gz louz Dz Sz shdz shsz (nI 1)) H := hP
  have hD : va_D A (wm cI oz loz liz siz shz saz nz camez cz gz louz Dz Sz shdz shsz (nI 1)) := hD
  refine zN (nI 0) (y := (bI (hasI nz xz))) (by rw [hno]; rfl) ?_
  refine lv_if_eq (tgt := 22) hx hb dX2_loudnessIn_5 (by decide) (fun hc5 => ?_) (fun hc5 => ?_)
  · skip
    have k5 : 0 = 0 := k0_eq (by omega) hc5
    refine lv_iconst (v := nI 0) hx hb dX2_loudnessIn_22 (by decide) ?_
    exact zE_i hF hr hlk hK hP hD hS dX2_loudnessIn_23
  · exact absurd hc5 (by decide)
set_option maxHeartbeats 4000000 in
set_option maxRecDepth 100000 in
theorem m_loudnessIn_t (l : Launch) (G : va_G) (cI : ClassId) (oz loz liz siz shz saz : Nat) (nz camez : Nat) (cz gz : Int32) (louz Dz Sz shdz shsz : Fn) (thz : Int32) (hn : nz ≤ 63) (hc9 : camez ≤ 500) (hS1 : okS Sz) (hD1 : okD nz Dz) (bz : Nat) (hb9 : bz < nz) : zC_i l yX2_loudnessIn wsX2_loudnessIn ({ frames := 2, cells := 0, slots := 0, locals := 43 }) G [(cI, .int)] (wm cI oz loz liz siz shz saz nz camez cz gz louz Dz Sz shdz shsz thz) (wm cI oz loz liz siz shz saz nz camez cz gz louz Dz Sz shdz shsz (nI 0)) [.ref oz, .int (nI bz)] (louz (Dz bz).toNatClampNeg) := by
  refine zB_i (cc := cX2_loudnessIn) (maxL := 2) (ret := (some .int)) (by decide) rfl (Nat.le_of_ble_eq_true rfl) ?_
  intro p e s m args below meth c0 A hF hr hlk hK hA hP hD hS ls hl
  have hx := hF.1
  have hb := hF.2.1
  have hown := hF.2.2.2.1
  have hts := hF.2.2.2.2
  have hf7 := hts (.fieldLink RX2 7 "SnoringDukesModel" "loud" "[I") (by decide +kernel)
  have hf13 := hts (.fieldLink RX2 13 "SnoringDukesModel" "lies" "[I") (by decide +kernel)
  have hinX2 : ∀ wz ∈ wsX20, wz ∈ wsX2_loudnessIn := by decide +kernel
  have hl : lv_has ls 2 [(0, .ref oz), (1, .int (nI bz))] := hl
  have hyes : hasI nz (nI bz) = true := by rw [hasI_nI (by omega) (by omega)]; exact decide_eq_true hb9
  obtain ⟨kb, hkb, hDb⟩ := hD1 bz hb9
  rw [show louz (Dz bz).toNatClampNeg = louz kb by rw [hDb, nI_clamp (by omega)]]
  refine lv_aload_n hx hb dX2_loudnessIn_0 rfl (lv_at hl 0 rfl) ?_
  refine lv_iload_n hx hb dX2_loudnessIn_1 rfl (lv_at hl 1 rfl) ?_
  refine zK_vi (As := [.int (nI bz)]) (rest := []) hF (m_isBerth l G cI oz loz liz siz shz saz nz camez cz gz louz Dz Sz shdz shsz thz hn hc9 hS1 hD1 (nI bz)) (cwV 1 hts gX2_loudnessIn_X2_isBerth rfl rfl rfl (by decide +kernel) ⟨Nat.le_of_ble_eq_true rfl, Nat.le_of_ble_eq_true rfl⟩) hK hP hD hS hA (ci := 2) (q0 := 0) rfl rfl rfl (isC := [0, 1, 2, 3, 4, 5]) (isR := []) (perm := [0, 1, 2, 3, 4, 5]) (wr := []) (wN := wm cI oz loz liz siz shz saz nz camez cz gz louz Dz Sz shdz shsz (bI (!hasI nz (nI bz)))) ⟨rfl, by decide, rfl, rfl, (fun _ hz => by cases hz), rfl, by decide⟩ [0] rfl rfl hl.1 rfl (Nat.le_of_ble_eq_true rfl) dX2_loudnessIn_2 ⟨Nat.le_refl _, Nat.le_refl _⟩ (fun H locs hP hD hS => ?_)
  rw [hyes] at hP hD
  have hP : va_P G vwCl (wm cI oz loz liz siz shz saz nz camez cz gz louz Dz Sz shdz shsz (nI 0)) H := hP
  have hD : va_D A (wm cI oz loz liz siz shz saz nz camez cz gz louz Dz Sz shdz shsz (nI 0)) := hD
  refine zN (nI 1) (y := (bI (hasI nz (nI bz)))) (by rw [hyes]; rfl) ?_
  refine lv_if_eq (tgt := 22) hx hb dX2_loudnessIn_5 (by decide) (fun hc5 => ?_) (fun hc5 => ?_)
  · exact absurd hc5 (by decide)
  · skip
    have k5 : 0 < 1 := k0_ne (by omega) hc5
    refine lv_aload_n hx hb dX2_loudnessIn_8 rfl (lv_at hl 0 rfl) ?_
    refine va_get (D := G) (ci := 2) (v := .ref loz) (C := RX2) (T := TX2) (N := 10) hx hb hts hinX2 hown hK hP 0 rfl rfl 4 (by decide) hf7 (fun _ h9 => h9) rfl dX2_loudnessIn_9 ?_
    refine lv_aload_n hx hb dX2_loudnessIn_12 rfl (lv_at hl 0 rfl) ?_
    refine va_get (D := G) (ci := 2) (v := .ref liz) (C := RX2) (T := TX2) (N := 10) hx hb hts hinX2 hown hK hP 0 rfl rfl 5 (by decide) hf13 (fun _ h9 => h9) rfl dX2_loudnessIn_13 ?_
    refine lv_iload_n hx hb dX2_loudnessIn_16 rfl (lv_at hl 1 rfl) ?_
    refine zA_ld hx hb hK hP 2 0 rfl rfl (by omega) (by decide) dX2_loudnessIn_17 ?_
    refine zN (nI kb) (y := (Dz bz)) (hDb) ?_
    refine zA_ld hx hb hK hP 1 0 rfl rfl (by omega) (by decide) dX2_loudnessIn_18 ?_
    refine lv_goto (tgt := 23) hx hb dX2_loudnessIn_19 (by decide) ?_
    exact zE_i hF hr hlk hK hP hD hS dX2_loudnessIn_23
set_option maxHeartbeats 4000000 in
set_option maxRecDepth 100000 in
theorem m_elderOf_x (l : Launch) (G : va_G) (cI : ClassId) (oz loz liz siz shz saz : Nat) (nz camez : Nat) (cz gz : Int32) (louz Dz Sz shdz shsz : Fn) (thz : Int32) (hn : nz ≤ 63) (hc9 : camez ≤ 500) (hS1 : okS Sz) (hD1 : okD nz Dz) (xz : Int32) (hno : hasI nz xz = false) : zC_i l yX2_elderOf wsX2_elderOf ({ frames := 2, cells := 0, slots := 0, locals := 43 }) G [(cI, .int)] (wm cI oz loz liz siz shz saz nz camez cz gz louz Dz Sz shdz shsz thz) (wm cI oz loz liz siz shz saz nz camez cz gz louz Dz Sz shdz shsz (nI 1)) [.ref oz, .int xz] (nI 0) := by
  refine zB_i (cc := cX2_elderOf) (maxL := 2) (ret := (some .int)) (by decide) rfl (Nat.le_of_ble_eq_true rfl) ?_
  intro p e s m args below meth c0 A hF hr hlk hK hA hP hD hS ls hl
  have hx := hF.1
  have hb := hF.2.1
  have hown := hF.2.2.2.1
  have hts := hF.2.2.2.2
  have hl : lv_has ls 2 [(0, .ref oz), (1, .int xz)] := hl
  refine lv_aload_n hx hb dX2_elderOf_0 rfl (lv_at hl 0 rfl) ?_
  refine lv_iload_n hx hb dX2_elderOf_1 rfl (lv_at hl 1 rfl) ?_
  refine zK_vi (As := [.int xz]) (rest := []) hF (m_isBerth l G cI oz loz liz siz shz saz nz camez cz gz louz Dz Sz shdz shsz thz hn hc9 hS1 hD1 xz) (cwV 1 hts gX2_elderOf_X2_isBerth rfl rfl rfl (by decide +kernel) ⟨Nat.le_of_ble_eq_true rfl, Nat.le_of_ble_eq_true rfl⟩) hK hP hD hS hA (ci := 2) (q0 := 0) rfl rfl rfl (isC := [0, 1, 2, 3, 4, 5]) (isR := []) (perm := [0, 1, 2, 3, 4, 5]) (wr := []) (wN := wm cI oz loz liz siz shz saz nz camez cz gz louz Dz Sz shdz shsz (bI (!hasI nz xz))) ⟨rfl, by decide, rfl, rfl, (fun _ hz => by cases hz), rfl, by decide⟩ [0] rfl rfl hl.1 rfl (Nat.le_of_ble_eq_true rfl) dX2_elderOf_2 ⟨Nat.le_refl _, Nat.le_refl _⟩ (fun H locs hP hD hS => ?_)
  rw [hno] at hP hD
  have hP : va_P G vwCl (wm cI oz loz liz siz shz saz nz camez cz gz louz Dz Sz shdz shsz (nI 1)) H := hP
  have hD : va_D A (wm cI oz loz liz siz shz saz nz camez cz gz louz Dz Sz shdz shsz (nI 1)) := hD
  refine zN (nI 0) (y := (bI (hasI nz xz))) (by rw [hno]; rfl) ?_
  refine lv_if_ne (tgt := 12) hx hb dX2_elderOf_5 (by decide) (fun hc5 => ?_) (fun hc5 => ?_)
  · exact absurd hc5 (by decide)
  · skip
    have k5 : 0 = 0 := k0_eq (by omega) hc5
    refine lv_iconst (v := nI 0) hx hb dX2_elderOf_8 (by decide) ?_
    refine lv_goto (tgt := 25) hx hb dX2_elderOf_9 (by decide) ?_
    exact zE_i hF hr hlk hK hP hD hS dX2_elderOf_25
set_option maxHeartbeats 4000000 in
set_option maxRecDepth 100000 in
theorem m_elderOf_t (l : Launch) (G : va_G) (cI : ClassId) (oz loz liz siz shz saz : Nat) (nz camez : Nat) (cz gz : Int32) (louz Dz Sz shdz shsz : Fn) (thz : Int32) (hn : nz ≤ 63) (hc9 : camez ≤ 500) (hS1 : okS Sz) (hD1 : okD nz Dz) (bz : Nat) (hb9 : bz < nz) : zC_i l yX2_elderOf wsX2_elderOf ({ frames := 2, cells := 0, slots := 0, locals := 43 }) G [(cI, .int)] (wm cI oz loz liz siz shz saz nz camez cz gz louz Dz Sz shdz shsz thz) (wm cI oz loz liz siz shz saz nz camez cz gz louz Dz Sz shdz shsz (nI 0)) [.ref oz, .int (nI bz)] (if bz = 0 then -1 else nI (eld Sz bz)) := by
  refine zB_i (cc := cX2_elderOf) (maxL := 2) (ret := (some .int)) (by decide) rfl (Nat.le_of_ble_eq_true rfl) ?_
  intro p e s m args below meth c0 A hF hr hlk hK hA hP hD hS ls hl
  have hx := hF.1
  have hb := hF.2.1
  have hown := hF.2.2.2.1
  have hts := hF.2.2.2.2
  have hl : lv_has ls 2 [(0, .ref oz), (1, .int (nI bz))] := hl
  have hyes : hasI nz (nI bz) = true := by rw [hasI_nI (by omega) (by omega)]; exact decide_eq_true hb9
  refine lv_aload_n hx hb dX2_elderOf_0 rfl (lv_at hl 0 rfl) ?_
  refine lv_iload_n hx hb dX2_elderOf_1 rfl (lv_at hl 1 rfl) ?_
  refine zK_vi (As := [.int (nI bz)]) (rest := []) hF (m_isBerth l G cI oz loz liz siz shz saz nz camez cz gz louz Dz Sz shdz shsz thz hn hc9 hS1 hD1 (nI bz)) (cwV 1 hts gX2_elderOf_X2_isBerth rfl rfl rfl (by decide +kernel) ⟨Nat.le_of_ble_eq_true rfl, Nat.le_of_ble_eq_true rfl⟩) hK hP hD hS hA (ci := 2) (q0 := 0) rfl rfl rfl (isC := [0, 1, 2, 3, 4, 5]) (isR := []) (perm := [0, 1, 2, 3, 4, 5]) (wr := []) (wN := wm cI oz loz liz siz shz saz nz camez cz gz louz Dz Sz shdz shsz (bI (!hasI nz (nI bz)))) ⟨rfl, by decide, rfl, rfl, (fun _ hz => by cases hz), rfl, by decide⟩ [0] rfl rfl hl.1 rfl (Nat.le_of_ble_eq_true rfl) dX2_elderOf_2 ⟨Nat.le_refl _, Nat.le_refl _⟩ (fun H locs hP hD hS => ?_)
  rw [hyes] at hP hD
  have hP : va_P G vwCl (wm cI oz loz liz siz shz saz nz camez cz gz louz Dz Sz shdz shsz (nI 0)) H := hP
  have hD : va_D A (wm cI oz loz liz siz shz saz nz camez cz gz louz Dz Sz shdz shsz (nI 0)) := hD
  refine zN (nI 1) (y := (bI (hasI nz (nI bz)))) (by rw [hyes]; rfl) ?_
  refine lv_if_ne (tgt := 12) hx hb dX2_elderOf_5 (by decide) (fun hc5 => ?_) (fun hc5 => ?_)
  · skip
    have k5 : 0 < 1 := k0_ne (by omega) hc5
    refine lv_iload_n hx hb dX2_elderOf_12 rfl (lv_at hl 1 rfl) ?_
    refine lv_if_ne (tgt := 20) hx hb dX2_elderOf_13 (by decide) (fun hc13 => ?_) (fun hc13 => ?_)
    · skip
      have k13 : 0 < bz := k0_ne (by omega) hc13
      refine lv_aload_n hx hb dX2_elderOf_20 rfl (lv_at hl 0 rfl) ?_
      refine lv_iload_n hx hb dX2_elderOf_21 rfl (lv_at hl 1 rfl) ?_
      refine zK_vi (As := [.int (nI bz)]) (rest := []) hF (m_elder l G cI oz loz liz siz shz saz nz camez cz gz louz Dz Sz shdz shsz (nI 0) (by omega) (by omega) hS1 hD1 bz (by omega) (by omega)) (cwV 1 hts gX2_elderOf_X2_elder rfl rfl rfl (by decide +kernel) ⟨Nat.le_of_ble_eq_true rfl, Nat.le_of_ble_eq_true rfl⟩) hK hP hD hS hA (ci := 2) (q0 := 0) rfl rfl rfl (isC := [0, 1, 2, 3, 4, 5]) (isR := []) (perm := [0, 1, 2, 3, 4, 5]) (wr := []) (wN := wm cI oz loz liz siz shz saz nz camez cz gz louz Dz Sz shdz shsz (nI 0)) ⟨rfl, by decide, rfl, rfl, (fun _ hz => by cases hz), rfl, by decide⟩ [0] rfl rfl hl.1 rfl (Nat.le_of_ble_eq_true rfl) dX2_elderOf_22 ⟨Nat.le_refl _, Nat.le_refl _⟩ (fun H locs hP hD hS => ?_)
      rw [if_neg (by omega)]
      exact zE_i hF hr hlk hK hP hD hS dX2_elderOf_25
    · skip
      have k13 : bz = 0 := k0_eq (by omega) hc13
      refine lv_iconst (v := (-1)) hx hb dX2_elderOf_16 (by decide) ?_
      refine lv_goto (tgt := 25) hx hb dX2_elderOf_17 (by decide) ?_
      rw [if_pos k13]
      exact zE_i hF hr hlk hK hP hD hS dX2_elderOf_25
  · exact absurd hc5 (by decide)
set_option maxHeartbeats 4000000 in
set_option maxRecDepth 100000 in
theorem m_followersOf_x (l : Launch) (G : va_G) (cI : ClassId) (oz loz liz siz shz saz : Nat) (nz camez : Nat) (cz gz : Int32) (louz Dz Sz shdz shsz : Fn) (thz : Int32) (hn : nz ≤ 63) (hc9 : camez ≤ 500) (hS1 : okS Sz) (hD1 : okD nz Dz) (xz : Int32) (hno : hasI nz xz = false) : zC_i l yX2_followersOf wsX2_followersOf ({ frames := 2, cells := 0, slots := 0, locals := 43 }) G [(cI, .int)] (wm cI oz loz liz siz shz saz nz camez cz gz louz Dz Sz shdz shsz thz) (wm cI oz loz liz siz shz saz nz camez cz gz louz Dz Sz shdz shsz (nI 1)) [.ref oz, .int xz] (nI 0) := by
  refine zB_i (cc := cX2_followersOf) (maxL := 5) (ret := (some .int)) (by decide) rfl (Nat.le_of_ble_eq_true rfl) ?_
  intro p e s m args below meth c0 A hF hr hlk hK hA hP hD hS ls hl
  have hx := hF.1
  have hb := hF.2.1
  have hown := hF.2.2.2.1
  have hts := hF.2.2.2.2
  have hf29 := hts (.fieldLink RX2 29 "SnoringDukesModel" "many" "I") (by decide +kernel)
  have hinX2 : ∀ wz ∈ wsX20, wz ∈ wsX2_followersOf := by decide +kernel
  have hl : lv_has ls 5 [(0, .ref oz), (1, .int xz)] := hl
  refine lv_iconst (v := nI 0) hx hb dX2_followersOf_0 (by decide) ?_
  refine lv_istore_n (lv' := [(2, .int (nI 0)), (0, .ref oz), (1, .int xz)]) hx hb dX2_followersOf_1 rfl hl (by decide) rfl (fun ls hl => ?_)
  refine lv_aload_n hx hb dX2_followersOf_2 rfl (lv_at hl 1 rfl) ?_
  refine lv_iload_n hx hb dX2_followersOf_3 rfl (lv_at hl 2 rfl) ?_
  refine zK_vi (As := [.int xz]) (rest := []) hF (m_isBerth l G cI oz loz liz siz shz saz nz camez cz gz louz Dz Sz shdz shsz thz hn hc9 hS1 hD1 xz) (cwV 1 hts gX2_followersOf_X2_isBerth rfl rfl rfl (by decide +kernel) ⟨Nat.le_of_ble_eq_true rfl, Nat.le_of_ble_eq_true rfl⟩) hK hP hD hS hA (ci := 2) (q0 := 0) rfl rfl rfl (isC := [0, 1, 2, 3, 4, 5]) (isR := []) (perm := [0, 1, 2, 3, 4, 5]) (wr := []) (wN := wm cI oz loz liz siz shz saz nz camez cz gz louz Dz Sz shdz shsz (bI (!hasI nz xz))) ⟨rfl, by decide, rfl, rfl, (fun _ hz => by cases hz), rfl, by decide⟩ [0] rfl rfl hl.1 rfl (Nat.le_of_ble_eq_true rfl) dX2_followersOf_4 ⟨Nat.le_refl _, Nat.le_refl _⟩ (fun H locs hP hD hS => ?_)
  rw [hno] at hP hD
  have hP : va_P G vwCl (wm cI oz loz liz siz shz saz nz camez cz gz louz Dz Sz shdz shsz (nI 1)) H := hP
  have hD : va_D A (wm cI oz loz liz siz shz saz nz camez cz gz louz Dz Sz shdz shsz (nI 1)) := hD
  refine zN (nI 0) (y := (bI (hasI nz xz))) (by rw [hno]; rfl) ?_
  refine lv_istore_n (lv' := [(3, .int (nI 0)), (2, .int (nI 0)), (0, .ref oz), (1, .int xz)]) hx hb dX2_followersOf_7 rfl hl (by decide) rfl (fun ls hl => ?_)
  refine lv_iconst (v := nI 1) hx hb dX2_followersOf_8 (by decide) ?_
  refine lv_istore (lv' := [(4, .int (nI 1)), (3, .int (nI 0)), (2, .int (nI 0)), (0, .ref oz), (1, .int xz)]) hx hb dX2_followersOf_9 hl (by decide) rfl (fun ls hl => ?_)
  refine lv_iload hx hb dX2_followersOf_11 (lv_at hl 0 rfl) ?_
  refine lv_aload_n hx hb dX2_followersOf_13 rfl (lv_at hl 3 rfl) ?_
  refine va_get (D := G) (ci := 2) (v := .int (nI nz)) (C := RX2) (T := TX2) (N := 10) hx hb hts hinX2 hown hK hP 0 rfl rfl 0 (by decide) hf29 (fun _ h9 => h9) rfl dX2_followersOf_14 ?_
  refine lv_icmp_ge (tgt := 48) hx hb dX2_followersOf_17 (by decide) (fun hc17 => ?_) (fun hc17 => ?_)
  · skip
    have k17 : nz ≤ 1 := k_le (by omega) (by omega) hc17
    refine lv_iload_n hx hb dX2_followersOf_48 rfl (lv_at hl 2 rfl) ?_
    exact zE_i hF hr hlk hK hP hD hS dX2_followersOf_49
  · skip
    have k17 : 1 < nz := k_nle (by omega) (by omega) hc17
    refine lv_iload_n hx hb dX2_followersOf_20 rfl (lv_at hl 1 rfl) ?_
    refine lv_if_eq (tgt := 48) hx hb dX2_followersOf_21 (by decide) (fun hc21 => ?_) (fun hc21 => ?_)
    · skip
      have k21 : 0 = 0 := k0_eq (by omega) hc21
      refine lv_iload_n hx hb dX2_followersOf_48 rfl (lv_at hl 2 rfl) ?_
      exact zE_i hF hr hlk hK hP hD hS dX2_followersOf_49
    · exact absurd hc21 (by decide)
set_option maxHeartbeats 4000000 in
set_option maxRecDepth 100000 in
theorem m_followersOf_t (l : Launch) (G : va_G) (cI : ClassId) (oz loz liz siz shz saz : Nat) (nz camez : Nat) (cz gz : Int32) (louz Dz Sz shdz shsz : Fn) (thz : Int32) (hn : nz ≤ 63) (hc9 : camez ≤ 500) (hS1 : okS Sz) (hD1 : okD nz Dz) (bz : Nat) (hb9 : bz < nz) : zC_i l yX2_followersOf wsX2_followersOf ({ frames := 2, cells := 0, slots := 0, locals := 43 }) G [(cI, .int)] (wm cI oz loz liz siz shz saz nz camez cz gz louz Dz Sz shdz shsz thz) (wm cI oz loz liz siz shz saz nz camez cz gz louz Dz Sz shdz shsz (nI 0)) [.ref oz, .int (nI bz)] (flw Sz bz nz) := by
  refine zB_i (cc := cX2_followersOf) (maxL := 5) (ret := (some .int)) (by decide) rfl (Nat.le_of_ble_eq_true rfl) ?_
  intro p e s m args below meth c0 A hF hr hlk hK hA hP hD hS ls hl
  have hx := hF.1
  have hb := hF.2.1
  have hown := hF.2.2.2.1
  have hts := hF.2.2.2.2
  have hf29 := hts (.fieldLink RX2 29 "SnoringDukesModel" "many" "I") (by decide +kernel)
  have hinX2 : ∀ wz ∈ wsX20, wz ∈ wsX2_followersOf := by decide +kernel
  have hl : lv_has ls 5 [(0, .ref oz), (1, .int (nI bz))] := hl
  have hyes : hasI nz (nI bz) = true := by rw [hasI_nI (by omega) (by omega)]; exact decide_eq_true hb9
  refine lv_iconst (v := nI 0) hx hb dX2_followersOf_0 (by decide) ?_
  refine lv_istore_n (lv' := [(2, .int (nI 0)), (0, .ref oz), (1, .int (nI bz))]) hx hb dX2_followersOf_1 rfl hl (by decide) rfl (fun ls hl => ?_)
  refine lv_aload_n hx hb dX2_followersOf_2 rfl (lv_at hl 1 rfl) ?_
  refine lv_iload_n hx hb dX2_followersOf_3 rfl (lv_at hl 2 rfl) ?_
  refine zK_vi (As := [.int (nI bz)]) (rest := []) hF (m_isBerth l G cI oz loz liz siz shz saz nz camez cz gz louz Dz Sz shdz shsz thz hn hc9 hS1 hD1 (nI bz)) (cwV 1 hts gX2_followersOf_X2_isBerth rfl rfl rfl (by decide +kernel) ⟨Nat.le_of_ble_eq_true rfl, Nat.le_of_ble_eq_true rfl⟩) hK hP hD hS hA (ci := 2) (q0 := 0) rfl rfl rfl (isC := [0, 1, 2, 3, 4, 5]) (isR := []) (perm := [0, 1, 2, 3, 4, 5]) (wr := []) (wN := wm cI oz loz liz siz shz saz nz camez cz gz louz Dz Sz shdz shsz (bI (!hasI nz (nI bz)))) ⟨rfl, by decide, rfl, rfl, (fun _ hz => by cases hz), rfl, by decide⟩ [0] rfl rfl hl.1 rfl (Nat.le_of_ble_eq_true rfl) dX2_followersOf_4 ⟨Nat.le_refl _, Nat.le_refl _⟩ (fun H locs hP hD hS => ?_)
  rw [hyes] at hP hD
  have hP : va_P G vwCl (wm cI oz loz liz siz shz saz nz camez cz gz louz Dz Sz shdz shsz (nI 0)) H := hP
  have hD : va_D A (wm cI oz loz liz siz shz saz nz camez cz gz louz Dz Sz shdz shsz (nI 0)) := hD
  refine zN (nI 1) (y := (bI (hasI nz (nI bz)))) (by rw [hyes]; rfl) ?_
  refine lv_istore_n (lv' := [(3, .int (nI 1)), (2, .int (nI 0)), (0, .ref oz), (1, .int (nI bz))]) hx hb dX2_followersOf_7 rfl hl (by decide) rfl (fun ls hl => ?_)
  refine lv_iconst (v := nI 1) hx hb dX2_followersOf_8 (by decide) ?_
  refine lv_istore (lv' := [(4, .int (nI 1)), (3, .int (nI 1)), (2, .int (nI 0)), (0, .ref oz), (1, .int (nI bz))]) hx hb dX2_followersOf_9 hl (by decide) rfl (fun ls hl => ?_)
  have hl : lv_has ls 5 [(4, .int (nI 1)), (3, .int (nI 1)), (2, .int (flw Sz bz 1)), (0, .ref oz), (1, .int (nI bz))] := hl
  have loop : ∀ (f9 : Nat) (iz : Nat), (1 ≤ iz) → (iz ≤ nz) → nz - iz < f9 → ∀ (H : Heap) (locs : List Loc) (ls : Array Slot), va_P G vwCl (wm cI oz loz liz siz shz saz nz camez cz gz louz Dz Sz shdz shsz (nI 0)) H → va_D A (wm cI oz loz liz siz shz saz nz camez cz gz louz Dz Sz shdz shsz (nI 0)) → va_S A s.heap H locs → lv_has ls 5 [(0, .ref oz), (1, .int (nI bz)), (2, .int (flw Sz bz iz)), (3, .int (nI 1)), (4, .int (nI iz))] → W p l e ({ frames := 2, cells := 0, slots := 0, locals := 43 }) s m args below meth c0 H locs 0 0 (zQ_i below G [(cI, .int)] (wm cI oz loz liz siz shz saz nz camez cz gz louz Dz Sz shdz shsz (nI 0)) (flw Sz bz nz) A args s) (F0 m 11 ls []) := by
    intro f9
    induction f9 with
    | zero => intro iz h1 h2 hf; exact absurd hf (Nat.not_lt_zero _)
    | succ f9 ih =>
      intro iz h1 h2 hf H locs ls hP hD hS hl
      have ze := eld_le Sz iz
      refine lv_iload hx hb dX2_followersOf_11 (lv_at hl 4 rfl) ?_
      refine lv_aload_n hx hb dX2_followersOf_13 rfl (lv_at hl 0 rfl) ?_
      refine va_get (D := G) (ci := 2) (v := .int (nI nz)) (C := RX2) (T := TX2) (N := 10) hx hb hts hinX2 hown hK hP 0 rfl rfl 0 (by decide) hf29 (fun _ h9 => h9) rfl dX2_followersOf_14 ?_
      refine lv_icmp_ge (tgt := 48) hx hb dX2_followersOf_17 (by decide) (fun hc17 => ?_) (fun hc17 => ?_)
      · skip
        have k17 : nz ≤ iz := k_le (by omega) (by omega) hc17
        refine lv_iload_n hx hb dX2_followersOf_48 rfl (lv_at hl 2 rfl) ?_
        obtain rfl : nz = iz := by omega
        exact zE_i hF hr hlk hK hP hD hS dX2_followersOf_49
      · skip
        have k17 : iz < nz := k_nle (by omega) (by omega) hc17
        refine lv_iload_n hx hb dX2_followersOf_20 rfl (lv_at hl 3 rfl) ?_
        refine lv_if_eq (tgt := 48) hx hb dX2_followersOf_21 (by decide) (fun hc21 => ?_) (fun hc21 => ?_)
        · exact absurd hc21 (by decide)
        · skip
          have k21 : 0 < 1 := k0_ne (by omega) hc21
          refine lv_iload_n hx hb dX2_followersOf_24 rfl (lv_at hl 2 rfl) ?_
          refine lv_aload_n hx hb dX2_followersOf_25 rfl (lv_at hl 0 rfl) ?_
          refine lv_iload hx hb dX2_followersOf_26 (lv_at hl 4 rfl) ?_
          refine zK_vi (As := [.int (nI iz)]) (rest := [.int (flw Sz bz iz)]) hF (m_elder l G cI oz loz liz siz shz saz nz camez cz gz louz Dz Sz shdz shsz (nI 0) (by omega) (by omega) hS1 hD1 iz (by omega) (by omega)) (cwV 1 hts gX2_followersOf_X2_elder rfl rfl rfl (by decide +kernel) ⟨Nat.le_of_ble_eq_true rfl, Nat.le_of_ble_eq_true rfl⟩) hK hP hD hS hA (ci := 2) (q0 := 0) rfl rfl rfl (isC := [0, 1, 2, 3, 4, 5]) (isR := []) (perm := [0, 1, 2, 3, 4, 5]) (wr := []) (wN := wm cI oz loz liz siz shz saz nz camez cz gz louz Dz Sz shdz shsz (nI 0)) ⟨rfl, by decide, rfl, rfl, (fun _ hz => by cases hz), rfl, by decide⟩ [0] rfl rfl hl.1 rfl (Nat.le_of_ble_eq_true rfl) dX2_followersOf_28 ⟨Nat.le_refl _, Nat.le_refl _⟩ (fun H locs hP hD hS => ?_)
          refine lv_iload_n hx hb dX2_followersOf_31 rfl (lv_at hl 1 rfl) ?_
          refine lv_icmp_ne (tgt := 39) hx hb dX2_followersOf_32 (by decide) (fun hc32 => ?_) (fun hc32 => ?_)
          · skip
            have k32 : (eld Sz iz) ≠ bz := k_ne (by omega) (by omega) hc32
            refine lv_iconst (v := nI 0) hx hb dX2_followersOf_39 (by decide) ?_
            refine lv_iadd hx hb dX2_followersOf_40 ?_
            refine zN (flw Sz bz (iz + 1)) (y := ((flw Sz bz iz) + (nI 0))) (by rw [flw, if_neg (fun qz => k32 qz.2)]; exact z_add0 _) ?_
            refine lv_istore_n (lv' := [(2, .int (flw Sz bz (iz + 1))), (0, .ref oz), (1, .int (nI bz)), (3, .int (nI 1)), (4, .int (nI iz))]) hx hb dX2_followersOf_41 rfl hl (by decide) rfl (fun ls hl => ?_)
            refine lv_iinc (v := nI (iz + 1)) (lv' := [(4, .int (nI (iz + 1))), (2, .int (flw Sz bz (iz + 1))), (0, .ref oz), (1, .int (nI bz)), (3, .int (nI 1))]) hx hb dX2_followersOf_42 hl (k := 4) rfl (nI_1 _) (by decide) rfl (fun ls hl => ?_)
            refine lv_goto (tgt := 11) hx hb dX2_followersOf_45 (by decide) ?_
            exact ih (iz + 1) (by omega) (by omega) (by omega) _ _ _ hP hD hS (lv_sub hl [2, 3, 1, 4, 0] rfl)
          · skip
            have k32 : (eld Sz iz) = bz := k_eq (by omega) (by omega) hc32
            refine lv_iconst (v := nI 1) hx hb dX2_followersOf_35 (by decide) ?_
            refine lv_goto (tgt := 40) hx hb dX2_followersOf_36 (by decide) ?_
            refine lv_iadd hx hb dX2_followersOf_40 ?_
            refine zN (flw Sz bz (iz + 1)) (y := ((flw Sz bz iz) + (nI 1))) (by rw [flw, if_pos ⟨by omega, k32⟩]; rfl) ?_
            refine lv_istore_n (lv' := [(2, .int (flw Sz bz (iz + 1))), (0, .ref oz), (1, .int (nI bz)), (3, .int (nI 1)), (4, .int (nI iz))]) hx hb dX2_followersOf_41 rfl hl (by decide) rfl (fun ls hl => ?_)
            refine lv_iinc (v := nI (iz + 1)) (lv' := [(4, .int (nI (iz + 1))), (2, .int (flw Sz bz (iz + 1))), (0, .ref oz), (1, .int (nI bz)), (3, .int (nI 1))]) hx hb dX2_followersOf_42 hl (k := 4) rfl (nI_1 _) (by decide) rfl (fun ls hl => ?_)
            refine lv_goto (tgt := 11) hx hb dX2_followersOf_45 (by decide) ?_
            exact ih (iz + 1) (by omega) (by omega) (by omega) _ _ _ hP hD hS (lv_sub hl [2, 3, 1, 4, 0] rfl)
  exact loop (nz + 1) 1 (Nat.le_refl _) (by omega) (by omega) _ _ _ hP hD hS (lv_sub hl [3, 4, 2, 1, 0] rfl)
