/-! WeakHeap: what is asked of berths -/
set_option maxHeartbeats 4000000 in
set_option maxRecDepth 100000 in
theorem c_has (l : Launch) (G : va_G) (cI : ClassId) (h da la sa : Nat) (D L S : Fn) (n : Nat) (c g : Int32) (hn : n ≤ 63) (b : Int32) : zC_i l yX0_has wsX0_has ({ frames := 0, cells := 0, slots := 0, locals := 0 }) G [(cI, .int)] (wh cI h da la sa (D, L, S, n, c, g)) (wh cI h da la sa (D, L, S, n, c, g)) [.ref h, .int b] (bI (hasI n b)) := by
  refine zB_i (cc := cX0_has) (maxL := 2) (ret := (some .boolean)) (by decide) rfl (Nat.le_of_ble_eq_true rfl) ?_
  intro p e s m args below meth c0 A hF hr hlk hK hA hP hD hS ls hl
  have hx := hF.1
  have hb := hF.2.1
  have hown := hF.2.2.2.1
  have hts := hF.2.2.2.2
  have hf21 := hts (.fieldLink RX0 21 "SnoringDukes$WeakHeap" "size" "I") (by decide +kernel)
  have hinX0 : ∀ w ∈ wsX00, w ∈ wsX0_has := by decide +kernel
  have hl : lv_has ls 2 [(0, .ref h), (1, .int b)] := hl
  refine lv_iload_n hx hb dX0_has_0 rfl (lv_at hl 1 rfl) ?_
  refine lv_if_lt (tgt := 22) hx hb dX0_has_1 (by decide) (fun hc1 => ?_) (fun hc1 => ?_)
  · skip
    refine lv_iconst (v := nI 0) hx hb dX0_has_22 (by decide) ?_
    rw [has_f0 hc1]
    exact zE_z hF hr hlk (Or.inl rfl) hK hP hD hS dX0_has_23
  · skip
    refine lv_iload_n hx hb dX0_has_4 rfl (lv_at hl 1 rfl) ?_
    refine lv_aload_n hx hb dX0_has_5 rfl (lv_at hl 0 rfl) ?_
    refine va_get (D := G) (ci := 0) (v := .int (nI n)) (C := RX0) (T := TX0) (N := 6) hx hb hts hinX0 hown hK hP 0 rfl rfl 3 (by decide) hf21 (fun _ h9 => h9) rfl dX0_has_6 ?_
    refine lv_icmp_ge (tgt := 22) hx hb dX0_has_9 (by decide) (fun hc9 => ?_) (fun hc9 => ?_)
    · skip
      refine lv_iconst (v := nI 0) hx hb dX0_has_22 (by decide) ?_
      rw [has_f1 hc9]
      exact zE_z hF hr hlk (Or.inl rfl) hK hP hD hS dX0_has_23
    · skip
      refine lv_iload_n hx hb dX0_has_12 rfl (lv_at hl 1 rfl) ?_
      refine lv_bipush (v := nI 63) hx hb dX0_has_13 (by decide) ?_
      refine lv_icmp_ge (tgt := 22) hx hb dX0_has_15 (by decide) (fun hc15 => ?_) (fun hc15 => ?_)
      · skip
        refine lv_iconst (v := nI 0) hx hb dX0_has_22 (by decide) ?_
        rw [has_f2 hn hc15]
        exact zE_z hF hr hlk (Or.inl rfl) hK hP hD hS dX0_has_23
      · skip
        refine lv_iconst (v := nI 1) hx hb dX0_has_18 (by decide) ?_
        refine lv_goto (tgt := 23) hx hb dX0_has_19 (by decide) ?_
        rw [has_t hc1 hc9]
        exact zE_z hF hr hlk (Or.inr rfl) hK hP hD hS dX0_has_23
set_option maxHeartbeats 4000000 in
set_option maxRecDepth 100000 in
theorem c_dukeAt (l : Launch) (G : va_G) (cI : ClassId) (h da la sa : Nat) (D L S : Fn) (n : Nat) (c g : Int32) (hn : n ≤ 63) (b : Nat) (hb9 : b < 1000) : zC_i l yX0_dukeAt wsX0_dukeAt ({ frames := 1, cells := 0, slots := 0, locals := 21 }) G [(cI, .int)] (wh cI h da la sa (D, L, S, n, c, g)) (wh cI h da la sa (D, L, S, n, c, g)) [.ref h, .int (nI b)] (if b < n then D b else -1) := by
  refine zB_i (cc := cX0_dukeAt) (maxL := 2) (ret := (some .int)) (by decide) rfl (Nat.le_of_ble_eq_true rfl) ?_
  intro p e s m args below meth c0 A hF hr hlk hK hA hP hD hS ls hl
  have hx := hF.1
  have hb := hF.2.1
  have hown := hF.2.2.2.1
  have hts := hF.2.2.2.2
  have hf9 := hts (.fieldLink RX0 9 "SnoringDukes$WeakHeap" "duke" "[I") (by decide +kernel)
  have hinX0 : ∀ w ∈ wsX00, w ∈ wsX0_dukeAt := by decide +kernel
  have hl : lv_has ls 2 [(0, .ref h), (1, .int (nI b))] := hl
  refine lv_aload_n hx hb dX0_dukeAt_0 rfl (lv_at hl 0 rfl) ?_
  refine lv_iload_n hx hb dX0_dukeAt_1 rfl (lv_at hl 1 rfl) ?_
  refine zK_vi (As := [.int (nI b)]) (rest := []) hF (c_has l G cI h da la sa (D) (L) (S) (n) (c) (g) hn (nI b)) (cwV 1 hts gX0_dukeAt_X0_has rfl rfl rfl (by decide +kernel) ⟨Nat.le_of_ble_eq_true rfl, Nat.le_of_ble_eq_true rfl⟩) hK hP hD hS hA (ci := 0) (q0 := 0) rfl rfl rfl (isC := [0, 1, 2, 3]) (isR := []) (perm := [0, 1, 2, 3]) (wr := []) (wN := wh cI h da la sa (D, L, S, n, c, g)) ⟨rfl, by decide, rfl, rfl, (fun _ h => by cases h), rfl, by decide⟩ [0] rfl rfl hl.1 rfl (Nat.le_of_ble_eq_true rfl) dX0_dukeAt_2 ⟨Nat.le_refl _, Nat.le_refl _⟩ (fun H locs hP hD hS => ?_)
  refine zN (bI (decide (b < n))) (y := (bI (hasI n (nI b)))) (by rw [hasI_nI (by omega) (by omega)]) ?_
  refine lv_if_eq (tgt := 17) hx hb dX0_dukeAt_5 (by decide) (fun hc5 => ?_) (fun hc5 => ?_)
  · skip
    have k5 : (decide (b < n)) = false := bI_e0.mp hc5
    refine lv_iconst (v := (-1)) hx hb dX0_dukeAt_17 (by decide) ?_
    have k : ¬ b < n := of_decide_eq_false k5
    rw [if_neg k]
    exact zE_i hF hr hlk hK hP hD hS dX0_dukeAt_18
  · skip
    have k5 : (decide (b < n)) = true := bI_ne.mp hc5
    have k : b < n := of_decide_eq_true k5
    refine lv_aload_n hx hb dX0_dukeAt_8 rfl (lv_at hl 0 rfl) ?_
    refine va_get (D := G) (ci := 0) (v := .ref da) (C := RX0) (T := TX0) (N := 6) hx hb hts hinX0 hown hK hP 0 rfl rfl 0 (by decide) hf9 (fun _ h9 => h9) rfl dX0_dukeAt_9 ?_
    refine lv_iload_n hx hb dX0_dukeAt_12 rfl (lv_at hl 1 rfl) ?_
    refine zA_ld hx hb hK hP 1 0 rfl rfl (by omega) (by decide) dX0_dukeAt_13 ?_
    refine lv_goto (tgt := 18) hx hb dX0_dukeAt_14 (by decide) ?_
    have k : b < n := of_decide_eq_true k5
    rw [if_pos k]
    exact zE_i hF hr hlk hK hP hD hS dX0_dukeAt_18
set_option maxHeartbeats 4000000 in
set_option maxRecDepth 100000 in
theorem c_loudnessAt (l : Launch) (G : va_G) (cI : ClassId) (h da la sa : Nat) (D L S : Fn) (n : Nat) (c g : Int32) (hn : n ≤ 63) (b : Nat) (hb9 : b < 1000) : zC_i l yX0_loudnessAt wsX0_loudnessAt ({ frames := 1, cells := 0, slots := 0, locals := 21 }) G [(cI, .int)] (wh cI h da la sa (D, L, S, n, c, g)) (wh cI h da la sa (D, L, S, n, c, g)) [.ref h, .int (nI b)] (if b < n then L b else -1) := by
  refine zB_i (cc := cX0_loudnessAt) (maxL := 2) (ret := (some .int)) (by decide) rfl (Nat.le_of_ble_eq_true rfl) ?_
  intro p e s m args below meth c0 A hF hr hlk hK hA hP hD hS ls hl
  have hx := hF.1
  have hb := hF.2.1
  have hown := hF.2.2.2.1
  have hts := hF.2.2.2.2
  have hf15 := hts (.fieldLink RX0 15 "SnoringDukes$WeakHeap" "loudness" "[I") (by decide +kernel)
  have hinX0 : ∀ w ∈ wsX00, w ∈ wsX0_loudnessAt := by decide +kernel
  have hl : lv_has ls 2 [(0, .ref h), (1, .int (nI b))] := hl
  refine lv_aload_n hx hb dX0_loudnessAt_0 rfl (lv_at hl 0 rfl) ?_
  refine lv_iload_n hx hb dX0_loudnessAt_1 rfl (lv_at hl 1 rfl) ?_
  refine zK_vi (As := [.int (nI b)]) (rest := []) hF (c_has l G cI h da la sa (D) (L) (S) (n) (c) (g) hn (nI b)) (cwV 1 hts gX0_loudnessAt_X0_has rfl rfl rfl (by decide +kernel) ⟨Nat.le_of_ble_eq_true rfl, Nat.le_of_ble_eq_true rfl⟩) hK hP hD hS hA (ci := 0) (q0 := 0) rfl rfl rfl (isC := [0, 1, 2, 3]) (isR := []) (perm := [0, 1, 2, 3]) (wr := []) (wN := wh cI h da la sa (D, L, S, n, c, g)) ⟨rfl, by decide, rfl, rfl, (fun _ h => by cases h), rfl, by decide⟩ [0] rfl rfl hl.1 rfl (Nat.le_of_ble_eq_true rfl) dX0_loudnessAt_2 ⟨Nat.le_refl _, Nat.le_refl _⟩ (fun H locs hP hD hS => ?_)
  refine zN (bI (decide (b < n))) (y := (bI (hasI n (nI b)))) (by rw [hasI_nI (by omega) (by omega)]) ?_
  refine lv_if_eq (tgt := 17) hx hb dX0_loudnessAt_5 (by decide) (fun hc5 => ?_) (fun hc5 => ?_)
  · skip
    have k5 : (decide (b < n)) = false := bI_e0.mp hc5
    refine lv_iconst (v := (-1)) hx hb dX0_loudnessAt_17 (by decide) ?_
    have k : ¬ b < n := of_decide_eq_false k5
    rw [if_neg k]
    exact zE_i hF hr hlk hK hP hD hS dX0_loudnessAt_18
  · skip
    have k5 : (decide (b < n)) = true := bI_ne.mp hc5
    have k : b < n := of_decide_eq_true k5
    refine lv_aload_n hx hb dX0_loudnessAt_8 rfl (lv_at hl 0 rfl) ?_
    refine va_get (D := G) (ci := 0) (v := .ref la) (C := RX0) (T := TX0) (N := 6) hx hb hts hinX0 hown hK hP 0 rfl rfl 1 (by decide) hf15 (fun _ h9 => h9) rfl dX0_loudnessAt_9 ?_
    refine lv_iload_n hx hb dX0_loudnessAt_12 rfl (lv_at hl 1 rfl) ?_
    refine zA_ld hx hb hK hP 2 0 rfl rfl (by omega) (by decide) dX0_loudnessAt_13 ?_
    refine lv_goto (tgt := 18) hx hb dX0_loudnessAt_14 (by decide) ?_
    have k : b < n := of_decide_eq_true k5
    rw [if_pos k]
    exact zE_i hF hr hlk hK hP hD hS dX0_loudnessAt_18
set_option maxHeartbeats 4000000 in
set_option maxRecDepth 100000 in
theorem c_sideAt (l : Launch) (G : va_G) (cI : ClassId) (h da la sa : Nat) (D L S : Fn) (n : Nat) (c g : Int32) (hn : n ≤ 63) (b : Nat) (hb9 : b < 1000) : zC_i l yX0_sideAt wsX0_sideAt ({ frames := 1, cells := 0, slots := 0, locals := 21 }) G [(cI, .int)] (wh cI h da la sa (D, L, S, n, c, g)) (wh cI h da la sa (D, L, S, n, c, g)) [.ref h, .int (nI b)] (if b < n then S b else 0) := by
  refine zB_i (cc := cX0_sideAt) (maxL := 2) (ret := (some .int)) (by decide) rfl (Nat.le_of_ble_eq_true rfl) ?_
  intro p e s m args below meth c0 A hF hr hlk hK hA hP hD hS ls hl
  have hx := hF.1
  have hb := hF.2.1
  have hown := hF.2.2.2.1
  have hts := hF.2.2.2.2
  have hf18 := hts (.fieldLink RX0 18 "SnoringDukes$WeakHeap" "side" "[I") (by decide +kernel)
  have hinX0 : ∀ w ∈ wsX00, w ∈ wsX0_sideAt := by decide +kernel
  have hl : lv_has ls 2 [(0, .ref h), (1, .int (nI b))] := hl
  refine lv_aload_n hx hb dX0_sideAt_0 rfl (lv_at hl 0 rfl) ?_
  refine lv_iload_n hx hb dX0_sideAt_1 rfl (lv_at hl 1 rfl) ?_
  refine zK_vi (As := [.int (nI b)]) (rest := []) hF (c_has l G cI h da la sa (D) (L) (S) (n) (c) (g) hn (nI b)) (cwV 1 hts gX0_sideAt_X0_has rfl rfl rfl (by decide +kernel) ⟨Nat.le_of_ble_eq_true rfl, Nat.le_of_ble_eq_true rfl⟩) hK hP hD hS hA (ci := 0) (q0 := 0) rfl rfl rfl (isC := [0, 1, 2, 3]) (isR := []) (perm := [0, 1, 2, 3]) (wr := []) (wN := wh cI h da la sa (D, L, S, n, c, g)) ⟨rfl, by decide, rfl, rfl, (fun _ h => by cases h), rfl, by decide⟩ [0] rfl rfl hl.1 rfl (Nat.le_of_ble_eq_true rfl) dX0_sideAt_2 ⟨Nat.le_refl _, Nat.le_refl _⟩ (fun H locs hP hD hS => ?_)
  refine zN (bI (decide (b < n))) (y := (bI (hasI n (nI b)))) (by rw [hasI_nI (by omega) (by omega)]) ?_
  refine lv_if_eq (tgt := 17) hx hb dX0_sideAt_5 (by decide) (fun hc5 => ?_) (fun hc5 => ?_)
  · skip
    have k5 : (decide (b < n)) = false := bI_e0.mp hc5
    refine lv_iconst (v := nI 0) hx hb dX0_sideAt_17 (by decide) ?_
    have k : ¬ b < n := of_decide_eq_false k5
    rw [if_neg k]
    exact zE_i hF hr hlk hK hP hD hS dX0_sideAt_18
  · skip
    have k5 : (decide (b < n)) = true := bI_ne.mp hc5
    have k : b < n := of_decide_eq_true k5
    refine lv_aload_n hx hb dX0_sideAt_8 rfl (lv_at hl 0 rfl) ?_
    refine va_get (D := G) (ci := 0) (v := .ref sa) (C := RX0) (T := TX0) (N := 6) hx hb hts hinX0 hown hK hP 0 rfl rfl 2 (by decide) hf18 (fun _ h9 => h9) rfl dX0_sideAt_9 ?_
    refine lv_iload_n hx hb dX0_sideAt_12 rfl (lv_at hl 1 rfl) ?_
    refine zA_ld hx hb hK hP 3 0 rfl rfl (by omega) (by decide) dX0_sideAt_13 ?_
    refine lv_goto (tgt := 18) hx hb dX0_sideAt_14 (by decide) ?_
    have k : b < n := of_decide_eq_true k5
    rw [if_pos k]
    exact zE_i hF hr hlk hK hP hD hS dX0_sideAt_18
set_option maxHeartbeats 4000000 in
set_option maxRecDepth 100000 in
theorem c_left (l : Launch) (G : va_G) (cI : ClassId) (h da la sa : Nat) (D L S : Fn) (n : Nat) (c g : Int32) (hn : n ≤ 63) (hS1 : okS S) (b : Nat) (hb9 : b < n) : zC_i l yX0_left wsX0_left ({ frames := 2, cells := 0, slots := 0, locals := 42 }) G [(cI, .int)] (wh cI h da la sa (D, L, S, n, c, g)) (wh cI h da la sa (D, L, S, n, c, g)) [.ref h, .int (nI b)] (nI (2 * b + sd S b)) := by
  refine zB_i (cc := cX0_left) (maxL := 2) (ret := (some .int)) (by decide) rfl (Nat.le_of_ble_eq_true rfl) ?_
  intro p e s m args below meth c0 A hF hr hlk hK hA hP hD hS ls hl
  have hx := hF.1
  have hb := hF.2.1
  have hown := hF.2.2.2.1
  have hts := hF.2.2.2.2
  have hl : lv_has ls 2 [(0, .ref h), (1, .int (nI b))] := hl
  refine lv_iconst (v := nI 2) hx hb dX0_left_0 (by decide) ?_
  refine lv_iload_n hx hb dX0_left_1 rfl (lv_at hl 1 rfl) ?_
  refine lv_imul hx hb dX0_left_2 ?_
  refine zN (nI (2 * b)) (y := ((nI 2) * (nI b))) (pk_mul _ _) ?_
  refine lv_aload_n hx hb dX0_left_3 rfl (lv_at hl 0 rfl) ?_
  refine lv_iload_n hx hb dX0_left_4 rfl (lv_at hl 1 rfl) ?_
  refine zK_vi (As := [.int (nI b)]) (rest := [.int (nI (2 * b))]) hF (c_sideAt l G cI h da la sa (D) (L) (S) (n) (c) (g) hn b (by omega)) (cwV 1 hts gX0_left_X0_sideAt rfl rfl rfl (by decide +kernel) ⟨Nat.le_of_ble_eq_true rfl, Nat.le_of_ble_eq_true rfl⟩) hK hP hD hS hA (ci := 0) (q0 := 0) rfl rfl rfl (isC := [0, 1, 2, 3]) (isR := []) (perm := [0, 1, 2, 3]) (wr := []) (wN := wh cI h da la sa (D, L, S, n, c, g)) ⟨rfl, by decide, rfl, rfl, (fun _ h => by cases h), rfl, by decide⟩ [0] rfl rfl hl.1 rfl (Nat.le_of_ble_eq_true rfl) dX0_left_5 ⟨Nat.le_refl _, Nat.le_refl _⟩ (fun H locs hP hD hS => ?_)
  refine zN (nI (sd S b)) (y := (if b < n then S b else 0)) (by rw [if_pos hb9]; exact sd_nI hS1 b) ?_
  refine lv_iadd hx hb dX0_left_8 ?_
  refine zN (nI ((2 * b) + (sd S b))) (y := ((nI (2 * b)) + (nI (sd S b)))) (nI_add _ _) ?_
  exact zE_i hF hr hlk hK hP hD hS dX0_left_9
set_option maxHeartbeats 4000000 in
set_option maxRecDepth 100000 in
theorem c_find (l : Launch) (G : va_G) (cI : ClassId) (h da la sa : Nat) (D L S : Fn) (n : Nat) (c g : Int32) (hn : n ≤ 63) (x : Int32) : zC_i l yX0_find wsX0_find ({ frames := 2, cells := 0, slots := 0, locals := 42 }) G [(cI, .int)] (wh cI h da la sa (D, L, S, n, c, g)) (wh cI h da la sa (D, L, S, n, c, g)) [.ref h, .int x] (fndI D n x) := by
  refine zB_i (cc := cX0_find) (maxL := 3) (ret := (some .int)) (by decide) rfl (Nat.le_of_ble_eq_true rfl) ?_
  intro p e s m args below meth c0 A hF hr hlk hK hA hP hD hS ls hl
  have hx := hF.1
  have hb := hF.2.1
  have hown := hF.2.2.2.1
  have hts := hF.2.2.2.2
  have hf21 := hts (.fieldLink RX0 21 "SnoringDukes$WeakHeap" "size" "I") (by decide +kernel)
  have hinX0 : ∀ w ∈ wsX00, w ∈ wsX0_find := by decide +kernel
  have hl : lv_has ls 3 [(0, .ref h), (1, .int x)] := hl
  refine lv_iconst (v := nI 0) hx hb dX0_find_0 (by decide) ?_
  refine lv_istore_n (lv' := [(2, .int (nI 0)), (0, .ref h), (1, .int x)]) hx hb dX0_find_1 rfl hl (by decide) rfl (fun ls hl => ?_)
  have loop : ∀ (f9 : Nat) (i : Nat), (i ≤ n) → (∀ j, j < i → D j ≠ x) → n - i < f9 → ∀ (H : Heap) (locs : List Loc) (ls : Array Slot), va_P G vwCl (wh cI h da la sa (D, L, S, n, c, g)) H → va_D A (wh cI h da la sa (D, L, S, n, c, g)) → va_S A s.heap H locs → lv_has ls 3 [(0, .ref h), (1, .int x), (2, .int (nI i))] → W p l e ({ frames := 2, cells := 0, slots := 0, locals := 42 }) s m args below meth c0 H locs 0 0 (zQ_i below G [(cI, .int)] (wh cI h da la sa (D, L, S, n, c, g)) (fndI D n x) A args s) (F0 m 2 ls []) := by
    intro f9
    induction f9 with
    | zero => intro i hi hi2 hf; exact absurd hf (Nat.not_lt_zero _)
    | succ f9 ih =>
      intro i hi hi2 hf H locs ls hP hD hS hl
      refine lv_iload_n hx hb dX0_find_2 rfl (lv_at hl 2 rfl) ?_
      refine lv_aload_n hx hb dX0_find_3 rfl (lv_at hl 0 rfl) ?_
      refine va_get (D := G) (ci := 0) (v := .int (nI n)) (C := RX0) (T := TX0) (N := 6) hx hb hts hinX0 hown hK hP 0 rfl rfl 3 (by decide) hf21 (fun _ h9 => h9) rfl dX0_find_4 ?_
      refine lv_icmp_ge (tgt := 27) hx hb dX0_find_7 (by decide) (fun hc7 => ?_) (fun hc7 => ?_)
      · skip
        have k7 : n ≤ i := k_le (by omega) (by omega) hc7
        refine lv_iconst (v := (-1)) hx hb dX0_find_27 (by decide) ?_
        have e9 : fndI D n x = -1 := by unfold fndI; rw [if_neg (fnd_none (n := n) (fun j hj => hi2 j (by omega)))]
        rw [e9]
        exact zE_i hF hr hlk hK hP hD hS dX0_find_28
      · skip
        have k7 : i < n := k_nle (by omega) (by omega) hc7
        refine lv_aload_n hx hb dX0_find_10 rfl (lv_at hl 0 rfl) ?_
        refine lv_iload_n hx hb dX0_find_11 rfl (lv_at hl 2 rfl) ?_
        refine zK_vi (As := [.int (nI i)]) (rest := []) hF (c_dukeAt l G cI h da la sa (D) (L) (S) (n) (c) (g) hn i (by omega)) (cwV 1 hts gX0_find_X0_dukeAt rfl rfl rfl (by decide +kernel) ⟨Nat.le_of_ble_eq_true rfl, Nat.le_of_ble_eq_true rfl⟩) hK hP hD hS hA (ci := 0) (q0 := 0) rfl rfl rfl (isC := [0, 1, 2, 3]) (isR := []) (perm := [0, 1, 2, 3]) (wr := []) (wN := wh cI h da la sa (D, L, S, n, c, g)) ⟨rfl, by decide, rfl, rfl, (fun _ h => by cases h), rfl, by decide⟩ [0] rfl rfl hl.1 rfl (Nat.le_of_ble_eq_true rfl) dX0_find_12 ⟨Nat.le_refl _, Nat.le_refl _⟩ (fun H locs hP hD hS => ?_)
        refine zN (D i) (y := (if i < n then D i else -1)) (if_pos k7) ?_
        refine lv_iload_n hx hb dX0_find_15 rfl (lv_at hl 1 rfl) ?_
        refine lv_icmp_ne (tgt := 21) hx hb dX0_find_16 (by decide) (fun hc16 => ?_) (fun hc16 => ?_)
        · skip
          refine lv_iinc (v := nI (i + 1)) (lv' := [(2, .int (nI (i + 1))), (0, .ref h), (1, .int x)]) hx hb dX0_find_21 hl (k := 2) rfl (nI_1 _) (by decide) rfl (fun ls hl => ?_)
          refine lv_goto (tgt := 2) hx hb dX0_find_24 (by decide) ?_
          exact ih (i + 1) k7 (fun j hj => by rcases Nat.lt_succ_iff_lt_or_eq.mp hj with q | q; exact hi2 j q; rw [q]; exact hc16) (by omega) _ _ _ hP hD hS (lv_sub hl [1, 2, 0] rfl)
        · skip
          refine lv_iload_n hx hb dX0_find_19 rfl (lv_at hl 2 rfl) ?_
          have e9 : fndI D n x = nI i := by unfold fndI; rw [fnd_at k7 hc16 hi2, if_pos k7]
          rw [e9]
          exact zE_i hF hr hlk hK hP hD hS dX0_find_20
  exact loop (n + 1) 0 (Nat.zero_le _) (fun j hj => absurd hj (Nat.not_lt_zero _)) (by omega) _ _ _ hP hD hS (lv_sub hl [1, 2, 0] rfl)
set_option maxHeartbeats 4000000 in
set_option maxRecDepth 100000 in
theorem c_elder (l : Launch) (G : va_G) (cI : ClassId) (h da la sa : Nat) (D L S : Fn) (n : Nat) (c g : Int32) (hn : n ≤ 63) (hS1 : okS S) (b : Nat) (hb9 : b < n) : zC_i l yX0_elder wsX0_elder ({ frames := 3, cells := 0, slots := 0, locals := 63 }) G [(cI, .int)] (wh cI h da la sa (D, L, S, n, c, g)) (wh cI h da la sa (D, L, S, n, c, g)) [.ref h, .int (nI b)] (nI (eld S b)) := by
  refine zB_i (cc := cX0_elder) (maxL := 3) (ret := (some .int)) (by decide) rfl (Nat.le_of_ble_eq_true rfl) ?_
  intro p e s m args below meth c0 A hF hr hlk hK hA hP hD hS ls hl
  have hx := hF.1
  have hb := hF.2.1
  have hown := hF.2.2.2.1
  have hts := hF.2.2.2.2
  have hl : lv_has ls 3 [(0, .ref h), (1, .int (nI b))] := hl
  refine lv_iload_n hx hb dX0_elder_0 rfl (lv_at hl 1 rfl) ?_
  refine lv_istore_n (lv' := [(2, .int (nI b)), (0, .ref h), (1, .int (nI b))]) hx hb dX0_elder_1 rfl hl (by decide) rfl (fun ls hl => ?_)
  have loop : ∀ (f9 : Nat) (at9 : Nat), (at9 ≤ b) → (eld S at9 = eld S b) → at9 < f9 → ∀ (H : Heap) (locs : List Loc) (ls : Array Slot), va_P G vwCl (wh cI h da la sa (D, L, S, n, c, g)) H → va_D A (wh cI h da la sa (D, L, S, n, c, g)) → va_S A s.heap H locs → lv_has ls 3 [(0, .ref h), (1, .int (nI b)), (2, .int (nI at9))] → W p l e ({ frames := 3, cells := 0, slots := 0, locals := 63 }) s m args below meth c0 H locs 0 0 (zQ_i below G [(cI, .int)] (wh cI h da la sa (D, L, S, n, c, g)) (nI (eld S b)) A args s) (F0 m 2 ls []) := by
    intro f9
    induction f9 with
    | zero => intro at9 h1 h2 hf; exact absurd hf (Nat.not_lt_zero _)
    | succ f9 ih =>
      intro at9 h1 h2 hf H locs ls hP hD hS hl
      have z1 := sd_le S (at9 / 2)
      refine lv_iload_n hx hb dX0_elder_2 rfl (lv_at hl 2 rfl) ?_
      refine lv_iconst (v := nI 1) hx hb dX0_elder_3 (by decide) ?_
      refine lv_icmp_le (tgt := 25) hx hb dX0_elder_4 (by decide) (fun hc4 => ?_) (fun hc4 => ?_)
      · skip
        have k4 : at9 ≤ 1 := k_le (by omega) (by omega) hc4
        refine lv_iload_n hx hb dX0_elder_25 rfl (lv_at hl 2 rfl) ?_
        refine lv_iconst (v := nI 2) hx hb dX0_elder_26 (by decide) ?_
        refine lv_idiv hx hb dX0_elder_27 (by decide) ?_
        refine zN (nI (at9 / 2)) (y := ((nI at9) / (nI 2))) (pk_div (by omega) (by decide) (by decide)) ?_
        have e9 : at9 / 2 = eld S b := by rw [← h2, eld_1 k4]; omega
        rw [← e9]
        exact zE_i hF hr hlk hK hP hD hS dX0_elder_28
      · skip
        have k4 : 1 < at9 := k_nle (by omega) (by omega) hc4
        refine lv_iload_n hx hb dX0_elder_7 rfl (lv_at hl 2 rfl) ?_
        refine lv_aload_n hx hb dX0_elder_8 rfl (lv_at hl 0 rfl) ?_
        refine lv_iload_n hx hb dX0_elder_9 rfl (lv_at hl 2 rfl) ?_
        refine lv_iconst (v := nI 2) hx hb dX0_elder_10 (by decide) ?_
        refine lv_idiv hx hb dX0_elder_11 (by decide) ?_
        refine zN (nI (at9 / 2)) (y := ((nI at9) / (nI 2))) (pk_div (by omega) (by decide) (by decide)) ?_
        refine zK_vi (As := [.int (nI (at9 / 2))]) (rest := [.int (nI at9)]) hF (c_left l G cI h da la sa (D) (L) (S) (n) (c) (g) hn hS1 (at9 / 2) (by omega)) (cwV 1 hts gX0_elder_X0_left rfl rfl rfl (by decide +kernel) ⟨Nat.le_of_ble_eq_true rfl, Nat.le_of_ble_eq_true rfl⟩) hK hP hD hS hA (ci := 0) (q0 := 0) rfl rfl rfl (isC := [0, 1, 2, 3]) (isR := []) (perm := [0, 1, 2, 3]) (wr := []) (wN := wh cI h da la sa (D, L, S, n, c, g)) ⟨rfl, by decide, rfl, rfl, (fun _ h => by cases h), rfl, by decide⟩ [0] rfl rfl hl.1 rfl (Nat.le_of_ble_eq_true rfl) dX0_elder_12 ⟨Nat.le_refl _, Nat.le_refl _⟩ (fun H locs hP hD hS => ?_)
        refine lv_icmp_ne (tgt := 25) hx hb dX0_elder_15 (by decide) (fun hc15 => ?_) (fun hc15 => ?_)
        · skip
          have k15 : at9 ≠ (2 * (at9 / 2) + sd S (at9 / 2)) := k_ne (by omega) (by omega) hc15
          refine lv_iload_n hx hb dX0_elder_25 rfl (lv_at hl 2 rfl) ?_
          refine lv_iconst (v := nI 2) hx hb dX0_elder_26 (by decide) ?_
          refine lv_idiv hx hb dX0_elder_27 (by decide) ?_
          refine zN (nI (at9 / 2)) (y := ((nI at9) / (nI 2))) (pk_div (by omega) (by decide) (by decide)) ?_
          have e9 : at9 / 2 = eld S b := by rw [← h2, eld_st (by omega) (by omega)]
          rw [← e9]
          exact zE_i hF hr hlk hK hP hD hS dX0_elder_28
        · skip
          have k15 : at9 = (2 * (at9 / 2) + sd S (at9 / 2)) := k_eq (by omega) (by omega) hc15
          refine lv_iload_n hx hb dX0_elder_18 rfl (lv_at hl 2 rfl) ?_
          refine lv_iconst (v := nI 2) hx hb dX0_elder_19 (by decide) ?_
          refine lv_idiv hx hb dX0_elder_20 (by decide) ?_
          refine zN (nI (at9 / 2)) (y := ((nI at9) / (nI 2))) (pk_div (by omega) (by decide) (by decide)) ?_
          refine lv_istore_n (lv' := [(2, .int (nI (at9 / 2))), (0, .ref h), (1, .int (nI b))]) hx hb dX0_elder_21 rfl hl (by decide) rfl (fun ls hl => ?_)
          refine lv_goto (tgt := 2) hx hb dX0_elder_22 (by decide) ?_
          exact ih (at9 / 2) (by omega) (eld_up (b := at9) (by omega) (by omega)).symm.trans h2 (by omega) _ _ _ hP hD hS (lv_sub hl [1, 2, 0] rfl)
  exact loop (b + 1) b (Nat.le_refl _) rfl (by omega) _ _ _ hP hD hS (lv_sub hl [1, 2, 0] rfl)
