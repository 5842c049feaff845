/-! ## the law's loop, and what its start gives -/
theorem z_end {a L : Nat} (ha : a ≤ 4096) (hL : L ≤ 4096) : nI L - nI 4 < nI a ↔ L < a + 4 := by
  rw [Int32.lt_iff_toInt_lt, Int32.toInt_sub, nI_toInt (by omega), nI_toInt (by omega), nI_toInt (by omega), Int.bmod_def]
  have : (2 ^ 32 : Nat) = 4294967296 := by decide
  rw [this]
  split <;> omega
set_option maxRecDepth 100000 in
set_option maxHeartbeats 4000000 in
theorem law_env {args : Array Value} {s : State} (hT : ∀ w ∈ tables_1, w.before args s = true) (hgv : (Jvm.Cond.and given_1 narrow_1).before args s = true) : zEnv (fun q : Nat => s.heap.size ≤ q) s s.heap := by
  have hs := flat_of_before _ hgv
  have key : ∀ (k : Nat) (tx : String), (Cond.stringRef RX1 k tx).before args s = true → (Cond.exactly (.string RX1 k) "java/lang/String").before args s = true → ∃ a, vk_R RX1 k tx a s := by
    intro k tx h1 h2
    obtain ⟨a, c, cell, k9, q1, q2, q3, q4, q5, q6, -⟩ := Cond.exactly_spec h2
    exact ⟨a, vk_R.of h1 q1⟩
  have hA : ∀ a : Nat, a < s.heap.size → ¬ (fun q : Nat => s.heap.size ≤ q) a := fun a ha => Nat.not_le.mpr ha
  refine ⟨⟨va_Nw.of rfl (hT (.fieldLinkNest RX1 61 RX0 "size" "I" RX1) (by decide +kernel)), va_Nw.of rfl (hT (.fieldLinkNest RX1 52 RX0 "compared" "I" RX1) (by decide +kernel)), va_Nw.of rfl (hT (.fieldLinkNest RX1 107 RX0 "changed" "I" RX1) (by decide +kernel))⟩, ?_, ⟨⟨va_Nw.of rfl (hT (.castable zIA zIA) (by decide +kernel)), va_Nw.of rfl (hT (.castable zIS zIS) (by decide +kernel)), va_Nw.of rfl (hT (.castable zIX zIX) (by decide +kernel))⟩, ⟨va_Nc.of (hs (.not (.castable zIS zIA)) (by decide +kernel)), va_Nc.of (hs (.not (.castable zIA zIX)) (by decide +kernel))⟩, va_Nw.of rfl (hT (.declares (Bundle.initS "java/lang/RuntimeException")) (by decide +kernel)), va_Nw.of rfl (hT (.declares (Bundle.initS "java/lang/Exception")) (by decide +kernel)), va_Nw.of rfl (hT (.declares (Bundle.initS Bundle.tN)) (by decide +kernel))⟩, vx_Zqof (hT (.laysStatic Bundle.tN "UNASSIGNED_STACK" Bundle.steD) (by decide +kernel)) (hT (.initialized Bundle.tN) (by decide +kernel)) (hs (.isRef (.static Bundle.tN "UNASSIGNED_STACK" Bundle.steD)) (by decide +kernel)) hA, vx_Zqof (hT (.laysStatic Bundle.tN "SUPPRESSED_SENTINEL" Bundle.listD) (by decide +kernel)) (hT (.initialized Bundle.tN) (by decide +kernel)) (hs (.isRef (.static Bundle.tN "SUPPRESSED_SENTINEL" Bundle.listD)) (by decide +kernel)) hA⟩
  exact List.forall_mem_cons.mpr ⟨key 29 "loudness must be 0 to 999" (hT _ (by decide +kernel)) (hs _ (by decide +kernel)), List.forall_mem_cons.mpr ⟨key 39 "63 lie here, or 500 have come" (hT _ (by decide +kernel)) (hs _ (by decide +kernel)), List.forall_mem_cons.mpr ⟨key 46 "dukes must be 1 to 20" (hT _ (by decide +kernel)) (hs _ (by decide +kernel)), List.forall_mem_cons.mpr ⟨key 48 "first and step must be 0 to 999" (hT _ (by decide +kernel)) (hs _ (by decide +kernel)), List.forall_mem_cons.mpr ⟨key 50 "more than 63 would lie here, or more than 500 would have come" (hT _ (by decide +kernel)) (hs _ (by decide +kernel)), List.forall_mem_cons.mpr ⟨key 64 "nobody lies here" (hT _ (by decide +kernel)) (hs _ (by decide +kernel)), List.forall_mem_cons.mpr ⟨key 76 "he does not lie here" (hT _ (by decide +kernel)) (hs _ (by decide +kernel)), List.forall_mem_cons.mpr ⟨key 82 "loudness must be 0 up to what he has" (hT _ (by decide +kernel)) (hs _ (by decide +kernel)), List.forall_mem_cons.mpr ⟨key 120 "there is no such place" (hT _ (by decide +kernel)) (hs _ (by decide +kernel)), List.forall_mem_cons.mpr ⟨key 125 "there is no such berth" (hT _ (by decide +kernel)) (hs _ (by decide +kernel)), fun _ hz => by cases hz⟩⟩⟩⟩⟩⟩⟩⟩⟩⟩
theorem law_G {args : Array Value} {s : State} (hts : ∀ w ∈ wsL_law, w.before args s = true) : ∃ G : va_G, va_K G vwCl [] s := by
  obtain ⟨c0, iS0, hKn0⟩ := u_known (C := RX0) (T := TX0) (N := 6) (n := 6) hts inlX0 (hts (.instantiable RX0 6) (by decide +kernel))
  obtain ⟨c1, iS1, hKn1⟩ := u_known (C := RX1) (T := TX1) (N := 3) (n := 3) hts inlX1 (hts (.instantiable RX1 3) (by decide +kernel))
  obtain ⟨c2, iS2, hKn2⟩ := u_known (C := RX2) (T := TX2) (N := 10) (n := 10) hts inlX2 (hts (.instantiable RX2 10) (by decide +kernel))
  refine ⟨(fun k => if k = 0 then c0 else if k = 1 then c1 else c2, fun k => if k = 0 then iS0 else if k = 1 then iS1 else iS2), ?_, fun k q h => by simp at h⟩
  intro k q hq
  match k, hq with
  | 0, hq => cases hq; exact hKn0
  | 1, hq => cases hq; exact hKn1
  | 2, hq => cases hq; exact hKn2
  | k + 3, hq => simp [vwCl] at hq
theorem Bo_0 : Bo zeroH zeroH 0 0 0 0 (fun _ => 0) (fun _ => 0) (fun _ => 0) := by
  have hO : okS (fun _ => 0) := ⟨fun _ => Or.inl rfl, rfl⟩
  refine ⟨⟨Nat.zero_le _, Nat.zero_le _, hO, ⟨fun b hb => absurd hb (Nat.not_lt_zero b), fun a b ha => absurd ha (Nat.not_lt_zero a)⟩, fun b hb => absurd hb (Nat.not_lt_zero b), ?_⟩, ⟨rfl, rfl, rfl, fun b hb => absurd hb (Nat.not_lt_zero b)⟩, hO, hO⟩
  intro b h1 h2
  exact absurd h2 (Nat.not_lt_zero b)
section LOOP
variable {p : Program} {l : Launch} {e : Env} {s : State} {m : MethodId} {args : Array Value} {below : List Frame} {meth : Method} {c : Code} {Q : State → Prop} {A : Nat → Prop} {G : va_G}
set_option maxHeartbeats 4000000 in
theorem law_loop (hst : l.stackTraces = false) (hF : CallFix p m c cL_law 7 s args wsL_law RL) (hA : ∀ q, s.heap.size ≤ q → A q) (cI cJ : ClassId) (hK : va_K G vwCl [(cI, .int), (cJ, .long)] s) (hE : zEnv A s s.heap) {b L : Nat} {xs : Nat → Int32} (hX : va_X b L xs s s.heap) (hbl : b < s.heap.size) (hbA : ¬ A b) (hL : L ≤ 2048) (o h da la sa h2 da2 la2 sa2 mo lo li si sh ss q : Nat) (kx : ∀ (H : Heap) (locs : List Loc) (ls : Array Slot) (j : Nat), j ≤ 512 → va_S A s.heap H locs → W p l e room_1 s m args below meth c H locs (16 + j) (1156 + 6 * j) Q (F0 m 933 ls [])) : ∀ (d j : Nat), 4 * j ≤ L → L - 4 * j < d → ∀ (came : Nat) (u t : WH) (n : Nat) (c2 g2 : Int32) (lou D S shd shs : Fn) (th : Int32) (f : Nat → Int64), Bo u t came n c2 g2 lou D S → ∀ (H : Heap) (locs : List Loc) (ls : Array Slot), va_P G vwCl (wl cI cJ o h da la sa h2 da2 la2 sa2 mo lo li si sh ss q came u t n came c2 g2 lou D S shd shs th f) H → va_D A (wl cI cJ o h da la sa h2 da2 la2 sa2 mo lo li si sh ss q came u t n came c2 g2 lou D S shd shs th f) → va_S A s.heap H locs → lv_has ls 7 [(0, .ref b), (1, .ref o), (2, .ref mo), (3, .ref q), (4, .int (nI (4 * j)))] → W p l e room_1 s m args below meth c H locs (16 + j) (1156 + 6 * j) Q (F0 m 23 ls [])
  | 0, _, _, h => absurd h (Nat.not_lt_zero _)
  | d + 1, j, hj, hd => by
    intro came u t n c2 g2 lou D S shd shs th f hB H locs ls hP hD hS hl
    obtain ⟨hx, hb, hml, hown, hts⟩ := id hF
    refine lv_iload hx hb dL_law_23 (lv_at hl 4 rfl) ?_
    refine lv_aload_n hx hb dL_law_25 rfl (lv_at hl 0 rfl) ?_
    refine va_slen hx hb hX hbl hbA hS dL_law_26 ?_
    refine zN (nI L) rfl ?_
    refine lv_iconst (v := nI 4) hx hb dL_law_27 (by decide) ?_
    refine lv_isub hx hb dL_law_28 ?_
    refine lv_icmp_gt (tgt := 933) hx hb dL_law_29 (by decide) (fun hc9 => ?_) (fun hc9 => ?_)
    · exact kx H locs ls j (by omega) hS
    have hi : 4 * j + 4 ≤ L := by
      have h9 : ¬ L < 4 * j + 4 := fun h => hc9 ((z_end (by omega) (by omega)).mpr h)
      omega
    have hgo : zGo p l e s m args below meth c Q A G cI cJ b o h da la sa h2 da2 la2 sa2 mo lo li si sh ss q (4 * j) (16 + j + 1) (1156 + 6 * j + 6) := by
      intro came u t n c2 g2 lou D S shd shs th f hB H locs ls hP hD hS hl
      refine lv_iinc (v := nI (4 * (j + 1))) (lv' := [(4, .int (nI (4 * (j + 1)))), (0, .ref b), (1, .ref o), (2, .ref mo), (3, .ref q)]) hx hb dL_law_927 hl (k := 4) rfl (nI_add (4 * j) 4) (by decide) rfl (fun ls hl => ?_)
      refine lv_goto (tgt := 23) hx hb dL_law_930 (by decide) ?_
      refine W.widen (k := 16 + (j + 1)) (n := 1156 + 6 * (j + 1)) (by omega) (by omega) ?_
      exact law_loop hst hF hA cI cJ hK hE hX hbl hbA hL o h da la sa h2 da2 la2 sa2 mo lo li si sh ss q kx d (j + 1) (by omega) (by omega) came u t n c2 g2 lou D S shd shs th f hB H locs ls hP hD hS (lv_sub hl [1, 2, 3, 4, 0] rfl)
    refine lv_aload_n hx hb dL_law_32 rfl (lv_at hl 0 rfl) ?_
    refine lv_iload hx hb dL_law_33 (lv_at hl 4 rfl) ?_
    refine z_sld hx hb hX hbl hbA hL hS (by omega) dL_law_35 ?_
    refine lv_bipush (v := nI 31) hx hb dL_law_36 (by decide) ?_
    refine lv_iand hx hb dL_law_38 ?_
    refine lv_topi (fun v ev => ?_)
    clear ev
    by_cases hv0 : v.toInt = 0
    · refine lv_tableIn (off := 89) (tgt := 128) hx hb dL_law_39 (by omega) (by omega) (by rw [hv0]; rfl) (by decide) ?_
      exact t_come hst hF hA cI cJ hK hE hX hbl hbA hL o h da la sa h2 da2 la2 sa2 mo lo li si sh ss q hB hP hD hS (by omega) (by omega) hi hl hgo
    by_cases hv1 : v.toInt = 1
    · refine lv_tableIn (off := 145) (tgt := 184) hx hb dL_law_39 (by omega) (by omega) (by rw [hv1]; rfl) (by decide) ?_
      exact t_coach hst hF hA cI cJ hK hE hX hbl hbA hL o h da la sa h2 da2 la2 sa2 mo lo li si sh ss q hB hP hD hS (by omega) (by omega) hi hl hgo
    by_cases hv2 : v.toInt = 2
    · refine lv_tableIn (off := 225) (tgt := 264) hx hb dL_law_39 (by omega) (by omega) (by rw [hv2]; rfl) (by decide) ?_
      exact t_leave hst hF hA cI cJ hK hE hX hbl hbA hL o h da la sa h2 da2 la2 sa2 mo lo li si sh ss q hB hP hD hS (by omega) (by omega) hi hl hgo
    by_cases hv3 : v.toInt = 3
    · refine lv_tableIn (off := 269) (tgt := 308) hx hb dL_law_39 (by omega) (by omega) (by rw [hv3]; rfl) (by decide) ?_
      exact t_hush hst hF hA cI cJ hK hE hX hbl hbA hL o h da la sa h2 da2 la2 sa2 mo lo li si sh ss q hB hP hD hS (by omega) (by omega) hi hl hgo
    by_cases hv4 : v.toInt = 4
    · refine lv_tableIn (off := 337) (tgt := 376) hx hb dL_law_39 (by omega) (by omega) (by rw [hv4]; rfl) (by decide) ?_
      exact t_fetch hst hF hA cI cJ hK hE hX hbl hbA hL o h da la sa h2 da2 la2 sa2 mo lo li si sh ss q hB hP hD hS (by omega) (by omega) hi hl hgo
    by_cases hv5 : v.toInt = 5
    · refine lv_tableIn (off := 393) (tgt := 432) hx hb dL_law_39 (by omega) (by omega) (by rw [hv5]; rfl) (by decide) ?_
      exact t_dukes hst hF hA cI cJ hK hE hX hbl hbA hL o h da la sa h2 da2 la2 sa2 mo lo li si sh ss q hB hP hD hS (by omega) (by omega) hi hl hgo
    by_cases hv6 : v.toInt = 6
    · refine lv_tableIn (off := 406) (tgt := 445) hx hb dL_law_39 (by omega) (by omega) (by rw [hv6]; rfl) (by decide) ?_
      exact t_quietest hst hF hA cI cJ hK hE hX hbl hbA hL o h da la sa h2 da2 la2 sa2 mo lo li si sh ss q hB hP hD hS (by omega) (by omega) hi hl hgo
    by_cases hv7 : v.toInt = 7
    · refine lv_tableIn (off := 419) (tgt := 458) hx hb dL_law_39 (by omega) (by omega) (by rw [hv7]; rfl) (by decide) ?_
      exact t_berthOf hst hF hA cI cJ hK hE hX hbl hbA hL o h da la sa h2 da2 la2 sa2 mo lo li si sh ss q hB hP hD hS (by omega) (by omega) hi hl hgo
    by_cases hv8 : v.toInt = 8
    · refine lv_tableIn (off := 444) (tgt := 483) hx hb dL_law_39 (by omega) (by omega) (by rw [hv8]; rfl) (by decide) ?_
      exact t_dukeIn hst hF hA cI cJ hK hE hX hbl hbA hL o h da la sa h2 da2 la2 sa2 mo lo li si sh ss q hB hP hD hS (by omega) (by omega) hi hl hgo
    by_cases hv9 : v.toInt = 9
    · refine lv_tableIn (off := 500) (tgt := 539) hx hb dL_law_39 (by omega) (by omega) (by rw [hv9]; rfl) (by decide) ?_
      exact t_loudnessIn hst hF hA cI cJ hK hE hX hbl hbA hL o h da la sa h2 da2 la2 sa2 mo lo li si sh ss q hB hP hD hS (by omega) (by omega) hi hl hgo
    by_cases hv10 : v.toInt = 10
    · refine lv_tableIn (off := 556) (tgt := 595) hx hb dL_law_39 (by omega) (by omega) (by rw [hv10]; rfl) (by decide) ?_
      exact t_sideOf hst hF hA cI cJ hK hE hX hbl hbA hL o h da la sa h2 da2 la2 sa2 mo lo li si sh ss q hB hP hD hS (by omega) (by omega) hi hl hgo
    by_cases hv11 : v.toInt = 11
    · refine lv_tableIn (off := 612) (tgt := 651) hx hb dL_law_39 (by omega) (by omega) (by rw [hv11]; rfl) (by decide) ?_
      exact t_elderOf hst hF hA cI cJ hK hE hX hbl hbA hL o h da la sa h2 da2 la2 sa2 mo lo li si sh ss q hB hP hD hS (by omega) (by omega) hi hl hgo
    by_cases hv12 : v.toInt = 12
    · refine lv_tableIn (off := 668) (tgt := 707) hx hb dL_law_39 (by omega) (by omega) (by rw [hv12]; rfl) (by decide) ?_
      exact t_followersOf hst hF hA cI cJ hK hE hX hbl hbA hL o h da la sa h2 da2 la2 sa2 mo lo li si sh ss q hB hP hD hS (by omega) (by omega) hi hl hgo
    by_cases hv13 : v.toInt = 13
    · refine lv_tableIn (off := 724) (tgt := 763) hx hb dL_law_39 (by omega) (by omega) (by rw [hv13]; rfl) (by decide) ?_
      exact t_flipped hst hF hA cI cJ hK hE hX hbl hbA hL o h da la sa h2 da2 la2 sa2 mo lo li si sh ss q hB hP hD hS (by omega) (by omega) hi hl hgo
    by_cases hv14 : v.toInt = 14
    · refine lv_tableIn (off := 737) (tgt := 776) hx hb dL_law_39 (by omega) (by omega) (by rw [hv14]; rfl) (by decide) ?_
      exact t_comparisons hst hF hA cI cJ hK hE hX hbl hbA hL o h da la sa h2 da2 la2 sa2 mo lo li si sh ss q hB hP hD hS (by omega) (by omega) hi hl hgo
    by_cases hv15 : v.toInt = 15
    · refine lv_tableIn (off := 750) (tgt := 789) hx hb dL_law_39 (by omega) (by omega) (by rw [hv15]; rfl) (by decide) ?_
      exact t_changes hst hF hA cI cJ hK hE hX hbl hbA hL o h da la sa h2 da2 la2 sa2 mo lo li si sh ss q hB hP hD hS (by omega) (by omega) hi hl hgo
    by_cases hv16 : v.toInt = 16
    · refine lv_tableIn (off := 763) (tgt := 802) hx hb dL_law_39 (by omega) (by omega) (by rw [hv16]; rfl) (by decide) ?_
      exact t_comparisonsToEmpty hst hF hA cI cJ hK hE hX hbl hbA hL o h da la sa h2 da2 la2 sa2 mo lo li si sh ss q hB hP hD hS (by omega) (by omega) hi hl hgo
    by_cases hv17 : v.toInt = 17
    · refine lv_tableIn (off := 776) (tgt := 815) hx hb dL_law_39 (by omega) (by omega) (by rw [hv17]; rfl) (by decide) ?_
      exact t_leavesAt hst hF hA cI cJ hK hE hX hbl hbA hL o h da la sa h2 da2 la2 sa2 mo lo li si sh ss q hB hP hD hS (by omega) (by omega) hi hl hgo
    by_cases hv18 : v.toInt = 18
    · refine lv_tableIn (off := 832) (tgt := 871) hx hb dL_law_39 (by omega) (by omega) (by rw [hv18]; rfl) (by decide) ?_
      exact t_quieterThan hst hF hA cI cJ hK hE hX hbl hbA hL o h da la sa h2 da2 la2 sa2 mo lo li si sh ss q hB hP hD hS (by omega) (by omega) hi hl hgo
    refine lv_tableOut (tgt := 927) hx hb dL_law_39 (by omega) (by decide) ?_
    exact W.widen (k := 16 + j + 1) (n := 1156 + 6 * j + 6) (by omega) (by omega) (hgo came u t n c2 g2 lou D S shd shs th f hB H locs ls hP hD hS hl)
end LOOP
