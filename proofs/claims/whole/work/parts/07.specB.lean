/-! what joining, rising and leaving keep -/
theorem joinF_n (b : Bool) (u : WH) (e j : Nat) : wn (joinF b u e j) = wn u := by
  unfold joinF
  split <;> rfl
theorem joinF_ex (b : Bool) (D L S : Fn) (n : Nat) (c g : Int32) (e j : Nat) : ∃ (D2 L2 S2 : Fn) (c2 g2 : Int32), joinF b (D, L, S, n, c, g) e j = (D2, L2, S2, n, c2, g2) := by
  unfold joinF
  split
  · exact ⟨_, _, _, _, _, rfl⟩
  · exact ⟨_, _, _, _, _, rfl⟩
theorem okS_upd {S : Fn} (h : okS S) {j : Nat} (hj : 0 < j) {x : Int32} (hx : x = 0 ∨ x = 1) : okS (upd S j x) := by
  refine ⟨fun i => ?_, ?_⟩
  · unfold upd
    split
    · exact hx
    · exact h.1 i
  · unfold upd
    rw [if_neg (by omega)]
    exact h.2
theorem okS_upd0 {S : Fn} (h : okS S) (j : Nat) : okS (upd S j 0) := by
  refine ⟨fun i => ?_, ?_⟩
  · unfold upd
    split
    · exact Or.inl rfl
    · exact h.1 i
  · unfold upd
    split
    · rfl
    · exact h.2
theorem z01 {x : Int32} (h : x = 0 ∨ x = 1) : 1 - x = 0 ∨ 1 - x = 1 := by
  rcases h with rfl | rfl
  · exact Or.inr rfl
  · exact Or.inl rfl
theorem joinF_okS {b : Bool} {u : WH} {e j : Nat} (h : okS (wS u)) (hj : 0 < j) : okS (wS (joinF b u e j)) := by
  unfold joinF
  split
  · exact okS_upd h hj (z01 (h.1 j))
  · exact h
theorem joinF_okS' {b : Bool} {D L S D2 L2 S2 : Fn} {n n2 : Nat} {c g c2 g2 : Int32} {e j : Nat} (h : okS S) (hj : 0 < j) (hu : joinF b (D, L, S, n, c, g) e j = (D2, L2, S2, n2, c2, g2)) : okS S2 := by
  have := joinF_okS (b := b) (u := (D, L, S, n, c, g)) (e := e) h hj
  rw [hu] at this
  exact this
theorem riseF_0 {b : Bool} {f : Nat} {u : WH} : riseF b f u 0 = (u, 0) := by
  cases f with
  | zero => rfl
  | succ f => unfold riseF; rw [if_pos rfl]
theorem riseF_go {s : Bool} {f b : Nat} {u : WH} (hb : 0 < b) (h : jc s u (eld (wS u) b) b = true) : riseF s (f + 1) u b = riseF s f (joinF s u (eld (wS u) b) b) (eld (wS u) b) := by
  rw [riseF, if_neg (by omega), if_pos h]
theorem riseF_no {s : Bool} {f b : Nat} {u : WH} (hb : 0 < b) (h : jc s u (eld (wS u) b) b = false) : riseF s (f + 1) u b = (joinF s u (eld (wS u) b) b, b) := by
  rw [riseF, if_neg (by omega), if_neg (by rw [h]; decide)]
theorem riseF_n (s : Bool) : ∀ (f : Nat) (u : WH) (b : Nat), wn (riseF s f u b).1 = wn u
  | 0, u, b => rfl
  | f + 1, u, b => by
    unfold riseF
    split
    · rfl
    · split
      · rw [riseF_n s f, joinF_n]
      · exact joinF_n _ _ _ _
theorem riseF_le (s : Bool) : ∀ (f : Nat) (u : WH) (b : Nat), (riseF s f u b).2 ≤ b
  | 0, u, b => Nat.le_refl _
  | f + 1, u, b => by
    unfold riseF
    split
    · exact Nat.zero_le _
    · rename_i h
      split
      · have := riseF_le s f (joinF s u (eld (wS u) b) b) (eld (wS u) b)
        have := eld_lt (S := wS u) (b := b) (by omega)
        omega
      · exact Nat.le_refl _
theorem riseF_okS {s : Bool} : ∀ {f : Nat} {u : WH} {b : Nat}, okS (wS u) → okS (wS (riseF s f u b).1)
  | 0, u, b, h => h
  | f + 1, u, b, h => by
    unfold riseF
    split
    · exact h
    · split
      · exact riseF_okS (joinF_okS h (by omega))
      · exact joinF_okS h (by omega)
theorem lowF_lt {S : Fn} {n : Nat} : ∀ {f b : Nat}, b < n → lowF S n f b < n
  | 0, b, h => h
  | f + 1, b, h => by
    unfold lowF
    split
    · rename_i h1
      exact lowF_lt h1
    · exact h
theorem lowF_go {S : Fn} {n f b : Nat} (h : 2 * b + sd S b < n) : lowF S n (f + 1) b = lowF S n f (2 * b + sd S b) := by rw [lowF, if_pos h]
theorem lowF_no {S : Fn} {n f b : Nat} (h : ¬ 2 * b + sd S b < n) : lowF S n f b = b := by
  cases f with
  | zero => rfl
  | succ f => rw [lowF, if_neg h]
theorem topF_0 {f : Nat} {u : WH} : topF f u 0 = u := by
  cases f with
  | zero => rfl
  | succ f => rw [topF, if_pos rfl]
theorem topF_go {f b : Nat} {u : WH} (h : 0 < b) : topF (f + 1) u b = topF f (joinF false u 0 b) (b / 2) := by rw [topF, if_neg (by omega)]
theorem topF_n : ∀ (f : Nat) (u : WH) (b : Nat), wn (topF f u b) = wn u
  | 0, u, b => rfl
  | f + 1, u, b => by
    unfold topF
    split
    · rfl
    · rw [topF_n f, joinF_n]
theorem topF_okS : ∀ {f : Nat} {u : WH} {b : Nat}, okS (wS u) → okS (wS (topF f u b))
  | 0, u, b, h => h
  | f + 1, u, b, h => by
    unfold topF
    split
    · exact h
    · exact topF_okS (joinF_okS h (by omega))
theorem rmF_n (u : WH) : wn (rmF u) = wn u - 1 := by
  unfold rmF
  split
  · exact topF_n _ _ _
  · rfl
theorem rmF_okS {u : WH} (h : okS (wS u)) : okS (wS (rmF u)) := by
  unfold rmF
  split
  · exact topF_okS h
  · exact h
theorem rmsF_n (u : WH) : ∀ k, wn (rmsF k u) = wn u - k
  | 0 => rfl
  | k + 1 => by
    rw [rmsF, rmF_n, rmsF_n u k]
    omega
theorem rmsF_okS {u : WH} (h : okS (wS u)) : ∀ k, okS (wS (rmsF k u))
  | 0 => h
  | k + 1 => rmF_okS (rmsF_okS h k)
theorem rmF_ex {D L S : Fn} {n : Nat} {c g : Int32} (h : okS S) {m : Nat} (hm : n - 1 = m) : ∃ (D2 L2 S2 : Fn) (c2 g2 : Int32), rmF (D, L, S, n, c, g) = (D2, L2, S2, m, c2, g2) ∧ okS S2 := by
  have h1 := rmF_n (D, L, S, n, c, g)
  have h2 := rmF_okS (u := (D, L, S, n, c, g)) h
  rcases h3 : rmF (D, L, S, n, c, g) with ⟨D2, L2, S2, n2, c2, g2⟩
  rw [h3] at h1 h2
  have h4 : n2 = m := h1.trans hm
  subst h4
  exact ⟨D2, L2, S2, c2, g2, rfl, h2⟩
theorem allF_n : ∀ (b : Nat) (u : WH), wn (allF b u) = wn u
  | 0, u => rfl
  | b + 1, u => by rw [allF, allF_n b, joinF_n]
theorem allF_okS : ∀ {b : Nat} {u : WH}, okS (wS u) → okS (wS (allF b u))
  | 0, u, h => h
  | b + 1, u, h => by
    rw [allF]
    exact allF_okS (joinF_okS h (Nat.succ_pos b))
theorem zfF_0 (S : Fn) : zfF 0 S = S := by
  funext j
  simp [zfF]
theorem zfF_succ (S : Fn) (k : Nat) : upd (zfF k S) k (nI 0) = zfF (k + 1) S := by
  funext j
  unfold upd zfF
  rcases Nat.lt_trichotomy j k with q | q | q
  · rw [if_neg (by omega), if_pos q, if_pos (by omega)]
  · rw [if_pos q, if_pos (by omega)]
    rfl
  · rw [if_neg (by omega), if_neg (by omega), if_neg (by omega)]
theorem okS_zf {S : Fn} (h : okS S) (k : Nat) : okS (zfF k S) := by
  refine ⟨fun j => ?_, ?_⟩
  · unfold zfF
    split
    · exact Or.inl rfl
    · exact h.1 j
  · unfold zfF
    split
    · rfl
    · exact h.2
theorem flF_0 (f g : Fn) : flF 0 f g = g := by
  funext j
  simp [flF]
theorem flF_succ (f g : Fn) (k : Nat) : upd (flF k f g) k (f k) = flF (k + 1) f g := by
  funext j
  unfold upd flF
  rcases Nat.lt_trichotomy j k with q | q | q
  · rw [if_neg (by omega), if_pos q, if_pos (by omega)]
  · rw [if_pos q, if_pos (by omega), q]
  · rw [if_neg (by omega), if_neg (by omega), if_neg (by omega)]
theorem z_dec {b : Nat} (h : 0 < b) : nI b + Int32.ofInt (-1) = nI (b - 1) := by
  rw [show Int32.ofInt (-1) = (-1 : Int32) from by decide]
  exact sb_m1 h
theorem mskF_lt (S L : Fn) (lim : Int32) : ∀ i, mskF S L lim i < 2 ^ i
  | 0 => by simp [mskF]
  | i + 1 => by
    have ih := mskF_lt S L lim i
    unfold mskF
    rw [Nat.pow_succ]
    split <;> omega
theorem wb_add {m i : Nat} (h : m < 2 ^ i) : m ||| 2 ^ i = m + 2 ^ i := by
  have h1 := Nat.two_pow_add_eq_or_of_lt h 1
  rw [Nat.mul_one] at h1
  rw [Nat.or_comm, ← h1, Nat.add_comm]
theorem z_cmp0 {a : Nat} (ha : a < 2 ^ 63) : lg_cmp (lN a) (lN 0) = 0 ↔ a = 0 := by
  rw [lg_cmp_eq]
  exact pk_lEQ ha (by decide)
theorem fa_nlt {a b : Int32} (h : ¬ b ≤ a) : a < b := by
  simp only [Int32.le_iff_toInt_le, Int32.lt_iff_toInt_lt] at *
  omega
theorem fa_nle {a b : Int32} (h : b ≤ a) : ¬ a < b := by
  simp only [Int32.le_iff_toInt_le, Int32.lt_iff_toInt_lt] at *
  omega
section ZL
variable {p : Program} {l : Launch} {e : Env} {R : Room} {s : State} {m : MethodId} {args : Array Value} {below : List Frame} {meth : Method} {c : Code} {H : Heap} {locs : List Loc} {cells slots : Nat} {Q : State → Prop} {pc : Nat} {ls : Array Slot} {rest : List Value}
theorem zNl (x : Int64) {y : Int64} (h : y = x) (kk : W p l e R s m args below meth c H locs cells slots Q (F0 m pc ls (.long x :: rest))) : W p l e R s m args below meth c H locs cells slots Q (F0 m pc ls (.long y :: rest)) := by
  rw [h]
  exact kk
end ZL
