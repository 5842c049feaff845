/-! the weak heap's order, and that class and reference go on alike -/
theorem ile_trans {a b c : Int32} (h : a ≤ b) (h2 : b ≤ c) : a ≤ c := by
  simp only [Int32.le_iff_toInt_le] at *
  omega
theorem ilt_le {a b : Int32} (h : a < b) : a ≤ b := by
  simp only [Int32.le_iff_toInt_le, Int32.lt_iff_toInt_lt] at *
  omega
theorem ile_rfl (a : Int32) : a ≤ a := by simp only [Int32.le_iff_toInt_le]; omega
theorem sd_flip {S : Fn} (h : okS S) (j x : Nat) : sd (upd S j (1 - S j)) x = if x = j then 1 - sd S j else sd S x := by
  unfold sd upd
  by_cases e : x = j
  · rw [if_pos e, if_pos e]
    rcases h.1 j with q | q
    · rw [q]; decide
    · rw [q]; decide
  · rw [if_neg e, if_neg e]
theorem eld_flip {S : Fn} (h : okS S) {j : Nat} (hj : 0 < j) : ∀ x, (eld (upd S j (1 - S j)) x = eld S x ∧ eld S x ≠ j) ∨ (eld S x = j ∧ eld (upd S j (1 - S j)) x = eld S j ∧ j < x) ∨ (eld S x = eld S j ∧ eld (upd S j (1 - S j)) x = j ∧ j < x) := by
  intro x
  induction x using Nat.strongRecOn with
  | ind x ih =>
    by_cases h1 : x ≤ 1
    · rw [eld_1 h1, eld_1 h1]
      exact Or.inl ⟨rfl, by omega⟩
    · have hs := sd_flip h j (x / 2)
      have hl := sd_le S (x / 2)
      by_cases h2 : x / 2 = j
      · rw [if_pos h2] at hs
        have hj2 : eld (upd S j (1 - S j)) j = eld S j := by
          rcases ih j (by omega) with q | q | q
          · exact q.1
          · omega
          · omega
        by_cases h3 : x % 2 = sd S (x / 2)
        · refine Or.inr (Or.inr ⟨?_, ?_, by omega⟩)
          · rw [eld_up h1 h3, h2]
          · rw [eld_st h1 (by rw [hs]; rw [h2] at h3 hl; omega), h2]
        · refine Or.inr (Or.inl ⟨?_, ?_, by omega⟩)
          · rw [eld_st h1 h3, h2]
          · rw [eld_up h1 (by rw [hs]; rw [h2] at h3 hl; omega), h2, hj2]
      · rw [if_neg h2] at hs
        by_cases h3 : x % 2 = sd S (x / 2)
        · rw [eld_up h1 h3, eld_up h1 (by rw [hs]; exact h3)]
          rcases ih (x / 2) (by omega) with q | q | q
          · exact Or.inl q
          · exact Or.inr (Or.inl ⟨q.1, q.2.1, by omega⟩)
          · exact Or.inr (Or.inr ⟨q.1, q.2.1, by omega⟩)
        · rw [eld_st h1 h3, eld_st h1 (by rw [hs]; exact h3)]
          exact Or.inl ⟨rfl, h2⟩
theorem eld_cong {S S2 : Fn} : ∀ b, (∀ i, i ≤ b / 2 → S i = S2 i) → eld S b = eld S2 b := by
  intro b
  induction b using Nat.strongRecOn with
  | ind b ih =>
    intro h
    by_cases h1 : b ≤ 1
    · rw [eld_1 h1, eld_1 h1]
    · have hs : sd S (b / 2) = sd S2 (b / 2) := by unfold sd; rw [h (b / 2) (by omega)]
      by_cases h3 : b % 2 = sd S (b / 2)
      · rw [eld_up h1 h3, eld_up h1 (by rw [← hs]; exact h3)]
        exact ih (b / 2) (by omega) (fun i hi => h i (by omega))
      · rw [eld_st h1 h3, eld_st h1 (by rw [← hs]; exact h3)]
def whp (n : Nat) (L S : Fn) : Prop := ∀ x, 0 < x → x < n → L (eld S x) ≤ L x
def holeP (n : Nat) (L S : Fn) (b : Nat) : Prop := (∀ x, 0 < x → x < n → x ≠ b → L (eld S x) ≤ L x) ∧ (0 < b → ∀ x, 0 < x → x < n → eld S x = b → L (eld S b) ≤ L x)
theorem ex_e {L : Fn} {e j : Nat} (h : e ≠ j) : exF L e j e = L j := by rw [exF_at, if_neg h, if_pos rfl]
theorem ex_j (L : Fn) (e j : Nat) : exF L e j j = L e := by rw [exF_at, if_pos rfl]
theorem ex_o {L : Fn} {e j k : Nat} (h1 : k ≠ e) (h2 : k ≠ j) : exF L e j k = L k := by rw [exF_at, if_neg h2, if_neg h1]
/-- one joining with a change: where the order holds, it still holds -/
theorem flip_ok {n : Nat} {L S : Fn} (hS : okS S) {b : Nat} (hb : 0 < b) (hlt : L b < L (eld S b)) {x : Nat} (hx : 0 < x) (hxn : x < n) (hxe : x ≠ eld S b) (hxb : x ≠ b) (h : L (eld S x) ≤ L x) : exF L (eld S b) b (eld (upd S b (1 - S b)) x) ≤ exF L (eld S b) b x := by
  have he := eld_lt (S := S) hb
  rw [ex_o (k := x) hxe hxb]
  rcases eld_flip hS hb x with ⟨q1, q2⟩ | ⟨q1, q2, q3⟩ | ⟨q1, q2, q3⟩
  · rw [q1]
    by_cases h2 : eld S x = eld S b
    · rw [h2, ex_e (by omega)]
      rw [h2] at h
      exact ile_trans (ilt_le hlt) h
    · rw [ex_o h2 q2]
      exact h
  · rw [q2, ex_e (by omega)]
    rw [q1] at h
    exact h
  · rw [q2, ex_j]
    rw [q1] at h
    exact h
theorem flip_b {S : Fn} (hS : okS S) {b : Nat} (hb : 0 < b) {x : Nat} (hx : x ≤ b) : eld (upd S b (1 - S b)) x = eld S x := by
  rcases eld_flip hS hb x with ⟨q1, q2⟩ | ⟨q1, q2, q3⟩ | ⟨q1, q2, q3⟩
  · exact q1
  · omega
  · omega
theorem joinF_t {s : Bool} {u : WH} {e j : Nat} (h : jc s u e j = true) : joinF s u e j = (exF (wD u) e j, exF (wL u) e j, upd (wS u) j (1 - wS u j), wn u, wc u + 1, wg u + 1) := by unfold joinF; rw [if_pos h]
theorem joinF_f {s : Bool} {u : WH} {e j : Nat} (h : jc s u e j = false) : joinF s u e j = (wD u, wL u, wS u, wn u, wc u + 1, wg u) := by unfold joinF; rw [if_neg (by rw [h]; decide)]
theorem jc_t {u : WH} {e j : Nat} : jc false u e j = true ↔ wL u j < wL u e := by unfold jc; rw [Bool.false_or]; exact decide_eq_true_iff
theorem jc_f {u : WH} {e j : Nat} (h : jc false u e j = false) : wL u e ≤ wL u j := by
  unfold jc at h
  rw [Bool.false_or] at h
  have := of_decide_eq_false h
  simp only [Int32.le_iff_toInt_le, Int32.lt_iff_toInt_lt] at *
  omega
theorem rise_whp : ∀ (f : Nat) {u : WH} {b : Nat}, okS (wS u) → holeP (wn u) (wL u) (wS u) b → b < wn u → b ≤ f → whp (wn u) (wL (riseF false f u b).1) (wS (riseF false f u b).1)
  | 0, u, b, hS, hh, hbn, hbf => by
    intro x hx hxn
    exact hh.1 x hx hxn (by omega)
  | f + 1, u, b, hS, hh, hbn, hbf => by
    unfold riseF
    by_cases h0 : b = 0
    · rw [if_pos h0]
      intro x hx hxn
      exact hh.1 x hx hxn (by omega)
    · rw [if_neg h0]
      have hb : 0 < b := by omega
      have he := eld_lt (S := wS u) hb
      by_cases hj : jc false u (eld (wS u) b) b = true
      · rw [if_pos hj]
        have hlt := jc_t.mp hj
        have key : holeP (wn (joinF false u (eld (wS u) b) b)) (wL (joinF false u (eld (wS u) b) b)) (wS (joinF false u (eld (wS u) b) b)) (eld (wS u) b) := by
          rw [joinF_t hj]
          show holeP (wn u) (exF (wL u) (eld (wS u) b) b) (upd (wS u) b (1 - wS u b)) (eld (wS u) b)
          refine ⟨fun x hx hxn hxe => ?_, fun he0 x hx hxn hex => ?_⟩
          · by_cases hxb : x = b
            · subst hxb
              rw [flip_b hS hb (Nat.le_refl _), ex_e (by omega), ex_j]
              exact ilt_le hlt
            · exact flip_ok hS hb hlt hx hxn hxe hxb (hh.1 x hx hxn hxb)
          · have h1 := eld_lt (S := wS u) he0
            have h2 := hh.1 (eld (wS u) b) he0 (by omega) (by omega)
            rw [flip_b hS hb (by omega), ex_o (by omega) (by omega)]
            by_cases hxb : x = b
            · subst hxb
              rw [ex_j]
              exact h2
            · have hxx : x ≠ eld (wS u) b := fun q => by
                have := eld_lt (S := upd (wS u) b (1 - wS u b)) hx
                omega
              rw [ex_o hxx hxb]
              rcases eld_flip hS hb x with ⟨q1, q2⟩ | ⟨q1, q2, q3⟩ | ⟨q1, q2, q3⟩
              · have h3 := hh.1 x hx hxn hxb
                rw [← q1, hex] at h3
                exact ile_trans h2 h3
              · exact ile_trans h2 (hh.2 hb x hx hxn q1)
              · omega
        have hn := joinF_n false u (eld (wS u) b) b
        rw [← hn]
        exact rise_whp f (joinF_okS hS hb) key (by rw [hn]; omega) (by omega)
      · have hj := Bool.not_eq_true _ ▸ hj
        rw [if_neg (by rw [hj]; decide), joinF_f hj]
        intro x hx hxn
        by_cases hxb : x = b
        · subst hxb
          exact jc_f hj
        · exact hh.1 x hx hxn hxb
theorem all_whp : ∀ (b : Nat) {u : WH}, okS (wS u) → (∀ x, b < x → x < wn u → wL u (eld (wS u) x) ≤ wL u x) → b < wn u → whp (wn u) (wL (allF b u)) (wS (allF b u))
  | 0, u, hS, h, hb => fun x hx hxn => h x hx hxn
  | b + 1, u, hS, h, hb => by
    have h0 : 0 < b + 1 := Nat.succ_pos b
    have he := eld_lt (S := wS u) h0
    unfold allF
    have hn := joinF_n false u (eld (wS u) (b + 1)) (b + 1)
    rw [← hn]
    refine all_whp b (joinF_okS hS h0) ?_ (by rw [hn]; omega)
    rw [hn]
    intro x hx hxn
    cases hj : jc false u (eld (wS u) (b + 1)) (b + 1) with
    | true =>
      rw [joinF_t hj]
      show exF (wL u) (eld (wS u) (b + 1)) (b + 1) (eld (upd (wS u) (b + 1) (1 - wS u (b + 1))) x) ≤ exF (wL u) (eld (wS u) (b + 1)) (b + 1) x
      have hlt := jc_t.mp hj
      by_cases hxb : x = b + 1
      · subst hxb
        rw [flip_b hS h0 (Nat.le_refl _), ex_e (by omega), ex_j]
        exact ilt_le hlt
      · exact flip_ok hS h0 hlt (by omega) hxn (by omega) hxb (h x (by omega) hxn)
    | false =>
      rw [joinF_f hj]
      show wL u (eld (wS u) x) ≤ wL u x
      by_cases hxb : x = b + 1
      · subst hxb
        exact jc_f hj
      · exact h x (by omega) hxn
/-- a berth, or one above it -/
def anc (a b : Nat) : Prop := ∃ k, a = b / 2 ^ k
theorem anc_self (b : Nat) : anc b b := ⟨0, by rw [Nat.pow_zero, Nat.div_one]⟩
theorem anc_up {a b : Nat} (h : anc a (b / 2)) : anc a b := by
  obtain ⟨k, rfl⟩ := h
  exact ⟨k + 1, by rw [Nat.div_div_eq_div_mul, Nat.pow_succ, Nat.mul_comm]⟩
theorem anc_dn {a b : Nat} (h : anc a b) : a = b ∨ anc a (b / 2) := by
  obtain ⟨k, rfl⟩ := h
  cases k with
  | zero => exact Or.inl (by rw [Nat.pow_zero, Nat.div_one])
  | succ k => exact Or.inr ⟨k, by rw [Nat.div_div_eq_div_mul, Nat.pow_succ, Nat.mul_comm]⟩
theorem anc_le {a b : Nat} (h : anc a b) : a ≤ b := by
  obtain ⟨k, rfl⟩ := h
  exact Nat.div_le_self _ _
theorem top_whp : ∀ (f : Nat) {u : WH} {b : Nat}, okS (wS u) → (∀ x, 0 < x → x < wn u → ¬ anc x b → wL u (eld (wS u) x) ≤ wL u x) → (∀ a, anc a b → 0 < a → eld (wS u) a = 0) → b < wn u → b ≤ f → whp (wn u) (wL (topF f u b)) (wS (topF f u b))
  | 0, u, b, hS, h1, h2, hb, hf => by
    intro x hx hxn
    exact h1 x hx hxn (fun q => by have := anc_le q; omega)
  | f + 1, u, b, hS, h1, h2, hb, hf => by
    by_cases h0 : b = 0
    · rw [topF, if_pos h0]
      intro x hx hxn
      exact h1 x hx hxn (fun q => by have := anc_le q; omega)
    · rw [topF, if_neg h0]
      have hb0 : 0 < b := by omega
      have he : eld (wS u) b = 0 := h2 b (anc_self b) hb0
      have hn := joinF_n false u 0 b
      rw [← hn]
      refine top_whp f (joinF_okS hS hb0) ?_ ?_ (by rw [hn]; omega) (by omega)
      · rw [hn]
        intro x hx hxn hax
        cases hj : jc false u 0 b with
        | true =>
          rw [joinF_t hj]
          show exF (wL u) 0 b (eld (upd (wS u) b (1 - wS u b)) x) ≤ exF (wL u) 0 b x
          have hlt := jc_t.mp hj
          by_cases hxb : x = b
          · subst hxb
            rw [flip_b hS hb0 (Nat.le_refl _), he, ex_e (by omega), ex_j]
            exact ilt_le hlt
          · have h3 : ¬ anc x b := fun q => by
              rcases anc_dn q with q | q
              · exact hxb q
              · exact hax q
            have h4 := flip_ok (n := wn u) (L := wL u) hS hb0 (by rw [he]; exact hlt) hx hxn (by omega) hxb (h1 x hx hxn h3)
            rw [he] at h4
            exact h4
        | false =>
          rw [joinF_f hj]
          show wL u (eld (wS u) x) ≤ wL u x
          by_cases hxb : x = b
          · subst hxb
            rw [he]
            exact jc_f hj
          · exact h1 x hx hxn (fun q => by
              rcases anc_dn q with q | q
              · exact hxb q
              · exact hax q)
      · intro a ha ha0
        have h3 := anc_le ha
        cases hj : jc false u 0 b with
        | true =>
          rw [joinF_t hj]
          show eld (upd (wS u) b (1 - wS u b)) a = 0
          rw [flip_b hS hb0 (by omega)]
          exact h2 a (anc_up ha) ha0
        | false =>
          rw [joinF_f hj]
          exact h2 a (anc_up ha) ha0
/-- to the left, and on -/
def spn (S : Fn) : Nat → Nat
  | 0 => 1
  | k + 1 => 2 * spn S k + sd S (spn S k)
theorem spn_pos (S : Fn) : ∀ k, 0 < spn S k
  | 0 => Nat.one_pos
  | k + 1 => by
    have := spn_pos S k
    unfold spn
    omega
theorem spn_half (S : Fn) (k : Nat) : spn S (k + 1) / 2 = spn S k := by
  have := sd_le S (spn S k)
  rw [spn]
  omega
theorem spn_eld (S : Fn) : ∀ k, eld S (spn S k) = 0
  | 0 => eld_1 (Nat.le_refl 1)
  | k + 1 => by
    have h1 := spn_pos S k
    have h2 := sd_le S (spn S k)
    have h3 := spn_half S k
    rw [eld_up (by rw [spn]; omega) (by rw [h3, spn]; omega), h3]
    exact spn_eld S k
theorem spn_lt (S : Fn) (k : Nat) : spn S k < spn S (k + 1) := by
  have := spn_pos S k
  rw [spn]
  omega
theorem spn_mono (S : Fn) (k : Nat) : ∀ m, spn S k ≤ spn S (k + m)
  | 0 => Nat.le_refl _
  | m + 1 => by
    have h1 := spn_mono S k m
    have h2 := spn_lt S (k + m)
    have e : k + (m + 1) = (k + m) + 1 := rfl
    rw [e]
    omega
theorem spn_all {S : Fn} : ∀ x, 0 < x → eld S x = 0 → ∃ k, x = spn S k := by
  intro x
  induction x using Nat.strongRecOn with
  | ind x ih =>
    intro hx h0
    by_cases h1 : x ≤ 1
    · exact ⟨0, by rw [spn]; omega⟩
    · by_cases h3 : x % 2 = sd S (x / 2)
      · rw [eld_up h1 h3] at h0
        obtain ⟨k, hk⟩ := ih (x / 2) (by omega) (by omega) h0
        refine ⟨k + 1, ?_⟩
        rw [spn, ← hk, ← h3]
        omega
      · rw [eld_st h1 h3] at h0
        omega
theorem low_spn {S : Fn} {n : Nat} : ∀ (f k : Nat), n ≤ spn S k + f → ∃ m, k ≤ m ∧ lowF S n f (spn S k) = spn S m ∧ n ≤ spn S (m + 1)
  | 0, k, h => ⟨k, Nat.le_refl _, rfl, by have := spn_lt S k; omega⟩
  | f + 1, k, h => by
    by_cases h1 : 2 * spn S k + sd S (spn S k) < n
    · rw [lowF_go h1]
      have h2 := spn_lt S k
      obtain ⟨m, q1, q2, q3⟩ := low_spn (S := S) (n := n) f (k + 1) (by omega)
      exact ⟨m, by omega, q2, q3⟩
    · rw [lowF_no h1]
      exact ⟨k, Nat.le_refl _, rfl, by rw [spn]; omega⟩
theorem anc_spn (S : Fn) (k : Nat) : ∀ m, anc (spn S k) (spn S (k + m))
  | 0 => anc_self _
  | m + 1 => by
    refine anc_up ?_
    rw [show k + (m + 1) = (k + m) + 1 from rfl, spn_half]
    exact anc_spn S k m
theorem spn_anc (S : Fn) : ∀ (m a : Nat), anc a (spn S m) → 0 < a → eld S a = 0
  | 0, a, h, ha => eld_1 (by have := anc_le h; rw [spn] at this; exact this)
  | m + 1, a, h, ha => by
    rcases anc_dn h with q | q
    · rw [q]; exact spn_eld S _
    · rw [spn_half] at q
      exact spn_anc S m a q ha
theorem rm_whp {u : WH} (hS : okS (wS u)) (h : whp (wn u) (wL u) (wS u)) (hn : wn u ≤ 63) : whp (wn u - 1) (wL (rmF u)) (wS (rmF u)) := by
  have hx0 : ∀ x, 0 < x → x < wn u - 1 → eld (wS u) x ≠ 0 → wL (mvF u) (eld (wS u) x) ≤ wL (mvF u) x := by
    intro x hx hxn he
    show upd (wL u) 0 _ _ ≤ upd (wL u) 0 _ _
    unfold upd
    rw [if_neg he, if_neg (by omega)]
    exact h x hx (by omega)
  unfold rmF
  by_cases h1 : 1 < wn u - 1
  · rw [if_pos h1]
    show whp (wn (mvF u)) (wL (topF 63 (mvF u) (lowF (wS u) (wn u - 1) 63 1))) (wS (topF 63 (mvF u) (lowF (wS u) (wn u - 1) 63 1)))
    obtain ⟨m, -, q2, q3⟩ := low_spn (S := wS u) (n := wn u - 1) 63 0 (by omega)
    have q2 : lowF (wS u) (wn u - 1) 63 1 = spn (wS u) m := q2
    have hlt := lowF_lt (S := wS u) (n := wn u - 1) (f := 63) h1
    refine top_whp 63 hS ?_ ?_ hlt (by omega)
    · intro x hx hxn hax
      refine hx0 x hx hxn (fun he => ?_)
      obtain ⟨k, rfl⟩ := spn_all x hx he
      refine hax ?_
      rw [q2]
      rcases Nat.lt_or_ge m k with q | q
      · have := spn_mono (wS u) (m + 1) (k - (m + 1))
        rw [show m + 1 + (k - (m + 1)) = k by omega] at this
        have hxn : spn (wS u) k < wn u - 1 := hxn
        omega
      · have := anc_spn (wS u) k (m - k)
        rw [show k + (m - k) = m by omega] at this
        exact this
    · intro a ha ha0
      rw [q2] at ha
      exact spn_anc (wS u) m a ha ha0
  · rw [if_neg h1]
    intro x hx hxn
    omega
