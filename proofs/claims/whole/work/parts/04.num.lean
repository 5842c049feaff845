/-! branches over numbers, as facts of natural numbers -/
theorem k_lt {a b : Nat} (ha : a < 2 ^ 31) (hb : b < 2 ^ 31) (h : nI a < nI b) : a < b := (nI_ltI ha hb).mp h
theorem k_nlt {b a : Nat} (ha : a < 2 ^ 31) (hb : b < 2 ^ 31) (h : ¬ nI a < nI b) : b ≤ a := Nat.not_lt.mp fun q => h ((nI_ltI ha hb).mpr q)
theorem k_le {b a : Nat} (ha : a < 2 ^ 31) (hb : b < 2 ^ 31) (h : nI b ≤ nI a) : b ≤ a := (nI_leI hb ha).mp h
theorem k_nle {a b : Nat} (ha : a < 2 ^ 31) (hb : b < 2 ^ 31) (h : ¬ nI b ≤ nI a) : a < b := Nat.not_le.mp fun q => h ((nI_leI hb ha).mpr q)
theorem k_eq {a b : Nat} (ha : a < 2 ^ 31) (hb : b < 2 ^ 31) (h : nI a = nI b) : a = b := (nI_eq ha hb).mp h
theorem k_ne {a b : Nat} (ha : a < 2 ^ 31) (hb : b < 2 ^ 31) (h : ¬ nI a = nI b) : a ≠ b := fun q => h ((nI_eq ha hb).mpr q)
theorem k0_eq {a : Nat} (ha : a < 2 ^ 31) (h : nI a = 0) : a = 0 := k_eq ha (by decide) (h.trans nI_0.symm)
theorem k0_ne {a : Nat} (ha : a < 2 ^ 31) (h : ¬ nI a = 0) : 0 < a := Nat.pos_of_ne_zero fun q => h (by rw [q]; exact nI_0)
theorem k0_gt {a : Nat} (ha : a < 2 ^ 31) (h : 0 < nI a) : 0 < a := k_lt (by decide) ha (by rw [nI_0]; exact h)
theorem k0_ngt {a : Nat} (ha : a < 2 ^ 31) (h : ¬ 0 < nI a) : a = 0 := Nat.eq_zero_of_not_pos fun q => h (by rw [← nI_0]; exact (nI_ltI (by decide) ha).mpr q)
theorem k0_le {a : Nat} (ha : a < 2 ^ 31) (h : nI a ≤ 0) : a = 0 := Nat.le_zero.mp (k_le (by decide) ha (by rw [nI_0]; exact h))
theorem k0_nle {a : Nat} (ha : a < 2 ^ 31) (h : ¬ nI a ≤ 0) : 0 < a := k_nle (by decide) ha (by rw [nI_0]; exact h)
theorem has_t {n : Nat} {b : Int32} (h1 : ¬ b < 0) (h2 : ¬ nI n ≤ b) : bI (hasI n b) = nI 1 := by
  have h3 : 0 ≤ b := by simp only [Int32.le_iff_toInt_le, Int32.lt_iff_toInt_lt] at *; omega
  have h4 : b < nI n := by simp only [Int32.le_iff_toInt_le, Int32.lt_iff_toInt_lt] at *; omega
  unfold hasI
  rw [decide_eq_true h3, decide_eq_true h4]
  rfl
theorem has_f0 {n : Nat} {b : Int32} (h : b < 0) : bI (hasI n b) = nI 0 := by
  have h3 : ¬ 0 ≤ b := by simp only [Int32.le_iff_toInt_le, Int32.lt_iff_toInt_lt] at *; omega
  unfold hasI
  rw [decide_eq_false h3]
  rfl
theorem has_f1 {n : Nat} {b : Int32} (h : nI n ≤ b) : bI (hasI n b) = nI 0 := by
  have h4 : ¬ b < nI n := by simp only [Int32.le_iff_toInt_le, Int32.lt_iff_toInt_lt] at *; omega
  unfold hasI
  rw [decide_eq_false h4, Bool.and_false]
  rfl
theorem has_f2 {n : Nat} {b : Int32} (hn : n ≤ 63) (h : nI 63 ≤ b) : bI (hasI n b) = nI 0 := by
  refine has_f1 ?_
  have := nI_le hn (by decide)
  simp only [Int32.le_iff_toInt_le] at *
  omega
