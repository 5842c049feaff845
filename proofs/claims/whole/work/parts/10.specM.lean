/-! the reference: its state, and how it is a heap of the same kind -/
def vM (lou D S : Fn) (n : Nat) (c g : Int32) : WH := (D, fun b => lou (D b).toNatClampNeg, S, n, c, g)
abbrev wm (cI : ClassId) (o lo li si sh sa : Nat) (n came : Nat) (c g : Int32) (lou D S shd shs : Fn) (th : Int32) : va_W :=
  [(o, .inr (2, [.int (nI n), .int (nI came), .int c, .int g, .ref lo, .ref li, .ref si, .ref sh, .ref sa, .int th])), (lo, .inl (cI, 500, .inl lou)), (li, .inl (cI, 63, .inl D)), (si, .inl (cI, 63, .inl S)), (sh, .inl (cI, 63, .inl shd)), (sa, .inl (cI, 63, .inl shs))]
/-- the dukes that lie are numbers that were given -/
def okD (n : Nat) (D : Fn) : Prop := ∀ b, b < n → ∃ k, k < 500 ∧ D b = nI k
def isO (v a b : Int32) : Bool := decide (a ≤ v) && decide (v ≤ b)
theorem isO_t {v a b : Int32} (h1 : ¬ v < a) (h2 : ¬ b < v) : bI (isO v a b) = nI 1 := by
  have h3 : a ≤ v := by simp only [Int32.le_iff_toInt_le, Int32.lt_iff_toInt_lt] at *; omega
  have h4 : v ≤ b := by simp only [Int32.le_iff_toInt_le, Int32.lt_iff_toInt_lt] at *; omega
  unfold isO
  rw [decide_eq_true h3, decide_eq_true h4]
  rfl
theorem isO_f1 {v a b : Int32} (h : v < a) : bI (isO v a b) = nI 0 := by
  have h3 : ¬ a ≤ v := by simp only [Int32.le_iff_toInt_le, Int32.lt_iff_toInt_lt] at *; omega
  unfold isO
  rw [decide_eq_false h3]
  rfl
theorem isO_f2 {v a b : Int32} (h : b < v) : bI (isO v a b) = nI 0 := by
  have h3 : ¬ v ≤ b := by simp only [Int32.le_iff_toInt_le, Int32.lt_iff_toInt_lt] at *; omega
  unfold isO
  rw [decide_eq_false h3, Bool.and_false]
  rfl
theorem exF_at (f : Fn) (i j k : Nat) : exF f i j k = f (if k = j then i else if k = i then j else k) := by
  unfold exF upd
  split
  · rfl
  · split <;> rfl
theorem exF_comp (lou : Fn) (D : Fn) (i j : Nat) : exF (fun b => lou (D b).toNatClampNeg) i j = fun b => lou (exF D i j b).toNatClampNeg := by
  funext k
  rw [exF_at, exF_at]
theorem upd_comp (lou : Fn) (D : Fn) (i : Nat) (x : Int32) : upd (fun b => lou (D b).toNatClampNeg) i (lou x.toNatClampNeg) = fun b => lou (upd D i x b).toNatClampNeg := by
  funext k
  unfold upd
  split <;> rfl
theorem okD_ex {n : Nat} {D : Fn} (h : okD n D) {e j : Nat} (he : e < n) (hj : j < n) : okD n (exF D e j) := by
  intro b hb
  rw [exF_at]
  split
  · exact h e he
  · split
    · exact h j hj
    · exact h b hb
theorem joinM {s : Bool} {lou D S : Fn} {n : Nat} {c g : Int32} {e j : Nat} : joinF s (vM lou D S n c g) e j = if jc s (vM lou D S n c g) e j = true then vM lou (exF D e j) (upd S j (1 - S j)) n (c + 1) (g + 1) else vM lou D S n (c + 1) g := by
  unfold joinF
  split
  · show (_, exF (fun b => lou (D b).toNatClampNeg) e j, _, _, _, _) = _
    rw [exF_comp]
    rfl
  · rfl
theorem joinM_ex (s : Bool) {lou D S : Fn} {n : Nat} {c g : Int32} {e j : Nat} (hS : okS S) (hD : okD n D) (he : e < n) (hj : j < n) (h0 : 0 < j) : ∃ (D2 S2 : Fn) (c2 g2 : Int32), joinF s (vM lou D S n c g) e j = vM lou D2 S2 n c2 g2 ∧ okS S2 ∧ okD n D2 := by
  rw [joinM]
  split
  · exact ⟨_, _, _, _, rfl, okS_upd hS h0 (z01 (hS.1 j)), okD_ex hD he hj⟩
  · exact ⟨_, _, _, _, rfl, hS, hD⟩
theorem mvM {lou D S : Fn} {n : Nat} {c g : Int32} : mvF (vM lou D S n c g) = vM lou (upd D 0 (D (n - 1))) S (n - 1) c g := by
  show (_, upd (fun b => lou (D b).toNatClampNeg) 0 (lou (D (n - 1)).toNatClampNeg), _, _, _, _) = _
  rw [upd_comp]
  rfl
theorem rmM {lou D S : Fn} {n : Nat} {c g : Int32} : rmF (vM lou D S n c g) = if 1 < n - 1 then joinTopF (vM lou (upd D 0 (D (n - 1))) S (n - 1) c g) else vM lou (upd D 0 (D (n - 1))) S (n - 1) c g := by
  unfold rmF
  rw [mvM]
  rfl
theorem topM_ex {lou : Fn} {n : Nat} (hn : 0 < n) : ∀ (f : Nat) {D S : Fn} {c g : Int32} {b : Nat}, okS S → okD n D → b < n → ∃ (D2 S2 : Fn) (c2 g2 : Int32), topF f (vM lou D S n c g) b = vM lou D2 S2 n c2 g2 ∧ okS S2 ∧ okD n D2
  | 0, D, S, c, g, b, hS, hD, hb => ⟨_, _, _, _, rfl, hS, hD⟩
  | f + 1, D, S, c, g, b, hS, hD, hb => by
    unfold topF
    split
    · exact ⟨_, _, _, _, rfl, hS, hD⟩
    · rename_i h0
      obtain ⟨D2, S2, c2, g2, h1, h2, h3⟩ := joinM_ex false (lou := lou) (c := c) (g := g) hS hD hn hb (by omega)
      rw [h1]
      exact topM_ex hn f h2 h3 (by omega)
theorem okD_upd {n : Nat} {D : Fn} (h : okD n D) {i : Nat} {x : Int32} (hx : ∃ k, k < 500 ∧ x = nI k) : okD n (upd D i x) := by
  intro b hb
  unfold upd
  split
  · exact hx
  · exact h b hb
theorem rmM_ex {lou D S : Fn} {n : Nat} {c g : Int32} (hS : okS S) (hD : okD n D) (hn : 1 ≤ n) (hn9 : n ≤ 63) {m : Nat} (hm : n - 1 = m) : ∃ (D2 S2 : Fn) (c2 g2 : Int32), rmF (vM lou D S n c g) = vM lou D2 S2 m c2 g2 ∧ okS S2 ∧ okD m D2 := by
  subst hm
  have hD1 : okD (n - 1) (upd D 0 (D (n - 1))) := okD_upd (fun b hb => hD b (by omega)) (hD (n - 1) (by omega))
  unfold rmF
  rw [mvM]
  split
  · rename_i h1
    have h1 : 1 < n - 1 := h1
    exact topM_ex (by omega) 63 hS hD1 (lowF_lt h1)
  · exact ⟨_, _, _, _, rfl, hS, hD1⟩
theorem riseM_ex (s : Bool) {lou : Fn} {n : Nat} : ∀ (f : Nat) {D S : Fn} {c g : Int32} {b : Nat}, okS S → okD n D → b < n → ∃ (D2 S2 : Fn) (c2 g2 : Int32), (riseF s f (vM lou D S n c g) b).1 = vM lou D2 S2 n c2 g2 ∧ okS S2 ∧ okD n D2
  | 0, D, S, c, g, b, hS, hD, hb => ⟨_, _, _, _, rfl, hS, hD⟩
  | f + 1, D, S, c, g, b, hS, hD, hb => by
    unfold riseF
    split
    · exact ⟨_, _, _, _, rfl, hS, hD⟩
    · rename_i h0
      have he : eld S b < b := eld_lt (by omega)
      obtain ⟨D2, S2, c2, g2, h1, h2, h3⟩ := joinM_ex s (lou := lou) (c := c) (g := g) (e := eld S b) hS hD (by omega) hb (by omega)
      split
      · show ∃ (D2 S2 : Fn) (c2 g2 : Int32), (riseF s f (joinF s (vM lou D S n c g) (eld S b) b) (eld S b)).1 = _ ∧ _
        rw [h1]
        exact riseM_ex s f h2 h3 (by omega)
      · exact ⟨_, _, _, _, h1, h2, h3⟩
def qtF (lou D : Fn) (x : Nat) : Nat → Int32
  | 0 => 0
  | i + 1 => if lou (D i).toNatClampNeg < lou x then qtF lou D x i + 1 else qtF lou D x i
theorem exF_sw (f : Fn) (i j : Nat) : upd (upd f j (f i)) i (f j) = exF f i j := by
  funext k
  rw [exF_at]
  unfold upd
  by_cases h1 : k = i
  · rw [if_pos h1]
    by_cases h2 : k = j
    · rw [if_pos h2, ← h1, ← h2]
    · rw [if_neg h2, if_pos h1]
  · rw [if_neg h1]
    by_cases h2 : k = j
    · rw [if_pos h2, if_pos h2]
    · rw [if_neg h2, if_neg h2, if_neg h1]
theorem isO_has {n : Nat} {x : Int32} (hn : n < 2 ^ 30) : isO x (nI 0) (nI n - nI 1) = hasI n x := by
  have h0 : (nI 0).toInt = 0 := nI_toInt (by decide)
  have h1 : (nI n - nI 1).toInt = (n : Int) - 1 := pk_sub_toInt hn (by decide)
  have h2 : (nI n).toInt = n := nI_toInt (by omega)
  unfold isO hasI
  congr 1
  refine decide_eq_decide.mpr ?_
  simp only [Int32.le_iff_toInt_le, Int32.lt_iff_toInt_lt, h1, h2]
  omega
theorem z_add0 (x : Int32) : x + nI 0 = x := by
  show x + 0 = x
  exact Int32.add_zero x
theorem okD_lay {n : Nat} {D : Fn} (h : okD n D) {k : Nat} (hk : k < 500) : okD (n + 1) (upd D n (nI k)) := by
  intro b hb
  unfold upd
  split
  · exact ⟨k, hk, rfl⟩
  · exact h b (by omega)
theorem fndI_no {D : Fn} {x : Int32} {n : Nat} (h : ¬ fnd D x n < n) : fndI D n x = (-1) := by unfold fndI; rw [if_neg h]
theorem fndI_at {D : Fn} {x : Int32} {n b : Nat} (h : fnd D x n = b) (hb : b < n) : fndI D n x = nI b := by unfold fndI; rw [h, if_pos hb]
/-- after so many of a coach have lain down: loudnesses by numbers, dukes and sides by berths -/
def lmL (lou : Fn) (came : Nat) (x y : Int32) : Nat → Fn
  | 0 => lou
  | i + 1 => upd (lmL lou came x y i) (came + i) (ldF x y i)
def lmD (D : Fn) (n came : Nat) : Nat → Fn
  | 0 => D
  | i + 1 => upd (lmD D n came i) (n + i) (nI (came + i))
def lmS (S : Fn) (n : Nat) : Nat → Fn
  | 0 => S
  | i + 1 => upd (lmS S n i) (n + i) 0
theorem lmS_ok {S : Fn} (h : okS S) {n : Nat} : ∀ i, okS (lmS S n i)
  | 0 => h
  | i + 1 => okS_upd0 (lmS_ok h i) _
theorem lmD_ok {D : Fn} {n came : Nat} (h : okD n D) : ∀ i, came + i ≤ 500 → okD (n + i) (lmD D n came i)
  | 0, _ => h
  | i + 1, hi => okD_lay (lmD_ok h i (by omega)) (by omega)
