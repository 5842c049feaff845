/-! what a state of the system is, and what each call does to it -/
def bI (b : Bool) : Int32 := if b = true then 1 else 0
def hasI (n : Nat) (x : Int32) : Bool := decide (0 ≤ x) && decide (x < nI n)
theorem bI_01 (b : Bool) : bI b = 0 ∨ bI b = 1 := by cases b <;> simp [bI]
theorem bI_ne {b : Bool} : ¬ bI b = 0 ↔ b = true := by cases b <;> simp [bI]
theorem bI_e0 {b : Bool} : bI b = 0 ↔ b = false := by cases b <;> simp [bI]
theorem hasI_nI {n k : Nat} (hk : k < 2 ^ 31) (hn : n < 2 ^ 31) : hasI n (nI k) = decide (k < n) := by
  unfold hasI
  rw [decide_eq_true (nI_pos' hk), Bool.true_and]
  exact decide_eq_decide.mpr (nI_ltI hk hn)
theorem hasI_iff {n : Nat} {x : Int32} (hn : n < 2 ^ 31) : hasI n x = true ↔ ∃ k, k < n ∧ x = nI k := by
  constructor
  · intro h
    simp only [hasI, Bool.and_eq_true, decide_eq_true_eq] at h
    have h1 : ¬ x < 0 := by
      have := h.1
      simp only [Int32.le_iff_toInt_le, Int32.lt_iff_toInt_lt] at this ⊢
      omega
    obtain ⟨j, hj, rfl⟩ := nI_of h1
    exact ⟨j, (nI_ltI hj hn).mp h.2, rfl⟩
  · rintro ⟨k, hk, rfl⟩
    rw [hasI_nI (by omega) hn]
    exact decide_eq_true hk
/-- a heap: the dukes, the loudnesses and the sides by berths; how many; comparisons; changes -/
abbrev WH : Type := Fn × Fn × Fn × Nat × Int32 × Int32
abbrev wD (u : WH) : Fn := u.1
abbrev wL (u : WH) : Fn := u.2.1
abbrev wS (u : WH) : Fn := u.2.2.1
abbrev wn (u : WH) : Nat := u.2.2.2.1
abbrev wc (u : WH) : Int32 := u.2.2.2.2.1
abbrev wg (u : WH) : Int32 := u.2.2.2.2.2
def sd (S : Fn) (b : Nat) : Nat := if S b = 0 then 0 else 1
def okS (S : Fn) : Prop := (∀ j, S j = 0 ∨ S j = 1) ∧ S 0 = 0
theorem sd_nI {S : Fn} (h : okS S) (b : Nat) : S b = nI (sd S b) := by
  unfold sd
  rcases h.1 b with e | e <;> simp [e] <;> rfl
theorem sd_le (S : Fn) (b : Nat) : sd S b ≤ 1 := by
  unfold sd
  split <;> omega
theorem sd_0 {S : Fn} (h : okS S) : sd S 0 = 0 := by simp [sd, h.2]
/-- the elder's berth -/
def eld (S : Fn) (b : Nat) : Nat := if b ≤ 1 then 0 else if b % 2 = sd S (b / 2) then eld S (b / 2) else b / 2
termination_by b
decreasing_by omega
theorem eld_1 {S : Fn} {b : Nat} (h : b ≤ 1) : eld S b = 0 := by rw [eld, if_pos h]
theorem eld_up {S : Fn} {b : Nat} (h : ¬ b ≤ 1) (e : b % 2 = sd S (b / 2)) : eld S b = eld S (b / 2) := by rw [eld, if_neg h, if_pos e]
theorem eld_st {S : Fn} {b : Nat} (h : ¬ b ≤ 1) (e : ¬ b % 2 = sd S (b / 2)) : eld S b = b / 2 := by rw [eld, if_neg h, if_neg e]
theorem eld_le (S : Fn) : ∀ b, eld S b ≤ b / 2 := by
  intro b
  induction b using Nat.strongRecOn with
  | ind b ih =>
    by_cases h : b ≤ 1
    · rw [eld_1 h]; omega
    · by_cases e : b % 2 = sd S (b / 2)
      · rw [eld_up h e]
        have := ih (b / 2) (by omega)
        omega
      · rw [eld_st h e]; omega
theorem eld_lt {S : Fn} {b : Nat} (h : 0 < b) : eld S b < b := by
  have := eld_le S b
  omega
def exF (f : Fn) (i j : Nat) : Fn := upd (upd f i (f j)) j (f i)
def jc (sure : Bool) (u : WH) (e j : Nat) : Bool := sure || decide (wL u j < wL u e)
def joinF (sure : Bool) (u : WH) (e j : Nat) : WH :=
  if jc sure u e j = true then (exF (wD u) e j, exF (wL u) e j, upd (wS u) j (1 - wS u j), wn u, wc u + 1, wg u + 1) else (wD u, wL u, wS u, wn u, wc u + 1, wg u)
def riseF (sure : Bool) : Nat → WH → Nat → WH × Nat
  | 0, u, b => (u, b)
  | f + 1, u, b => if b = 0 then (u, 0) else if jc sure u (eld (wS u) b) b = true then riseF sure f (joinF sure u (eld (wS u) b) b) (eld (wS u) b) else (joinF sure u (eld (wS u) b) b, b)
def lowF (S : Fn) (n : Nat) : Nat → Nat → Nat
  | 0, b => b
  | f + 1, b => if 2 * b + sd S b < n then lowF S n f (2 * b + sd S b) else b
def topF : Nat → WH → Nat → WH
  | 0, u, _ => u
  | f + 1, u, b => if b = 0 then u else topF f (joinF false u 0 b) (b / 2)
def joinTopF (u : WH) : WH := topF 63 u (lowF (wS u) (wn u) 63 1)
def mvF (u : WH) : WH := (upd (wD u) 0 (wD u (wn u - 1)), upd (wL u) 0 (wL u (wn u - 1)), wS u, wn u - 1, wc u, wg u)
def rmF (u : WH) : WH := if 1 < wn u - 1 then joinTopF (mvF u) else mvF u
def rmsF : Nat → WH → WH
  | 0, u => u
  | k + 1, u => rmF (rmsF k u)
def layF (u : WH) (num loud : Int32) : WH := (upd (wD u) (wn u) num, upd (wL u) (wn u) loud, upd (wS u) (wn u) 0, wn u + 1, wc u, wg u)
/-- the berth above the next one begins anew -/
def newF (u : WH) (b : Nat) : WH := (wD u, wL u, (if b % 2 = 0 then upd (wS u) (b / 2) 0 else wS u), wn u, wc u, wg u)
def comeF (u : WH) (num loud : Int32) : WH := (riseF false 63 (newF (layF u num loud) (wn u)) (wn u)).1
def allF : Nat → WH → WH
  | 0, u => u
  | b + 1, u => allF b (joinF false u (eld (wS u) (b + 1)) (b + 1))
def zfF (k : Nat) (S : Fn) : Fn := fun j => if j < k then 0 else S j
def flF (k : Nat) (f g : Fn) : Fn := fun j => if j < k then f j else g j
def zsF (k : Nat) (u : WH) : WH := (wD u, wL u, zfF k (wS u), wn u, wc u, wg u)
def ldF (first step : Int32) (i : Nat) : Int32 := (first + nI i * step) - (first + nI i * step) / 1000 * 1000
def laysF (first step : Int32) (came : Nat) : Nat → WH → WH
  | 0, u => u
  | i + 1, u => layF (laysF first step came i u) (nI (came + i)) (ldF first step i)
def setL (u : WH) (b : Nat) (x : Int32) : WH := (wD u, upd (wL u) b x, wS u, wn u, wc u, wg u)
def fnd (D : Fn) (x : Int32) : Nat → Nat
  | 0 => 0
  | n + 1 => if fnd D x n < n then fnd D x n else if D n = x then n else n + 1
def fndI (D : Fn) (n : Nat) (x : Int32) : Int32 := if fnd D x n < n then nI (fnd D x n) else -1
def flw (S : Fn) (x : Nat) : Nat → Int32
  | 0 => 0
  | i + 1 => if 1 ≤ i ∧ eld S i = x then flw S x i + 1 else flw S x i
def flp (S : Fn) : Nat → Int32
  | 0 => 0
  | i + 1 => flp S i + S i
def mskF (S L : Fn) (lim : Int32) : Nat → Nat
  | 0 => 0
  | i + 1 => if (i = 0 ∨ mskF S L lim i / 2 ^ (eld S i) % 2 = 1) ∧ L i < lim then mskF S L lim i + 2 ^ i else mskF S L lim i
def cpF (u t : WH) : WH := (flF 63 (wD u) (wD t), flF 63 (wL u) (wL t), flF 63 (wS u) (wS t), wn u, wc u, wg u)
/-- the cells of a WeakHeap -/
abbrev wh (cI : ClassId) (h d l s : Nat) (u : WH) : va_W := [(h, .inr (0, [.ref d, .ref l, .ref s, .int (nI (wn u)), .int (wc u), .int (wg u)])), (d, .inl (cI, 63, .inl (wD u))), (l, .inl (cI, 63, .inl (wL u))), (s, .inl (cI, 63, .inl (wS u)))]
theorem fnd_le (D : Fn) (x : Int32) : ∀ n, fnd D x n ≤ n
  | 0 => Nat.le_refl 0
  | n + 1 => by
    have ih := fnd_le D x n
    unfold fnd
    split
    · omega
    · split <;> omega
theorem fnd_no (D : Fn) (x : Int32) : ∀ n k, k < fnd D x n → D k ≠ x
  | 0, k, h => absurd h (Nat.not_lt_zero k)
  | n + 1, k, h => by
    have ih := fnd_no D x n
    have hle := fnd_le D x n
    unfold fnd at h
    split at h
    · exact ih k h
    · rename_i h1
      split at h
      · exact ih k (by omega)
      · rename_i h2
        rcases Nat.lt_or_ge k n with q | q
        · exact ih k (by omega)
        · have : k = n := by omega
          subst this
          exact h2
theorem fnd_yes (D : Fn) (x : Int32) : ∀ n, fnd D x n < n → D (fnd D x n) = x
  | 0, h => absurd h (Nat.not_lt_zero _)
  | n + 1, h => by
    have ih := fnd_yes D x n
    unfold fnd at h ⊢
    by_cases h1 : fnd D x n < n
    · rw [if_pos h1]
      exact ih h1
    · rw [if_neg h1] at h ⊢
      by_cases h2 : D n = x
      · rw [if_pos h2]; exact h2
      · rw [if_neg h2] at h
        omega
theorem fnd_at {D : Fn} {x : Int32} {n k : Nat} (hk : k < n) (he : D k = x) (hn : ∀ j, j < k → D j ≠ x) : fnd D x n = k := by
  have h1 : ¬ k < fnd D x n := fun h => fnd_no D x n k h he
  have h2 : fnd D x n < n := by omega
  rcases Nat.lt_or_ge (fnd D x n) k with q | q
  · exact absurd (fnd_yes D x n h2) (hn _ q)
  · omega
theorem fnd_none {D : Fn} {x : Int32} {n : Nat} (h : ∀ j, j < n → D j ≠ x) : ¬ fnd D x n < n := fun q => h _ q (fnd_yes D x n q)
