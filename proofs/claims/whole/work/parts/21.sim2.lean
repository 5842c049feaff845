/-! a coach; what is only thought; who is quieter -/
theorem allM_ex {lou : Fn} {n : Nat} : ∀ (b : Nat) {D S : Fn} {c g : Int32}, okS S → okD n D → b < n → ∃ (D2 S2 : Fn) (c2 g2 : Int32), allF b (vM lou D S n c g) = vM lou D2 S2 n c2 g2 ∧ okS S2 ∧ okD n D2
  | 0, D, S, c, g, hS, hD, hb => ⟨_, _, _, _, rfl, hS, hD⟩
  | b + 1, D, S, c, g, hS, hD, hb => by
    have he : eld S (b + 1) < b + 1 := eld_lt (Nat.succ_pos b)
    obtain ⟨D2, S2, c2, g2, h1, h2, h3⟩ := joinM_ex false (lou := lou) (c := c) (g := g) (e := eld S (b + 1)) hS hD (by omega) hb (Nat.succ_pos b)
    have h1 : joinF false (vM lou D S n c g) (eld (wS (vM lou D S n c g)) (b + 1)) (b + 1) = vM lou D2 S2 n c2 g2 := h1
    rw [allF, h1]
    exact allM_ex b h2 h3 (by omega)
theorem ldF_0 {x y : Int32} (hx : isO x (nI 0) (nI 999) = true) (hy : isO y (nI 0) (nI 999) = true) {i : Nat} (hi : i ≤ 20) : 0 ≤ ldF x y i := by
  have h9 : (nI 999).toInt = (999 : Nat) := nI_toInt (by decide)
  obtain ⟨a, ha, rfl⟩ := nI_of2 h9 (isO_lo (a := nI 0) hx) (isO_hi hx)
  obtain ⟨b, hb, rfl⟩ := nI_of2 h9 (isO_lo (a := nI 0) hy) (isO_hi hy)
  have hib : i * b ≤ 20 * 999 := Nat.mul_le_mul hi hb
  have e : ldF (nI a) (nI b) i = nI ((a + i * b) % 1000) := by
    show (nI a + nI i * nI b) - (nI a + nI i * nI b) / nI 1000 * nI 1000 = _
    rw [pk_mul, nI_add, pk_rem (by omega) (by decide) (by decide)]
  rw [e]
  have := Nat.mod_lt (a + i * b) (show 0 < 1000 by decide)
  exact nI_pos' (by omega)
theorem lays_ag {u : WH} {came : Nat} {lou D S : Fn} {n : Nat} {c g : Int32} (hI : Iv u came) (h : ag u (vM lou D S n c g)) {x y : Int32} (hx : isO x (nI 0) (nI 999) = true) (hy : isO y (nI 0) (nI 999) = true) : ∀ i, i ≤ 20 → came + i ≤ 500 → ag (laysF x y came i u) (vM (lmL lou came x y i) (lmD D n came i) (lmS S n i) (n + i) c g) ∧ dk (laysF x y came i u) (came + i) ∧ lk (laysF x y came i u)
  | 0, _, _ => ⟨h, hI.2.2.2.1, hI.2.2.2.2.1⟩
  | i + 1, h1, h2 => by
    obtain ⟨a1, a2, a3⟩ := lays_ag hI h hx hy i (by omega) (by omega)
    exact ⟨ag_lay a2.1 (by omega) a1 (ldF x y i), dk_lay a2 (by omega) _, lk_lay a3 _ (ldF_0 hx hy (by omega))⟩
theorem ag_zs {w : WH} {lou D S : Fn} {m : Nat} {c g : Int32} (h : ag w (vM lou D S m c g)) (hm : m ≤ 63) : ag (zsF 63 w) (vM lou D (zfF m S) m c g) := by
  have h1 : wn w = m := h.1
  refine ⟨h.1, h.2.1, h.2.2.1, fun b hb => ⟨(h.2.2.2 b hb).1, (h.2.2.2 b hb).2.1, ?_⟩⟩
  have hb : b < wn w := hb
  show zfF 63 (wS w) b = zfF m S b
  unfold zfF
  rw [if_pos (by omega), if_pos (by omega)]
theorem L_coach {u : WH} {came : Nat} {lou D S : Fn} {n : Nat} {c g : Int32} (hI : Iv u came) (hS : okS S) (h : ag u (vM lou D S n c g)) {x y : Int32} (hx : isO x (nI 0) (nI 999) = true) (hy : isO y (nI 0) (nI 999) = true) {kk : Nat} (hk : kk ≤ 20) (hk1 : 1 ≤ kk) (hn : n + kk ≤ 63) (hc : came + kk ≤ 500) {V : WH} (hV : V = allF (n + kk - 1) (vM (lmL lou came x y kk) (lmD D n came kk) (zfF (n + kk) (lmS S n kk)) (n + kk) c g)) :
    Iv (allF (wn u + kk - 1) (zsF 63 (laysF x y came kk u))) (came + kk) ∧ okS (wS V) ∧ ag (allF (wn u + kk - 1) (zsF 63 (laysF x y came kk u))) (vM (lmL lou came x y kk) (wD V) (wS V) (n + kk) (wc V) (wg V)) := by
  have h1 : wn u = n := h.1
  obtain ⟨a1, a2, a3⟩ := lays_ag hI h hx hy kk hk hc
  have a4 := ag_zs a1 hn
  have hS3 : okS (zfF (n + kk) (lmS S n kk)) := okS_zf (lmS_ok hS kk) _
  obtain ⟨D2, S2, c2, g2, e, z1, z2⟩ := allM_ex (lou := lmL lou came x y kk) (n := n + kk) (n + kk - 1) (c := c) (g := g) hS3 (lmD_ok (okD_ag hI h) kk hc) (by omega)
  have hw : wn (zsF 63 (laysF x y came kk u)) = n + kk := by
    show wn (laysF x y came kk u) = n + kk
    rw [laysF_n, h1]
  have hS4 : okS (wS (zsF 63 (laysF x y came kk u))) := okS_zf (laysF_okS hI.2.2.1 kk) 63
  have hp := pm_all (n + kk - 1) (u := zsF 63 (laysF x y came kk u)) (by rw [hw]; omega)
  rw [h1]
  refine ⟨⟨by rw [allF_n, hw]; omega, hc, allF_okS hS4, dk_pm (u := zsF 63 (laysF x y came kk u)) a2 hp, lk_pm (u := zsF 63 (laysF x y came kk u)) a3 hp, ?_⟩, by rw [hV, e]; exact z1, ?_⟩
  · rw [allF_n]
    exact all_whp (n + kk - 1) hS4 (fun x hx hxn => by rw [hw] at hxn; omega) (by rw [hw]; omega)
  · rw [vM_of (hV.trans e) rfl, hV]
    exact ag_all (n + kk - 1) a4 (by rw [hw]; omega)
theorem ag_cp (u t : WH) (hn : wn u ≤ 63) : ag (cpF u t) u := by
  refine ⟨rfl, rfl, rfl, fun b hb => ?_⟩
  have hb : b < wn u := hb
  show flF 63 (wD u) (wD t) b = wD u b ∧ flF 63 (wL u) (wL t) b = wL u b ∧ flF 63 (wS u) (wS t) b = wS u b
  unfold flF
  rw [if_pos (by omega), if_pos (by omega), if_pos (by omega)]
  exact ⟨rfl, rfl, rfl⟩
theorem L_empty {u t : WH} {came : Nat} {lou D S : Fn} {n : Nat} {c g : Int32} (hI : Iv u came) (h : ag u (vM lou D S n c g)) : wc (rmsF (wn u) (cpF u t)) - wc u = wc (rmsF n (vM lou D S n c g)) - c := by
  have h1 : wn u = n := h.1
  have h2 : wc u = c := h.2.1
  have h3 := ag_rms (ag_trans (ag_cp u t hI.1) h) (wn u) (Nat.le_refl _)
  rw [h3.2.1, h2, h1]
theorem L_leavesAt {u t : WH} {came : Nat} {lou D S : Fn} {n : Nat} {c g : Int32} (hI : Iv u came) (h : ag u (vM lou D S n c g)) {b : Nat} (hb : b < n) : wD (rmsF b (cpF u t)) 0 = wD (rmsF b (vM lou D S n c g)) 0 := by
  have h1 : wn u = n := h.1
  have h3 := ag_rms (ag_trans (ag_cp u t hI.1) h) b (by show b ≤ wn u; omega)
  refine (h3.2.2.2 0 ?_).1
  rw [rmsF_n]
  show 0 < wn u - b
  omega
theorem L_back {u : WH} {lou D S : Fn} {n : Nat} {c g : Int32} (h : ag u (vM lou D S n c g)) (shd shs X Y : Fn) : ag u (vM lou (flF n (flF n D shd) X) (flF n (flF n S shs) Y) n c g) := by
  have h1 : wn u = n := h.1
  refine ⟨h.1, h.2.1, h.2.2.1, fun b hb => ?_⟩
  have h3 := h.2.2.2 b hb
  have e1 : flF n (flF n D shd) X b = D b := by unfold flF; rw [if_pos (by omega), if_pos (by omega)]
  have e2 : flF n (flF n S shs) Y b = S b := by unfold flF; rw [if_pos (by omega), if_pos (by omega)]
  refine ⟨h3.1.trans e1.symm, ?_, h3.2.2.trans e2.symm⟩
  show wL u b = lou (flF n (flF n D shd) X b).toNatClampNeg
  rw [e1]
  exact h3.2.1
theorem okS_back {S shs Y : Fn} {n : Nat} (hS : okS S) (hY : okS Y) : okS (flF n (flF n S shs) Y) := by
  have e : ∀ j, flF n (flF n S shs) Y j = if j < n then S j else Y j := fun j => by
    unfold flF
    split
    · rfl
    · rfl
  refine ⟨fun j => ?_, ?_⟩
  · rw [e]
    split
    · exact hS.1 j
    · exact hY.1 j
  · rw [e]
    split
    · exact hS.2
    · exact hY.2
/-- the bits of those that are quieter -/
def smF (L : Fn) (lim : Int32) : Nat → Nat
  | 0 => 0
  | i + 1 => if L i < lim then smF L lim i + 2 ^ i else smF L lim i
theorem smF_lt (L : Fn) (lim : Int32) : ∀ i, smF L lim i < 2 ^ i
  | 0 => by simp [smF]
  | i + 1 => by
    have ih := smF_lt L lim i
    unfold smF
    rw [Nat.pow_succ]
    split <;> omega
theorem bit_lo {m i e : Nat} (he : e < i) : (m + 2 ^ i) / 2 ^ e % 2 = m / 2 ^ e % 2 := by
  obtain ⟨d, rfl⟩ : ∃ d, i = e + (d + 1) := ⟨i - e - 1, by omega⟩
  rw [Nat.pow_add, Nat.pow_succ]
  have h2 : 0 < 2 ^ e := Nat.two_pow_pos e
  rw [Nat.add_mul_div_left _ _ h2]
  omega
theorem bit_hi {m i : Nat} (h : m < 2 ^ i) : (m + 2 ^ i) / 2 ^ i % 2 = 1 := by
  have h2 : 0 < 2 ^ i := Nat.two_pow_pos i
  rw [Nat.add_div_right _ h2, Nat.div_eq_of_lt h]
theorem smF_bit {L : Fn} {lim : Int32} {e : Nat} (hl : L e < lim) : ∀ i, e < i → smF L lim i / 2 ^ e % 2 = 1
  | 0, h => absurd h (Nat.not_lt_zero _)
  | i + 1, h => by
    by_cases q : e = i
    · subst q
      rw [smF, if_pos hl]
      exact bit_hi (smF_lt L lim e)
    · have ih := smF_bit hl i (by omega)
      rw [smF]
      split
      · rw [bit_lo (by omega)]
        exact ih
      · exact ih
theorem msk_sm {n : Nat} {L S : Fn} {lim : Int32} (h : whp n L S) : ∀ i, i ≤ n → mskF S L lim i = smF L lim i
  | 0, _ => rfl
  | i + 1, hi => by
    have ih := msk_sm (lim := lim) h i (by omega)
    rw [mskF, smF, ih]
    by_cases hl : L i < lim
    · have hc : i = 0 ∨ smF L lim i / 2 ^ (eld S i) % 2 = 1 := by
        by_cases h0 : i = 0
        · exact Or.inl h0
        refine Or.inr ?_
        have h1 := h i (by omega) (by omega)
        have he := eld_lt (S := S) (b := i) (by omega)
        refine smF_bit ?_ i he
        simp only [Int32.le_iff_toInt_le, Int32.lt_iff_toInt_lt] at *
        omega
      rw [if_pos hl, if_pos ⟨hc, hl⟩]
    · rw [if_neg hl, if_neg (fun q => hl q.2)]
/-- so many bits -/
def bts (m : Nat) : Nat → Nat
  | 0 => 0
  | k + 1 => bts m k + m / 2 ^ k % 2
theorem bts_le (m : Nat) : ∀ k, bts m k ≤ k
  | 0 => Nat.le_refl _
  | k + 1 => by
    have := bts_le m k
    have := Nat.mod_lt (m / 2 ^ k) (show 0 < 2 by decide)
    rw [bts]
    omega
theorem bts_add {m i : Nat} : ∀ k, k ≤ i → bts (m + 2 ^ i) k = bts m k
  | 0, _ => rfl
  | k + 1, h => by rw [bts, bts, bts_add k (by omega), bit_lo (by omega)]
theorem bts_big {m i : Nat} (h : m < 2 ^ i) : ∀ k, bts m (i + k) = bts m i
  | 0 => rfl
  | k + 1 => by
    show bts m (i + k) + m / 2 ^ (i + k) % 2 = _
    have h2 : 2 ^ i ≤ 2 ^ (i + k) := Nat.pow_le_pow_right (by decide) (by omega)
    rw [bts_big h k, Nat.div_eq_of_lt (by omega), Nat.zero_mod, Nat.add_zero]
theorem bts_sm (L : Fn) (lim : Int32) (i : Nat) : bts (smF L lim (i + 1)) (i + 1) = bts (smF L lim i) i + (if L i < lim then 1 else 0) := by
  have h := smF_lt L lim i
  rw [smF]
  by_cases hl : L i < lim
  · rw [if_pos hl, if_pos hl, bts, bts_add i (Nat.le_refl _), bit_hi h]
  · rw [if_neg hl, if_neg hl, bts, Nat.div_eq_of_lt h]
theorem qt_sm {u : WH} {lou D S : Fn} {n : Nat} {c g : Int32} (h : ag u (vM lou D S n c g)) (kb : Nat) : ∀ i, i ≤ n → qtF lou D kb i = nI (bts (smF (wL u) (lou kb) i) i)
  | 0, _ => rfl
  | i + 1, hi => by
    have h1 : wn u = n := h.1
    have e : wL u i = lou (D i).toNatClampNeg := (h.2.2.2 i (by omega)).2.1
    rw [qtF, qt_sm h kb i (by omega), bts_sm, ← e]
    by_cases hl : wL u i < lou kb
    · rw [if_pos hl, if_pos hl]
      exact nI_1 _
    · rw [if_neg hl, if_neg hl]
      rfl
