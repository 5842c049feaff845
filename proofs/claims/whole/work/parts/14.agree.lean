/-! two heaps that agree below their size go on alike -/
def ag (u v : WH) : Prop := wn u = wn v ∧ wc u = wc v ∧ wg u = wg v ∧ ∀ b, b < wn u → wD u b = wD v b ∧ wL u b = wL v b ∧ wS u b = wS v b
theorem ag_rfl (u : WH) : ag u u := ⟨rfl, rfl, rfl, fun _ _ => ⟨rfl, rfl, rfl⟩⟩
theorem ag_trans {u v w : WH} (h : ag u v) (h2 : ag v w) : ag u w :=
  ⟨h.1.trans h2.1, h.2.1.trans h2.2.1, h.2.2.1.trans h2.2.2.1, fun b hb => ⟨(h.2.2.2 b hb).1.trans (h2.2.2.2 b (h.1 ▸ hb)).1, (h.2.2.2 b hb).2.1.trans (h2.2.2.2 b (h.1 ▸ hb)).2.1, (h.2.2.2 b hb).2.2.trans (h2.2.2.2 b (h.1 ▸ hb)).2.2⟩⟩
theorem ag_sym {u v : WH} (h : ag u v) : ag v u := ⟨h.1.symm, h.2.1.symm, h.2.2.1.symm, fun b hb => by
  obtain ⟨a1, a2, a3⟩ := h.2.2.2 b (by rw [h.1]; exact hb)
  exact ⟨a1.symm, a2.symm, a3.symm⟩⟩
theorem ag_eld {u v : WH} (h : ag u v) {b : Nat} (hb : b < wn u) : eld (wS u) b = eld (wS v) b := eld_cong b fun i hi => (h.2.2.2 i (by omega)).2.2
theorem ex_cong {f g : Fn} {n i j : Nat} (h : ∀ b, b < n → f b = g b) (hi : i < n) (hj : j < n) : ∀ b, b < n → exF f i j b = exF g i j b := by
  intro b hb
  rw [exF_at, exF_at]
  split
  · exact h i hi
  · split
    · exact h j hj
    · exact h b hb
theorem upd_cong {f g : Fn} {n i : Nat} {x y : Int32} (h : ∀ b, b < n → f b = g b) (hx : x = y) : ∀ b, b < n → upd f i x b = upd g i y b := by
  intro b hb
  unfold upd
  split
  · exact hx
  · exact h b hb
theorem ag_jc {u v : WH} (h : ag u v) (s : Bool) {e j : Nat} (he : e < wn u) (hj : j < wn u) : jc s u e j = jc s v e j := by
  unfold jc
  rw [(h.2.2.2 e he).2.1, (h.2.2.2 j hj).2.1]
theorem ag_join {u v : WH} (h : ag u v) (s : Bool) {e j : Nat} (he : e < wn u) (hj : j < wn u) : ag (joinF s u e j) (joinF s v e j) := by
  have hc := ag_jc h s he hj
  obtain ⟨h1, h2, h3, h4⟩ := h
  cases hb : jc s u e j with
  | true =>
    rw [joinF_t hb, joinF_t (by rw [← hc]; exact hb)]
    refine ⟨h1, by show wc u + 1 = wc v + 1; rw [h2], by show wg u + 1 = wg v + 1; rw [h3], fun b hbn => ?_⟩
    have hbn : b < wn u := hbn
    exact ⟨ex_cong (fun b hb => (h4 b hb).1) he hj b hbn, ex_cong (fun b hb => (h4 b hb).2.1) he hj b hbn, upd_cong (fun b hb => (h4 b hb).2.2) (by rw [(h4 j hj).2.2]) b hbn⟩
  | false =>
    rw [joinF_f hb, joinF_f (by rw [← hc]; exact hb)]
    exact ⟨h1, by show wc u + 1 = wc v + 1; rw [h2], h3, h4⟩
theorem ag_rise (s : Bool) : ∀ (f : Nat) {u v : WH} {b : Nat}, ag u v → b < wn u → ag (riseF s f u b).1 (riseF s f v b).1 ∧ (riseF s f u b).2 = (riseF s f v b).2
  | 0, u, v, b, h, hb => ⟨h, rfl⟩
  | f + 1, u, v, b, h, hb => by
    unfold riseF
    by_cases h0 : b = 0
    · rw [if_pos h0, if_pos h0]
      exact ⟨h, rfl⟩
    · rw [if_neg h0, if_neg h0, ← ag_eld h hb]
      have he := eld_lt (S := wS u) (b := b) (by omega)
      have hj := ag_join h s (e := eld (wS u) b) (by omega) hb
      rw [← ag_jc h s (e := eld (wS u) b) (by omega) hb]
      split
      · exact ag_rise s f hj (by rw [joinF_n]; omega)
      · exact ⟨hj, rfl⟩
theorem low_cong {S S2 : Fn} {n : Nat} (h : ∀ b, b < n → S b = S2 b) : ∀ (f : Nat) {b : Nat}, b < n → lowF S n f b = lowF S2 n f b
  | 0, b, hb => rfl
  | f + 1, b, hb => by
    have hs : sd S b = sd S2 b := by unfold sd; rw [h b hb]
    unfold lowF
    rw [← hs]
    split
    · rename_i h1
      exact low_cong h f h1
    · rfl
theorem ag_top : ∀ (f : Nat) {u v : WH} {b : Nat}, ag u v → b < wn u → ag (topF f u b) (topF f v b)
  | 0, u, v, b, h, hb => h
  | f + 1, u, v, b, h, hb => by
    unfold topF
    by_cases h0 : b = 0
    · rw [if_pos h0, if_pos h0]
      exact h
    · rw [if_neg h0, if_neg h0]
      exact ag_top f (ag_join h false (by omega) hb) (by rw [joinF_n]; omega)
theorem ag_rm1 {u v : WH} (h : ag (mvF u) (mvF v)) : ag (rmF u) (rmF v) := by
  have hn : wn u - 1 = wn v - 1 := h.1
  unfold rmF
  rw [← hn]
  split
  · rename_i h1
    show ag (topF 63 (mvF u) (lowF (wS u) (wn u - 1) 63 1)) (topF 63 (mvF v) (lowF (wS v) (wn v - 1) 63 1))
    have e9 : lowF (wS u) (wn u - 1) 63 1 = lowF (wS v) (wn u - 1) 63 1 := low_cong (S := wS u) (S2 := wS v) (fun b hb => (h.2.2.2 b hb).2.2) 63 h1
    rw [← hn, ← e9]
    exact ag_top 63 h (lowF_lt h1)
  · exact h
theorem ag_mv {u v : WH} (h : ag u v) (hn : 1 ≤ wn u) : ag (mvF u) (mvF v) := by
  obtain ⟨h1, h2, h3, h4⟩ := h
  refine ⟨by show wn u - 1 = wn v - 1; rw [h1], h2, h3, fun b hb => ?_⟩
  have hb : b < wn u - 1 := hb
  have h5 := h4 (wn u - 1) (by omega)
  have h6 := h4 b (by omega)
  refine ⟨?_, ?_, h6.2.2⟩
  · show upd (wD u) 0 (wD u (wn u - 1)) b = upd (wD v) 0 (wD v (wn v - 1)) b
    rw [← h1, h5.1]
    unfold upd
    rw [h6.1]
  · show upd (wL u) 0 (wL u (wn u - 1)) b = upd (wL v) 0 (wL v (wn v - 1)) b
    rw [← h1, h5.2.1]
    unfold upd
    rw [h6.2.1]
theorem ag_rm {u v : WH} (h : ag u v) (hn : 1 ≤ wn u) : ag (rmF u) (rmF v) := ag_rm1 (ag_mv h hn)
theorem ag_rms {u v : WH} (h : ag u v) : ∀ k, k ≤ wn u → ag (rmsF k u) (rmsF k v)
  | 0, _ => h
  | k + 1, hk => by
    unfold rmsF
    exact ag_rm (ag_rms h k (by omega)) (by rw [rmsF_n]; omega)
theorem ag_all : ∀ (b : Nat) {u v : WH}, ag u v → b < wn u → ag (allF b u) (allF b v)
  | 0, u, v, h, hb => h
  | b + 1, u, v, h, hb => by
    have he := eld_lt (S := wS u) (b := b + 1) (by omega)
    unfold allF
    rw [← ag_eld h hb]
    exact ag_all b (ag_join h false (by omega) hb) (by rw [joinF_n]; omega)
theorem fnd_cong {D D2 : Fn} {x : Int32} : ∀ n, (∀ b, b < n → D b = D2 b) → fnd D x n = fnd D2 x n
  | 0, _ => rfl
  | n + 1, h => by
    have ih := fnd_cong (x := x) n (fun b hb => h b (by omega))
    unfold fnd
    rw [ih, h n (by omega)]
theorem fndI_cong {D D2 : Fn} {x : Int32} {n : Nat} (h : ∀ b, b < n → D b = D2 b) : fndI D n x = fndI D2 n x := by
  unfold fndI
  rw [fnd_cong n h]
theorem flw_cong {S S2 : Fn} {x : Nat} : ∀ n, (∀ b, b < n → S b = S2 b) → flw S x n = flw S2 x n
  | 0, _ => rfl
  | n + 1, h => by
    have ih := flw_cong (x := x) n (fun b hb => h b (by omega))
    have he : eld S n = eld S2 n := eld_cong n fun i hi => h i (by omega)
    unfold flw
    rw [ih, he]
theorem flp_cong {S S2 : Fn} : ∀ n, (∀ b, b < n → S b = S2 b) → flp S n = flp S2 n
  | 0, _ => rfl
  | n + 1, h => by
    have ih := flp_cong n (fun b hb => h b (by omega))
    unfold flp
    rw [ih, h n (by omega)]
/-- the same dukes in other berths -/
def pm (u v : WH) : Prop := wn u = wn v ∧ ∃ t : Nat → Nat, (∀ b, b < wn u → t b < wn u) ∧ (∀ a b, a < wn u → b < wn u → t a = t b → a = b) ∧ ∀ b, b < wn u → wD v b = wD u (t b) ∧ wL v b = wL u (t b)
theorem pm_rfl (u : WH) : pm u u := ⟨rfl, id, fun _ h => h, fun _ _ _ _ h => h, fun _ _ => ⟨rfl, rfl⟩⟩
theorem pm_trans {u v w : WH} (h : pm u v) (h2 : pm v w) : pm u w := by
  obtain ⟨e1, t1, a1, b1, c1⟩ := h
  obtain ⟨e2, t2, a2, b2, c2⟩ := h2
  rw [← e1] at e2 a2 b2 c2
  refine ⟨e2, fun b => t1 (t2 b), fun b hb => a1 _ (a2 b hb), fun a b ha hb hab => b2 a b ha hb (b1 _ _ (a2 a ha) (a2 b hb) hab), fun b hb => ?_⟩
  exact ⟨(c2 b hb).1.trans (c1 _ (a2 b hb)).1, (c2 b hb).2.trans (c1 _ (a2 b hb)).2⟩
theorem pm_join (s : Bool) (u : WH) {e j : Nat} (he : e < wn u) (hj : j < wn u) : pm u (joinF s u e j) := by
  cases hb : jc s u e j with
  | true =>
    rw [joinF_t hb]
    refine ⟨rfl, fun b => if b = j then e else if b = e then j else b, fun b hbn => ?_, fun a b ha hb2 hab => ?_, fun b hbn => ⟨exF_at _ _ _ _, exF_at _ _ _ _⟩⟩
    · show (if b = j then e else if b = e then j else b) < wn u
      split
      · exact he
      · split
        · exact hj
        · exact hbn
    · have hab : (if a = j then e else if a = e then j else a) = (if b = j then e else if b = e then j else b) := hab
      by_cases p1 : a = j
      · rw [if_pos p1] at hab
        by_cases p2 : b = j
        · omega
        · rw [if_neg p2] at hab
          by_cases p3 : b = e
          · rw [if_pos p3] at hab; omega
          · rw [if_neg p3] at hab; omega
      · rw [if_neg p1] at hab
        by_cases p4 : a = e
        · rw [if_pos p4] at hab
          by_cases p2 : b = j
          · rw [if_pos p2] at hab; omega
          · rw [if_neg p2] at hab
            by_cases p3 : b = e
            · omega
            · rw [if_neg p3] at hab; omega
        · rw [if_neg p4] at hab
          by_cases p2 : b = j
          · rw [if_pos p2] at hab; omega
          · rw [if_neg p2] at hab
            by_cases p3 : b = e
            · rw [if_pos p3] at hab; omega
            · rw [if_neg p3] at hab; omega
  | false =>
    rw [joinF_f hb]
    exact pm_rfl u
theorem pm_rise (s : Bool) : ∀ (f : Nat) {u : WH} {b : Nat}, b < wn u → pm u (riseF s f u b).1
  | 0, u, b, hb => pm_rfl u
  | f + 1, u, b, hb => by
    unfold riseF
    split
    · exact pm_rfl u
    · rename_i h0
      have he := eld_lt (S := wS u) (b := b) (by omega)
      have h1 := pm_join s u (e := eld (wS u) b) (by omega) hb
      split
      · exact pm_trans h1 (pm_rise s f (by rw [joinF_n]; omega))
      · exact h1
theorem pm_top : ∀ (f : Nat) {u : WH} {b : Nat}, b < wn u → pm u (topF f u b)
  | 0, u, b, hb => pm_rfl u
  | f + 1, u, b, hb => by
    unfold topF
    split
    · exact pm_rfl u
    · exact pm_trans (pm_join false u (by omega) hb) (pm_top f (by rw [joinF_n]; omega))
theorem pm_all : ∀ (b : Nat) {u : WH}, b < wn u → pm u (allF b u)
  | 0, u, hb => pm_rfl u
  | b + 1, u, hb => by
    have he := eld_lt (S := wS u) (b := b + 1) (by omega)
    unfold allF
    exact pm_trans (pm_join false u (e := eld (wS u) (b + 1)) (by omega) hb) (pm_all b (by rw [joinF_n]; omega))
/-- who lies here: each a number below came, nobody twice, each with a loudness -/
def dk (u : WH) (came : Nat) : Prop := (∀ b, b < wn u → ∃ k, k < came ∧ wD u b = nI k) ∧ (∀ a b, a < wn u → b < wn u → wD u a = wD u b → a = b)
def lk (u : WH) : Prop := ∀ b, b < wn u → 0 ≤ wL u b
theorem dk_pm {u v : WH} {came : Nat} (h : dk u came) (p : pm u v) : dk v came := by
  obtain ⟨e1, t1, a1, b1, c1⟩ := p
  refine ⟨fun b hb => ?_, fun a b ha hb hab => ?_⟩
  · rw [← e1] at hb
    rw [(c1 b hb).1]
    exact h.1 _ (a1 b hb)
  · rw [← e1] at ha hb
    rw [(c1 a ha).1, (c1 b hb).1] at hab
    exact b1 a b ha hb (h.2 _ _ (a1 a ha) (a1 b hb) hab)
theorem lk_pm {u v : WH} (h : lk u) (p : pm u v) : lk v := by
  obtain ⟨e1, t1, a1, b1, c1⟩ := p
  intro b hb
  rw [← e1] at hb
  rw [(c1 b hb).2]
  exact h _ (a1 b hb)
/-- what always holds of the class's heap -/
def Iv (u : WH) (came : Nat) : Prop := wn u ≤ 63 ∧ came ≤ 500 ∧ okS (wS u) ∧ dk u came ∧ lk u ∧ whp (wn u) (wL u) (wS u)
theorem dk_mv {u : WH} {came : Nat} (h : dk u came) : dk (mvF u) came := by
  have hm : ∀ b, b < wn u - 1 → wD (mvF u) b = wD u (if b = 0 then wn u - 1 else b) := fun b _ => by
    show upd (wD u) 0 (wD u (wn u - 1)) b = _
    unfold upd
    split <;> rfl
  refine ⟨fun b hb => ?_, fun a b ha hb hab => ?_⟩
  · have hb : b < wn u - 1 := hb
    rw [hm b hb]
    split
    · exact h.1 _ (by omega)
    · exact h.1 _ (by omega)
  · have ha : a < wn u - 1 := ha
    have hb : b < wn u - 1 := hb
    rw [hm a ha, hm b hb] at hab
    by_cases p1 : a = 0
    · rw [if_pos p1] at hab
      by_cases p2 : b = 0
      · omega
      · rw [if_neg p2] at hab
        have := h.2 _ _ (by omega) (by omega) hab
        omega
    · rw [if_neg p1] at hab
      by_cases p2 : b = 0
      · rw [if_pos p2] at hab
        have := h.2 _ _ (by omega) (by omega) hab
        omega
      · rw [if_neg p2] at hab
        exact h.2 _ _ (by omega) (by omega) hab
theorem lk_mv {u : WH} (h : ∀ b, b < wn u → b ≠ 0 → 0 ≤ wL u b) : lk (mvF u) := by
  intro b hb
  have hb : b < wn u - 1 := hb
  show 0 ≤ upd (wL u) 0 (wL u (wn u - 1)) b
  unfold upd
  split
  · exact h _ (by omega) (by omega)
  · rename_i h0
    exact h b (by omega) h0
theorem pm_rm (u : WH) : pm (mvF u) (rmF u) := by
  unfold rmF
  split
  · rename_i h1
    show pm (mvF u) (topF 63 (mvF u) (lowF (wS u) (wn u - 1) 63 1))
    exact pm_top 63 (lowF_lt h1)
  · exact pm_rfl _
theorem Iv_rm {u : WH} {came : Nat} (h1 : wn u ≤ 63) (h2 : came ≤ 500) (h3 : okS (wS u)) (h4 : dk u came) (h5 : ∀ b, b < wn u → b ≠ 0 → 0 ≤ wL u b) (h6 : whp (wn u) (wL u) (wS u)) : Iv (rmF u) came := by
  refine ⟨by rw [rmF_n]; omega, h2, rmF_okS h3, dk_pm (dk_mv h4) (pm_rm u), lk_pm (lk_mv h5) (pm_rm u), ?_⟩
  rw [rmF_n]
  exact rm_whp h3 h6 h1
theorem Iv_leave {u : WH} {came : Nat} (h : Iv u came) : Iv (rmF u) came := Iv_rm h.1 h.2.1 h.2.2.1 h.2.2.2.1 (fun b hb _ => h.2.2.2.2.1 b hb) h.2.2.2.2.2
theorem Iv_hush {u : WH} {came b : Nat} (h : Iv u came) (hb : b < wn u) {x : Int32} (hx0 : 0 ≤ x) (hx : x ≤ wL u b) : Iv (riseF false 63 (setL u b x) b).1 came := by
  obtain ⟨h1, h2, h3, h4, h5, h6⟩ := h
  have hp : pm (setL u b x) (riseF false 63 (setL u b x) b).1 := pm_rise false 63 hb
  have hL : ∀ y, y ≠ b → wL (setL u b x) y = wL u y := fun y hy => by
    show upd (wL u) b x y = _
    unfold upd
    rw [if_neg hy]
  have hLb : wL (setL u b x) b = x := by
    show upd (wL u) b x b = _
    unfold upd
    rw [if_pos rfl]
  have hh : holeP (wn u) (wL (setL u b x)) (wS u) b := by
    refine ⟨fun y hy hyn hyb => ?_, fun hb0 y hy hyn hye => ?_⟩
    · rw [hL y hyb]
      by_cases e : eld (wS u) y = b
      · rw [e, hLb]
        have := h6 y hy hyn
        rw [e] at this
        exact ile_trans hx this
      · rw [hL _ e]
        exact h6 y hy hyn
    · have h7 := eld_lt (S := wS u) hb0
      have h8 := eld_lt (S := wS u) hy
      rw [hL _ (by omega), hL y (by omega)]
      have h9 := h6 y hy hyn
      rw [hye] at h9
      exact ile_trans (h6 b hb0 hb) h9
  refine ⟨by rw [riseF_n]; exact h1, h2, riseF_okS h3, dk_pm (u := setL u b x) h4 hp, lk_pm (u := setL u b x) (fun y hy => ?_) hp, ?_⟩
  · by_cases e : y = b
    · rw [e, hLb]
      exact hx0
    · rw [hL y e]
      exact h5 y hy
  · rw [riseF_n]
    exact rise_whp 63 (u := setL u b x) h3 hh hb (by have : b < wn u := hb; omega)
