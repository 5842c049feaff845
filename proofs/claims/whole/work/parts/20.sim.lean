/-! class and reference, call by call -/
theorem vM_of {lou D S : Fn} {n : Nat} {c g : Int32} {w : WH} (h : w = vM lou D S n c g) {m : Nat} (hm : n = m) : vM lou (wD w) (wS w) m (wc w) (wg w) = w := by
  subst hm
  rw [h]
  rfl
theorem okD_ag {u : WH} {came : Nat} {lou D S : Fn} {n : Nat} {c g : Int32} (hI : Iv u came) (h : ag u (vM lou D S n c g)) : okD n D := by
  intro b hb
  have h1 : wn u = n := h.1
  obtain ⟨k, hk, e⟩ := hI.2.2.2.1.1 b (by omega)
  have h2 := (h.2.2.2 b (by omega)).1
  have hc := hI.2.1
  exact ⟨k, by omega, h2.symm.trans e⟩
theorem L_find {u : WH} {lou D S : Fn} {n : Nat} {c g : Int32} (h : ag u (vM lou D S n c g)) (x : Int32) : fnd (wD u) x (wn u) = fnd D x n := by
  have h1 : wn u = n := h.1
  rw [← h1]
  exact fnd_cong (wn u) (fun b hb => (h.2.2.2 b hb).1)
theorem L_leave {u : WH} {came : Nat} {lou D S : Fn} {n : Nat} {c g : Int32} (hI : Iv u came) (hS : okS S) (h : ag u (vM lou D S n c g)) (hn : 1 ≤ n) :
    wD u 0 = D 0 ∧ Iv (rmF u) came ∧ okS (wS (rmF (vM lou D S n c g))) ∧ ag (rmF u) (vM lou (wD (rmF (vM lou D S n c g))) (wS (rmF (vM lou D S n c g))) (n - 1) (wc (rmF (vM lou D S n c g))) (wg (rmF (vM lou D S n c g)))) := by
  have h1 : wn u = n := h.1
  have h63 := hI.1
  obtain ⟨D2, S2, c2, g2, e, z1, z2⟩ := rmM_ex (lou := lou) (c := c) (g := g) hS (okD_ag hI h) hn (by omega) rfl
  refine ⟨(h.2.2.2 0 (by omega)).1, Iv_leave hI, by rw [e]; exact z1, ?_⟩
  rw [vM_of e rfl]
  exact ag_rm h (by omega)
theorem L_hush {u : WH} {came : Nat} {lou D S : Fn} {n : Nat} {c g : Int32} (hI : Iv u came) (hS : okS S) (h : ag u (vM lou D S n c g)) {b kb : Nat} (hb : b < n) (hkb : kb < 500) (hD : D b = nI kb) {y : Int32} (hy : isO y (nI 0) (lou kb) = true) :
    (riseF false 63 (setL u b y) b).2 = (riseF false 63 (vM (upd lou kb y) D S n c g) b).2 ∧ Iv (riseF false 63 (setL u b y) b).1 came ∧ okS (wS (riseF false 63 (vM (upd lou kb y) D S n c g) b).1) ∧ ag (riseF false 63 (setL u b y) b).1 (vM (upd lou kb y) (wD (riseF false 63 (vM (upd lou kb y) D S n c g) b).1) (wS (riseF false 63 (vM (upd lou kb y) D S n c g) b).1) n (wc (riseF false 63 (vM (upd lou kb y) D S n c g) b).1) (wg (riseF false 63 (vM (upd lou kb y) D S n c g) b).1)) := by
  have h1 : wn u = n := h.1
  have h2 := h.2.2.2 b (by omega)
  have hL : wL u b = lou kb := by
    have := h2.2.1
    rw [this]
    show lou (D b).toNatClampNeg = lou kb
    rw [hD, nI_clamp (by omega)]
  have hag : ag (setL u b y) (vM (upd lou kb y) D S n c g) := by
    refine ⟨h.1, h.2.1, h.2.2.1, fun i hi => ?_⟩
    have hi : i < wn u := hi
    have h3 := h.2.2.2 i hi
    refine ⟨h3.1, ?_, h3.2.2⟩
    show upd (wL u) b y i = upd lou kb y (D i).toNatClampNeg
    obtain ⟨k, hk, e⟩ := hI.2.2.2.1.1 i hi
    have e2 : D i = nI k := h3.1.symm.trans e
    have hc := hI.2.1
    rw [e2, nI_clamp (by omega)]
    unfold upd
    by_cases q : i = b
    · subst q
      have : k = kb := (nI_eq (by omega) (by omega)).mp (e2.symm.trans hD)
      rw [if_pos rfl, if_pos this]
    · have q2 : k ≠ kb := fun z => q (hI.2.2.2.1.2 i b hi (by omega) (by
        have e3 : wD u b = D b := h2.1
        rw [e, e3, hD, z]))
      rw [if_neg q, if_neg q2]
      have e4 : wL u i = lou (D i).toNatClampNeg := h3.2.1
      rw [e4, e2, nI_clamp (by omega)]
  obtain ⟨D2, S2, c2, g2, e, z1, z2⟩ := riseM_ex false (lou := upd lou kb y) 63 (c := c) (g := g) (b := b) hS (okD_ag hI h) hb
  have hr := ag_rise false 63 hag (b := b) (by show b < wn u; omega)
  refine ⟨hr.2, Iv_hush hI (by omega) ?_ ?_, by rw [e]; exact z1, ?_⟩
  · have := isO_lo hy
    simp only [Int32.le_iff_toInt_le, Int32.lt_iff_toInt_lt] at *
    have h0 : (nI 0).toInt = 0 := nI_toInt (by decide)
    have h00 : (0 : Int32).toInt = 0 := by decide
    omega
  · rw [hL]
    exact isO_hi hy
  · rw [vM_of e rfl]
    exact hr.1
/-- the duke at b is fetched: only his own loudness differs -/
def agx (b : Nat) (u v : WH) : Prop := wn u = wn v ∧ wc u = wc v ∧ wg u = wg v ∧ (∀ x, x < wn u → wD u x = wD v x ∧ wS u x = wS v x ∧ (x ≠ b → wL u x = wL v x ∧ 0 ≤ wL u x)) ∧ wL u b = -1
theorem agx_rise : ∀ (f : Nat) {u v : WH} {b : Nat}, agx b u v → b < wn u → b ≤ f → agx 0 (riseF false f u b).1 (riseF true f v b).1
  | 0, u, v, b, h, hb, hf => by
    obtain rfl : b = 0 := by omega
    exact h
  | f + 1, u, v, b, h, hb, hf => by
    by_cases h0 : b = 0
    · subst h0
      rw [riseF_0, riseF_0]
      exact h
    · have hb0 : 0 < b := by omega
      obtain ⟨h1, h2, h3, h4, h5⟩ := h
      have he := eld_lt (S := wS u) hb0
      have hee : eld (wS u) b = eld (wS v) b := eld_cong b fun i hi => (h4 i (by omega)).2.1
      have hj : jc false u (eld (wS u) b) b = true := by
        rw [jc_t, h5]
        have := ((h4 (eld (wS u) b) (by omega)).2.2 (by omega)).2
        have hm : (-1 : Int32).toInt = -1 := by decide
        have hz : (0 : Int32).toInt = 0 := by decide
        simp only [Int32.le_iff_toInt_le, Int32.lt_iff_toInt_lt] at *
        omega
      have hj2 : jc true v (eld (wS v) b) b = true := rfl
      rw [riseF_go hb0 hj, riseF_go hb0 hj2, ← hee]
      have hx : agx (eld (wS u) b) (joinF false u (eld (wS u) b) b) (joinF true v (eld (wS u) b) b) := by
        rw [joinF_t hj, joinF_t (show jc true v (eld (wS u) b) b = true from rfl)]
        refine ⟨h1, by show wc u + 1 = wc v + 1; rw [h2], by show wg u + 1 = wg v + 1; rw [h3], fun x hx => ⟨?_, ?_, fun hxe => ?_⟩, ?_⟩
        · exact ex_cong (n := wn u) (fun x hx => (h4 x hx).1) (by omega) hb x hx
        · exact upd_cong (n := wn u) (fun x hx => (h4 x hx).2.1) (by rw [(h4 b hb).2.1]) x hx
        · have hx : x < wn u := hx
          show exF (wL u) (eld (wS u) b) b x = exF (wL v) (eld (wS u) b) b x ∧ 0 ≤ exF (wL u) (eld (wS u) b) b x
          by_cases hxb : x = b
          · subst hxb
            rw [ex_j, ex_j]
            exact (h4 _ (by omega)).2.2 (by omega)
          · rw [ex_o hxe hxb, ex_o hxe hxb]
            exact (h4 x hx).2.2 hxb
        · show exF (wL u) (eld (wS u) b) b (eld (wS u) b) = -1
          rw [ex_e (by omega)]
          exact h5
      exact agx_rise f hx (by rw [joinF_n]; omega) (by omega)
theorem L_fetch {u : WH} {came : Nat} {lou D S : Fn} {n : Nat} {c g : Int32} (hI : Iv u came) (hS : okS S) (h : ag u (vM lou D S n c g)) {b : Nat} (hb : b < n) :
    wc (rmF (riseF false 63 (setL u b (-1)) b).1) - wc u = wc (rmF (riseF true 63 (vM lou D S n c g) b).1) - c ∧ Iv (rmF (riseF false 63 (setL u b (-1)) b).1) came ∧ okS (wS (rmF (riseF true 63 (vM lou D S n c g) b).1)) ∧ ag (rmF (riseF false 63 (setL u b (-1)) b).1) (vM lou (wD (rmF (riseF true 63 (vM lou D S n c g) b).1)) (wS (rmF (riseF true 63 (vM lou D S n c g) b).1)) (n - 1) (wc (rmF (riseF true 63 (vM lou D S n c g) b).1)) (wg (rmF (riseF true 63 (vM lou D S n c g) b).1))) := by
  have h1 : wn u = n := h.1
  have h63 := hI.1
  have hm : (-1 : Int32).toInt = -1 := by decide
  have hz : (0 : Int32).toInt = 0 := by decide
  obtain ⟨D2, S2, c2, g2, e, z1, z2⟩ := riseM_ex true (lou := lou) 63 (c := c) (g := g) (b := b) hS (okD_ag hI h) hb
  obtain ⟨D3, S3, c3, g3, e3, z3, z4⟩ := rmM_ex (lou := lou) (c := c2) (g := g2) z1 z2 (by omega) (by omega) rfl
  have e4 : rmF (riseF true 63 (vM lou D S n c g) b).1 = vM lou D3 S3 (n - 1) c3 g3 := by rw [e]; exact e3
  have hLo : ∀ y, y ≠ b → wL (setL u b (-1)) y = wL u y := fun y hy => by
    show upd (wL u) b (-1) y = _
    unfold upd
    rw [if_neg hy]
  have hLb : wL (setL u b (-1)) b = -1 := by
    show upd (wL u) b (-1) b = _
    unfold upd
    rw [if_pos rfl]
  have hx0 : agx b (setL u b (-1)) (vM lou D S n c g) := by
    refine ⟨h.1, h.2.1, h.2.2.1, fun x hx => ?_, hLb⟩
    have hx : x < wn u := hx
    have h3 := h.2.2.2 x hx
    refine ⟨h3.1, h3.2.2, fun hxb => ?_⟩
    rw [hLo x hxb]
    exact ⟨h3.2.1, hI.2.2.2.2.1 x hx⟩
  have hx := agx_rise 63 hx0 (by show b < wn u; omega) (by omega)
  have hn7 : wn (riseF false 63 (setL u b (-1)) b).1 = n := (riseF_n false 63 _ _).trans h1
  have hmv : ag (mvF (riseF false 63 (setL u b (-1)) b).1) (mvF (riseF true 63 (vM lou D S n c g) b).1) := by
    generalize (riseF false 63 (setL u b (-1)) b).1 = w1 at hx hn7
    generalize (riseF true 63 (vM lou D S n c g) b).1 = w2 at hx
    obtain ⟨a1, a2, a3, a4, a5⟩ := hx
    refine ⟨by show wn w1 - 1 = wn w2 - 1; rw [a1], a2, a3, fun x hx => ?_⟩
    have hx : x < wn w1 - 1 := hx
    have b1 := a4 x (by omega)
    have b2 := a4 (wn w1 - 1) (by omega)
    refine ⟨?_, ?_, b1.2.1⟩
    · show upd (wD w1) 0 (wD w1 (wn w1 - 1)) x = upd (wD w2) 0 (wD w2 (wn w2 - 1)) x
      rw [← a1, b2.1]
      unfold upd
      rw [b1.1]
    · show upd (wL w1) 0 (wL w1 (wn w1 - 1)) x = upd (wL w2) 0 (wL w2 (wn w2 - 1)) x
      rw [← a1, (b2.2.2 (by omega)).1]
      unfold upd
      by_cases q : x = 0
      · rw [if_pos q, if_pos q]
      · rw [if_neg q, if_neg q]
        exact (b1.2.2 q).1
  have hag := ag_rm1 hmv
  have hS1 := hI.2.2.1
  refine ⟨?_, ?_, by rw [e4]; exact z3, ?_⟩
  · rw [hag.2.1, h.2.1]
    rfl
  · refine Iv_rm (by rw [hn7]; omega) hI.2.1 (riseF_okS hS1) (dk_pm (u := setL u b (-1)) hI.2.2.2.1 (pm_rise false 63 (by show b < wn u; omega))) (fun x hx9 hx0 => ((hx.2.2.2.1 x hx9).2.2 hx0).2) ?_
    rw [riseF_n]
    refine rise_whp 63 (u := setL u b (-1)) hS1 ⟨fun y hy hyn hyb => ?_, fun hb0 y hy hyn hye => ?_⟩ (by show b < wn u; omega) (by omega)
    · have hyn : y < wn u := hyn
      rw [hLo y hyb]
      have h6 := hI.2.2.2.2.2 y hy hyn
      by_cases q : eld (wS u) y = b
      · show wL (setL u b (-1)) (eld (wS u) y) ≤ _
        rw [q, hLb]
        have := hI.2.2.2.2.1 y hyn
        simp only [Int32.le_iff_toInt_le] at *
        omega
      · show wL (setL u b (-1)) (eld (wS u) y) ≤ _
        rw [hLo _ q]
        exact h6
    · have hyn : y < wn u := hyn
      have hye : eld (wS u) y = b := hye
      have h7 := eld_lt (S := wS u) hb0
      have h8 := eld_lt (S := wS u) hy
      show wL (setL u b (-1)) (eld (wS u) b) ≤ _
      rw [hLo _ (by omega), hLo y (by omega)]
      have h9 := hI.2.2.2.2.2 y hy hyn
      rw [hye] at h9
      exact ile_trans (hI.2.2.2.2.2 b hb0 (by omega)) h9
  · rw [vM_of e4 rfl]
    exact hag
/-- one more lies down: class and reference -/
theorem ag_lay {u : WH} {came : Nat} {lou D S : Fn} {n : Nat} {c g : Int32} (hk : ∀ b, b < wn u → ∃ k, k < came ∧ wD u b = nI k) (hc : came < 500) (h : ag u (vM lou D S n c g)) (x : Int32) : ag (layF u (nI came) x) (vM (upd lou came x) (upd D n (nI came)) (upd S n 0) (n + 1) c g) := by
  have h1 : wn u = n := h.1
  refine ⟨by show wn u + 1 = n + 1; rw [h1], h.2.1, h.2.2.1, fun b hb => ?_⟩
  have hb : b < wn u + 1 := hb
  show upd (wD u) (wn u) (nI came) b = upd D n (nI came) b ∧ upd (wL u) (wn u) x b = upd lou came x (upd D n (nI came) b).toNatClampNeg ∧ upd (wS u) (wn u) 0 b = upd S n 0 b
  rw [h1]
  unfold upd
  by_cases q : b = n
  · rw [if_pos q, if_pos q, if_pos q, if_pos q, if_pos q, nI_clamp (by omega), if_pos rfl]
    exact ⟨rfl, rfl, rfl⟩
  · rw [if_neg q, if_neg q, if_neg q, if_neg q, if_neg q]
    have h3 := h.2.2.2 b (by omega)
    obtain ⟨k, hk1, e⟩ := hk b (by omega)
    have e2 : D b = nI k := h3.1.symm.trans e
    have e4 : wL u b = lou (D b).toNatClampNeg := h3.2.1
    have h5 : (D b).toNatClampNeg ≠ came := by rw [e2, nI_clamp (by omega)]; omega
    rw [if_neg h5]
    exact ⟨h3.1, e4, h3.2.2⟩
theorem dk_lay {u : WH} {came : Nat} (h : dk u came) (hc : came < 500) (x : Int32) : dk (layF u (nI came) x) (came + 1) := by
  refine ⟨fun b hb => ?_, fun a b ha hb hab => ?_⟩
  · have hb : b < wn u + 1 := hb
    show ∃ k, k < came + 1 ∧ upd (wD u) (wn u) (nI came) b = nI k
    unfold upd
    by_cases q : b = wn u
    · rw [if_pos q]
      exact ⟨came, by omega, rfl⟩
    · rw [if_neg q]
      obtain ⟨k, hk, e⟩ := h.1 b (by omega)
      exact ⟨k, by omega, e⟩
  · have ha : a < wn u + 1 := ha
    have hb : b < wn u + 1 := hb
    have hab : upd (wD u) (wn u) (nI came) a = upd (wD u) (wn u) (nI came) b := hab
    unfold upd at hab
    by_cases q1 : a = wn u
    · rw [if_pos q1] at hab
      by_cases q2 : b = wn u
      · omega
      · rw [if_neg q2] at hab
        obtain ⟨k, hk, e⟩ := h.1 b (by omega)
        rw [e] at hab
        have := (nI_eq (by omega) (by omega)).mp hab
        omega
    · rw [if_neg q1] at hab
      by_cases q2 : b = wn u
      · rw [if_pos q2] at hab
        obtain ⟨k, hk, e⟩ := h.1 a (by omega)
        rw [e] at hab
        have := (nI_eq (by omega) (by omega)).mp hab
        omega
      · rw [if_neg q2] at hab
        exact h.2 a b (by omega) (by omega) hab
theorem lk_lay {u : WH} (h : lk u) (num : Int32) {x : Int32} (hx : 0 ≤ x) : lk (layF u num x) := by
  intro b hb
  have hb : b < wn u + 1 := hb
  show 0 ≤ upd (wL u) (wn u) x b
  unfold upd
  split
  · exact hx
  · exact h b (by omega)
theorem okS_new {u : WH} (h : okS (wS u)) (b : Nat) : okS (wS (newF u b)) := by
  show okS (if b % 2 = 0 then upd (wS u) (b / 2) 0 else wS u)
  split
  · exact okS_upd0 h _
  · exact h
theorem ag_new {u v : WH} (h : ag u v) (b : Nat) : ag (newF u b) (newF v b) := by
  refine ⟨h.1, h.2.1, h.2.2.1, fun i hi => ⟨(h.2.2.2 i hi).1, (h.2.2.2 i hi).2.1, ?_⟩⟩
  show (if b % 2 = 0 then upd (wS u) (b / 2) 0 else wS u) i = (if b % 2 = 0 then upd (wS v) (b / 2) 0 else wS v) i
  split
  · exact upd_cong (n := wn u) (fun i hi => (h.2.2.2 i hi).2.2) rfl i hi
  · exact (h.2.2.2 i hi).2.2
theorem isO_0 {x b : Int32} (h : isO x (nI 0) b = true) : 0 ≤ x := by
  have := isO_lo h
  have h0 : (nI 0).toInt = 0 := nI_toInt (by decide)
  have h00 : (0 : Int32).toInt = 0 := by decide
  simp only [Int32.le_iff_toInt_le, Int32.lt_iff_toInt_lt] at *
  omega
theorem L_come {u : WH} {came : Nat} {lou D S : Fn} {n : Nat} {c g : Int32} (hI : Iv u came) (hS : okS S) (h : ag u (vM lou D S n c g)) (hn : n < 63) (hc : came < 500) {x : Int32} (hx : isO x (nI 0) (nI 999) = true) :
    Iv (comeF u (nI came) x) (came + 1) ∧ okS (wS (riseF false 63 (newF (vM (upd lou came x) (upd D n (nI came)) (upd S n 0) (n + 1) c g) n) n).1) ∧ ag (comeF u (nI came) x) (vM (upd lou came x) (wD (riseF false 63 (newF (vM (upd lou came x) (upd D n (nI came)) (upd S n 0) (n + 1) c g) n) n).1) (wS (riseF false 63 (newF (vM (upd lou came x) (upd D n (nI came)) (upd S n 0) (n + 1) c g) n) n).1) (n + 1) (wc (riseF false 63 (newF (vM (upd lou came x) (upd D n (nI came)) (upd S n 0) (n + 1) c g) n) n).1) (wg (riseF false 63 (newF (vM (upd lou came x) (upd D n (nI came)) (upd S n 0) (n + 1) c g) n) n).1)) := by
  have h1 : wn u = n := h.1
  have h63 := hI.1
  have hD := okD_ag hI h
  have hag := ag_new (ag_lay hI.2.2.2.1.1 hc h x) n
  obtain ⟨D2, S2, c2, g2, e, z1, z2⟩ := riseM_ex false (lou := upd lou came x) (n := n + 1) 63 (D := upd D n (nI came)) (S := wS (newF (vM (upd lou came x) (upd D n (nI came)) (upd S n 0) (n + 1) c g) n)) (c := c) (g := g) (b := n) (okS_new (okS_upd0 hS n) n) (okD_lay hD (by omega)) (by omega)
  have e : (riseF false 63 (newF (vM (upd lou came x) (upd D n (nI came)) (upd S n 0) (n + 1) c g) n) n).1 = vM (upd lou came x) D2 S2 (n + 1) c2 g2 := e
  have hS1 : okS (wS (newF (layF u (nI came) x) n)) := okS_new (okS_upd0 hI.2.2.1 _) n
  have hr := ag_rise false 63 hag (b := n) (by show n < wn u + 1; omega)
  have hcm : comeF u (nI came) x = (riseF false 63 (newF (layF u (nI came) x) n) n).1 := by
    show (riseF false 63 (newF (layF u (nI came) x) (wn u)) (wn u)).1 = _
    rw [h1]
  have hp : pm (newF (layF u (nI came) x) n) (comeF u (nI came) x) := by rw [hcm]; exact pm_rise false 63 (by show n < wn u + 1; omega)
  have hnn : wn (comeF u (nI came) x) = n + 1 := by
    rw [hcm, riseF_n]
    show wn u + 1 = n + 1
    rw [h1]
  refine ⟨⟨by rw [hnn]; omega, by omega, by rw [hcm]; exact riseF_okS hS1, dk_pm (u := newF (layF u (nI came) x) n) (dk_lay hI.2.2.2.1 hc x) hp, lk_pm (u := newF (layF u (nI came) x) n) (lk_lay hI.2.2.2.2.1 (nI came) (isO_0 hx)) hp, ?_⟩, by rw [e]; exact z1, ?_⟩
  · rw [hnn, hcm]
    have hw : wn (newF (layF u (nI came) x) n) = n + 1 := by show wn u + 1 = n + 1; rw [h1]
    rw [← hw]
    refine rise_whp 63 hS1 ⟨fun y hy hyn hyb => ?_, fun hb0 y hy hyn hye => ?_⟩ (by rw [hw]; omega) (by omega)
    · rw [hw] at hyn
      have hye : eld (wS (newF (layF u (nI came) x) n)) y = eld (wS u) y := by
        refine eld_cong y fun i hi => ?_
        show (if n % 2 = 0 then upd (upd (wS u) (wn u) 0) (n / 2) 0 else upd (wS u) (wn u) 0) i = wS u i
        rw [h1]
        unfold upd
        split
        · show (if i = n / 2 then (0 : Int32) else if i = n then 0 else wS u i) = wS u i
          rw [if_neg (by omega), if_neg (by omega)]
        · show (if i = n then (0 : Int32) else wS u i) = wS u i
          rw [if_neg (by omega)]
      have hlt := eld_lt (S := wS u) hy
      rw [hye]
      show upd (wL u) (wn u) x (eld (wS u) y) ≤ upd (wL u) (wn u) x y
      unfold upd
      rw [if_neg (by omega), if_neg (by omega)]
      exact hI.2.2.2.2.2 y hy (by omega)
    · rw [hw] at hyn
      have := eld_lt (S := wS (newF (layF u (nI came) x) n)) hy
      omega
  · rw [vM_of e rfl, hcm]
    exact hr.1
