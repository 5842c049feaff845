/-! ## a turn keeps what both sides know -/
theorem z_nat {x : Int32} (h : 0 ≤ x.toInt) : x = nI x.toInt.toNat := by
  have h2 : x.toInt < 2 ^ 31 := Int32.toInt_lt x
  apply Int32.toInt_inj.mp
  rw [nI_toInt (by omega)]
  omega
theorem z_le0 {x : Int32} (h : nI 0 ≤ x) : 0 ≤ x.toInt := by
  rw [Int32.le_iff_toInt_le, nI_toInt (by decide)] at h
  omega
theorem z_has {n : Nat} {x : Int32} (hn : n ≤ 63) (h : hasI n x = true) : ∃ b, b < n ∧ x = nI b := by
  unfold hasI at h
  have h1 := of_decide_eq_true ((Bool.and_eq_true _ _).mp h).1
  have h2 := of_decide_eq_true ((Bool.and_eq_true _ _).mp h).2
  have h0 := z_le0 (x := x) h1
  rw [Int32.lt_iff_toInt_lt, nI_toInt (by omega)] at h2
  exact ⟨x.toInt.toNat, by omega, z_nat h0⟩
theorem z_kk {x : Int32} (h : isO x (nI 1) (nI 20) = true) : ∃ k, 1 ≤ k ∧ k ≤ 20 ∧ x = nI k := by
  unfold isO at h
  have h1 := of_decide_eq_true ((Bool.and_eq_true _ _).mp h).1
  have h2 := of_decide_eq_true ((Bool.and_eq_true _ _).mp h).2
  rw [Int32.le_iff_toInt_le, nI_toInt (by decide)] at h1 h2
  exact ⟨x.toInt.toNat, by omega, by omega, z_nat (by omega)⟩
theorem joinF_c (b : Bool) (u : WH) (e j : Nat) : wc (joinF b u e j) = wc u + 1 := by
  unfold joinF
  split <;> rfl
theorem allF_c : ∀ (b : Nat) (u : WH), wc (allF b u) = wc u + nI b
  | 0, u => by rw [allF, nI_0, Int32.add_zero]
  | b + 1, u => by
    rw [allF, allF_c b, joinF_c, Int32.add_assoc, Int32.add_comm 1 (nI b), nI_1]
theorem laysF_c (x y : Int32) (came : Nat) (u : WH) : ∀ i, wc (laysF x y came i u) = wc u
  | 0 => rfl
  | i + 1 => laysF_c x y came u i
theorem z_coach (x y : Int32) (came kk : Nat) (u : WH) (b : Nat) : wc (allF b (zsF 63 (laysF x y came kk u))) - wc u = nI b := by
  rw [allF_c]
  have h : wc (zsF 63 (laysF x y came kk u)) = wc u := laysF_c x y came u kk
  rw [h, Int32.add_comm, Int32.add_sub_cancel]
def Bo (u t : WH) (came n : Nat) (c g : Int32) (lou D S : Fn) : Prop := Iv u came ∧ ag u (vM lou D S n c g) ∧ okS S ∧ okS (wS t)
section TURN
variable {p : Program} {l : Launch} {e : Env} {s : State} {m : MethodId} {args : Array Value} {below : List Frame} {meth : Method} {c : Code} {H : Heap} {locs : List Loc} {cells slots : Nat} {Q : State → Prop} {A : Nat → Prop} {G : va_G}
/-- behind a turn -/
def zGo (p : Program) (l : Launch) (e : Env) (s : State) (m : MethodId) (args : Array Value) (below : List Frame) (meth : Method) (c : Code) (Q : State → Prop) (A : Nat → Prop) (G : va_G) (cI cJ : ClassId) (b : Nat) (o h da la sa h2 da2 la2 sa2 mo lo li si sh ss q : Nat) (i cells slots : Nat) : Prop :=
  ∀ (came : Nat) (u t : WH) (n : Nat) (c2 g2 : Int32) (lou D S shd shs : Fn) (th : Int32) (f : Nat → Int64), Bo u t came n c2 g2 lou D S → ∀ (H : Heap) (locs : List Loc) (ls : Array Slot), va_P G vwCl (wl cI cJ o h da la sa h2 da2 la2 sa2 mo lo li si sh ss q came u t n came c2 g2 lou D S shd shs th f) H → va_D A (wl cI cJ o h da la sa h2 da2 la2 sa2 mo lo li si sh ss q came u t n came c2 g2 lou D S shd shs th f) → va_S A s.heap H locs → lv_has ls 7 [(0, .ref b), (1, .ref o), (2, .ref mo), (3, .ref q), (4, .int (nI i))] → W p l e room_1 s m args below meth c H locs cells slots Q (F0 m 927 ls [])
set_option maxHeartbeats 4000000 in
theorem t_come (hst : l.stackTraces = false) (hF : CallFix p m c cL_law 7 s args wsL_law RL) (hA : ∀ q, s.heap.size ≤ q → A q) (cI cJ : ClassId) (hK : va_K G vwCl [(cI, .int), (cJ, .long)] s) (hE : zEnv A s s.heap) {b L : Nat} {xs : Nat → Int32} (hX : va_X b L xs s s.heap) (hbl : b < s.heap.size) (hbA : ¬ A b) (hL : L ≤ 2048) (o h da la sa h2 da2 la2 sa2 mo lo li si sh ss q : Nat) {came : Nat} {u t : WH} {n : Nat} {c2 g2 : Int32} {lou D S shd shs : Fn} {th : Int32} {f : Nat → Int64} (hB : Bo u t came n c2 g2 lou D S) (hP : va_P G vwCl (wl cI cJ o h da la sa h2 da2 la2 sa2 mo lo li si sh ss q came u t n came c2 g2 lou D S shd shs th f) H) (hD : va_D A (wl cI cJ o h da la sa h2 da2 la2 sa2 mo lo li si sh ss q came u t n came c2 g2 lou D S shd shs th f)) (hS : va_S A s.heap H locs) (hc : cells + 1 ≤ 1052) (hs : slots + 6 ≤ 9420) {ls : Array Slot} {i : Nat} (hi : i + 4 ≤ L) (hl : lv_has ls 7 [(0, .ref b), (1, .ref o), (2, .ref mo), (3, .ref q), (4, .int (nI i))]) (kk : zGo p l e s m args below meth c Q A G cI cJ b o h da la sa h2 da2 la2 sa2 mo lo li si sh ss q i (cells + 1) (slots + 6)) : W p l e room_1 s m args below meth c H locs cells slots Q (F0 m 128 ls []) := by
  obtain ⟨hI, hag, hS1, hS2⟩ := hB
  obtain ⟨Du, Lu, Su, nu, cu, gu⟩ := u
  obtain ⟨Dt, Lt, St, nt, ct, gt⟩ := t
  obtain rfl : nu = n := hag.1
  obtain rfl : cu = c2 := hag.2.1
  obtain rfl : gu = g2 := hag.2.2.1
  have h63 : nu ≤ 63 := hI.1
  have hc5 : came ≤ 500 := hI.2.1
  have hu : okS Su := hI.2.2.1
  have hSt : okS St := hS2
  have hD1 := okD_ag hI hag
  by_cases hok : isO (xs (i + 1)) (nI 0) (nI 999) = true
  · by_cases hfull : nu < 63 ∧ came < 500
    · have hL3 := L_come hI hS1 hag hfull.1 hfull.2 hok
      refine k_come hF hA cI cJ hK hE hX hbl hbA hL o h da la sa h2 da2 la2 sa2 mo lo li si sh ss q hP hD hS hc hs hi hl (th1 := th) (k := 0) (by decide) (w_come_r l G cI cJ o h da la sa h2 da2 la2 sa2 q f (xs (i + 1)) (d_come_0 l hst G cI o h da la sa h2 da2 la2 sa2 came Du Lu Su nu cu gu Dt Lt St nt ct gt h63 hc5 hu (xs (i + 1)) hok hfull.1 hfull.2)) (m_come_0 l G cI mo lo li si sh ss nu came cu gu lou D S shd shs th h63 hc5 hS1 hD1 (xs (i + 1)) hok hfull.1 hfull.2) (fun _ => rfl) (fun H locs ls hP hD hS hl => ?_)
      exact kk _ _ _ _ _ _ _ _ _ _ _ _ _ ⟨hL3.1, hL3.2.2, hL3.2.1, hS2⟩ H locs ls hP hD hS hl
    · refine k_come hF hA cI cJ hK hE hX hbl hbA hL o h da la sa h2 da2 la2 sa2 mo lo li si sh ss q hP hD hS hc hs hi hl (th1 := th) (k := 2) (by decide) (w_come_x2 l G cI cJ o h da la sa h2 da2 la2 sa2 q f (xs (i + 1)) (d_come_2 l hst G cI o h da la sa h2 da2 la2 sa2 came Du Lu Su nu cu gu Dt Lt St nt ct gt h63 hc5 hu (xs (i + 1)) hok (by omega))) (m_come_2 l G cI mo lo li si sh ss nu came cu gu lou D S shd shs th h63 hc5 hS1 hD1 (xs (i + 1)) hok (by omega)) (fun hq => absurd hq (by decide)) (fun H locs ls hP hD hS hl => ?_)
      exact kk _ _ _ _ _ _ _ _ _ _ _ _ _ ⟨hI, hag, hS1, hS2⟩ H locs ls hP hD hS hl
  · refine k_come hF hA cI cJ hK hE hX hbl hbA hL o h da la sa h2 da2 la2 sa2 mo lo li si sh ss q hP hD hS hc hs hi hl (th1 := th) (k := 1) (by decide) (w_come_x1 l G cI cJ o h da la sa h2 da2 la2 sa2 q f (xs (i + 1)) (d_come_1 l hst G cI o h da la sa h2 da2 la2 sa2 came Du Lu Su nu cu gu Dt Lt St nt ct gt h63 hc5 hu (xs (i + 1)) (Bool.eq_false_iff.mpr hok))) (m_come_1 l G cI mo lo li si sh ss nu came cu gu lou D S shd shs th h63 hc5 hS1 hD1 (xs (i + 1)) (Bool.eq_false_iff.mpr hok)) (fun hq => absurd hq (by decide)) (fun H locs ls hP hD hS hl => ?_)
    exact kk _ _ _ _ _ _ _ _ _ _ _ _ _ ⟨hI, hag, hS1, hS2⟩ H locs ls hP hD hS hl
set_option maxHeartbeats 4000000 in
theorem t_coach (hst : l.stackTraces = false) (hF : CallFix p m c cL_law 7 s args wsL_law RL) (hA : ∀ q, s.heap.size ≤ q → A q) (cI cJ : ClassId) (hK : va_K G vwCl [(cI, .int), (cJ, .long)] s) (hE : zEnv A s s.heap) {b L : Nat} {xs : Nat → Int32} (hX : va_X b L xs s s.heap) (hbl : b < s.heap.size) (hbA : ¬ A b) (hL : L ≤ 2048) (o h da la sa h2 da2 la2 sa2 mo lo li si sh ss q : Nat) {came : Nat} {u t : WH} {n : Nat} {c2 g2 : Int32} {lou D S shd shs : Fn} {th : Int32} {f : Nat → Int64} (hB : Bo u t came n c2 g2 lou D S) (hP : va_P G vwCl (wl cI cJ o h da la sa h2 da2 la2 sa2 mo lo li si sh ss q came u t n came c2 g2 lou D S shd shs th f) H) (hD : va_D A (wl cI cJ o h da la sa h2 da2 la2 sa2 mo lo li si sh ss q came u t n came c2 g2 lou D S shd shs th f)) (hS : va_S A s.heap H locs) (hc : cells + 1 ≤ 1052) (hs : slots + 6 ≤ 9420) {ls : Array Slot} {i : Nat} (hi : i + 4 ≤ L) (hl : lv_has ls 7 [(0, .ref b), (1, .ref o), (2, .ref mo), (3, .ref q), (4, .int (nI i))]) (kk : zGo p l e s m args below meth c Q A G cI cJ b o h da la sa h2 da2 la2 sa2 mo lo li si sh ss q i (cells + 1) (slots + 6)) : W p l e room_1 s m args below meth c H locs cells slots Q (F0 m 184 ls []) := by
  obtain ⟨hI, hag, hS1, hS2⟩ := hB
  obtain ⟨Du, Lu, Su, nu, cu, gu⟩ := u
  obtain ⟨Dt, Lt, St, nt, ct, gt⟩ := t
  obtain rfl : nu = n := hag.1
  obtain rfl : cu = c2 := hag.2.1
  obtain rfl : gu = g2 := hag.2.2.1
  have h63 : nu ≤ 63 := hI.1
  have hc5 : came ≤ 500 := hI.2.1
  have hu : okS Su := hI.2.2.1
  have hSt : okS St := hS2
  have hD1 := okD_ag hI hag
  by_cases hok : (isO (xs (i + 1)) (nI 1) (nI 20) && isO (xs (i + 2)) (nI 0) (nI 999) && isO (xs (i + 3)) (nI 0) (nI 999)) = true
  · have hok1 := (Bool.and_eq_true _ _).mp hok
    have hok2 := (Bool.and_eq_true _ _).mp hok1.1
    have ho3 := hok1.2
    have ho2 := hok2.2
    obtain ⟨kn, hk1, hk9, hz⟩ := z_kk hok2.1
    have ho1 : isO (nI kn) (nI 1) (nI 20) = true := by rw [← hz]; exact hok2.1
    by_cases hfull : nu + kn ≤ 63 ∧ came + kn ≤ 500
    · have hL3 := L_coach hI hS1 hag ho2 ho3 hk9 hk1 hfull.1 hfull.2 rfl
      have hr := z_coach (xs (i + 2)) (xs (i + 3)) came kn (Du, Lu, Su, nu, cu, gu) (nu + kn - 1)
      have hd := d_coach_0 l hst G cI o h da la sa h2 da2 la2 sa2 came Du Lu Su nu cu gu Dt Lt St nt ct gt h63 hc5 hu kn (xs (i + 2)) (xs (i + 3)) hk1 hk9 ho2 ho3 hfull.1 hfull.2
      have hm := m_coach_0 l G cI mo lo li si sh ss nu came cu gu lou D S shd shs th h63 hc5 hS1 hD1 kn (xs (i + 2)) (xs (i + 3)) ho1 ho2 ho3 hk9 hk1 hfull.1 hfull.2
      rw [← hz] at hd hm
      refine k_coach hF hA cI cJ hK hE hX hbl hbA hL o h da la sa h2 da2 la2 sa2 mo lo li si sh ss q hP hD hS hc hs hi hl (th1 := th) (k := 0) (by decide) (w_coach_r l G cI cJ o h da la sa h2 da2 la2 sa2 q f (xs (i + 1)) (xs (i + 2)) (xs (i + 3)) (hd)) (hm) (fun _ => congrArg Int32.toInt64 hr) (fun H locs ls hP hD hS hl => ?_)
      exact kk _ _ _ _ _ _ _ _ _ _ _ _ _ ⟨hL3.1, hL3.2.2, hL3.2.1, hS2⟩ H locs ls hP hD hS hl
    · have hd := d_coach_2 l hst G cI o h da la sa h2 da2 la2 sa2 came Du Lu Su nu cu gu Dt Lt St nt ct gt h63 hc5 hu kn (xs (i + 2)) (xs (i + 3)) hk1 hk9 ho2 ho3 (by omega)
      have hm := m_coach_2 l G cI mo lo li si sh ss nu came cu gu lou D S shd shs th h63 hc5 hS1 hD1 kn (xs (i + 2)) (xs (i + 3)) ho1 ho2 ho3 hk9 (by omega)
      rw [← hz] at hd hm
      refine k_coach hF hA cI cJ hK hE hX hbl hbA hL o h da la sa h2 da2 la2 sa2 mo lo li si sh ss q hP hD hS hc hs hi hl (th1 := th) (k := 2) (by decide) (w_coach_x2 l G cI cJ o h da la sa h2 da2 la2 sa2 q f (xs (i + 1)) (xs (i + 2)) (xs (i + 3)) (hd)) (hm) (fun hq => absurd hq (by decide)) (fun H locs ls hP hD hS hl => ?_)
      exact kk _ _ _ _ _ _ _ _ _ _ _ _ _ ⟨hI, hag, hS1, hS2⟩ H locs ls hP hD hS hl
  · refine k_coach hF hA cI cJ hK hE hX hbl hbA hL o h da la sa h2 da2 la2 sa2 mo lo li si sh ss q hP hD hS hc hs hi hl (th1 := th) (k := 1) (by decide) (w_coach_x1 l G cI cJ o h da la sa h2 da2 la2 sa2 q f (xs (i + 1)) (xs (i + 2)) (xs (i + 3)) (d_coach_1 l hst G cI o h da la sa h2 da2 la2 sa2 came Du Lu Su nu cu gu Dt Lt St nt ct gt h63 hc5 hu (xs (i + 1)) (xs (i + 2)) (xs (i + 3)) (Bool.eq_false_iff.mpr hok))) (m_coach_1 l G cI mo lo li si sh ss nu came cu gu lou D S shd shs th h63 hc5 hS1 hD1 (xs (i + 1)) (xs (i + 2)) (xs (i + 3)) (Bool.eq_false_iff.mpr hok)) (fun hq => absurd hq (by decide)) (fun H locs ls hP hD hS hl => ?_)
    exact kk _ _ _ _ _ _ _ _ _ _ _ _ _ ⟨hI, hag, hS1, hS2⟩ H locs ls hP hD hS hl
set_option maxHeartbeats 4000000 in
theorem t_leave (hst : l.stackTraces = false) (hF : CallFix p m c cL_law 7 s args wsL_law RL) (hA : ∀ q, s.heap.size ≤ q → A q) (cI cJ : ClassId) (hK : va_K G vwCl [(cI, .int), (cJ, .long)] s) (hE : zEnv A s s.heap) {b L : Nat} {xs : Nat → Int32} (hX : va_X b L xs s s.heap) (hbl : b < s.heap.size) (hbA : ¬ A b) (hL : L ≤ 2048) (o h da la sa h2 da2 la2 sa2 mo lo li si sh ss q : Nat) {came : Nat} {u t : WH} {n : Nat} {c2 g2 : Int32} {lou D S shd shs : Fn} {th : Int32} {f : Nat → Int64} (hB : Bo u t came n c2 g2 lou D S) (hP : va_P G vwCl (wl cI cJ o h da la sa h2 da2 la2 sa2 mo lo li si sh ss q came u t n came c2 g2 lou D S shd shs th f) H) (hD : va_D A (wl cI cJ o h da la sa h2 da2 la2 sa2 mo lo li si sh ss q came u t n came c2 g2 lou D S shd shs th f)) (hS : va_S A s.heap H locs) (hc : cells + 1 ≤ 1052) (hs : slots + 6 ≤ 9420) {ls : Array Slot} {i : Nat} (hi : i + 4 ≤ L) (hl : lv_has ls 7 [(0, .ref b), (1, .ref o), (2, .ref mo), (3, .ref q), (4, .int (nI i))]) (kk : zGo p l e s m args below meth c Q A G cI cJ b o h da la sa h2 da2 la2 sa2 mo lo li si sh ss q i (cells + 1) (slots + 6)) : W p l e room_1 s m args below meth c H locs cells slots Q (F0 m 264 ls []) := by
  obtain ⟨hI, hag, hS1, hS2⟩ := hB
  obtain ⟨Du, Lu, Su, nu, cu, gu⟩ := u
  obtain ⟨Dt, Lt, St, nt, ct, gt⟩ := t
  obtain rfl : nu = n := hag.1
  obtain rfl : cu = c2 := hag.2.1
  obtain rfl : gu = g2 := hag.2.2.1
  have h63 : nu ≤ 63 := hI.1
  have hc5 : came ≤ 500 := hI.2.1
  have hu : okS Su := hI.2.2.1
  have hSt : okS St := hS2
  have hD1 := okD_ag hI hag
  by_cases h0 : nu = 0
  · refine k_leave hF hA cI cJ hK hE hX hbl hbA hL o h da la sa h2 da2 la2 sa2 mo lo li si sh ss q hP hD hS hc hs hi hl (th1 := th) (k := 1) (by decide) (w_leave_x1 l G cI cJ o h da la sa h2 da2 la2 sa2 q f  (d_leave_1 l hst G cI o h da la sa h2 da2 la2 sa2 came Du Lu Su nu cu gu Dt Lt St nt ct gt h63 hc5 hu h0)) (m_leave_1 l G cI mo lo li si sh ss nu came cu gu lou D S shd shs th h63 hc5 hS1 hD1 h0) (fun hq => absurd hq (by decide)) (fun H locs ls hP hD hS hl => ?_)
    exact kk _ _ _ _ _ _ _ _ _ _ _ _ _ ⟨hI, hag, hS1, hS2⟩ H locs ls hP hD hS hl
  · have hL3 := L_leave hI hS1 hag (by omega)
    refine k_leave hF hA cI cJ hK hE hX hbl hbA hL o h da la sa h2 da2 la2 sa2 mo lo li si sh ss q hP hD hS hc hs hi hl (th1 := th) (k := 0) (by decide) (w_leave_r l G cI cJ o h da la sa h2 da2 la2 sa2 q f  (d_leave_0 l hst G cI o h da la sa h2 da2 la2 sa2 came Du Lu Su nu cu gu Dt Lt St nt ct gt h63 hc5 hu (by omega))) (m_leave_0 l G cI mo lo li si sh ss nu came cu gu lou D S shd shs th h63 hc5 hS1 hD1 (by omega)) (fun _ => congrArg Int32.toInt64 hL3.1) (fun H locs ls hP hD hS hl => ?_)
    exact kk _ _ _ _ _ _ _ _ _ _ _ _ _ ⟨hL3.2.1, hL3.2.2.2, hL3.2.2.1, hS2⟩ H locs ls hP hD hS hl
set_option maxHeartbeats 4000000 in
theorem t_hush (hst : l.stackTraces = false) (hF : CallFix p m c cL_law 7 s args wsL_law RL) (hA : ∀ q, s.heap.size ≤ q → A q) (cI cJ : ClassId) (hK : va_K G vwCl [(cI, .int), (cJ, .long)] s) (hE : zEnv A s s.heap) {b L : Nat} {xs : Nat → Int32} (hX : va_X b L xs s s.heap) (hbl : b < s.heap.size) (hbA : ¬ A b) (hL : L ≤ 2048) (o h da la sa h2 da2 la2 sa2 mo lo li si sh ss q : Nat) {came : Nat} {u t : WH} {n : Nat} {c2 g2 : Int32} {lou D S shd shs : Fn} {th : Int32} {f : Nat → Int64} (hB : Bo u t came n c2 g2 lou D S) (hP : va_P G vwCl (wl cI cJ o h da la sa h2 da2 la2 sa2 mo lo li si sh ss q came u t n came c2 g2 lou D S shd shs th f) H) (hD : va_D A (wl cI cJ o h da la sa h2 da2 la2 sa2 mo lo li si sh ss q came u t n came c2 g2 lou D S shd shs th f)) (hS : va_S A s.heap H locs) (hc : cells + 1 ≤ 1052) (hs : slots + 6 ≤ 9420) {ls : Array Slot} {i : Nat} (hi : i + 4 ≤ L) (hl : lv_has ls 7 [(0, .ref b), (1, .ref o), (2, .ref mo), (3, .ref q), (4, .int (nI i))]) (kk : zGo p l e s m args below meth c Q A G cI cJ b o h da la sa h2 da2 la2 sa2 mo lo li si sh ss q i (cells + 1) (slots + 6)) : W p l e room_1 s m args below meth c H locs cells slots Q (F0 m 308 ls []) := by
  obtain ⟨hI, hag, hS1, hS2⟩ := hB
  obtain ⟨Du, Lu, Su, nu, cu, gu⟩ := u
  obtain ⟨Dt, Lt, St, nt, ct, gt⟩ := t
  obtain rfl : nu = n := hag.1
  obtain rfl : cu = c2 := hag.2.1
  obtain rfl : gu = g2 := hag.2.2.1
  have h63 : nu ≤ 63 := hI.1
  have hc5 : came ≤ 500 := hI.2.1
  have hu : okS Su := hI.2.2.1
  have hSt : okS St := hS2
  have hD1 := okD_ag hI hag
  have hfd : fnd Du (xs (i + 1)) nu = fnd D (xs (i + 1)) nu := L_find hag (xs (i + 1))
  by_cases hno : fnd D (xs (i + 1)) nu < nu
  · obtain ⟨kb, hkb, hDk⟩ := hD1 _ hno
    have hxk : (xs (i + 1)) = nI kb := (fnd_yes D (xs (i + 1)) nu hno).symm.trans hDk
    have hLb : Lu (fnd D (xs (i + 1)) nu) = lou kb := by
      have h9 := (hag.2.2.2 _ hno).2.1
      have h8 : Lu (fnd D (xs (i + 1)) nu) = lou (D (fnd D (xs (i + 1)) nu)).toNatClampNeg := h9
      rw [h8, hDk, nI_clamp (by omega)]
    have hfm : fnd D (nI kb) nu = fnd D (xs (i + 1)) nu := by rw [hxk]
    by_cases hok : isO (xs (i + 2)) (nI 0) (lou kb) = true
    · have hL3 := L_hush hI hS1 hag hno hkb hDk hok
      have hd := d_hush_0 l hst G cI o h da la sa h2 da2 la2 sa2 came Du Lu Su nu cu gu Dt Lt St nt ct gt h63 hc5 hu (fnd D (xs (i + 1)) nu) hno (xs (i + 1)) hfd (xs (i + 2)) (by rw [hLb]; exact hok)
      have hm := m_hush_0 l G cI mo lo li si sh ss nu came cu gu lou D S shd shs th h63 hc5 hS1 hD1 (fnd D (xs (i + 1)) nu) kb hno hkb hfm (xs (i + 2)) hok
      rw [show (nI kb : Int32) = (xs (i + 1)) from hxk.symm] at hm
      refine k_hush hF hA cI cJ hK hE hX hbl hbA hL o h da la sa h2 da2 la2 sa2 mo lo li si sh ss q hP hD hS hc hs hi hl (th1 := th) (k := 0) (by decide) (w_hush_r l G cI cJ o h da la sa h2 da2 la2 sa2 q f (xs (i + 1)) (xs (i + 2)) (hd)) (hm) (fun _ => congrArg Int32.toInt64 (congrArg nI hL3.1)) (fun H locs ls hP hD hS hl => ?_)
      exact kk _ _ _ _ _ _ _ _ _ _ _ _ _ ⟨hL3.2.1, hL3.2.2.2, hL3.2.2.1, hS2⟩ H locs ls hP hD hS hl
    · have hbad := Bool.eq_false_iff.mpr hok
      have hd := d_hush_2 l hst G cI o h da la sa h2 da2 la2 sa2 came Du Lu Su nu cu gu Dt Lt St nt ct gt h63 hc5 hu (fnd D (xs (i + 1)) nu) hno (xs (i + 1)) hfd (xs (i + 2)) (by rw [hLb]; exact hbad)
      have hm := m_hush_2 l G cI mo lo li si sh ss nu came cu gu lou D S shd shs th h63 hc5 hS1 hD1 (fnd D (xs (i + 1)) nu) kb hno hkb hfm (xs (i + 2)) hbad
      rw [show (nI kb : Int32) = (xs (i + 1)) from hxk.symm] at hm
      refine k_hush hF hA cI cJ hK hE hX hbl hbA hL o h da la sa h2 da2 la2 sa2 mo lo li si sh ss q hP hD hS hc hs hi hl (th1 := th) (k := 2) (by decide) (w_hush_x2 l G cI cJ o h da la sa h2 da2 la2 sa2 q f (xs (i + 1)) (xs (i + 2)) (hd)) (hm) (fun hq => absurd hq (by decide)) (fun H locs ls hP hD hS hl => ?_)
      exact kk _ _ _ _ _ _ _ _ _ _ _ _ _ ⟨hI, hag, hS1, hS2⟩ H locs ls hP hD hS hl
  · have hno2 : ¬ fnd Du (xs (i + 1)) nu < nu := by rw [hfd]; exact hno
    refine k_hush hF hA cI cJ hK hE hX hbl hbA hL o h da la sa h2 da2 la2 sa2 mo lo li si sh ss q hP hD hS hc hs hi hl (th1 := th) (k := 1) (by decide) (w_hush_x1 l G cI cJ o h da la sa h2 da2 la2 sa2 q f (xs (i + 1)) (xs (i + 2)) (d_hush_1 l hst G cI o h da la sa h2 da2 la2 sa2 came Du Lu Su nu cu gu Dt Lt St nt ct gt h63 hc5 hu (xs (i + 1)) (xs (i + 2)) hno2)) (m_hush_1 l G cI mo lo li si sh ss nu came cu gu lou D S shd shs th h63 hc5 hS1 hD1 (xs (i + 1)) (xs (i + 2)) hno) (fun hq => absurd hq (by decide)) (fun H locs ls hP hD hS hl => ?_)
    exact kk _ _ _ _ _ _ _ _ _ _ _ _ _ ⟨hI, hag, hS1, hS2⟩ H locs ls hP hD hS hl
set_option maxHeartbeats 4000000 in
theorem t_fetch (hst : l.stackTraces = false) (hF : CallFix p m c cL_law 7 s args wsL_law RL) (hA : ∀ q, s.heap.size ≤ q → A q) (cI cJ : ClassId) (hK : va_K G vwCl [(cI, .int), (cJ, .long)] s) (hE : zEnv A s s.heap) {b L : Nat} {xs : Nat → Int32} (hX : va_X b L xs s s.heap) (hbl : b < s.heap.size) (hbA : ¬ A b) (hL : L ≤ 2048) (o h da la sa h2 da2 la2 sa2 mo lo li si sh ss q : Nat) {came : Nat} {u t : WH} {n : Nat} {c2 g2 : Int32} {lou D S shd shs : Fn} {th : Int32} {f : Nat → Int64} (hB : Bo u t came n c2 g2 lou D S) (hP : va_P G vwCl (wl cI cJ o h da la sa h2 da2 la2 sa2 mo lo li si sh ss q came u t n came c2 g2 lou D S shd shs th f) H) (hD : va_D A (wl cI cJ o h da la sa h2 da2 la2 sa2 mo lo li si sh ss q came u t n came c2 g2 lou D S shd shs th f)) (hS : va_S A s.heap H locs) (hc : cells + 1 ≤ 1052) (hs : slots + 6 ≤ 9420) {ls : Array Slot} {i : Nat} (hi : i + 4 ≤ L) (hl : lv_has ls 7 [(0, .ref b), (1, .ref o), (2, .ref mo), (3, .ref q), (4, .int (nI i))]) (kk : zGo p l e s m args below meth c Q A G cI cJ b o h da la sa h2 da2 la2 sa2 mo lo li si sh ss q i (cells + 1) (slots + 6)) : W p l e room_1 s m args below meth c H locs cells slots Q (F0 m 376 ls []) := by
  obtain ⟨hI, hag, hS1, hS2⟩ := hB
  obtain ⟨Du, Lu, Su, nu, cu, gu⟩ := u
  obtain ⟨Dt, Lt, St, nt, ct, gt⟩ := t
  obtain rfl : nu = n := hag.1
  obtain rfl : cu = c2 := hag.2.1
  obtain rfl : gu = g2 := hag.2.2.1
  have h63 : nu ≤ 63 := hI.1
  have hc5 : came ≤ 500 := hI.2.1
  have hu : okS Su := hI.2.2.1
  have hSt : okS St := hS2
  have hD1 := okD_ag hI hag
  have hfd : fnd Du (xs (i + 1)) nu = fnd D (xs (i + 1)) nu := L_find hag (xs (i + 1))
  by_cases hno : fnd D (xs (i + 1)) nu < nu
  · obtain ⟨kb, hkb, hDk⟩ := hD1 _ hno
    have hxk : (xs (i + 1)) = nI kb := (fnd_yes D (xs (i + 1)) nu hno).symm.trans hDk
    have hLb : Lu (fnd D (xs (i + 1)) nu) = lou kb := by
      have h9 := (hag.2.2.2 _ hno).2.1
      have h8 : Lu (fnd D (xs (i + 1)) nu) = lou (D (fnd D (xs (i + 1)) nu)).toNatClampNeg := h9
      rw [h8, hDk, nI_clamp (by omega)]
    have hfm : fnd D (nI kb) nu = fnd D (xs (i + 1)) nu := by rw [hxk]
    have hL3 := L_fetch hI hS1 hag hno
    have hd := d_fetch_0 l hst G cI o h da la sa h2 da2 la2 sa2 came Du Lu Su nu cu gu Dt Lt St nt ct gt h63 hc5 hu (fnd D (xs (i + 1)) nu) hno (xs (i + 1)) hfd
    have hm := m_fetch_0 l G cI mo lo li si sh ss nu came cu gu lou D S shd shs th h63 hc5 hS1 hD1 (fnd D (xs (i + 1)) nu) kb hno hkb hfm
    rw [show (nI kb : Int32) = (xs (i + 1)) from hxk.symm] at hm
    refine k_fetch hF hA cI cJ hK hE hX hbl hbA hL o h da la sa h2 da2 la2 sa2 mo lo li si sh ss q hP hD hS hc hs hi hl (th1 := th) (k := 0) (by decide) (w_fetch_r l G cI cJ o h da la sa h2 da2 la2 sa2 q f (xs (i + 1)) (hd)) (hm) (fun _ => congrArg Int32.toInt64 hL3.1) (fun H locs ls hP hD hS hl => ?_)
    exact kk _ _ _ _ _ _ _ _ _ _ _ _ _ ⟨hL3.2.1, hL3.2.2.2, hL3.2.2.1, hS2⟩ H locs ls hP hD hS hl
  · have hno2 : ¬ fnd Du (xs (i + 1)) nu < nu := by rw [hfd]; exact hno
    refine k_fetch hF hA cI cJ hK hE hX hbl hbA hL o h da la sa h2 da2 la2 sa2 mo lo li si sh ss q hP hD hS hc hs hi hl (th1 := th) (k := 1) (by decide) (w_fetch_x1 l G cI cJ o h da la sa h2 da2 la2 sa2 q f (xs (i + 1)) (d_fetch_1 l hst G cI o h da la sa h2 da2 la2 sa2 came Du Lu Su nu cu gu Dt Lt St nt ct gt h63 hc5 hu (xs (i + 1)) hno2)) (m_fetch_1 l G cI mo lo li si sh ss nu came cu gu lou D S shd shs th h63 hc5 hS1 hD1 (xs (i + 1)) hno) (fun hq => absurd hq (by decide)) (fun H locs ls hP hD hS hl => ?_)
    exact kk _ _ _ _ _ _ _ _ _ _ _ _ _ ⟨hI, hag, hS1, hS2⟩ H locs ls hP hD hS hl
set_option maxHeartbeats 4000000 in
theorem t_dukes (hst : l.stackTraces = false) (hF : CallFix p m c cL_law 7 s args wsL_law RL) (hA : ∀ q, s.heap.size ≤ q → A q) (cI cJ : ClassId) (hK : va_K G vwCl [(cI, .int), (cJ, .long)] s) (hE : zEnv A s s.heap) {b L : Nat} {xs : Nat → Int32} (hX : va_X b L xs s s.heap) (hbl : b < s.heap.size) (hbA : ¬ A b) (hL : L ≤ 2048) (o h da la sa h2 da2 la2 sa2 mo lo li si sh ss q : Nat) {came : Nat} {u t : WH} {n : Nat} {c2 g2 : Int32} {lou D S shd shs : Fn} {th : Int32} {f : Nat → Int64} (hB : Bo u t came n c2 g2 lou D S) (hP : va_P G vwCl (wl cI cJ o h da la sa h2 da2 la2 sa2 mo lo li si sh ss q came u t n came c2 g2 lou D S shd shs th f) H) (hD : va_D A (wl cI cJ o h da la sa h2 da2 la2 sa2 mo lo li si sh ss q came u t n came c2 g2 lou D S shd shs th f)) (hS : va_S A s.heap H locs) (hc : cells + 1 ≤ 1052) (hs : slots + 6 ≤ 9420) {ls : Array Slot} {i : Nat} (hi : i + 4 ≤ L) (hl : lv_has ls 7 [(0, .ref b), (1, .ref o), (2, .ref mo), (3, .ref q), (4, .int (nI i))]) (kk : zGo p l e s m args below meth c Q A G cI cJ b o h da la sa h2 da2 la2 sa2 mo lo li si sh ss q i (cells + 1) (slots + 6)) : W p l e room_1 s m args below meth c H locs cells slots Q (F0 m 432 ls []) := by
  obtain ⟨hI, hag, hS1, hS2⟩ := hB
  obtain ⟨Du, Lu, Su, nu, cu, gu⟩ := u
  obtain ⟨Dt, Lt, St, nt, ct, gt⟩ := t
  obtain rfl : nu = n := hag.1
  obtain rfl : cu = c2 := hag.2.1
  obtain rfl : gu = g2 := hag.2.2.1
  have h63 : nu ≤ 63 := hI.1
  have hc5 : came ≤ 500 := hI.2.1
  have hu : okS Su := hI.2.2.1
  have hSt : okS St := hS2
  have hD1 := okD_ag hI hag
  have hW := d_dukes l G cI o h da la sa h2 da2 la2 sa2 came Du Lu Su nu cu gu Dt Lt St nt ct gt h63 hc5 hu 
  have hM := m_dukes l G cI mo lo li si sh ss nu came cu gu lou D S shd shs th h63 hc5 hS1 hD1 
  refine k_dukes hF hA cI cJ hK hE hX hbl hbA hL o h da la sa h2 da2 la2 sa2 mo lo li si sh ss q hP hD hS hc hs hi hl (f1 := f) hW hM (fun H locs ls hP hD hS hl => ?_)
  exact kk _ _ _ _ _ _ _ _ _ _ _ _ _ ⟨hI, hag, hS1, hS2⟩ H locs ls hP hD hS hl
set_option maxHeartbeats 4000000 in
theorem t_quietest (hst : l.stackTraces = false) (hF : CallFix p m c cL_law 7 s args wsL_law RL) (hA : ∀ q, s.heap.size ≤ q → A q) (cI cJ : ClassId) (hK : va_K G vwCl [(cI, .int), (cJ, .long)] s) (hE : zEnv A s s.heap) {b L : Nat} {xs : Nat → Int32} (hX : va_X b L xs s s.heap) (hbl : b < s.heap.size) (hbA : ¬ A b) (hL : L ≤ 2048) (o h da la sa h2 da2 la2 sa2 mo lo li si sh ss q : Nat) {came : Nat} {u t : WH} {n : Nat} {c2 g2 : Int32} {lou D S shd shs : Fn} {th : Int32} {f : Nat → Int64} (hB : Bo u t came n c2 g2 lou D S) (hP : va_P G vwCl (wl cI cJ o h da la sa h2 da2 la2 sa2 mo lo li si sh ss q came u t n came c2 g2 lou D S shd shs th f) H) (hD : va_D A (wl cI cJ o h da la sa h2 da2 la2 sa2 mo lo li si sh ss q came u t n came c2 g2 lou D S shd shs th f)) (hS : va_S A s.heap H locs) (hc : cells + 1 ≤ 1052) (hs : slots + 6 ≤ 9420) {ls : Array Slot} {i : Nat} (hi : i + 4 ≤ L) (hl : lv_has ls 7 [(0, .ref b), (1, .ref o), (2, .ref mo), (3, .ref q), (4, .int (nI i))]) (kk : zGo p l e s m args below meth c Q A G cI cJ b o h da la sa h2 da2 la2 sa2 mo lo li si sh ss q i (cells + 1) (slots + 6)) : W p l e room_1 s m args below meth c H locs cells slots Q (F0 m 445 ls []) := by
  obtain ⟨hI, hag, hS1, hS2⟩ := hB
  obtain ⟨Du, Lu, Su, nu, cu, gu⟩ := u
  obtain ⟨Dt, Lt, St, nt, ct, gt⟩ := t
  obtain rfl : nu = n := hag.1
  obtain rfl : cu = c2 := hag.2.1
  obtain rfl : gu = g2 := hag.2.2.1
  have h63 : nu ≤ 63 := hI.1
  have hc5 : came ≤ 500 := hI.2.1
  have hu : okS Su := hI.2.2.1
  have hSt : okS St := hS2
  have hD1 := okD_ag hI hag
  have hW := d_quietest l G cI o h da la sa h2 da2 la2 sa2 came Du Lu Su nu cu gu Dt Lt St nt ct gt h63 hc5 hu 
  have hM := m_quietest l G cI mo lo li si sh ss nu came cu gu lou D S shd shs th h63 hc5 hS1 hD1 
  have hr : (if 0 < nu then Du 0 else (-1 : Int32)) = (if nu = 0 then (-1 : Int32) else D 0) := by
    by_cases h0 : nu = 0
    · rw [if_neg (by omega), if_pos h0]
    · rw [if_pos (by omega), if_neg h0]
      exact (hag.2.2.2 0 (show 0 < nu by omega)).1
  rw [hr] at hW
  refine k_quietest hF hA cI cJ hK hE hX hbl hbA hL o h da la sa h2 da2 la2 sa2 mo lo li si sh ss q hP hD hS hc hs hi hl (f1 := f) hW hM (fun H locs ls hP hD hS hl => ?_)
  exact kk _ _ _ _ _ _ _ _ _ _ _ _ _ ⟨hI, hag, hS1, hS2⟩ H locs ls hP hD hS hl
set_option maxHeartbeats 4000000 in
theorem t_berthOf (hst : l.stackTraces = false) (hF : CallFix p m c cL_law 7 s args wsL_law RL) (hA : ∀ q, s.heap.size ≤ q → A q) (cI cJ : ClassId) (hK : va_K G vwCl [(cI, .int), (cJ, .long)] s) (hE : zEnv A s s.heap) {b L : Nat} {xs : Nat → Int32} (hX : va_X b L xs s s.heap) (hbl : b < s.heap.size) (hbA : ¬ A b) (hL : L ≤ 2048) (o h da la sa h2 da2 la2 sa2 mo lo li si sh ss q : Nat) {came : Nat} {u t : WH} {n : Nat} {c2 g2 : Int32} {lou D S shd shs : Fn} {th : Int32} {f : Nat → Int64} (hB : Bo u t came n c2 g2 lou D S) (hP : va_P G vwCl (wl cI cJ o h da la sa h2 da2 la2 sa2 mo lo li si sh ss q came u t n came c2 g2 lou D S shd shs th f) H) (hD : va_D A (wl cI cJ o h da la sa h2 da2 la2 sa2 mo lo li si sh ss q came u t n came c2 g2 lou D S shd shs th f)) (hS : va_S A s.heap H locs) (hc : cells + 1 ≤ 1052) (hs : slots + 6 ≤ 9420) {ls : Array Slot} {i : Nat} (hi : i + 4 ≤ L) (hl : lv_has ls 7 [(0, .ref b), (1, .ref o), (2, .ref mo), (3, .ref q), (4, .int (nI i))]) (kk : zGo p l e s m args below meth c Q A G cI cJ b o h da la sa h2 da2 la2 sa2 mo lo li si sh ss q i (cells + 1) (slots + 6)) : W p l e room_1 s m args below meth c H locs cells slots Q (F0 m 458 ls []) := by
  obtain ⟨hI, hag, hS1, hS2⟩ := hB
  obtain ⟨Du, Lu, Su, nu, cu, gu⟩ := u
  obtain ⟨Dt, Lt, St, nt, ct, gt⟩ := t
  obtain rfl : nu = n := hag.1
  obtain rfl : cu = c2 := hag.2.1
  obtain rfl : gu = g2 := hag.2.2.1
  have h63 : nu ≤ 63 := hI.1
  have hc5 : came ≤ 500 := hI.2.1
  have hu : okS Su := hI.2.2.1
  have hSt : okS St := hS2
  have hD1 := okD_ag hI hag
  have hW := d_berthOf l G cI o h da la sa h2 da2 la2 sa2 came Du Lu Su nu cu gu Dt Lt St nt ct gt h63 hc5 hu (xs (i + 1))
  have hM := m_berthOf l G cI mo lo li si sh ss nu came cu gu lou D S shd shs th h63 hc5 hS1 hD1 (xs (i + 1))
  have hr : fndI Du nu (xs (i + 1)) = fndI D nu (xs (i + 1)) := fndI_cong (fun y hy => (hag.2.2.2 y hy).1)
  rw [hr] at hW
  refine k_berthOf hF hA cI cJ hK hE hX hbl hbA hL o h da la sa h2 da2 la2 sa2 mo lo li si sh ss q hP hD hS hc hs hi hl (f1 := f) hW hM (fun H locs ls hP hD hS hl => ?_)
  exact kk _ _ _ _ _ _ _ _ _ _ _ _ _ ⟨hI, hag, hS1, hS2⟩ H locs ls hP hD hS hl
set_option maxHeartbeats 4000000 in
theorem t_dukeIn (hst : l.stackTraces = false) (hF : CallFix p m c cL_law 7 s args wsL_law RL) (hA : ∀ q, s.heap.size ≤ q → A q) (cI cJ : ClassId) (hK : va_K G vwCl [(cI, .int), (cJ, .long)] s) (hE : zEnv A s s.heap) {b L : Nat} {xs : Nat → Int32} (hX : va_X b L xs s s.heap) (hbl : b < s.heap.size) (hbA : ¬ A b) (hL : L ≤ 2048) (o h da la sa h2 da2 la2 sa2 mo lo li si sh ss q : Nat) {came : Nat} {u t : WH} {n : Nat} {c2 g2 : Int32} {lou D S shd shs : Fn} {th : Int32} {f : Nat → Int64} (hB : Bo u t came n c2 g2 lou D S) (hP : va_P G vwCl (wl cI cJ o h da la sa h2 da2 la2 sa2 mo lo li si sh ss q came u t n came c2 g2 lou D S shd shs th f) H) (hD : va_D A (wl cI cJ o h da la sa h2 da2 la2 sa2 mo lo li si sh ss q came u t n came c2 g2 lou D S shd shs th f)) (hS : va_S A s.heap H locs) (hc : cells + 1 ≤ 1052) (hs : slots + 6 ≤ 9420) {ls : Array Slot} {i : Nat} (hi : i + 4 ≤ L) (hl : lv_has ls 7 [(0, .ref b), (1, .ref o), (2, .ref mo), (3, .ref q), (4, .int (nI i))]) (kk : zGo p l e s m args below meth c Q A G cI cJ b o h da la sa h2 da2 la2 sa2 mo lo li si sh ss q i (cells + 1) (slots + 6)) : W p l e room_1 s m args below meth c H locs cells slots Q (F0 m 483 ls []) := by
  obtain ⟨hI, hag, hS1, hS2⟩ := hB
  obtain ⟨Du, Lu, Su, nu, cu, gu⟩ := u
  obtain ⟨Dt, Lt, St, nt, ct, gt⟩ := t
  obtain rfl : nu = n := hag.1
  obtain rfl : cu = c2 := hag.2.1
  obtain rfl : gu = g2 := hag.2.2.1
  have h63 : nu ≤ 63 := hI.1
  have hc5 : came ≤ 500 := hI.2.1
  have hu : okS Su := hI.2.2.1
  have hSt : okS St := hS2
  have hD1 := okD_ag hI hag
  by_cases hno : hasI nu (xs (i + 1)) = true
  · obtain ⟨bz, hb9, hz⟩ := z_has h63 hno
    have hd := d_dukeIn_0 l hst G cI o h da la sa h2 da2 la2 sa2 came Du Lu Su nu cu gu Dt Lt St nt ct gt h63 hc5 hu bz hb9
    have hm := m_dukeIn_t l G cI mo lo li si sh ss nu came cu gu lou D S shd shs th h63 hc5 hS1 hD1 bz hb9
    rw [← hz] at hd hm
    have hr : Du bz = D bz := (hag.2.2.2 bz hb9).1
    refine k_dukeIn hF hA cI cJ hK hE hX hbl hbA hL o h da la sa h2 da2 la2 sa2 mo lo li si sh ss q hP hD hS hc hs hi hl (th1 := th) (k := 0) (by decide) (w_dukeIn_r l G cI cJ o h da la sa h2 da2 la2 sa2 q f (xs (i + 1)) (hd)) (hm) (fun _ => congrArg Int32.toInt64 hr) (fun H locs ls hP hD hS hl => ?_)
    exact kk _ _ _ _ _ _ _ _ _ _ _ _ _ ⟨hI, hag, hS1, hS2⟩ H locs ls hP hD hS hl
  · have hno := Bool.eq_false_iff.mpr hno
    refine k_dukeIn hF hA cI cJ hK hE hX hbl hbA hL o h da la sa h2 da2 la2 sa2 mo lo li si sh ss q hP hD hS hc hs hi hl (th1 := th) (k := 1) (by decide) (w_dukeIn_x1 l G cI cJ o h da la sa h2 da2 la2 sa2 q f (xs (i + 1)) (d_dukeIn_x l hst G cI o h da la sa h2 da2 la2 sa2 came Du Lu Su nu cu gu Dt Lt St nt ct gt h63 hc5 hu (xs (i + 1)) hno)) (m_dukeIn_x l G cI mo lo li si sh ss nu came cu gu lou D S shd shs th h63 hc5 hS1 hD1 (xs (i + 1)) hno) (fun hq => absurd hq (by decide)) (fun H locs ls hP hD hS hl => ?_)
    exact kk _ _ _ _ _ _ _ _ _ _ _ _ _ ⟨hI, hag, hS1, hS2⟩ H locs ls hP hD hS hl
set_option maxHeartbeats 4000000 in
theorem t_loudnessIn (hst : l.stackTraces = false) (hF : CallFix p m c cL_law 7 s args wsL_law RL) (hA : ∀ q, s.heap.size ≤ q → A q) (cI cJ : ClassId) (hK : va_K G vwCl [(cI, .int), (cJ, .long)] s) (hE : zEnv A s s.heap) {b L : Nat} {xs : Nat → Int32} (hX : va_X b L xs s s.heap) (hbl : b < s.heap.size) (hbA : ¬ A b) (hL : L ≤ 2048) (o h da la sa h2 da2 la2 sa2 mo lo li si sh ss q : Nat) {came : Nat} {u t : WH} {n : Nat} {c2 g2 : Int32} {lou D S shd shs : Fn} {th : Int32} {f : Nat → Int64} (hB : Bo u t came n c2 g2 lou D S) (hP : va_P G vwCl (wl cI cJ o h da la sa h2 da2 la2 sa2 mo lo li si sh ss q came u t n came c2 g2 lou D S shd shs th f) H) (hD : va_D A (wl cI cJ o h da la sa h2 da2 la2 sa2 mo lo li si sh ss q came u t n came c2 g2 lou D S shd shs th f)) (hS : va_S A s.heap H locs) (hc : cells + 1 ≤ 1052) (hs : slots + 6 ≤ 9420) {ls : Array Slot} {i : Nat} (hi : i + 4 ≤ L) (hl : lv_has ls 7 [(0, .ref b), (1, .ref o), (2, .ref mo), (3, .ref q), (4, .int (nI i))]) (kk : zGo p l e s m args below meth c Q A G cI cJ b o h da la sa h2 da2 la2 sa2 mo lo li si sh ss q i (cells + 1) (slots + 6)) : W p l e room_1 s m args below meth c H locs cells slots Q (F0 m 539 ls []) := by
  obtain ⟨hI, hag, hS1, hS2⟩ := hB
  obtain ⟨Du, Lu, Su, nu, cu, gu⟩ := u
  obtain ⟨Dt, Lt, St, nt, ct, gt⟩ := t
  obtain rfl : nu = n := hag.1
  obtain rfl : cu = c2 := hag.2.1
  obtain rfl : gu = g2 := hag.2.2.1
  have h63 : nu ≤ 63 := hI.1
  have hc5 : came ≤ 500 := hI.2.1
  have hu : okS Su := hI.2.2.1
  have hSt : okS St := hS2
  have hD1 := okD_ag hI hag
  by_cases hno : hasI nu (xs (i + 1)) = true
  · obtain ⟨bz, hb9, hz⟩ := z_has h63 hno
    have hd := d_loudnessIn_0 l hst G cI o h da la sa h2 da2 la2 sa2 came Du Lu Su nu cu gu Dt Lt St nt ct gt h63 hc5 hu bz hb9
    have hm := m_loudnessIn_t l G cI mo lo li si sh ss nu came cu gu lou D S shd shs th h63 hc5 hS1 hD1 bz hb9
    rw [← hz] at hd hm
    have hr : Lu bz = lou (D bz).toNatClampNeg := (hag.2.2.2 bz hb9).2.1
    refine k_loudnessIn hF hA cI cJ hK hE hX hbl hbA hL o h da la sa h2 da2 la2 sa2 mo lo li si sh ss q hP hD hS hc hs hi hl (th1 := th) (k := 0) (by decide) (w_loudnessIn_r l G cI cJ o h da la sa h2 da2 la2 sa2 q f (xs (i + 1)) (hd)) (hm) (fun _ => congrArg Int32.toInt64 hr) (fun H locs ls hP hD hS hl => ?_)
    exact kk _ _ _ _ _ _ _ _ _ _ _ _ _ ⟨hI, hag, hS1, hS2⟩ H locs ls hP hD hS hl
  · have hno := Bool.eq_false_iff.mpr hno
    refine k_loudnessIn hF hA cI cJ hK hE hX hbl hbA hL o h da la sa h2 da2 la2 sa2 mo lo li si sh ss q hP hD hS hc hs hi hl (th1 := th) (k := 1) (by decide) (w_loudnessIn_x1 l G cI cJ o h da la sa h2 da2 la2 sa2 q f (xs (i + 1)) (d_loudnessIn_x l hst G cI o h da la sa h2 da2 la2 sa2 came Du Lu Su nu cu gu Dt Lt St nt ct gt h63 hc5 hu (xs (i + 1)) hno)) (m_loudnessIn_x l G cI mo lo li si sh ss nu came cu gu lou D S shd shs th h63 hc5 hS1 hD1 (xs (i + 1)) hno) (fun hq => absurd hq (by decide)) (fun H locs ls hP hD hS hl => ?_)
    exact kk _ _ _ _ _ _ _ _ _ _ _ _ _ ⟨hI, hag, hS1, hS2⟩ H locs ls hP hD hS hl
set_option maxHeartbeats 4000000 in
theorem t_sideOf (hst : l.stackTraces = false) (hF : CallFix p m c cL_law 7 s args wsL_law RL) (hA : ∀ q, s.heap.size ≤ q → A q) (cI cJ : ClassId) (hK : va_K G vwCl [(cI, .int), (cJ, .long)] s) (hE : zEnv A s s.heap) {b L : Nat} {xs : Nat → Int32} (hX : va_X b L xs s s.heap) (hbl : b < s.heap.size) (hbA : ¬ A b) (hL : L ≤ 2048) (o h da la sa h2 da2 la2 sa2 mo lo li si sh ss q : Nat) {came : Nat} {u t : WH} {n : Nat} {c2 g2 : Int32} {lou D S shd shs : Fn} {th : Int32} {f : Nat → Int64} (hB : Bo u t came n c2 g2 lou D S) (hP : va_P G vwCl (wl cI cJ o h da la sa h2 da2 la2 sa2 mo lo li si sh ss q came u t n came c2 g2 lou D S shd shs th f) H) (hD : va_D A (wl cI cJ o h da la sa h2 da2 la2 sa2 mo lo li si sh ss q came u t n came c2 g2 lou D S shd shs th f)) (hS : va_S A s.heap H locs) (hc : cells + 1 ≤ 1052) (hs : slots + 6 ≤ 9420) {ls : Array Slot} {i : Nat} (hi : i + 4 ≤ L) (hl : lv_has ls 7 [(0, .ref b), (1, .ref o), (2, .ref mo), (3, .ref q), (4, .int (nI i))]) (kk : zGo p l e s m args below meth c Q A G cI cJ b o h da la sa h2 da2 la2 sa2 mo lo li si sh ss q i (cells + 1) (slots + 6)) : W p l e room_1 s m args below meth c H locs cells slots Q (F0 m 595 ls []) := by
  obtain ⟨hI, hag, hS1, hS2⟩ := hB
  obtain ⟨Du, Lu, Su, nu, cu, gu⟩ := u
  obtain ⟨Dt, Lt, St, nt, ct, gt⟩ := t
  obtain rfl : nu = n := hag.1
  obtain rfl : cu = c2 := hag.2.1
  obtain rfl : gu = g2 := hag.2.2.1
  have h63 : nu ≤ 63 := hI.1
  have hc5 : came ≤ 500 := hI.2.1
  have hu : okS Su := hI.2.2.1
  have hSt : okS St := hS2
  have hD1 := okD_ag hI hag
  by_cases hno : hasI nu (xs (i + 1)) = true
  · obtain ⟨bz, hb9, hz⟩ := z_has h63 hno
    have hd := d_sideOf_0 l hst G cI o h da la sa h2 da2 la2 sa2 came Du Lu Su nu cu gu Dt Lt St nt ct gt h63 hc5 hu bz hb9
    have hm := m_sideOf_t l G cI mo lo li si sh ss nu came cu gu lou D S shd shs th h63 hc5 hS1 hD1 bz hb9
    rw [← hz] at hd hm
    have hr : Su bz = S bz := (hag.2.2.2 bz hb9).2.2
    refine k_sideOf hF hA cI cJ hK hE hX hbl hbA hL o h da la sa h2 da2 la2 sa2 mo lo li si sh ss q hP hD hS hc hs hi hl (th1 := th) (k := 0) (by decide) (w_sideOf_r l G cI cJ o h da la sa h2 da2 la2 sa2 q f (xs (i + 1)) (hd)) (hm) (fun _ => congrArg Int32.toInt64 hr) (fun H locs ls hP hD hS hl => ?_)
    exact kk _ _ _ _ _ _ _ _ _ _ _ _ _ ⟨hI, hag, hS1, hS2⟩ H locs ls hP hD hS hl
  · have hno := Bool.eq_false_iff.mpr hno
    refine k_sideOf hF hA cI cJ hK hE hX hbl hbA hL o h da la sa h2 da2 la2 sa2 mo lo li si sh ss q hP hD hS hc hs hi hl (th1 := th) (k := 1) (by decide) (w_sideOf_x1 l G cI cJ o h da la sa h2 da2 la2 sa2 q f (xs (i + 1)) (d_sideOf_x l hst G cI o h da la sa h2 da2 la2 sa2 came Du Lu Su nu cu gu Dt Lt St nt ct gt h63 hc5 hu (xs (i + 1)) hno)) (m_sideOf_x l G cI mo lo li si sh ss nu came cu gu lou D S shd shs th h63 hc5 hS1 hD1 (xs (i + 1)) hno) (fun hq => absurd hq (by decide)) (fun H locs ls hP hD hS hl => ?_)
    exact kk _ _ _ _ _ _ _ _ _ _ _ _ _ ⟨hI, hag, hS1, hS2⟩ H locs ls hP hD hS hl
set_option maxHeartbeats 4000000 in
theorem t_elderOf (hst : l.stackTraces = false) (hF : CallFix p m c cL_law 7 s args wsL_law RL) (hA : ∀ q, s.heap.size ≤ q → A q) (cI cJ : ClassId) (hK : va_K G vwCl [(cI, .int), (cJ, .long)] s) (hE : zEnv A s s.heap) {b L : Nat} {xs : Nat → Int32} (hX : va_X b L xs s s.heap) (hbl : b < s.heap.size) (hbA : ¬ A b) (hL : L ≤ 2048) (o h da la sa h2 da2 la2 sa2 mo lo li si sh ss q : Nat) {came : Nat} {u t : WH} {n : Nat} {c2 g2 : Int32} {lou D S shd shs : Fn} {th : Int32} {f : Nat → Int64} (hB : Bo u t came n c2 g2 lou D S) (hP : va_P G vwCl (wl cI cJ o h da la sa h2 da2 la2 sa2 mo lo li si sh ss q came u t n came c2 g2 lou D S shd shs th f) H) (hD : va_D A (wl cI cJ o h da la sa h2 da2 la2 sa2 mo lo li si sh ss q came u t n came c2 g2 lou D S shd shs th f)) (hS : va_S A s.heap H locs) (hc : cells + 1 ≤ 1052) (hs : slots + 6 ≤ 9420) {ls : Array Slot} {i : Nat} (hi : i + 4 ≤ L) (hl : lv_has ls 7 [(0, .ref b), (1, .ref o), (2, .ref mo), (3, .ref q), (4, .int (nI i))]) (kk : zGo p l e s m args below meth c Q A G cI cJ b o h da la sa h2 da2 la2 sa2 mo lo li si sh ss q i (cells + 1) (slots + 6)) : W p l e room_1 s m args below meth c H locs cells slots Q (F0 m 651 ls []) := by
  obtain ⟨hI, hag, hS1, hS2⟩ := hB
  obtain ⟨Du, Lu, Su, nu, cu, gu⟩ := u
  obtain ⟨Dt, Lt, St, nt, ct, gt⟩ := t
  obtain rfl : nu = n := hag.1
  obtain rfl : cu = c2 := hag.2.1
  obtain rfl : gu = g2 := hag.2.2.1
  have h63 : nu ≤ 63 := hI.1
  have hc5 : came ≤ 500 := hI.2.1
  have hu : okS Su := hI.2.2.1
  have hSt : okS St := hS2
  have hD1 := okD_ag hI hag
  by_cases hno : hasI nu (xs (i + 1)) = true
  · obtain ⟨bz, hb9, hz⟩ := z_has h63 hno
    have hd := d_elderOf_0 l hst G cI o h da la sa h2 da2 la2 sa2 came Du Lu Su nu cu gu Dt Lt St nt ct gt h63 hc5 hu bz hb9
    have hm := m_elderOf_t l G cI mo lo li si sh ss nu came cu gu lou D S shd shs th h63 hc5 hS1 hD1 bz hb9
    rw [← hz] at hd hm
    have hr : (if bz = 0 then (-1 : Int32) else nI (eld Su bz)) = (if bz = 0 then (-1 : Int32) else nI (eld S bz)) := by rw [show eld Su bz = eld S bz from ag_eld hag hb9]
    refine k_elderOf hF hA cI cJ hK hE hX hbl hbA hL o h da la sa h2 da2 la2 sa2 mo lo li si sh ss q hP hD hS hc hs hi hl (th1 := th) (k := 0) (by decide) (w_elderOf_r l G cI cJ o h da la sa h2 da2 la2 sa2 q f (xs (i + 1)) (hd)) (hm) (fun _ => congrArg Int32.toInt64 hr) (fun H locs ls hP hD hS hl => ?_)
    exact kk _ _ _ _ _ _ _ _ _ _ _ _ _ ⟨hI, hag, hS1, hS2⟩ H locs ls hP hD hS hl
  · have hno := Bool.eq_false_iff.mpr hno
    refine k_elderOf hF hA cI cJ hK hE hX hbl hbA hL o h da la sa h2 da2 la2 sa2 mo lo li si sh ss q hP hD hS hc hs hi hl (th1 := th) (k := 1) (by decide) (w_elderOf_x1 l G cI cJ o h da la sa h2 da2 la2 sa2 q f (xs (i + 1)) (d_elderOf_x l hst G cI o h da la sa h2 da2 la2 sa2 came Du Lu Su nu cu gu Dt Lt St nt ct gt h63 hc5 hu (xs (i + 1)) hno)) (m_elderOf_x l G cI mo lo li si sh ss nu came cu gu lou D S shd shs th h63 hc5 hS1 hD1 (xs (i + 1)) hno) (fun hq => absurd hq (by decide)) (fun H locs ls hP hD hS hl => ?_)
    exact kk _ _ _ _ _ _ _ _ _ _ _ _ _ ⟨hI, hag, hS1, hS2⟩ H locs ls hP hD hS hl
set_option maxHeartbeats 4000000 in
theorem t_followersOf (hst : l.stackTraces = false) (hF : CallFix p m c cL_law 7 s args wsL_law RL) (hA : ∀ q, s.heap.size ≤ q → A q) (cI cJ : ClassId) (hK : va_K G vwCl [(cI, .int), (cJ, .long)] s) (hE : zEnv A s s.heap) {b L : Nat} {xs : Nat → Int32} (hX : va_X b L xs s s.heap) (hbl : b < s.heap.size) (hbA : ¬ A b) (hL : L ≤ 2048) (o h da la sa h2 da2 la2 sa2 mo lo li si sh ss q : Nat) {came : Nat} {u t : WH} {n : Nat} {c2 g2 : Int32} {lou D S shd shs : Fn} {th : Int32} {f : Nat → Int64} (hB : Bo u t came n c2 g2 lou D S) (hP : va_P G vwCl (wl cI cJ o h da la sa h2 da2 la2 sa2 mo lo li si sh ss q came u t n came c2 g2 lou D S shd shs th f) H) (hD : va_D A (wl cI cJ o h da la sa h2 da2 la2 sa2 mo lo li si sh ss q came u t n came c2 g2 lou D S shd shs th f)) (hS : va_S A s.heap H locs) (hc : cells + 1 ≤ 1052) (hs : slots + 6 ≤ 9420) {ls : Array Slot} {i : Nat} (hi : i + 4 ≤ L) (hl : lv_has ls 7 [(0, .ref b), (1, .ref o), (2, .ref mo), (3, .ref q), (4, .int (nI i))]) (kk : zGo p l e s m args below meth c Q A G cI cJ b o h da la sa h2 da2 la2 sa2 mo lo li si sh ss q i (cells + 1) (slots + 6)) : W p l e room_1 s m args below meth c H locs cells slots Q (F0 m 707 ls []) := by
  obtain ⟨hI, hag, hS1, hS2⟩ := hB
  obtain ⟨Du, Lu, Su, nu, cu, gu⟩ := u
  obtain ⟨Dt, Lt, St, nt, ct, gt⟩ := t
  obtain rfl : nu = n := hag.1
  obtain rfl : cu = c2 := hag.2.1
  obtain rfl : gu = g2 := hag.2.2.1
  have h63 : nu ≤ 63 := hI.1
  have hc5 : came ≤ 500 := hI.2.1
  have hu : okS Su := hI.2.2.1
  have hSt : okS St := hS2
  have hD1 := okD_ag hI hag
  by_cases hno : hasI nu (xs (i + 1)) = true
  · obtain ⟨bz, hb9, hz⟩ := z_has h63 hno
    have hd := d_followersOf_0 l hst G cI o h da la sa h2 da2 la2 sa2 came Du Lu Su nu cu gu Dt Lt St nt ct gt h63 hc5 hu bz hb9
    have hm := m_followersOf_t l G cI mo lo li si sh ss nu came cu gu lou D S shd shs th h63 hc5 hS1 hD1 bz hb9
    rw [← hz] at hd hm
    have hr : flw Su bz nu = flw S bz nu := flw_cong nu (fun y hy => (hag.2.2.2 y hy).2.2)
    refine k_followersOf hF hA cI cJ hK hE hX hbl hbA hL o h da la sa h2 da2 la2 sa2 mo lo li si sh ss q hP hD hS hc hs hi hl (th1 := th) (k := 0) (by decide) (w_followersOf_r l G cI cJ o h da la sa h2 da2 la2 sa2 q f (xs (i + 1)) (hd)) (hm) (fun _ => congrArg Int32.toInt64 hr) (fun H locs ls hP hD hS hl => ?_)
    exact kk _ _ _ _ _ _ _ _ _ _ _ _ _ ⟨hI, hag, hS1, hS2⟩ H locs ls hP hD hS hl
  · have hno := Bool.eq_false_iff.mpr hno
    refine k_followersOf hF hA cI cJ hK hE hX hbl hbA hL o h da la sa h2 da2 la2 sa2 mo lo li si sh ss q hP hD hS hc hs hi hl (th1 := th) (k := 1) (by decide) (w_followersOf_x1 l G cI cJ o h da la sa h2 da2 la2 sa2 q f (xs (i + 1)) (d_followersOf_x l hst G cI o h da la sa h2 da2 la2 sa2 came Du Lu Su nu cu gu Dt Lt St nt ct gt h63 hc5 hu (xs (i + 1)) hno)) (m_followersOf_x l G cI mo lo li si sh ss nu came cu gu lou D S shd shs th h63 hc5 hS1 hD1 (xs (i + 1)) hno) (fun hq => absurd hq (by decide)) (fun H locs ls hP hD hS hl => ?_)
    exact kk _ _ _ _ _ _ _ _ _ _ _ _ _ ⟨hI, hag, hS1, hS2⟩ H locs ls hP hD hS hl
set_option maxHeartbeats 4000000 in
theorem t_flipped (hst : l.stackTraces = false) (hF : CallFix p m c cL_law 7 s args wsL_law RL) (hA : ∀ q, s.heap.size ≤ q → A q) (cI cJ : ClassId) (hK : va_K G vwCl [(cI, .int), (cJ, .long)] s) (hE : zEnv A s s.heap) {b L : Nat} {xs : Nat → Int32} (hX : va_X b L xs s s.heap) (hbl : b < s.heap.size) (hbA : ¬ A b) (hL : L ≤ 2048) (o h da la sa h2 da2 la2 sa2 mo lo li si sh ss q : Nat) {came : Nat} {u t : WH} {n : Nat} {c2 g2 : Int32} {lou D S shd shs : Fn} {th : Int32} {f : Nat → Int64} (hB : Bo u t came n c2 g2 lou D S) (hP : va_P G vwCl (wl cI cJ o h da la sa h2 da2 la2 sa2 mo lo li si sh ss q came u t n came c2 g2 lou D S shd shs th f) H) (hD : va_D A (wl cI cJ o h da la sa h2 da2 la2 sa2 mo lo li si sh ss q came u t n came c2 g2 lou D S shd shs th f)) (hS : va_S A s.heap H locs) (hc : cells + 1 ≤ 1052) (hs : slots + 6 ≤ 9420) {ls : Array Slot} {i : Nat} (hi : i + 4 ≤ L) (hl : lv_has ls 7 [(0, .ref b), (1, .ref o), (2, .ref mo), (3, .ref q), (4, .int (nI i))]) (kk : zGo p l e s m args below meth c Q A G cI cJ b o h da la sa h2 da2 la2 sa2 mo lo li si sh ss q i (cells + 1) (slots + 6)) : W p l e room_1 s m args below meth c H locs cells slots Q (F0 m 763 ls []) := by
  obtain ⟨hI, hag, hS1, hS2⟩ := hB
  obtain ⟨Du, Lu, Su, nu, cu, gu⟩ := u
  obtain ⟨Dt, Lt, St, nt, ct, gt⟩ := t
  obtain rfl : nu = n := hag.1
  obtain rfl : cu = c2 := hag.2.1
  obtain rfl : gu = g2 := hag.2.2.1
  have h63 : nu ≤ 63 := hI.1
  have hc5 : came ≤ 500 := hI.2.1
  have hu : okS Su := hI.2.2.1
  have hSt : okS St := hS2
  have hD1 := okD_ag hI hag
  have hW := d_flipped l G cI o h da la sa h2 da2 la2 sa2 came Du Lu Su nu cu gu Dt Lt St nt ct gt h63 hc5 hu 
  have hM := m_flipped l G cI mo lo li si sh ss nu came cu gu lou D S shd shs th h63 hc5 hS1 hD1 
  have hr : flp Su nu = flp S nu := flp_cong nu (fun y hy => (hag.2.2.2 y hy).2.2)
  rw [hr] at hW
  refine k_flipped hF hA cI cJ hK hE hX hbl hbA hL o h da la sa h2 da2 la2 sa2 mo lo li si sh ss q hP hD hS hc hs hi hl (f1 := f) hW hM (fun H locs ls hP hD hS hl => ?_)
  exact kk _ _ _ _ _ _ _ _ _ _ _ _ _ ⟨hI, hag, hS1, hS2⟩ H locs ls hP hD hS hl
set_option maxHeartbeats 4000000 in
theorem t_comparisons (hst : l.stackTraces = false) (hF : CallFix p m c cL_law 7 s args wsL_law RL) (hA : ∀ q, s.heap.size ≤ q → A q) (cI cJ : ClassId) (hK : va_K G vwCl [(cI, .int), (cJ, .long)] s) (hE : zEnv A s s.heap) {b L : Nat} {xs : Nat → Int32} (hX : va_X b L xs s s.heap) (hbl : b < s.heap.size) (hbA : ¬ A b) (hL : L ≤ 2048) (o h da la sa h2 da2 la2 sa2 mo lo li si sh ss q : Nat) {came : Nat} {u t : WH} {n : Nat} {c2 g2 : Int32} {lou D S shd shs : Fn} {th : Int32} {f : Nat → Int64} (hB : Bo u t came n c2 g2 lou D S) (hP : va_P G vwCl (wl cI cJ o h da la sa h2 da2 la2 sa2 mo lo li si sh ss q came u t n came c2 g2 lou D S shd shs th f) H) (hD : va_D A (wl cI cJ o h da la sa h2 da2 la2 sa2 mo lo li si sh ss q came u t n came c2 g2 lou D S shd shs th f)) (hS : va_S A s.heap H locs) (hc : cells + 1 ≤ 1052) (hs : slots + 6 ≤ 9420) {ls : Array Slot} {i : Nat} (hi : i + 4 ≤ L) (hl : lv_has ls 7 [(0, .ref b), (1, .ref o), (2, .ref mo), (3, .ref q), (4, .int (nI i))]) (kk : zGo p l e s m args below meth c Q A G cI cJ b o h da la sa h2 da2 la2 sa2 mo lo li si sh ss q i (cells + 1) (slots + 6)) : W p l e room_1 s m args below meth c H locs cells slots Q (F0 m 776 ls []) := by
  obtain ⟨hI, hag, hS1, hS2⟩ := hB
  obtain ⟨Du, Lu, Su, nu, cu, gu⟩ := u
  obtain ⟨Dt, Lt, St, nt, ct, gt⟩ := t
  obtain rfl : nu = n := hag.1
  obtain rfl : cu = c2 := hag.2.1
  obtain rfl : gu = g2 := hag.2.2.1
  have h63 : nu ≤ 63 := hI.1
  have hc5 : came ≤ 500 := hI.2.1
  have hu : okS Su := hI.2.2.1
  have hSt : okS St := hS2
  have hD1 := okD_ag hI hag
  have hW := d_comparisons l G cI o h da la sa h2 da2 la2 sa2 came Du Lu Su nu cu gu Dt Lt St nt ct gt h63 hc5 hu 
  have hM := m_comparisons l G cI mo lo li si sh ss nu came cu gu lou D S shd shs th h63 hc5 hS1 hD1 
  refine k_comparisons hF hA cI cJ hK hE hX hbl hbA hL o h da la sa h2 da2 la2 sa2 mo lo li si sh ss q hP hD hS hc hs hi hl (f1 := f) hW hM (fun H locs ls hP hD hS hl => ?_)
  exact kk _ _ _ _ _ _ _ _ _ _ _ _ _ ⟨hI, hag, hS1, hS2⟩ H locs ls hP hD hS hl
set_option maxHeartbeats 4000000 in
theorem t_changes (hst : l.stackTraces = false) (hF : CallFix p m c cL_law 7 s args wsL_law RL) (hA : ∀ q, s.heap.size ≤ q → A q) (cI cJ : ClassId) (hK : va_K G vwCl [(cI, .int), (cJ, .long)] s) (hE : zEnv A s s.heap) {b L : Nat} {xs : Nat → Int32} (hX : va_X b L xs s s.heap) (hbl : b < s.heap.size) (hbA : ¬ A b) (hL : L ≤ 2048) (o h da la sa h2 da2 la2 sa2 mo lo li si sh ss q : Nat) {came : Nat} {u t : WH} {n : Nat} {c2 g2 : Int32} {lou D S shd shs : Fn} {th : Int32} {f : Nat → Int64} (hB : Bo u t came n c2 g2 lou D S) (hP : va_P G vwCl (wl cI cJ o h da la sa h2 da2 la2 sa2 mo lo li si sh ss q came u t n came c2 g2 lou D S shd shs th f) H) (hD : va_D A (wl cI cJ o h da la sa h2 da2 la2 sa2 mo lo li si sh ss q came u t n came c2 g2 lou D S shd shs th f)) (hS : va_S A s.heap H locs) (hc : cells + 1 ≤ 1052) (hs : slots + 6 ≤ 9420) {ls : Array Slot} {i : Nat} (hi : i + 4 ≤ L) (hl : lv_has ls 7 [(0, .ref b), (1, .ref o), (2, .ref mo), (3, .ref q), (4, .int (nI i))]) (kk : zGo p l e s m args below meth c Q A G cI cJ b o h da la sa h2 da2 la2 sa2 mo lo li si sh ss q i (cells + 1) (slots + 6)) : W p l e room_1 s m args below meth c H locs cells slots Q (F0 m 789 ls []) := by
  obtain ⟨hI, hag, hS1, hS2⟩ := hB
  obtain ⟨Du, Lu, Su, nu, cu, gu⟩ := u
  obtain ⟨Dt, Lt, St, nt, ct, gt⟩ := t
  obtain rfl : nu = n := hag.1
  obtain rfl : cu = c2 := hag.2.1
  obtain rfl : gu = g2 := hag.2.2.1
  have h63 : nu ≤ 63 := hI.1
  have hc5 : came ≤ 500 := hI.2.1
  have hu : okS Su := hI.2.2.1
  have hSt : okS St := hS2
  have hD1 := okD_ag hI hag
  have hW := d_changes l G cI o h da la sa h2 da2 la2 sa2 came Du Lu Su nu cu gu Dt Lt St nt ct gt h63 hc5 hu 
  have hM := m_changes l G cI mo lo li si sh ss nu came cu gu lou D S shd shs th h63 hc5 hS1 hD1 
  refine k_changes hF hA cI cJ hK hE hX hbl hbA hL o h da la sa h2 da2 la2 sa2 mo lo li si sh ss q hP hD hS hc hs hi hl (f1 := f) hW hM (fun H locs ls hP hD hS hl => ?_)
  exact kk _ _ _ _ _ _ _ _ _ _ _ _ _ ⟨hI, hag, hS1, hS2⟩ H locs ls hP hD hS hl
set_option maxHeartbeats 4000000 in
theorem t_comparisonsToEmpty (hst : l.stackTraces = false) (hF : CallFix p m c cL_law 7 s args wsL_law RL) (hA : ∀ q, s.heap.size ≤ q → A q) (cI cJ : ClassId) (hK : va_K G vwCl [(cI, .int), (cJ, .long)] s) (hE : zEnv A s s.heap) {b L : Nat} {xs : Nat → Int32} (hX : va_X b L xs s s.heap) (hbl : b < s.heap.size) (hbA : ¬ A b) (hL : L ≤ 2048) (o h da la sa h2 da2 la2 sa2 mo lo li si sh ss q : Nat) {came : Nat} {u t : WH} {n : Nat} {c2 g2 : Int32} {lou D S shd shs : Fn} {th : Int32} {f : Nat → Int64} (hB : Bo u t came n c2 g2 lou D S) (hP : va_P G vwCl (wl cI cJ o h da la sa h2 da2 la2 sa2 mo lo li si sh ss q came u t n came c2 g2 lou D S shd shs th f) H) (hD : va_D A (wl cI cJ o h da la sa h2 da2 la2 sa2 mo lo li si sh ss q came u t n came c2 g2 lou D S shd shs th f)) (hS : va_S A s.heap H locs) (hc : cells + 1 ≤ 1052) (hs : slots + 6 ≤ 9420) {ls : Array Slot} {i : Nat} (hi : i + 4 ≤ L) (hl : lv_has ls 7 [(0, .ref b), (1, .ref o), (2, .ref mo), (3, .ref q), (4, .int (nI i))]) (kk : zGo p l e s m args below meth c Q A G cI cJ b o h da la sa h2 da2 la2 sa2 mo lo li si sh ss q i (cells + 1) (slots + 6)) : W p l e room_1 s m args below meth c H locs cells slots Q (F0 m 802 ls []) := by
  obtain ⟨hI, hag, hS1, hS2⟩ := hB
  obtain ⟨Du, Lu, Su, nu, cu, gu⟩ := u
  obtain ⟨Dt, Lt, St, nt, ct, gt⟩ := t
  obtain rfl : nu = n := hag.1
  obtain rfl : cu = c2 := hag.2.1
  obtain rfl : gu = g2 := hag.2.2.1
  have h63 : nu ≤ 63 := hI.1
  have hc5 : came ≤ 500 := hI.2.1
  have hu : okS Su := hI.2.2.1
  have hSt : okS St := hS2
  have hD1 := okD_ag hI hag
  have hW := d_comparisonsToEmpty l G cI o h da la sa h2 da2 la2 sa2 came Du Lu Su nu cu gu Dt Lt St nt ct gt h63 hc5 hu hSt 
  have hM := m_comparisonsToEmpty l G cI mo lo li si sh ss nu came cu gu lou D S shd shs th h63 hc5 hS1 hD1 
  have hr : wc (rmsF nu (cpF (Du, Lu, Su, nu, cu, gu) (Dt, Lt, St, nt, ct, gt))) - cu = wc (rmsF nu (vM lou D S nu cu gu)) - cu := L_empty hI hag
  rw [hr] at hW
  refine k_comparisonsToEmpty hF hA cI cJ hK hE hX hbl hbA hL o h da la sa h2 da2 la2 sa2 mo lo li si sh ss q hP hD hS hc hs hi hl (f1 := f) hW hM (fun H locs ls hP hD hS hl => ?_)
  exact kk _ _ _ _ _ _ _ _ _ _ _ _ _ ⟨hI, L_back hag shd shs _ _, okS_back hS1 (rmsF_okS (show okS (wS (vM lou D S nu cu gu)) from hS1) nu), rmsF_okS (show okS (wS (cpF (Du, Lu, Su, nu, cu, gu) (Dt, Lt, St, nt, ct, gt))) from okS_fl hu hSt 63) nu⟩ H locs ls hP hD hS hl
set_option maxHeartbeats 4000000 in
theorem t_leavesAt (hst : l.stackTraces = false) (hF : CallFix p m c cL_law 7 s args wsL_law RL) (hA : ∀ q, s.heap.size ≤ q → A q) (cI cJ : ClassId) (hK : va_K G vwCl [(cI, .int), (cJ, .long)] s) (hE : zEnv A s s.heap) {b L : Nat} {xs : Nat → Int32} (hX : va_X b L xs s s.heap) (hbl : b < s.heap.size) (hbA : ¬ A b) (hL : L ≤ 2048) (o h da la sa h2 da2 la2 sa2 mo lo li si sh ss q : Nat) {came : Nat} {u t : WH} {n : Nat} {c2 g2 : Int32} {lou D S shd shs : Fn} {th : Int32} {f : Nat → Int64} (hB : Bo u t came n c2 g2 lou D S) (hP : va_P G vwCl (wl cI cJ o h da la sa h2 da2 la2 sa2 mo lo li si sh ss q came u t n came c2 g2 lou D S shd shs th f) H) (hD : va_D A (wl cI cJ o h da la sa h2 da2 la2 sa2 mo lo li si sh ss q came u t n came c2 g2 lou D S shd shs th f)) (hS : va_S A s.heap H locs) (hc : cells + 1 ≤ 1052) (hs : slots + 6 ≤ 9420) {ls : Array Slot} {i : Nat} (hi : i + 4 ≤ L) (hl : lv_has ls 7 [(0, .ref b), (1, .ref o), (2, .ref mo), (3, .ref q), (4, .int (nI i))]) (kk : zGo p l e s m args below meth c Q A G cI cJ b o h da la sa h2 da2 la2 sa2 mo lo li si sh ss q i (cells + 1) (slots + 6)) : W p l e room_1 s m args below meth c H locs cells slots Q (F0 m 815 ls []) := by
  obtain ⟨hI, hag, hS1, hS2⟩ := hB
  obtain ⟨Du, Lu, Su, nu, cu, gu⟩ := u
  obtain ⟨Dt, Lt, St, nt, ct, gt⟩ := t
  obtain rfl : nu = n := hag.1
  obtain rfl : cu = c2 := hag.2.1
  obtain rfl : gu = g2 := hag.2.2.1
  have h63 : nu ≤ 63 := hI.1
  have hc5 : came ≤ 500 := hI.2.1
  have hu : okS Su := hI.2.2.1
  have hSt : okS St := hS2
  have hD1 := okD_ag hI hag
  by_cases hno : hasI nu (xs (i + 1)) = true
  · obtain ⟨bz, hb9, hz⟩ := z_has h63 hno
    have hd := d_leavesAt_0 l hst G cI o h da la sa h2 da2 la2 sa2 came Du Lu Su nu cu gu Dt Lt St nt ct gt h63 hc5 hu hSt bz hb9
    have hm := m_leavesAt_t l G cI mo lo li si sh ss nu came cu gu lou D S shd shs th h63 hc5 hS1 hD1 bz hb9
    rw [← hz] at hd hm
    have hr : wD (rmsF bz (cpF (Du, Lu, Su, nu, cu, gu) (Dt, Lt, St, nt, ct, gt))) 0 = wD (rmsF bz (vM lou D S nu cu gu)) 0 := L_leavesAt hI hag hb9
    refine k_leavesAt hF hA cI cJ hK hE hX hbl hbA hL o h da la sa h2 da2 la2 sa2 mo lo li si sh ss q hP hD hS hc hs hi hl (th1 := th) (k := 0) (by decide) (w_leavesAt_r l G cI cJ o h da la sa h2 da2 la2 sa2 q f (xs (i + 1)) (hd)) (hm) (fun _ => congrArg Int32.toInt64 hr) (fun H locs ls hP hD hS hl => ?_)
    exact kk _ _ _ _ _ _ _ _ _ _ _ _ _ ⟨hI, L_back hag shd shs _ _, okS_back hS1 (rmsF_okS (show okS (wS (vM lou D S nu cu gu)) from hS1) (bz + 1)), rmsF_okS (show okS (wS (cpF (Du, Lu, Su, nu, cu, gu) (Dt, Lt, St, nt, ct, gt))) from okS_fl hu hSt 63) bz⟩ H locs ls hP hD hS hl
  · have hno := Bool.eq_false_iff.mpr hno
    refine k_leavesAt hF hA cI cJ hK hE hX hbl hbA hL o h da la sa h2 da2 la2 sa2 mo lo li si sh ss q hP hD hS hc hs hi hl (th1 := th) (k := 1) (by decide) (w_leavesAt_x1 l G cI cJ o h da la sa h2 da2 la2 sa2 q f (xs (i + 1)) (d_leavesAt_x l hst G cI o h da la sa h2 da2 la2 sa2 came Du Lu Su nu cu gu Dt Lt St nt ct gt h63 hc5 hu hSt (xs (i + 1)) hno)) (m_leavesAt_x l G cI mo lo li si sh ss nu came cu gu lou D S shd shs th h63 hc5 hS1 hD1 (xs (i + 1)) hno) (fun hq => absurd hq (by decide)) (fun H locs ls hP hD hS hl => ?_)
    exact kk _ _ _ _ _ _ _ _ _ _ _ _ _ ⟨hI, hag, hS1, hS2⟩ H locs ls hP hD hS hl
set_option maxHeartbeats 4000000 in
theorem t_quieterThan (hst : l.stackTraces = false) (hF : CallFix p m c cL_law 7 s args wsL_law RL) (hA : ∀ q, s.heap.size ≤ q → A q) (cI cJ : ClassId) (hK : va_K G vwCl [(cI, .int), (cJ, .long)] s) (hE : zEnv A s s.heap) {b L : Nat} {xs : Nat → Int32} (hX : va_X b L xs s s.heap) (hbl : b < s.heap.size) (hbA : ¬ A b) (hL : L ≤ 2048) (o h da la sa h2 da2 la2 sa2 mo lo li si sh ss q : Nat) {came : Nat} {u t : WH} {n : Nat} {c2 g2 : Int32} {lou D S shd shs : Fn} {th : Int32} {f : Nat → Int64} (hB : Bo u t came n c2 g2 lou D S) (hP : va_P G vwCl (wl cI cJ o h da la sa h2 da2 la2 sa2 mo lo li si sh ss q came u t n came c2 g2 lou D S shd shs th f) H) (hD : va_D A (wl cI cJ o h da la sa h2 da2 la2 sa2 mo lo li si sh ss q came u t n came c2 g2 lou D S shd shs th f)) (hS : va_S A s.heap H locs) (hc : cells + 1 ≤ 1052) (hs : slots + 6 ≤ 9420) {ls : Array Slot} {i : Nat} (hi : i + 4 ≤ L) (hl : lv_has ls 7 [(0, .ref b), (1, .ref o), (2, .ref mo), (3, .ref q), (4, .int (nI i))]) (kk : zGo p l e s m args below meth c Q A G cI cJ b o h da la sa h2 da2 la2 sa2 mo lo li si sh ss q i (cells + 1) (slots + 6)) : W p l e room_1 s m args below meth c H locs cells slots Q (F0 m 871 ls []) := by
  obtain ⟨hI, hag, hS1, hS2⟩ := hB
  obtain ⟨Du, Lu, Su, nu, cu, gu⟩ := u
  obtain ⟨Dt, Lt, St, nt, ct, gt⟩ := t
  obtain rfl : nu = n := hag.1
  obtain rfl : cu = c2 := hag.2.1
  obtain rfl : gu = g2 := hag.2.2.1
  have h63 : nu ≤ 63 := hI.1
  have hc5 : came ≤ 500 := hI.2.1
  have hu : okS Su := hI.2.2.1
  have hSt : okS St := hS2
  have hD1 := okD_ag hI hag
  have hfd : fnd Du (xs (i + 1)) nu = fnd D (xs (i + 1)) nu := L_find hag (xs (i + 1))
  by_cases hno : fnd D (xs (i + 1)) nu < nu
  · obtain ⟨kb, hkb, hDk⟩ := hD1 _ hno
    have hxk : (xs (i + 1)) = nI kb := (fnd_yes D (xs (i + 1)) nu hno).symm.trans hDk
    have hLb : Lu (fnd D (xs (i + 1)) nu) = lou kb := by
      have h9 := (hag.2.2.2 _ hno).2.1
      have h8 : Lu (fnd D (xs (i + 1)) nu) = lou (D (fnd D (xs (i + 1)) nu)).toNatClampNeg := h9
      rw [h8, hDk, nI_clamp (by omega)]
    have hfm : fnd D (nI kb) nu = fnd D (xs (i + 1)) nu := by rw [hxk]
    have hr : bcF (lN (mskF Su Lu (Lu (fnd D (xs (i + 1)) nu)) nu)) = qtF lou D kb nu := by rw [hLb]; exact cb_qt hag h63 hI.2.2.2.2.2 kb
    have hd := d_quieterThan_0 l hst G cI o h da la sa h2 da2 la2 sa2 came Du Lu Su nu cu gu Dt Lt St nt ct gt h63 hc5 hu (fnd D (xs (i + 1)) nu) hno (xs (i + 1)) hfd
    have hm := m_quieterThan_t l G cI mo lo li si sh ss nu came cu gu lou D S shd shs th h63 hc5 hS1 hD1 (fnd D (xs (i + 1)) nu) kb hno hkb hfm
    rw [show (nI kb : Int32) = (xs (i + 1)) from hxk.symm] at hm
    refine k_quieterThan hF hA cI cJ hK hE hX hbl hbA hL o h da la sa h2 da2 la2 sa2 mo lo li si sh ss q hP hD hS hc hs hi hl (th1 := th) (k := 0) (by decide) (w_quieterThan_r l G cI cJ o h da la sa h2 da2 la2 sa2 q f (xs (i + 1)) (hd)) (hm) (fun _ => congrArg Int32.toInt64 hr) (fun H locs ls hP hD hS hl => ?_)
    exact kk _ _ _ _ _ _ _ _ _ _ _ _ _ ⟨hI, hag, hS1, hS2⟩ H locs ls hP hD hS hl
  · have hno2 : ¬ fnd Du (xs (i + 1)) nu < nu := by rw [hfd]; exact hno
    refine k_quieterThan hF hA cI cJ hK hE hX hbl hbA hL o h da la sa h2 da2 la2 sa2 mo lo li si sh ss q hP hD hS hc hs hi hl (th1 := th) (k := 1) (by decide) (w_quieterThan_x1 l G cI cJ o h da la sa h2 da2 la2 sa2 q f (xs (i + 1)) (d_quieterThan_x l hst G cI o h da la sa h2 da2 la2 sa2 came Du Lu Su nu cu gu Dt Lt St nt ct gt h63 hc5 hu (xs (i + 1)) hno2)) (m_quieterThan_x l G cI mo lo li si sh ss nu came cu gu lou D S shd shs th h63 hc5 hS1 hD1 (xs (i + 1)) hno) (fun hq => absurd hq (by decide)) (fun H locs ls hP hD hS hl => ?_)
    exact kk _ _ _ _ _ _ _ _ _ _ _ _ _ ⟨hI, hag, hS1, hS2⟩ H locs ls hP hD hS hl
end TURN
