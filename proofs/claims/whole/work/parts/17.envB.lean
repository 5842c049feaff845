/-! throwing, and calls of methods that may throw or that need the launch's words -/
section ZT
variable {p : Program} {l : Launch} {e : Env} {R : Room} {s : State} {m : MethodId} {args : Array Value} {below : List Frame} {meth : Method} {c : Code} {H : Heap} {locs : List Loc} {cells slots : Nat} {Q : State → Prop}
  {cc : ByteArray} {pc : Nat} {ls : Array Slot} {rest st0 : List Value} {G : va_G} {A : Nat → Prop} {a : Nat} {tys tysC : zTy} {ws ws' wc wc' wr wN : va_W} {H0 : Heap} {ret : Option FieldType} {Ts wd : List Cond} {own C : String}
  {y : MethodName} {bytes : ByteArray} {maxL nL index n mc ms : Nat} {rm : Room} {b : Addr} {As : List Value} {r : Int32} {ox : Option String}
/-- new E(text), thrown -/
theorem zT {Qc : Array Value → State → Outcome → State → Prop} (hF : CallFix p m c cc nL s args Ts RX1) (hlk : meth.locks = false) (hst : l.stackTraces = false) (hE : zEnv A s s.heap) (hto : ∀ x ∈ c.exceptionTable.toList, False) {cls text : String} {ik is ic : Nat}
    (hq : (is, text) ∈ zStrs) (hcast : va_Nw (.castable cls cls) s) (hcls : Bundle.fit cls = true) (hk : Cond.classLink RX1 ik cls ∈ Ts) (hini : Cond.initialized cls ∈ Ts) (hat : ∀ w ∈ (vx_atS RX1 ic cls zNm).filter goodWord, w ∈ Ts) (hbad : ∀ w ∈ (vx_atS RX1 ic cls zNm).filter (fun w => !goodWord w), w ∈ [Cond.castable cls cls, .declares (Bundle.initS "java/lang/RuntimeException"), .declares (Bundle.initS "java/lang/Exception"), .declares (Bundle.initS Bundle.tN)])
    (hgood : ∀ w ∈ Cond.classLink RX1 ik cls :: Cond.initialized cls :: vx_atS RX1 ic cls zNm, vx_ot w = true) (hK : va_K G vwCl tys s) (hP : va_P G vwCl ws H) (hD : va_D A ws) (hS : va_S A s.heap H locs) (hsz : ls.size = nL)
    (d0 : decode cc pc = .ok (.new ik, 3)) (d3 : decode cc (pc + 3) = .ok (.dup, 1)) (d4 : decode cc (pc + 4) = .ok (.ldc is, 2)) (d6 : decode cc (pc + 6) = .ok (.invokespecial ic, 3)) (d9 : decode cc (pc + 9) = .ok (.athrow, 1))
    (hRf : 6 ≤ R.frames) (hRl : 90 ≤ R.locals) (hRc : 1 ≤ R.cells) (hRs : 6 ≤ R.slots) :
    W p l e R s m args below meth c H locs 0 0 (vx_MQ below Qc (vx_X (fun (_ : Unit) => True) (fun E _ t => some cls = some E ∧ zWld G tys ws A t) A) args s 1 6 A) (F0 m pc ls []) := by
  obtain ⟨sa, hsa⟩ := hE.2.1 (is, text) hq
  refine vx_throwS (pc := pc) (names := zNm) (text := text) (sa := sa) hF.1 hF.2.1 hst hF.2.2.2.1 hcls (by decide) (hF.2.2.2.2 _ hk) (hF.2.2.2.2 _ hini) hsa (vx_hat (B := [.castable cls cls, .declares (Bundle.initS "java/lang/RuntimeException"), .declares (Bundle.initS "java/lang/Exception"), .declares (Bundle.initS Bundle.tN)]) (fun w hw => hF.2.2.2.2 w (hat w hw)) hbad (vx_c (va_Nw.use rfl hcast) (vx_c (va_Nw.use rfl hE.2.2.1.2.2.1) (vx_c (va_Nw.use rfl hE.2.2.1.2.2.2.1) (vx_c (va_Nw.use rfl hE.2.2.1.2.2.2.2) vx_n))))) hgood hE.2.2.2.1 hE.2.2.2.2 hS (hsz.trans hF.2.2.1.symm) d0 d3 d4 d6 d9 (fun x hx => (hto x hx).elim) ?_ ?_ (by omega) (by omega) hlk (fun t hal hz hk => ?_) hS.2.2 (by omega) (by omega)
  · show 2 + 3 < R.frames
    omega
  · show 0 + (13 * (2 + 1) + 43) ≤ R.locals
    omega
  · exact ⟨(), trivial, ⟨rfl, hP.kept (fun k q hq => hk q.1 (hP k q hq).lt), va_K.moved hal hK, hD⟩, ⟨Nat.le_trans hS.1 hz, fun q h1 h2 => (hk q (Nat.lt_of_lt_of_le h1 hS.1)).trans (hS.2.1 q h1 h2)⟩⟩
theorem zz_preVe {av : List Value} {q0 ci : Nat} {q : vw_C} {fs : List Value} (hK : va_K G vwCl tys s) (tC : List Nat) (htC : tC.filterMap (fun i => tys[i]?) = tysC) (hP : va_P G vwCl ws H) (hD : va_D A ws) (hE : zEnv A s s.heap) (hS : va_S A s.heap H locs) (hFc : ∀ q, va_A wc H.size q → A q) (isC : List Nat) (hC : isC.map (fun i => ws[i]?) = wc.map some) (hnC : va_nd isC = true) (hav : av = .ref b :: As) (hc : vwCl[ci]? = some q) (hq : q.1 = C) (he : ws[q0]? = some (b, .inr (ci, fs))) :
    PreV s H C b (zP G tysC wc av H.size) As := by
  subst hav
  subst hq
  refine ⟨fun a U g mk q => ?_, va_recv hK hP hc he, fun U hU hW => ⟨rfl, by rw [hU], by rw [hU]; exact hP.sub isC (zz_fm hC), (va_K.moved hW.alike hK).sub tC htC, (hD.sub isC hnC hC).weaken (fun _ _ _ _ => trivial), by rw [hU]; exact zEnv_nar (zEnv_warm hW (zEnv_kept hE hS.2.1)) hFc⟩⟩
  obtain ⟨q0, q1, qP, qK, qD, qE⟩ := q
  exact ⟨q0, q1, qP, va_K.moved (u := U) (U := U.calling g mk a) (Vm.Alike.refl U.vm) qK, qD, zEnv_call qE⟩
theorem zz_preSe {av : List Value} (hK : va_K G vwCl tys s) (tC : List Nat) (htC : tC.filterMap (fun i => tys[i]?) = tysC) (hP : va_P G vwCl ws H) (hD : va_D A ws) (hE : zEnv A s s.heap) (hS : va_S A s.heap H locs) (hFc : ∀ q, va_A wc H.size q → A q) (isC : List Nat) (hC : isC.map (fun i => ws[i]?) = wc.map some) (hnC : va_nd isC = true) :
    PreS s H (zP G tysC wc av H.size) av := by
  refine ⟨fun a U g mk q => ?_, fun U hU hW => ⟨rfl, by rw [hU], by rw [hU]; exact hP.sub isC (zz_fm hC), (va_K.moved hW.alike hK).sub tC htC, (hD.sub isC hnC hC).weaken (fun _ _ _ _ => trivial), by rw [hU]; exact zEnv_nar (zEnv_warm hW (zEnv_kept hE hS.2.1)) hFc⟩⟩
  obtain ⟨q0, q1, qP, qK, qD, qE⟩ := q
  exact ⟨q0, q1, qP, va_K.moved (u := U) (U := U.calling g mk a) (Vm.Alike.refl U.vm) qK, qD, zEnv_call qE⟩
/-- a call of a method that needs the launch's words and throws nothing -/
theorem zK_vy (hF : CallFix p m c cc nL s args Ts own) (hM : zY_i l y wd rm G tysC wc wc' (.ref b :: As) mc ms r) (cw : CallW R s args own C index y bytes maxL ret wd rm mc ms n) (hK : va_K G vwCl tys s) (hP : va_P G vwCl ws H) (hD : va_D A ws) (hS : va_S A s.heap H locs) (hA : ∀ q, s.heap.size ≤ q → A q) (hE : zEnv A s s.heap)
    {q0 ci : Nat} {q : vw_C} {fs : List Value} (hc : vwCl[ci]? = some q) (hq : q.1 = C) (he : ws[q0]? = some (b, .inr (ci, fs))) {isC isR perm : List Nat} (hsp : zSplit ws wc wc' wr wN isC isR perm) (tC : List Nat) (htC : tC.filterMap (fun i => tys[i]?) = tysC)
    (hn : As.length = n) (hsz : ls.size = nL) (hst : st0 = As.reverse ++ .ref b :: rest) (hW : (rest.map fun v => v.category).sum ≤ 8) (hdg : decode cc pc = .ok (.invokevirtual index, 3)) (hf : cells + mc ≤ R.cells ∧ slots + ms ≤ R.slots)
    (kk : ∀ (H1 : Heap) (locs1 : List Loc), va_P G vwCl wN H1 → va_D A wN → va_S A s.heap H1 locs1 → W p l e R s m args below meth c H1 locs1 (cells + mc) (slots + ms) Q (F0 m (pc + 3) ls (.int r :: rest))) :
    W p l e R s m args below meth c H locs cells slots Q (F0 m pc ls st0) := by
  obtain ⟨h1, h2, h3, h4, h5, h6, h7⟩ := hsp
  have hFc := va_free (wc := wc) hD hS hA isC h1
  refine va_calli (va_runV (As := As) (rest := rest) hF (hM H.size) cw (zz_preVe hK tC htC hP hD hE hS hFc isC h1 h2 rfl hc hq he) rfl hn hsz hst (lv_room (pc := pc) (ls := ls) (m := m) (rest := st0) hW) hdg hf) hS (fun q _ h => hFc q h) hFc (fun r1 u t H1 locs1 ht hvm hw hB hz1 hk1 hS => ?_)
  obtain ⟨hP1, hK1, hD1⟩ := hB
  rw [ht] at hP1
  have hw : r1 = r := hw
  subst hw
  obtain ⟨hP, hD⟩ := va_join hP hD isC isR h1 h3 h4 h5 hk1 hFc hP1 hD1
  exact kk H1 locs1 (hP.sub perm (zz_fm h6)) (hD.sub perm h7 h6) hS
/-- the same of a static method with an exception table -/
theorem zK_sw {av : List Value} {hh : List (Nat × Nat × Nat × Nat)} (hF : CallFix p m c cc nL s args Ts own) (hM : zY_i l y wd rm G tysC wc wc' av mc ms r) (cw : vx_CSW R s args own index y bytes maxL ret hh wd rm mc ms n) (hK : va_K G vwCl tys s) (hP : va_P G vwCl ws H) (hD : va_D A ws) (hS : va_S A s.heap H locs) (hA : ∀ q, s.heap.size ≤ q → A q) (hE : zEnv A s s.heap)
    {isC isR perm : List Nat} (hsp : zSplit ws wc wc' wr wN isC isR perm) (tC : List Nat) (htC : tC.filterMap (fun i => tys[i]?) = tysC)
    (hn : av.length = n) (hsz : ls.size = nL) (hst : st0 = av.reverse ++ rest) (hW : (rest.map fun v => v.category).sum ≤ 8) (hdg : decode cc pc = .ok (.invokestatic index, 3)) (hf : cells + mc ≤ R.cells ∧ slots + ms ≤ R.slots)
    (kk : ∀ (H1 : Heap) (locs1 : List Loc), va_P G vwCl wN H1 → va_D A wN → va_S A s.heap H1 locs1 → W p l e R s m args below meth c H1 locs1 (cells + mc) (slots + ms) Q (F0 m (pc + 3) ls (.int r :: rest))) :
    W p l e R s m args below meth c H locs cells slots Q (F0 m pc ls st0) := by
  obtain ⟨h1, h2, h3, h4, h5, h6, h7⟩ := hsp
  have hFc := va_free (wc := wc) hD hS hA isC h1
  refine va_calli (vx_runSW (As := av) (rest := rest) hF (hM H.size) cw (zz_preSe hK tC htC hP hD hE hS hFc isC h1 h2) rfl hn hsz hst (lv_room (pc := pc) (ls := ls) (m := m) (rest := st0) hW) hdg hf) hS (fun q _ h => hFc q h) hFc (fun r1 u t H1 locs1 ht hvm hw hB hz1 hk1 hS => ?_)
  obtain ⟨hP1, hK1, hD1⟩ := hB
  rw [ht] at hP1
  have hw : r1 = r := hw
  subst hw
  obtain ⟨hP, hD⟩ := va_join hP hD isC isR h1 h3 h4 h5 hk1 hFc hP1 hD1
  exact kk H1 locs1 (hP.sub perm (zz_fm h6)) (hD.sub perm h7 h6) hS
/-- a call that returns, of a void method that might have thrown -/
theorem zK_xv (hF : CallFix p m c cc nL s args Ts own) (hM : zX_v l y wd rm G tysC wc wc' (.ref b :: As) none) (cw : CallW R s args own C index y bytes maxL ret wd rm 1 6 n) (hK : va_K G vwCl tys s) (hP : va_P G vwCl ws H) (hD : va_D A ws) (hS : va_S A s.heap H locs) (hA : ∀ q, s.heap.size ≤ q → A q) (hE : zEnv A s s.heap)
    {q0 ci : Nat} {q : vw_C} {fs : List Value} (hc : vwCl[ci]? = some q) (hq : q.1 = C) (he : ws[q0]? = some (b, .inr (ci, fs))) {isC isR perm : List Nat} (hsp : zSplit ws wc wc' wr wN isC isR perm) (tC : List Nat) (htC : tC.filterMap (fun i => tys[i]?) = tysC)
    (hn : As.length = n) (hsz : ls.size = nL) (hst : st0 = As.reverse ++ .ref b :: rest) (hW : (rest.map fun v => v.category).sum ≤ 8) (hdg : decode cc pc = .ok (.invokevirtual index, 3)) (hf : cells + 1 ≤ R.cells ∧ slots + 6 ≤ R.slots)
    (kk : ∀ (H1 : Heap) (locs1 : List Loc), va_P G vwCl wN H1 → va_D A wN → va_S A s.heap H1 locs1 → W p l e R s m args below meth c H1 locs1 (cells + 1) (slots + 6) Q (F0 m (pc + 3) ls rest)) :
    W p l e R s m args below meth c H locs cells slots Q (F0 m pc ls st0) := by
  obtain ⟨h1, h2, h3, h4, h5, h6, h7⟩ := hsp
  have hFc := va_free (wc := wc) hD hS hA isC h1
  refine vx_callv (vx_runV (As := As) (rest := rest) hF (hM H.size) cw (zz_preVe hK tC htC hP hD hE hS hFc isC h1 h2 rfl hc hq he) rfl hn hsz hst (lv_room (pc := pc) (ls := ls) (m := m) (rest := st0) hW) hdg hf) hS (fun q _ h => hFc q h) hFc (fun q _ h => hFc q h) (fun E ce q9 u t H1 locs1 ht hvm hw hB hz1 hk1 hS hq9 hv9 hcl9 => ?_) (fun u t H1 locs1 ht hvm hw hB hz1 hk1 hS => ?_)
  · exact absurd hB.1 (fun z => by cases z)
  · obtain ⟨hP1, hK1, hD1⟩ := hB
    rw [ht] at hP1
    obtain ⟨hP, hD⟩ := va_join hP hD isC isR h1 h3 h4 h5 hk1 hFc hP1 hD1
    exact kk H1 locs1 (hP.sub perm (zz_fm h6)) (hD.sub perm h7 h6) hS
/-- a call that throws, of a void method; it goes on to the caller -/
theorem zK_xt {Qc : Array Value → State → Outcome → State → Prop} {E9 : String} (hF : CallFix p m c cc nL s args Ts own) (hM : zX_v l y wd rm G tysC wc wc' (.ref b :: As) (some E9)) (cw : CallW R s args own C index y bytes maxL ret wd rm 1 6 n) (hlk : meth.locks = false) (hto : ∀ x ∈ c.exceptionTable.toList, False) (hK : va_K G vwCl tys s) (hP : va_P G vwCl ws H) (hD : va_D A ws) (hS : va_S A s.heap H locs) (hA : ∀ q, s.heap.size ≤ q → A q) (hE : zEnv A s s.heap)
    {q0 ci : Nat} {q : vw_C} {fs : List Value} (hc : vwCl[ci]? = some q) (hq : q.1 = C) (he : ws[q0]? = some (b, .inr (ci, fs))) {isC isR perm : List Nat} (hsp : zSplit ws wc wc wr ws isC isR perm) (tC : List Nat) (htC : tC.filterMap (fun i => tys[i]?) = tysC)
    (hn : As.length = n) (hsz : ls.size = nL) (hst : st0 = As.reverse ++ .ref b :: rest) (hW : (rest.map fun v => v.category).sum ≤ 8) (hdg : decode cc pc = .ok (.invokevirtual index, 3)) (hf : 1 ≤ R.cells ∧ 6 ≤ R.slots) :
    W p l e R s m args below meth c H locs 0 0 (vx_MQ below Qc (vx_X (fun (_ : Unit) => True) (fun E _ t => some E9 = some E ∧ zWld G tys ws A t) A) args s 1 6 A) (F0 m pc ls st0) := by
  obtain ⟨h1, h2, h3, h4, h5, h6, h7⟩ := hsp
  have hFc := va_free (wc := wc) hD hS hA isC h1
  refine vx_callv (vx_runV (As := As) (rest := rest) hF (hM H.size) cw (zz_preVe hK tC htC hP hD hE hS hFc isC h1 h2 rfl hc hq he) rfl hn hsz hst (lv_room (pc := pc) (ls := ls) (m := m) (rest := st0) hW) hdg ⟨by omega, by omega⟩) hS (fun q _ h => hFc q h) hFc (fun q _ h => hFc q h) (fun E ce q9 u t H1 locs1 ht hvm hw hB hz1 hk1 hS => fun hq9 hv9 hcl9 => ?_) (fun u t H1 locs1 ht hvm hw hB hz1 hk1 hS => absurd hw (fun z => by cases z))
  obtain ⟨hE9, hP1, hK1, hD1⟩ := hB
  rw [ht] at hP1
  obtain ⟨hP, hD⟩ := va_join hP hD isC isR h1 h3 h4 h5 hk1 hFc hP1 hD1
  have hP2 := hP.sub perm (zz_fm h6)
  have hD2 := hD.sub perm h7 h6
  exact vx_out (fun x hx => (hto x hx).elim) hlk hq9 hv9 hcl9 (fun t2 ht2 hal => ⟨(), trivial, ⟨hE9, by rw [ht2]; exact hP2, va_K.moved hal hK, hD2⟩, hS.F ht2⟩) hS.2.2 (by omega) (by omega)
/-- a call with an int answer that returns, though it might have thrown -/
theorem zK_xi (hF : CallFix p m c cc nL s args Ts own) (hM : zX_i l y wd rm G tysC wc wc' (.ref b :: As) none r) (cw : CallW R s args own C index y bytes maxL ret wd rm 1 6 n) (hK : va_K G vwCl tys s) (hP : va_P G vwCl ws H) (hD : va_D A ws) (hS : va_S A s.heap H locs) (hA : ∀ q, s.heap.size ≤ q → A q) (hE : zEnv A s s.heap)
    {q0 ci : Nat} {q : vw_C} {fs : List Value} (hc : vwCl[ci]? = some q) (hq : q.1 = C) (he : ws[q0]? = some (b, .inr (ci, fs))) {isC isR perm : List Nat} (hsp : zSplit ws wc wc' wr wN isC isR perm) (tC : List Nat) (htC : tC.filterMap (fun i => tys[i]?) = tysC)
    (hn : As.length = n) (hsz : ls.size = nL) (hst : st0 = As.reverse ++ .ref b :: rest) (hW : (rest.map fun v => v.category).sum ≤ 8) (hdg : decode cc pc = .ok (.invokevirtual index, 3)) (hf : cells + 1 ≤ R.cells ∧ slots + 6 ≤ R.slots)
    (kk : ∀ (H1 : Heap) (locs1 : List Loc), va_P G vwCl wN H1 → va_D A wN → va_S A s.heap H1 locs1 → W p l e R s m args below meth c H1 locs1 (cells + 1) (slots + 6) Q (F0 m (pc + 3) ls (.int r :: rest))) :
    W p l e R s m args below meth c H locs cells slots Q (F0 m pc ls st0) := by
  obtain ⟨h1, h2, h3, h4, h5, h6, h7⟩ := hsp
  have hFc := va_free (wc := wc) hD hS hA isC h1
  refine vx_calli (vx_runV (As := As) (rest := rest) hF (hM H.size) cw (zz_preVe hK tC htC hP hD hE hS hFc isC h1 h2 rfl hc hq he) rfl hn hsz hst (lv_room (pc := pc) (ls := ls) (m := m) (rest := st0) hW) hdg hf) hS (fun q _ h => hFc q h) hFc (fun q _ h => hFc q h) (fun E ce q9 u t H1 locs1 ht hvm hw hB hz1 hk1 hS hq9 hv9 hcl9 => ?_) (fun r1 u t H1 locs1 ht hvm hw hB hz1 hk1 hS => ?_)
  · exact absurd hB.1 (fun z => by cases z)
  · obtain ⟨hP1, hK1, hD1⟩ := hB
    rw [ht] at hP1
    obtain ⟨-, rfl⟩ : none = none ∧ r1 = r := hw
    obtain ⟨hP, hD⟩ := va_join hP hD isC isR h1 h3 h4 h5 hk1 hFc hP1 hD1
    exact kk H1 locs1 (hP.sub perm (zz_fm h6)) (hD.sub perm h7 h6) hS
/-- a call with an int answer that throws: what the handler finds -/
theorem zK_xc {E9 : String} (hF : CallFix p m c cc nL s args Ts own) (hM : zX_i l y wd rm G tysC wc wc' (.ref b :: As) (some E9) r) (cw : CallW R s args own C index y bytes maxL ret wd rm 1 6 n) (hK : va_K G vwCl tys s) (hP : va_P G vwCl ws H) (hD : va_D A ws) (hS : va_S A s.heap H locs) (hA : ∀ q, s.heap.size ≤ q → A q) (hE : zEnv A s s.heap)
    {q0 ci : Nat} {q : vw_C} {fs : List Value} (hc : vwCl[ci]? = some q) (hq : q.1 = C) (he : ws[q0]? = some (b, .inr (ci, fs))) {isC isR perm : List Nat} (hsp : zSplit ws wc wc wr ws isC isR perm) (tC : List Nat) (htC : tC.filterMap (fun i => tys[i]?) = tysC)
    (hn : As.length = n) (hsz : ls.size = nL) (hst : st0 = As.reverse ++ .ref b :: rest) (hW : (rest.map fun v => v.category).sum ≤ 8) (hdg : decode cc pc = .ok (.invokevirtual index, 3)) (hf : cells + 1 ≤ R.cells ∧ slots + 6 ≤ R.slots)
    (kx : ∀ (ce : Cell) (q9 : Addr) (H1 : Heap) (locs1 : List Loc), va_P G vwCl ws H1 → va_D A ws → va_S A s.heap H1 locs1 → H1[q9]? = some ce → ce.vm = .none → s.vm.findClass E9 = some ce.cls → vx_W p l e R s m args below meth c H1 locs1 (cells + 1) (slots + 6) Q (F0 m pc ls rest) q9) :
    W p l e R s m args below meth c H locs cells slots Q (F0 m pc ls st0) := by
  obtain ⟨h1, h2, h3, h4, h5, h6, h7⟩ := hsp
  have hFc := va_free (wc := wc) hD hS hA isC h1
  refine vx_calli (vx_runV (As := As) (rest := rest) hF (hM H.size) cw (zz_preVe hK tC htC hP hD hE hS hFc isC h1 h2 rfl hc hq he) rfl hn hsz hst (lv_room (pc := pc) (ls := ls) (m := m) (rest := st0) hW) hdg hf) hS (fun q _ h => hFc q h) hFc (fun q _ h => hFc q h) (fun E ce q9 u t H1 locs1 ht hvm hw hB hz1 hk1 hS hq9 hv9 hcl9 => ?_) (fun r1 u t H1 locs1 ht hvm hw hB hz1 hk1 hS => absurd hw.1 (fun z => by cases z))
  obtain ⟨hE9, hP1, hK1, hD1⟩ := hB
  obtain rfl : E9 = E := Option.some.inj hE9
  rw [ht] at hP1
  obtain ⟨hP, hD⟩ := va_join hP hD isC isR h1 h3 h4 h5 hk1 hFc hP1 hD1
  exact kx ce q9 H1 locs1 (hP.sub perm (zz_fm h6)) (hD.sub perm h7 h6) hS hq9 hv9 hcl9
end ZT
/-- who left last of so many -/
def tdF (V : WH) : Nat → Int32
  | 0 => -1
  | k + 1 => wD (rmsF k V) 0
theorem z_pl {pl : Int32} {mm i : Nat} (hpl : pl.toInt = (mm : Int) - 1) (hi : i < 2 ^ 31) : pl < nI i ↔ mm ≤ i := by
  have h1 := nI_toInt hi
  simp only [Int32.lt_iff_toInt_lt, h1, hpl]
  omega
