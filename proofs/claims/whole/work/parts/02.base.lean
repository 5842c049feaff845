/-! contracts in one form, calls and array places in one row each -/
abbrev Fn : Type := Nat → Int32
abbrev zTy : Type := List (ClassId × FieldType)
/-- a method that answers an int (or boolean), turns the cells ws into ws', makes nothing -/
def zC_i (l : Launch) (y : MethodName) (wd : List Cond) (rm : Room) (G : va_G) (tys : zTy) (ws ws' : va_W) (av : List Value) (r : Int32) : Prop :=
  ∀ sz : Nat, Met l y wd rm (va_Pc av (fun U => U.heap.size = sz ∧ va_P G vwCl ws U.heap ∧ va_K G vwCl tys U ∧ va_D (fun _ => True) ws)) (va_Qi (fun (r' : Int32) (_ : Unit) => r' = r) (fun _ t => va_P G vwCl ws' t.heap ∧ va_K G vwCl tys t ∧ va_D (va_A ws sz) ws') (va_A ws sz)) 0 0 (va_A ws sz)
/-- the same, without an answer -/
def zC_v (l : Launch) (y : MethodName) (wd : List Cond) (rm : Room) (G : va_G) (tys : zTy) (ws ws' : va_W) (av : List Value) : Prop :=
  ∀ sz : Nat, Met l y wd rm (va_Pc av (fun U => U.heap.size = sz ∧ va_P G vwCl ws U.heap ∧ va_K G vwCl tys U ∧ va_D (fun _ => True) ws)) (va_Qv (fun (_ : Unit) => True) (fun _ t => va_P G vwCl ws' t.heap ∧ va_K G vwCl tys t ∧ va_D (va_A ws sz) ws') (va_A ws sz)) 0 0 (va_A ws sz)
abbrev zQ_i (below : List Frame) (G : va_G) (tys : zTy) (ws' : va_W) (r : Int32) (A : Nat → Prop) (args : Array Value) (s : State) : State → Prop :=
  MQ below (va_Qi (fun (r' : Int32) (_ : Unit) => r' = r) (fun _ t => va_P G vwCl ws' t.heap ∧ va_K G vwCl tys t ∧ va_D A ws') A) args s 0 0 A
abbrev zQ_v (below : List Frame) (G : va_G) (tys : zTy) (ws' : va_W) (A : Nat → Prop) (args : Array Value) (s : State) : State → Prop :=
  MQ below (va_Qv (fun (_ : Unit) => True) (fun _ t => va_P G vwCl ws' t.heap ∧ va_K G vwCl tys t ∧ va_D A ws') A) args s 0 0 A
theorem zB_i {l : Launch} {y : MethodName} {wd wd' : List Cond} {rm : Room} {G : va_G} {tys : zTy} {ws ws' : va_W} {av : List Value} {r : Int32} {cc : ByteArray} {maxL : Nat} {ret : Option FieldType} (hy : plainName y.cls = true) (hw : wd = Cond.code y cc maxL ret :: wd') (ha : (lg_sl av).length ≤ maxL)
    (k : ∀ (p : Program) (e : Env) (s : State) (m : MethodId) (args : Array Value) (below : List Frame) (meth : Method) (c : Code) (A : Nat → Prop), CallFix p m c cc maxL s args wd y.cls → meth.sig.returnType = ret → meth.locks = false → va_K G vwCl tys s → (∀ q, s.heap.size ≤ q → A q) → va_P G vwCl ws s.heap → va_D A ws → va_S A s.heap s.heap [] → ∀ ls : Array Slot, lv_has ls maxL (lv_args 0 av) →
      W p l e rm s m args below meth c s.heap [] 0 0 (zQ_i below G tys ws' r A args s) (F0 m 0 ls [])) : zC_i l y wd rm G tys ws ws' av r := by
  intro sz
  refine Met.ofW (cc := cc) (maxL := maxL) (ret := ret) hy hw ?_
  intro p e s m args below meth c s₁ B hml hv
  obtain ⟨rfl, hsz, hP, hK, hD0⟩ := hv
  subst hsz
  have hl := lv_entry av (n := maxL) ha
  rw [lg_entry_eq]
  exact k p e s m _ below meth c (va_A ws s.heap.size) ⟨B.exec, B.bytes, hml, findClass_of_methodNamed B.named, atoms_spec (ws := wd) B.pre⟩ B.returns B.notSynchronized hK (fun q h => Or.inr h) hP (hD0.self (sz := s.heap.size)) va_S.rf _ hl
theorem zB_v {l : Launch} {y : MethodName} {wd wd' : List Cond} {rm : Room} {G : va_G} {tys : zTy} {ws ws' : va_W} {av : List Value} {cc : ByteArray} {maxL : Nat} {ret : Option FieldType} (hy : plainName y.cls = true) (hw : wd = Cond.code y cc maxL ret :: wd') (ha : (lg_sl av).length ≤ maxL)
    (k : ∀ (p : Program) (e : Env) (s : State) (m : MethodId) (args : Array Value) (below : List Frame) (meth : Method) (c : Code) (A : Nat → Prop), CallFix p m c cc maxL s args wd y.cls → meth.sig.returnType = ret → meth.locks = false → va_K G vwCl tys s → (∀ q, s.heap.size ≤ q → A q) → va_P G vwCl ws s.heap → va_D A ws → va_S A s.heap s.heap [] → ∀ ls : Array Slot, lv_has ls maxL (lv_args 0 av) →
      W p l e rm s m args below meth c s.heap [] 0 0 (zQ_v below G tys ws' A args s) (F0 m 0 ls [])) : zC_v l y wd rm G tys ws ws' av := by
  intro sz
  refine Met.ofW (cc := cc) (maxL := maxL) (ret := ret) hy hw ?_
  intro p e s m args below meth c s₁ B hml hv
  obtain ⟨rfl, hsz, hP, hK, hD0⟩ := hv
  subst hsz
  have hl := lv_entry av (n := maxL) ha
  rw [lg_entry_eq]
  exact k p e s m _ below meth c (va_A ws s.heap.size) ⟨B.exec, B.bytes, hml, findClass_of_methodNamed B.named, atoms_spec (ws := wd) B.pre⟩ B.returns B.notSynchronized hK (fun q h => Or.inr h) hP (hD0.self (sz := s.heap.size)) va_S.rf _ hl
theorem zz_fm {α β : Type} {f : α → Option β} {l : List α} {w : List β} (h : l.map f = w.map some) : l.filterMap f = w := by
  have e : l.filterMap f = (l.map f).filterMap id := by rw [List.filterMap_map]; rfl
  rw [e, h, List.filterMap_map]
  exact List.filterMap_some
section ZK
variable {p : Program} {l : Launch} {e : Env} {R : Room} {s : State} {m : MethodId} {args : Array Value} {below : List Frame} {meth : Method} {c : Code} {H : Heap} {locs : List Loc} {cells slots : Nat} {Q : State → Prop}
  {cc : ByteArray} {pc : Nat} {ls : Array Slot} {rest st0 : List Value} {G : va_G} {A : Nat → Prop} {a : Nat} {tys tysC : zTy} {ws wc wc' wr wN : va_W} {H0 : Heap} {ret : Option FieldType} {Ts wd : List Cond} {own C : String}
  {y : MethodName} {bytes : ByteArray} {maxL nL index n : Nat} {rm : Room} {b : Addr} {As : List Value} {r : Int32}
theorem zE_i {ws' : va_W} (hF : CallFix p m c cc nL s args Ts own) (hr : meth.sig.returnType = some .int) (hlk : meth.locks = false) (hK : va_K G vwCl tys s) (hP : va_P G vwCl ws' H) (hD : va_D A ws') (hS : va_S A s.heap H locs) (hdg : decode cc pc = .ok (.ireturn, 1)) :
    W p l e R s m args below meth c H locs 0 0 (zQ_i below G tys ws' r A args s) (F0 m pc ls [.int r]) :=
  W.iret (v := r) hF.1 hF.2.1 hr (fun t ht hW => ⟨⟨r, (), rfl, rfl, by rw [ht]; exact hP, va_K.moved hW.alike hK, hD⟩, hS.F ht⟩) hS.2.2 hdg hlk
theorem zE_z {ws' : va_W} (hF : CallFix p m c cc nL s args Ts own) (hr : meth.sig.returnType = some .boolean) (hlk : meth.locks = false) (hn : r = 0 ∨ r = 1) (hK : va_K G vwCl tys s) (hP : va_P G vwCl ws' H) (hD : va_D A ws') (hS : va_S A s.heap H locs) (hdg : decode cc pc = .ok (.ireturn, 1)) :
    W p l e R s m args below meth c H locs 0 0 (zQ_i below G tys ws' r A args s) (F0 m pc ls [.int r]) :=
  W.zret (v := r) hF.1 hF.2.1 hr (by rcases hn with rfl | rfl <;> decide) (fun t ht hW => ⟨⟨r, (), rfl, rfl, by rw [ht]; exact hP, va_K.moved hW.alike hK, hD⟩, hS.F ht⟩) hS.2.2 hdg hlk
theorem zE_v {ws' : va_W} (hF : CallFix p m c cc nL s args Ts own) (hr : meth.sig.returnType = none) (hlk : meth.locks = false) (hK : va_K G vwCl tys s) (hP : va_P G vwCl ws' H) (hD : va_D A ws') (hS : va_S A s.heap H locs) (hdg : decode cc pc = .ok (.return_, 1)) :
    W p l e R s m args below meth c H locs 0 0 (zQ_v below G tys ws' A args s) (F0 m pc ls []) :=
  W.vret hF.1 hF.2.1 hr (fun t ht hW => ⟨⟨(), rfl, trivial, by rw [ht]; exact hP, va_K.moved hW.alike hK, hD⟩, hS.F ht⟩) hS.2.2 hdg hlk
/-- what a call needs of the start -/
theorem zz_preV {av : List Value} {q0 ci : Nat} {q : vw_C} {fs : List Value} (hK : va_K G vwCl tys s) (tC : List Nat) (htC : tC.filterMap (fun i => tys[i]?) = tysC) (hP : va_P G vwCl ws H) (hD : va_D A ws) (isC : List Nat) (hC : isC.map (fun i => ws[i]?) = wc.map some) (hnC : va_nd isC = true) (hav : av = .ref b :: As) (hc : vwCl[ci]? = some q) (hq : q.1 = C) (he : ws[q0]? = some (b, .inr (ci, fs))) :
    PreV s H C b (va_Pc av (fun U => U.heap.size = H.size ∧ va_P G vwCl wc U.heap ∧ va_K G vwCl tysC U ∧ va_D (fun _ => True) wc)) As := by
  subst hav
  subst hq
  refine ⟨fun a U g mk q => ?_, va_recv hK hP hc he, fun U hU hW => ⟨rfl, by rw [hU], by rw [hU]; exact hP.sub isC (zz_fm hC), (va_K.moved hW.alike hK).sub tC htC, (hD.sub isC hnC hC).weaken (fun _ _ _ _ => trivial)⟩⟩
  obtain ⟨q0, q1, qP, qK, qD⟩ := q
  exact ⟨q0, q1, qP, va_K.moved (u := U) (U := U.calling g mk a) (Vm.Alike.refl U.vm) qK, qD⟩
theorem zz_preS {av : List Value} (hK : va_K G vwCl tys s) (tC : List Nat) (htC : tC.filterMap (fun i => tys[i]?) = tysC) (hP : va_P G vwCl ws H) (hD : va_D A ws) (isC : List Nat) (hC : isC.map (fun i => ws[i]?) = wc.map some) (hnC : va_nd isC = true) :
    PreS s H (va_Pc av (fun U => U.heap.size = H.size ∧ va_P G vwCl wc U.heap ∧ va_K G vwCl tysC U ∧ va_D (fun _ => True) wc)) av := by
  refine ⟨fun a U g mk q => ?_, fun U hU hW => ⟨rfl, by rw [hU], by rw [hU]; exact hP.sub isC (zz_fm hC), (va_K.moved hW.alike hK).sub tC htC, (hD.sub isC hnC hC).weaken (fun _ _ _ _ => trivial)⟩⟩
  obtain ⟨q0, q1, qP, qK, qD⟩ := q
  exact ⟨q0, q1, qP, va_K.moved (u := U) (U := U.calling g mk a) (Vm.Alike.refl U.vm) qK, qD⟩
/-- where the callee's cells and the rest lie in the caller's world, and how the world is named behind the call -/
def zSplit (ws wc wc' wr wN : va_W) (isC isR perm : List Nat) : Prop :=
  isC.map (fun i => ws[i]?) = wc.map some ∧ va_nd isC = true ∧ isR.map (fun i => ws[i]?) = wr.map some ∧ va_nd isR = true ∧ (∀ i ∈ isR, i ∉ isC) ∧ perm.map (fun i => (wr ++ wc')[i]?) = wN.map some ∧ va_nd perm = true
/-- a call of an instance method with an int answer -/
theorem zK_vi (hF : CallFix p m c cc nL s args Ts own) (hM : zC_i l y wd rm G tysC wc wc' (.ref b :: As) r) (cw : CallW R s args own C index y bytes maxL ret wd rm 0 0 n) (hK : va_K G vwCl tys s) (hP : va_P G vwCl ws H) (hD : va_D A ws) (hS : va_S A H0 H locs) (hA : ∀ q, H0.size ≤ q → A q)
    {q0 ci : Nat} {q : vw_C} {fs : List Value} (hc : vwCl[ci]? = some q) (hq : q.1 = C) (he : ws[q0]? = some (b, .inr (ci, fs))) {isC isR perm : List Nat} (hsp : zSplit ws wc wc' wr wN isC isR perm) (tC : List Nat) (htC : tC.filterMap (fun i => tys[i]?) = tysC)
    (hn : As.length = n) (hsz : ls.size = nL) (hst : st0 = As.reverse ++ .ref b :: rest) (hW : (rest.map fun v => v.category).sum ≤ 8) (hdg : decode cc pc = .ok (.invokevirtual index, 3)) (hf : cells ≤ R.cells ∧ slots ≤ R.slots)
    (kk : ∀ (H1 : Heap) (locs1 : List Loc), va_P G vwCl wN H1 → va_D A wN → va_S A H0 H1 locs1 → W p l e R s m args below meth c H1 locs1 cells slots Q (F0 m (pc + 3) ls (.int r :: rest))) :
    W p l e R s m args below meth c H locs cells slots Q (F0 m pc ls st0) := by
  obtain ⟨h1, h2, h3, h4, h5, h6, h7⟩ := hsp
  have hFc := va_free (wc := wc) hD hS hA isC h1
  refine va_calli (va_runV (As := As) (rest := rest) hF (hM H.size) cw (zz_preV hK tC htC hP hD isC h1 h2 rfl hc hq he) rfl hn hsz hst (lv_room (pc := pc) (ls := ls) (m := m) (rest := st0) hW) hdg hf) hS (fun q _ h => hFc q h) hFc (fun r1 u t H1 locs1 ht hvm hw hB hz1 hk1 hS => ?_)
  obtain ⟨hP1, hK1, hD1⟩ := hB
  rw [ht] at hP1
  have hw : r1 = r := hw
  subst hw
  obtain ⟨hP, hD⟩ := va_join hP hD isC isR h1 h3 h4 h5 hk1 hFc hP1 hD1
  exact kk H1 locs1 (hP.sub perm (zz_fm h6)) (hD.sub perm h7 h6) hS
theorem zK_vv (hF : CallFix p m c cc nL s args Ts own) (hM : zC_v l y wd rm G tysC wc wc' (.ref b :: As)) (cw : CallW R s args own C index y bytes maxL ret wd rm 0 0 n) (hK : va_K G vwCl tys s) (hP : va_P G vwCl ws H) (hD : va_D A ws) (hS : va_S A H0 H locs) (hA : ∀ q, H0.size ≤ q → A q)
    {q0 ci : Nat} {q : vw_C} {fs : List Value} (hc : vwCl[ci]? = some q) (hq : q.1 = C) (he : ws[q0]? = some (b, .inr (ci, fs))) {isC isR perm : List Nat} (hsp : zSplit ws wc wc' wr wN isC isR perm) (tC : List Nat) (htC : tC.filterMap (fun i => tys[i]?) = tysC)
    (hn : As.length = n) (hsz : ls.size = nL) (hst : st0 = As.reverse ++ .ref b :: rest) (hW : (rest.map fun v => v.category).sum ≤ 8) (hdg : decode cc pc = .ok (.invokevirtual index, 3)) (hf : cells ≤ R.cells ∧ slots ≤ R.slots)
    (kk : ∀ (H1 : Heap) (locs1 : List Loc), va_P G vwCl wN H1 → va_D A wN → va_S A H0 H1 locs1 → W p l e R s m args below meth c H1 locs1 cells slots Q (F0 m (pc + 3) ls rest)) :
    W p l e R s m args below meth c H locs cells slots Q (F0 m pc ls st0) := by
  obtain ⟨h1, h2, h3, h4, h5, h6, h7⟩ := hsp
  have hFc := va_free (wc := wc) hD hS hA isC h1
  refine va_callv (va_runV (As := As) (rest := rest) hF (hM H.size) cw (zz_preV hK tC htC hP hD isC h1 h2 rfl hc hq he) rfl hn hsz hst (lv_room (pc := pc) (ls := ls) (m := m) (rest := st0) hW) hdg hf) hS (fun q _ h => hFc q h) hFc (fun u t H1 locs1 ht hvm hw hB hz1 hk1 hS => ?_)
  obtain ⟨hP1, hK1, hD1⟩ := hB
  rw [ht] at hP1
  obtain ⟨hP, hD⟩ := va_join hP hD isC isR h1 h3 h4 h5 hk1 hFc hP1 hD1
  exact kk H1 locs1 (hP.sub perm (zz_fm h6)) (hD.sub perm h7 h6) hS
/-- a static call with an int answer -/
theorem zK_si {av : List Value} (hF : CallFix p m c cc nL s args Ts own) (hM : zC_i l y wd rm G tysC wc wc' av r) (cw : CallB R s args own index y bytes maxL ret wd rm 0 0 n ∧ (Cond.static y).before args s = true) (hK : va_K G vwCl tys s) (hP : va_P G vwCl ws H) (hD : va_D A ws) (hS : va_S A H0 H locs) (hA : ∀ q, H0.size ≤ q → A q)
    {isC isR perm : List Nat} (hsp : zSplit ws wc wc' wr wN isC isR perm) (tC : List Nat) (htC : tC.filterMap (fun i => tys[i]?) = tysC)
    (hn : av.length = n) (hsz : ls.size = nL) (hst : st0 = av.reverse ++ rest) (hW : (rest.map fun v => v.category).sum ≤ 8) (hdg : decode cc pc = .ok (.invokestatic index, 3)) (hf : cells ≤ R.cells ∧ slots ≤ R.slots)
    (kk : ∀ (H1 : Heap) (locs1 : List Loc), va_P G vwCl wN H1 → va_D A wN → va_S A H0 H1 locs1 → W p l e R s m args below meth c H1 locs1 cells slots Q (F0 m (pc + 3) ls (.int r :: rest))) :
    W p l e R s m args below meth c H locs cells slots Q (F0 m pc ls st0) := by
  obtain ⟨h1, h2, h3, h4, h5, h6, h7⟩ := hsp
  have hFc := va_free (wc := wc) hD hS hA isC h1
  refine va_calli (va_runS (As := av) (rest := rest) hF (hM H.size) cw (zz_preS hK tC htC hP hD isC h1 h2) rfl hn hsz hst (lv_room (pc := pc) (ls := ls) (m := m) (rest := st0) hW) hdg hf) hS (fun q _ h => hFc q h) hFc (fun r1 u t H1 locs1 ht hvm hw hB hz1 hk1 hS => ?_)
  obtain ⟨hP1, hK1, hD1⟩ := hB
  rw [ht] at hP1
  have hw : r1 = r := hw
  subst hw
  obtain ⟨hP, hD⟩ := va_join hP hD isC isR h1 h3 h4 h5 hk1 hFc hP1 hD1
  exact kk H1 locs1 (hP.sub perm (zz_fm h6)) (hD.sub perm h7 h6) hS
/-- array places by a natural number -/
theorem zA_ld (hexec : p.tables.exec = Jvm.exec) (hb : c.code = cc) (hK : va_K G vwCl tys s) (hP : va_P G vwCl ws H) (q0 t0 : Nat) {cA : ClassId} {N : Nat} {f : Nat → Int32} (ha : ws[q0]? = some (a, .inl (cA, N, .inl f))) (ht : tys[t0]? = some (cA, .int)) {k : Nat} (hk : k < N) (hN : N ≤ 65536) (hdg : decode cc pc = .ok (.iaload, 1))
    (kk : W p l e R s m args below meth c H locs cells slots Q (F0 m (pc + 1) ls (.int (f k) :: rest))) : W p l e R s m args below meth c H locs cells slots Q (F0 m pc ls (.int (nI k) :: .ref a :: rest)) := by
  refine va_iald hexec hb hK hP q0 t0 ha ht (vp_in_nI hk (by omega)) hdg ?_
  rw [nI_clamp (by omega)]
  exact kk
theorem zA_st (hexec : p.tables.exec = Jvm.exec) (hb : c.code = cc) (hK : va_K G vwCl tys s) (hP : va_P G vwCl ws H) (hD : va_D A ws) (hS : va_S A H0 H locs) (q0 t0 : Nat) {cA : ClassId} {N : Nat} {f : Nat → Int32} (ha : ws[q0]? = some (a, .inl (cA, N, .inl f))) (ht : tys[t0]? = some (cA, .int)) {k : Nat} {x : Int32} (hk : k < N) (hN : N ≤ 65536) (hdg : decode cc pc = .ok (.iastore, 1))
    (kk : ∀ (H1 : Heap) (locs1 : List Loc), va_P G vwCl (ws.set q0 (a, .inl (cA, N, .inl (upd f k x)))) H1 → va_D A (ws.set q0 (a, .inl (cA, N, .inl (upd f k x)))) → va_S A H0 H1 locs1 → W p l e R s m args below meth c H1 locs1 cells slots Q (F0 m (pc + 1) ls rest)) : W p l e R s m args below meth c H locs cells slots Q (F0 m pc ls (.int x :: .int (nI k) :: .ref a :: rest)) := by
  refine va_iast hexec hb hK hP hD hS q0 t0 ha ht (vp_in_nI hk (by omega)) hdg (fun H1 locs1 h1 h2 h3 => ?_)
  rw [nI_clamp (by omega)] at h1 h2
  exact kk H1 locs1 h1 h2 h3
/-- a number on the stack by another name -/
theorem zN (x : Int32) {y : Int32} (h : y = x) (kk : W p l e R s m args below meth c H locs cells slots Q (F0 m pc ls (.int x :: rest))) : W p l e R s m args below meth c H locs cells slots Q (F0 m pc ls (.int y :: rest)) := by
  rw [h]
  exact kk
end ZK
