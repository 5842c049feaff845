/-! what the class's own methods take from their launch: links to a nest mate's fields, texts, what a thrown cell is -/
def zIA : String := "java/lang/IllegalArgumentException"
def zIS : String := "java/lang/IllegalStateException"
def zIX : String := "java/lang/IndexOutOfBoundsException"
abbrev zNm : List String := ["java/lang/RuntimeException", "java/lang/Exception"]
abbrev zStrs : List (Nat × String) := [(29, "loudness must be 0 to 999"), (39, "63 lie here, or 500 have come"), (46, "dukes must be 1 to 20"), (48, "first and step must be 0 to 999"), (50, "more than 63 would lie here, or more than 500 would have come"), (64, "nobody lies here"), (76, "he does not lie here"), (82, "loudness must be 0 up to what he has"), (120, "there is no such place"), (125, "there is no such berth")]
def zStr (U : State) : Prop := ∀ q ∈ zStrs, ∃ a, vk_R RX1 q.1 q.2 a U
def zNest (U : State) : Prop := va_Nw (.fieldLinkNest RX1 61 RX0 "size" "I" RX1) U ∧ va_Nw (.fieldLinkNest RX1 52 RX0 "compared" "I" RX1) U ∧ va_Nw (.fieldLinkNest RX1 107 RX0 "changed" "I" RX1) U
def zDcl (U : State) : Prop := va_Nw (.declares (Bundle.initS "java/lang/RuntimeException")) U ∧ va_Nw (.declares (Bundle.initS "java/lang/Exception")) U ∧ va_Nw (.declares (Bundle.initS Bundle.tN)) U
def zCst (U : State) : Prop := (va_Nw (.castable zIA zIA) U ∧ va_Nw (.castable zIS zIS) U ∧ va_Nw (.castable zIX zIX) U) ∧ (va_Nc zIS zIA U ∧ va_Nc zIA zIX U) ∧ zDcl U
def zEnv (A : Nat → Prop) (U : State) (H : Heap) : Prop := zNest U ∧ zStr U ∧ zCst U ∧ vx_Zq Bundle.tN "UNASSIGNED_STACK" Bundle.steD A U H ∧ vx_Zq Bundle.tN "SUPPRESSED_SENTINEL" Bundle.listD A U H
theorem zCast {C T : String} {s U : State} (hvm : s.vm.Alike U.vm) (h : va_Nw (.castable C T) s) : va_Nw (.castable C T) U := va_tabs rfl (rfl : (s.setVm U.vm).vm = U.vm) (by rw [Cond.castable_setVm hvm]; exact h)
theorem zEnv_warm {A : Nat → Prop} {s U : State} {H : Heap} (hW : s.WarmedH U.vm) (h : zEnv A s H) : zEnv A U H := by
  obtain ⟨⟨a1, a2, a3⟩, b1, ⟨⟨c1, c2, c3⟩, ⟨c4, c5⟩, c6, c7, c8⟩, d1, d2⟩ := h
  refine ⟨⟨va_Nw.warmF hW a1, va_Nw.warmF hW a2, va_Nw.warmF hW a3⟩, fun q hq => ?_, ⟨⟨zCast hW.alike c1, zCast hW.alike c2, zCast hW.alike c3⟩, ⟨va_Nc.moved hW.alike c4, va_Nc.moved hW.alike c5⟩, va_Nw.warmD hW c6, va_Nw.warmD hW c7, va_Nw.warmD hW c8⟩, vx_Zq.moved hW.alike d1, vx_Zq.moved hW.alike d2⟩
  obtain ⟨a, ha⟩ := b1 q hq
  exact ⟨a, vk_R.warm hW ha⟩
theorem zEnv_call {A : Nat → Prop} {U : State} {H : Heap} {g : JFrame} {mk : MethodId} {a : Array Value} (h : zEnv A U H) : zEnv A (U.calling g mk a) H := by
  obtain ⟨⟨a1, a2, a3⟩, b1, ⟨⟨c1, c2, c3⟩, ⟨c4, c5⟩, c6, c7, c8⟩, d1, d2⟩ := h
  have hv : (U.calling g mk a).vm = U.vm := rfl
  have hal : U.vm.Alike (U.calling g mk a).vm := Vm.Alike.refl U.vm
  refine ⟨⟨va_Nw.same rfl hv.symm a1, va_Nw.same rfl hv.symm a2, va_Nw.same rfl hv.symm a3⟩, fun q hq => ?_, ⟨⟨zCast hal c1, zCast hal c2, zCast hal c3⟩, ⟨va_Nc.moved hal c4, va_Nc.moved hal c5⟩, va_Nw.same rfl hv.symm c6, va_Nw.same rfl hv.symm c7, va_Nw.same rfl hv.symm c8⟩, vx_Zq.moved hal d1, vx_Zq.moved hal d2⟩
  obtain ⟨x, hx⟩ := b1 q hq
  exact ⟨x, vk_R.same hv hx⟩
theorem zEnv_kept {A : Nat → Prop} {U : State} {H H1 : Heap} (h : zEnv A U H) (hq : ∀ a : Nat, a < H.size → ¬ A a → H1[a]? = H[a]?) : zEnv A U H1 := ⟨h.1, h.2.1, h.2.2.1, vx_Zq.kept h.2.2.2.1 hq, vx_Zq.kept h.2.2.2.2 hq⟩
theorem zEnv_nar {A B : Nat → Prop} {U : State} {H : Heap} (h : zEnv A U H) (hAB : ∀ q, B q → A q) : zEnv B U H := ⟨h.1, h.2.1, h.2.2.1, vx_Zq.narrow h.2.2.2.1 hAB, vx_Zq.narrow h.2.2.2.2 hAB⟩
/-- a contract's start, with that -/
abbrev zP (G : va_G) (tys : zTy) (ws : va_W) (av : List Value) (sz : Nat) : Array Value → State → Prop := va_Pc av (fun U => U.heap.size = sz ∧ va_P G vwCl ws U.heap ∧ va_K G vwCl tys U ∧ va_D (fun _ => True) ws ∧ zEnv (va_A ws sz) U U.heap)
abbrev zWld (G : va_G) (tys : zTy) (ws : va_W) (A : Nat → Prop) (t : State) : Prop := va_P G vwCl ws t.heap ∧ va_K G vwCl tys t ∧ va_D A ws
/-- an int answer, nothing thrown; at most mc cells of ms slots come -/
def zY_i (l : Launch) (y : MethodName) (wd : List Cond) (rm : Room) (G : va_G) (tys : zTy) (ws ws' : va_W) (av : List Value) (mc ms : Nat) (r : Int32) : Prop :=
  ∀ sz : Nat, Met l y wd rm (zP G tys ws av sz) (va_Qi (fun (r' : Int32) (_ : Unit) => r' = r) (fun _ t => zWld G tys ws' (va_A ws sz) t) (va_A ws sz)) mc ms (va_A ws sz)
/-- an int answer, or ox is thrown -/
def zX_i (l : Launch) (y : MethodName) (wd : List Cond) (rm : Room) (G : va_G) (tys : zTy) (ws ws' : va_W) (av : List Value) (ox : Option String) (r : Int32) : Prop :=
  ∀ sz : Nat, vx_Met l y wd rm (zP G tys ws av sz) (va_Qi (fun (r' : Int32) (_ : Unit) => ox = none ∧ r' = r) (fun _ t => zWld G tys ws' (va_A ws sz) t) (va_A ws sz)) (vx_X (fun (_ : Unit) => True) (fun E _ t => ox = some E ∧ zWld G tys ws (va_A ws sz) t) (va_A ws sz)) 1 6 (va_A ws sz)
def zX_v (l : Launch) (y : MethodName) (wd : List Cond) (rm : Room) (G : va_G) (tys : zTy) (ws ws' : va_W) (av : List Value) (ox : Option String) : Prop :=
  ∀ sz : Nat, vx_Met l y wd rm (zP G tys ws av sz) (va_Qv (fun (_ : Unit) => ox = none) (fun _ t => zWld G tys ws' (va_A ws sz) t) (va_A ws sz)) (vx_X (fun (_ : Unit) => True) (fun E _ t => ox = some E ∧ zWld G tys ws (va_A ws sz) t) (va_A ws sz)) 1 6 (va_A ws sz)
abbrev zQY (below : List Frame) (G : va_G) (tys : zTy) (ws' : va_W) (r : Int32) (A : Nat → Prop) (args : Array Value) (s : State) (mc ms : Nat) : State → Prop :=
  MQ below (va_Qi (fun (r' : Int32) (_ : Unit) => r' = r) (fun _ t => zWld G tys ws' A t) A) args s mc ms A
abbrev zQX (below : List Frame) (G : va_G) (tys : zTy) (ws ws' : va_W) (ox : Option String) (r : Int32) (A : Nat → Prop) (args : Array Value) (s : State) : State → Prop :=
  vx_MQ below (va_Qi (fun (r' : Int32) (_ : Unit) => ox = none ∧ r' = r) (fun _ t => zWld G tys ws' A t) A) (vx_X (fun (_ : Unit) => True) (fun E _ t => ox = some E ∧ zWld G tys ws A t) A) args s 1 6 A
abbrev zQV (below : List Frame) (G : va_G) (tys : zTy) (ws ws' : va_W) (ox : Option String) (A : Nat → Prop) (args : Array Value) (s : State) : State → Prop :=
  vx_MQ below (va_Qv (fun (_ : Unit) => ox = none) (fun _ t => zWld G tys ws' A t) A) (vx_X (fun (_ : Unit) => True) (fun E _ t => ox = some E ∧ zWld G tys ws A t) A) args s 1 6 A
theorem zBY {l : Launch} {y : MethodName} {wd wd' : List Cond} {rm : Room} {G : va_G} {tys : zTy} {ws ws' : va_W} {av : List Value} {mc ms : Nat} {r : Int32} {cc : ByteArray} {maxL : Nat} {ret : Option FieldType} (hy : plainName y.cls = true) (hw : wd = Cond.code y cc maxL ret :: wd') (ha : (lg_sl av).length ≤ maxL)
    (k : ∀ (p : Program) (e : Env) (s : State) (m : MethodId) (args : Array Value) (below : List Frame) (meth : Method) (c : Code) (A : Nat → Prop), CallFix p m c cc maxL s args wd y.cls → meth.sig.returnType = ret → meth.locks = false → va_K G vwCl tys s → (∀ q, s.heap.size ≤ q → A q) → va_P G vwCl ws s.heap → va_D A ws → va_S A s.heap s.heap [] → zEnv A s s.heap → ∀ ls : Array Slot, lv_has ls maxL (lv_args 0 av) →
      W p l e rm s m args below meth c s.heap [] 0 0 (zQY below G tys ws' r A args s mc ms) (F0 m 0 ls [])) : zY_i l y wd rm G tys ws ws' av mc ms r := by
  intro sz
  refine Met.ofW (cc := cc) (maxL := maxL) (ret := ret) hy hw ?_
  intro p e s m args below meth c s₁ B hml hv
  obtain ⟨rfl, hsz, hP, hK, hD0, hE⟩ := hv
  subst hsz
  have hl := lv_entry av (n := maxL) ha
  rw [lg_entry_eq]
  exact k p e s m _ below meth c (va_A ws s.heap.size) ⟨B.exec, B.bytes, hml, findClass_of_methodNamed B.named, atoms_spec (ws := wd) B.pre⟩ B.returns B.notSynchronized hK (fun q h => Or.inr h) hP (hD0.self (sz := s.heap.size)) va_S.rf hE _ hl
theorem zBX {l : Launch} {y : MethodName} {wd wd' : List Cond} {rm : Room} {G : va_G} {tys : zTy} {ws ws' : va_W} {av : List Value} {ox : Option String} {r : Int32} {cc : ByteArray} {maxL : Nat} {ret : Option FieldType} (hy : plainName y.cls = true) (hw : wd = Cond.code y cc maxL ret :: wd') (ha : (lg_sl av).length ≤ maxL)
    (k : ∀ (p : Program) (e : Env) (s : State) (m : MethodId) (args : Array Value) (below : List Frame) (meth : Method) (c : Code) (A : Nat → Prop), CallFix p m c cc maxL s args wd y.cls → meth.sig.returnType = ret → meth.locks = false → va_K G vwCl tys s → (∀ q, s.heap.size ≤ q → A q) → va_P G vwCl ws s.heap → va_D A ws → va_S A s.heap s.heap [] → zEnv A s s.heap → (∀ x ∈ c.exceptionTable.toList, False) → ∀ ls : Array Slot, lv_has ls maxL (lv_args 0 av) →
      W p l e rm s m args below meth c s.heap [] 0 0 (zQX below G tys ws ws' ox r A args s) (F0 m 0 ls [])) : zX_i l y wd rm G tys ws ws' av ox r := by
  intro sz
  refine vx_ofW (cc := cc) (maxL := maxL) (ret := ret) hy hw ?_
  intro p e s m args below meth c s₁ B hml hto hv
  obtain ⟨rfl, hsz, hP, hK, hD0, hE⟩ := hv
  subst hsz
  have hl := lv_entry av (n := maxL) ha
  rw [lg_entry_eq]
  exact k p e s m _ below meth c (va_A ws s.heap.size) ⟨B.exec, B.bytes, hml, findClass_of_methodNamed B.named, atoms_spec (ws := wd) B.pre⟩ B.returns B.notSynchronized hK (fun q h => Or.inr h) hP (hD0.self (sz := s.heap.size)) va_S.rf hE hto _ hl
theorem zBV {l : Launch} {y : MethodName} {wd wd' : List Cond} {rm : Room} {G : va_G} {tys : zTy} {ws ws' : va_W} {av : List Value} {ox : Option String} {cc : ByteArray} {maxL : Nat} {ret : Option FieldType} (hy : plainName y.cls = true) (hw : wd = Cond.code y cc maxL ret :: wd') (ha : (lg_sl av).length ≤ maxL)
    (k : ∀ (p : Program) (e : Env) (s : State) (m : MethodId) (args : Array Value) (below : List Frame) (meth : Method) (c : Code) (A : Nat → Prop), CallFix p m c cc maxL s args wd y.cls → meth.sig.returnType = ret → meth.locks = false → va_K G vwCl tys s → (∀ q, s.heap.size ≤ q → A q) → va_P G vwCl ws s.heap → va_D A ws → va_S A s.heap s.heap [] → zEnv A s s.heap → (∀ x ∈ c.exceptionTable.toList, False) → ∀ ls : Array Slot, lv_has ls maxL (lv_args 0 av) →
      W p l e rm s m args below meth c s.heap [] 0 0 (zQV below G tys ws ws' ox A args s) (F0 m 0 ls [])) : zX_v l y wd rm G tys ws ws' av ox := by
  intro sz
  refine vx_ofW (cc := cc) (maxL := maxL) (ret := ret) hy hw ?_
  intro p e s m args below meth c s₁ B hml hto hv
  obtain ⟨rfl, hsz, hP, hK, hD0, hE⟩ := hv
  subst hsz
  have hl := lv_entry av (n := maxL) ha
  rw [lg_entry_eq]
  exact k p e s m _ below meth c (va_A ws s.heap.size) ⟨B.exec, B.bytes, hml, findClass_of_methodNamed B.named, atoms_spec (ws := wd) B.pre⟩ B.returns B.notSynchronized hK (fun q h => Or.inr h) hP (hD0.self (sz := s.heap.size)) va_S.rf hE hto _ hl
section ZX
variable {p : Program} {l : Launch} {e : Env} {R : Room} {s : State} {m : MethodId} {args : Array Value} {below : List Frame} {meth : Method} {c : Code} {H : Heap} {locs : List Loc} {cells slots : Nat} {Q : State → Prop}
  {cc : ByteArray} {pc : Nat} {ls : Array Slot} {rest st0 : List Value} {G : va_G} {A : Nat → Prop} {a : Nat} {tys tysC : zTy} {ws ws' wc wc' wr wN : va_W} {H0 : Heap} {ret : Option FieldType} {Ts wd : List Cond} {own C : String}
  {y : MethodName} {bytes : ByteArray} {maxL nL index n mc ms : Nat} {rm : Room} {b : Addr} {As : List Value} {r : Int32} {ox : Option String}
theorem zEY_i (hF : CallFix p m c cc nL s args Ts own) (hr : meth.sig.returnType = some .int) (hlk : meth.locks = false) (hK : va_K G vwCl tys s) (hP : va_P G vwCl ws' H) (hD : va_D A ws') (hS : va_S A s.heap H locs) (hc : cells ≤ mc) (hs : slots ≤ ms) (hdg : decode cc pc = .ok (.ireturn, 1)) :
    W p l e R s m args below meth c H locs cells slots (zQY below G tys ws' r A args s mc ms) (F0 m pc ls [.int r]) :=
  W.widen (k := mc) (n := ms) hc hs (W.iret (v := r) hF.1 hF.2.1 hr (fun t ht hW => ⟨⟨r, (), rfl, rfl, by rw [ht]; exact hP, va_K.moved hW.alike hK, hD⟩, hS.F ht⟩) hS.2.2 hdg hlk)
theorem zEY_z (hF : CallFix p m c cc nL s args Ts own) (hr : meth.sig.returnType = some .boolean) (hlk : meth.locks = false) (hn : r = 0 ∨ r = 1) (hK : va_K G vwCl tys s) (hP : va_P G vwCl ws' H) (hD : va_D A ws') (hS : va_S A s.heap H locs) (hc : cells ≤ mc) (hs : slots ≤ ms) (hdg : decode cc pc = .ok (.ireturn, 1)) :
    W p l e R s m args below meth c H locs cells slots (zQY below G tys ws' r A args s mc ms) (F0 m pc ls [.int r]) :=
  W.widen (k := mc) (n := ms) hc hs (W.zret (v := r) hF.1 hF.2.1 hr (by rcases hn with rfl | rfl <;> decide) (fun t ht hW => ⟨⟨r, (), rfl, rfl, by rw [ht]; exact hP, va_K.moved hW.alike hK, hD⟩, hS.F ht⟩) hS.2.2 hdg hlk)
theorem zEX_i (hF : CallFix p m c cc nL s args Ts own) (hr : meth.sig.returnType = some .int) (hlk : meth.locks = false) (ho : ox = none) (hK : va_K G vwCl tys s) (hP : va_P G vwCl ws' H) (hD : va_D A ws') (hS : va_S A s.heap H locs) (hc : cells ≤ 1) (hs : slots ≤ 6) (hdg : decode cc pc = .ok (.ireturn, 1)) :
    W p l e R s m args below meth c H locs cells slots (zQX below G tys ws ws' ox r A args s) (F0 m pc ls [.int r]) :=
  vx_ret (W.widen (k := 1) (n := 6) hc hs (W.iret (v := r) hF.1 hF.2.1 hr (fun t ht hW => ⟨⟨r, (), rfl, ⟨ho, rfl⟩, by rw [ht]; exact hP, va_K.moved hW.alike hK, hD⟩, hS.F ht⟩) hS.2.2 hdg hlk))
theorem zEX_v (hF : CallFix p m c cc nL s args Ts own) (hr : meth.sig.returnType = none) (hlk : meth.locks = false) (ho : ox = none) (hK : va_K G vwCl tys s) (hP : va_P G vwCl ws' H) (hD : va_D A ws') (hS : va_S A s.heap H locs) (hc : cells ≤ 1) (hs : slots ≤ 6) (hdg : decode cc pc = .ok (.return_, 1)) :
    W p l e R s m args below meth c H locs cells slots (zQV below G tys ws ws' ox A args s) (F0 m pc ls []) :=
  vx_ret (W.widen (k := 1) (n := 6) hc hs (W.vret hF.1 hF.2.1 hr (fun t ht hW => ⟨⟨(), rfl, ho, by rw [ht]; exact hP, va_K.moved hW.alike hK, hD⟩, hS.F ht⟩) hS.2.2 hdg hlk))
end ZX
/-- the cells of a SnoringDukes -/
abbrev wx (cI : ClassId) (o h da la sa h2 da2 la2 sa2 : Nat) (came : Nat) (u t : WH) : va_W := (o, .inr (1, [.ref h, .ref h2, .int (nI came)])) :: (wh cI h da la sa u ++ wh cI h2 da2 la2 sa2 t)
theorem z_room {n came k : Nat} {x : Int32} : True := trivial
theorem z_roomf {a b : Nat} (h : 63 < a ∨ 500 < b) : bI (decide (a ≤ 63) && decide (b ≤ 500)) = nI 0 := by
  rcases h with q | q
  · rw [decide_eq_false (show ¬ a ≤ 63 by omega)]; rfl
  · rw [decide_eq_false (show ¬ b ≤ 500 by omega), Bool.and_false]; rfl
theorem z_roomt {a b : Nat} (h : a ≤ 63) (h2 : b ≤ 500) : bI (decide (a ≤ 63) && decide (b ≤ 500)) = nI 1 := by
  rw [decide_eq_true h, decide_eq_true h2]; rfl
theorem nI_nm1 {b : Nat} (hb : b < 2 ^ 31) : ¬ nI b = (-1) := fun h => by
  have h1 := nI_toInt hb
  rw [h] at h1
  have h2 : ((-1 : Int32)).toInt = -1 := by decide
  omega
theorem isO_tt {v a b : Int32} (h1 : ¬ v < a) (h2 : v ≤ b) : isO v a b = true := by
  have h3 : a ≤ v := by simp only [Int32.le_iff_toInt_le, Int32.lt_iff_toInt_lt] at *; omega
  unfold isO
  rw [decide_eq_true h3, decide_eq_true h2]
  rfl
theorem isO_lo {v a b : Int32} (h : isO v a b = true) : ¬ v < a := by
  unfold isO at h
  have h1 := of_decide_eq_true ((Bool.and_eq_true _ _).mp h).1
  simp only [Int32.le_iff_toInt_le, Int32.lt_iff_toInt_lt] at *
  omega
theorem isO_hi {v a b : Int32} (h : isO v a b = true) : v ≤ b := by
  unfold isO at h
  exact of_decide_eq_true ((Bool.and_eq_true _ _).mp h).2
theorem okS_fl {f g : Fn} (hf : okS f) (hg : okS g) (k : Nat) : okS (flF k f g) := by
  refine ⟨fun j => ?_, ?_⟩
  · unfold flF
    split
    · exact hf.1 j
    · exact hg.1 j
  · unfold flF
    split
    · exact hf.2
    · exact hg.2
theorem laysF_n {x y : Int32} {came : Nat} {u : WH} : ∀ i, wn (laysF x y came i u) = wn u + i
  | 0 => rfl
  | i + 1 => by
    show wn (laysF x y came i u) + 1 = wn u + (i + 1)
    rw [laysF_n i]
    rfl
theorem laysF_okS {x y : Int32} {came : Nat} {u : WH} (h : okS (wS u)) : ∀ i, okS (wS (laysF x y came i u))
  | 0 => h
  | i + 1 => okS_upd0 (laysF_okS h i) _
theorem laysF_eq {x y : Int32} {came : Nat} {D L S : Fn} {n : Nat} {c g : Int32} (i : Nat) : laysF x y came i (D, L, S, n, c, g) = (wD (laysF x y came i (D, L, S, n, c, g)), wL (laysF x y came i (D, L, S, n, c, g)), wS (laysF x y came i (D, L, S, n, c, g)), n + i, wc (laysF x y came i (D, L, S, n, c, g)), wg (laysF x y came i (D, L, S, n, c, g))) := by
  have h := laysF_n (x := x) (y := y) (came := came) (u := (D, L, S, n, c, g)) i
  have h : wn (laysF x y came i (D, L, S, n, c, g)) = n + i := h
  generalize laysF x y came i (D, L, S, n, c, g) = w at h ⊢
  obtain ⟨a1, a2, a3, a4, a5, a6⟩ := w
  obtain rfl : a4 = n + i := h
  rfl
