/-! ## the wrappers that catch -/
theorem zBW {l : Launch} {y : MethodName} {wd wd' : List Cond} {rm : Room} {G : va_G} {tys : zTy} {ws ws' : va_W} {av : List Value} {mc ms : Nat} {r : Int32} {cc : ByteArray} {maxL : Nat} {ret : Option FieldType} {hh : List (Nat × Nat × Nat × Nat)} (hy : plainName y.cls = true) (hw : wd = Cond.codeWith y cc maxL ret hh :: wd') (ha : (lg_sl av).length ≤ maxL)
    (k : ∀ (p : Program) (e : Env) (s : State) (m : MethodId) (args : Array Value) (below : List Frame) (meth : Method) (c : Code) (A : Nat → Prop), CallFix p m c cc maxL s args wd y.cls → meth.sig.returnType = ret → meth.locks = false → va_K G vwCl tys s → (∀ q, s.heap.size ≤ q → A q) → va_P G vwCl ws s.heap → va_D A ws → va_S A s.heap s.heap [] → zEnv A s s.heap → c.exceptionTable.toList = tableOf hh → ∀ ls : Array Slot, lv_has ls maxL (lv_args 0 av) →
      W p l e rm s m args below meth c s.heap [] 0 0 (zQY below G tys ws' r A args s mc ms) (F0 m 0 ls [])) : zY_i l y wd rm G tys ws ws' av mc ms r := by
  intro sz
  refine va_MetW (cc := cc) (maxL := maxL) (ret := ret) (hh := hh) hy hw ?_
  intro p e s m args below meth c s₁ B hml hv
  obtain ⟨rfl, hsz, hP, hK, hD0, hE⟩ := hv
  subst hsz
  have hl := lv_entry av (n := maxL) ha
  rw [lg_entry_eq]
  have hts := atoms_spec (ws := wd) B.pre
  have hto : c.exceptionTable.toList = tableOf hh := vx_table (x := y) B (hts _ (by rw [hw]; exact List.mem_cons_self))
  exact k p e s m _ below meth c (va_A ws s.heap.size) ⟨B.exec, B.bytes, hml, findClass_of_methodNamed B.named, hts⟩ B.returns B.notSynchronized hK (fun q h => Or.inr h) hP (hD0.self (sz := s.heap.size)) va_S.rf hE hto _ hl
abbrev wo (cJ : ClassId) (q : Nat) (f : Nat → Int64) : va_W := [(q, .inl (cJ, 1, .inr (.inl f)))]
set_option maxHeartbeats 4000000 in
set_option maxRecDepth 100000 in
theorem w_come_r (l : Launch) (G : va_G) (cI cJ : ClassId) (o h da la sa h2 da2 la2 sa2 q : Nat) {came came' : Nat} {u t u' t' : WH} (f : Nat → Int64) (p0 : Int32) {r : Int32} (hM : zX_i l yX1_come wsX1_come ({ frames := 6, cells := 1, slots := 6, locals := 132 }) G [(cI, .int)] (wx cI o h da la sa h2 da2 la2 sa2 came u t) (wx cI o h da la sa h2 da2 la2 sa2 came' u' t') [.ref o, .int p0] (none) r) : zY_i l yL_come wsL_come ({ frames := 8, cells := 1, slots := 6, locals := 200 }) G [(cI, .int), (cJ, .long)] (wx cI o h da la sa h2 da2 la2 sa2 came u t ++ wo cJ q f) (wx cI o h da la sa h2 da2 la2 sa2 came' u' t' ++ wo cJ q (vp_updL f 0 r.toInt64)) [.ref o, .int p0, .ref q] 1 6 (nI 0) := by
  refine zBW (cc := cL_come) (maxL := 4) (ret := (some .int)) (by decide) rfl (Nat.le_of_ble_eq_true rfl) ?_
  intro p e s m args below meth c A hF hr hlk hK hA hP hD hS hE hto ls hl
  obtain ⟨hx, hb, hml, hown, hts⟩ := id hF
  have hl : lv_has ls 4 [(0, .ref o), (1, .int p0), (2, .ref q)] := hl
  refine lv_aload_n hx hb dL_come_0 rfl (lv_at hl 2 rfl) ?_
  refine lv_iconst (v := 0) hx hb dL_come_1 (by decide) ?_
  refine lv_aload_n hx hb dL_come_2 rfl (lv_at hl 0 rfl) ?_
  refine lv_iload_n hx hb dL_come_3 rfl (lv_at hl 1 rfl) ?_
  refine zK_xi (As := [.int p0]) (rest := [.int 0, .ref q]) hF hM (cwV 1 hts gL_come_X1_come rfl rfl rfl (by decide +kernel) ⟨Nat.le_of_ble_eq_true rfl, Nat.le_of_ble_eq_true rfl⟩) hK hP hD hS hA hE (ci := 1) (q0 := 0) rfl rfl rfl (isC := [0, 1, 2, 3, 4, 5, 6, 7, 8]) (isR := [9]) (perm := [1, 2, 3, 4, 5, 6, 7, 8, 9, 0]) (wr := wo cJ q f) (wN := wx cI o h da la sa h2 da2 la2 sa2 came' u' t' ++ wo cJ q f) ⟨rfl, by decide, rfl, by decide, by decide, rfl, by decide⟩ [0] rfl rfl hl.1 rfl (Nat.le_of_ble_eq_true rfl) dL_come_4 ⟨Nat.le_of_ble_eq_true rfl, Nat.le_of_ble_eq_true rfl⟩ (fun H locs hP hD hS => ?_)
  refine lv_i2l hx hb dL_come_7 rfl ?_
  refine va_last (f := f) (n := 1) (cA := cJ) hx hb hK hP hD hS 9 1 rfl rfl (by unfold vp_in; decide) dL_come_8 (fun H locs hP hD hS => ?_)
  have hP : va_P G vwCl (wx cI o h da la sa h2 da2 la2 sa2 came' u' t' ++ wo cJ q (vp_updL f 0 r.toInt64)) H := hP
  have hD : va_D A (wx cI o h da la sa h2 da2 la2 sa2 came' u' t' ++ wo cJ q (vp_updL f 0 r.toInt64)) := hD
  refine lv_goto (tgt := 18) hx hb dL_come_9 (by decide) ?_
  refine lv_iconst (v := nI 0) hx hb dL_come_18 (by decide) ?_
  exact zEY_i hF hr hlk hK hP hD hS (Nat.le_of_ble_eq_true rfl) (Nat.le_of_ble_eq_true rfl) dL_come_19
set_option maxHeartbeats 4000000 in
set_option maxRecDepth 100000 in
theorem w_come_x1 (l : Launch) (G : va_G) (cI cJ : ClassId) (o h da la sa h2 da2 la2 sa2 q : Nat) {came : Nat} {u t : WH} (f : Nat → Int64) (p0 : Int32) {r : Int32} (hM : zX_i l yX1_come wsX1_come ({ frames := 6, cells := 1, slots := 6, locals := 132 }) G [(cI, .int)] (wx cI o h da la sa h2 da2 la2 sa2 came u t) (wx cI o h da la sa h2 da2 la2 sa2 came u t) [.ref o, .int p0] (some zIA) r) : zY_i l yL_come wsL_come ({ frames := 8, cells := 1, slots := 6, locals := 200 }) G [(cI, .int), (cJ, .long)] (wx cI o h da la sa h2 da2 la2 sa2 came u t ++ wo cJ q f) (wx cI o h da la sa h2 da2 la2 sa2 came u t ++ wo cJ q f) [.ref o, .int p0, .ref q] 1 6 (nI 1) := by
  refine zBW (cc := cL_come) (maxL := 4) (ret := (some .int)) (by decide) rfl (Nat.le_of_ble_eq_true rfl) ?_
  intro p e s m args below meth c A hF hr hlk hK hA hP hD hS hE hto ls hl
  obtain ⟨hx, hb, hml, hown, hts⟩ := id hF
  have hl : lv_has ls 4 [(0, .ref o), (1, .int p0), (2, .ref q)] := hl
  refine lv_aload_n hx hb dL_come_0 rfl (lv_at hl 2 rfl) ?_
  refine lv_iconst (v := 0) hx hb dL_come_1 (by decide) ?_
  refine lv_aload_n hx hb dL_come_2 rfl (lv_at hl 0 rfl) ?_
  refine lv_iload_n hx hb dL_come_3 rfl (lv_at hl 1 rfl) ?_
  refine zK_xc (As := [.int p0]) (rest := [.int 0, .ref q]) hF hM (cwV 1 hts gL_come_X1_come rfl rfl rfl (by decide +kernel) ⟨Nat.le_of_ble_eq_true rfl, Nat.le_of_ble_eq_true rfl⟩) hK hP hD hS hA hE (ci := 1) (q0 := 0) rfl rfl rfl (isC := [0, 1, 2, 3, 4, 5, 6, 7, 8]) (isR := [9]) (perm := [1, 2, 3, 4, 5, 6, 7, 8, 9, 0]) (wr := wo cJ q f) ⟨rfl, by decide, rfl, by decide, by decide, rfl, by decide⟩ [0] rfl rfl hl.1 rfl (Nat.le_of_ble_eq_true rfl) dL_come_4 ⟨Nat.le_of_ble_eq_true rfl, Nat.le_of_ble_eq_true rfl⟩ (fun ce q9 H locs hP hD hS hq9 hv9 hcl9 => ?_)
  refine vx_catch (own := RL) (name := zIA) (E := zIA) (ce := ce) hown [] ⟨0, 9, 12, 13⟩ [⟨0, 9, 15, 15⟩] (hto.trans rfl) (fun _ hz => by cases hz) (by decide) (by decide) (hts (.classLink RL 13 zIA) (by decide +kernel)) (va_Nw.use rfl hE.2.2.1.1.1) hq9 hv9 hcl9 ?_
  refine lv_astore_n (lv' := [(3, .ref q9), (0, .ref o), (1, .int p0), (2, .ref q)]) hx hb dL_come_12 rfl hl (by decide) rfl (fun ls hl => ?_)
  refine lv_iconst (v := nI 1) hx hb dL_come_13 (by decide) ?_
  exact zEY_i hF hr hlk hK hP hD hS (Nat.le_of_ble_eq_true rfl) (Nat.le_of_ble_eq_true rfl) dL_come_14
set_option maxHeartbeats 4000000 in
set_option maxRecDepth 100000 in
theorem w_come_x2 (l : Launch) (G : va_G) (cI cJ : ClassId) (o h da la sa h2 da2 la2 sa2 q : Nat) {came : Nat} {u t : WH} (f : Nat → Int64) (p0 : Int32) {r : Int32} (hM : zX_i l yX1_come wsX1_come ({ frames := 6, cells := 1, slots := 6, locals := 132 }) G [(cI, .int)] (wx cI o h da la sa h2 da2 la2 sa2 came u t) (wx cI o h da la sa h2 da2 la2 sa2 came u t) [.ref o, .int p0] (some zIS) r) : zY_i l yL_come wsL_come ({ frames := 8, cells := 1, slots := 6, locals := 200 }) G [(cI, .int), (cJ, .long)] (wx cI o h da la sa h2 da2 la2 sa2 came u t ++ wo cJ q f) (wx cI o h da la sa h2 da2 la2 sa2 came u t ++ wo cJ q f) [.ref o, .int p0, .ref q] 1 6 (nI 2) := by
  refine zBW (cc := cL_come) (maxL := 4) (ret := (some .int)) (by decide) rfl (Nat.le_of_ble_eq_true rfl) ?_
  intro p e s m args below meth c A hF hr hlk hK hA hP hD hS hE hto ls hl
  obtain ⟨hx, hb, hml, hown, hts⟩ := id hF
  have hl : lv_has ls 4 [(0, .ref o), (1, .int p0), (2, .ref q)] := hl
  refine lv_aload_n hx hb dL_come_0 rfl (lv_at hl 2 rfl) ?_
  refine lv_iconst (v := 0) hx hb dL_come_1 (by decide) ?_
  refine lv_aload_n hx hb dL_come_2 rfl (lv_at hl 0 rfl) ?_
  refine lv_iload_n hx hb dL_come_3 rfl (lv_at hl 1 rfl) ?_
  refine zK_xc (As := [.int p0]) (rest := [.int 0, .ref q]) hF hM (cwV 1 hts gL_come_X1_come rfl rfl rfl (by decide +kernel) ⟨Nat.le_of_ble_eq_true rfl, Nat.le_of_ble_eq_true rfl⟩) hK hP hD hS hA hE (ci := 1) (q0 := 0) rfl rfl rfl (isC := [0, 1, 2, 3, 4, 5, 6, 7, 8]) (isR := [9]) (perm := [1, 2, 3, 4, 5, 6, 7, 8, 9, 0]) (wr := wo cJ q f) ⟨rfl, by decide, rfl, by decide, by decide, rfl, by decide⟩ [0] rfl rfl hl.1 rfl (Nat.le_of_ble_eq_true rfl) dL_come_4 ⟨Nat.le_of_ble_eq_true rfl, Nat.le_of_ble_eq_true rfl⟩ (fun ce q9 H locs hP hD hS hq9 hv9 hcl9 => ?_)
  refine vx_catch (own := RL) (name := zIS) (E := zIS) (ce := ce) hown [⟨0, 9, 12, 13⟩] ⟨0, 9, 15, 15⟩ [] (hto.trans rfl) (fun z hz => by obtain rfl := List.mem_singleton.mp hz; exact Or.inr ⟨by decide, zIA, hts (.classLink RL 13 zIA) (by decide +kernel), hE.2.2.1.2.1.1⟩) (by decide) (by decide) (hts (.classLink RL 15 zIS) (by decide +kernel)) (va_Nw.use rfl hE.2.2.1.1.2.1) hq9 hv9 hcl9 ?_
  refine lv_astore_n (lv' := [(3, .ref q9), (0, .ref o), (1, .int p0), (2, .ref q)]) hx hb dL_come_15 rfl hl (by decide) rfl (fun ls hl => ?_)
  refine lv_iconst (v := nI 2) hx hb dL_come_16 (by decide) ?_
  exact zEY_i hF hr hlk hK hP hD hS (Nat.le_of_ble_eq_true rfl) (Nat.le_of_ble_eq_true rfl) dL_come_17
set_option maxHeartbeats 4000000 in
set_option maxRecDepth 100000 in
theorem w_coach_r (l : Launch) (G : va_G) (cI cJ : ClassId) (o h da la sa h2 da2 la2 sa2 q : Nat) {came came' : Nat} {u t u' t' : WH} (f : Nat → Int64) (p0 : Int32) (p1 : Int32) (p2 : Int32) {r : Int32} (hM : zX_i l yX1_coach wsX1_coach ({ frames := 6, cells := 1, slots := 6, locals := 106 }) G [(cI, .int)] (wx cI o h da la sa h2 da2 la2 sa2 came u t) (wx cI o h da la sa h2 da2 la2 sa2 came' u' t') [.ref o, .int p0, .int p1, .int p2] (none) r) : zY_i l yL_coach wsL_coach ({ frames := 8, cells := 1, slots := 6, locals := 200 }) G [(cI, .int), (cJ, .long)] (wx cI o h da la sa h2 da2 la2 sa2 came u t ++ wo cJ q f) (wx cI o h da la sa h2 da2 la2 sa2 came' u' t' ++ wo cJ q (vp_updL f 0 r.toInt64)) [.ref o, .int p0, .int p1, .int p2, .ref q] 1 6 (nI 0) := by
  refine zBW (cc := cL_coach) (maxL := 6) (ret := (some .int)) (by decide) rfl (Nat.le_of_ble_eq_true rfl) ?_
  intro p e s m args below meth c A hF hr hlk hK hA hP hD hS hE hto ls hl
  obtain ⟨hx, hb, hml, hown, hts⟩ := id hF
  have hl : lv_has ls 6 [(0, .ref o), (1, .int p0), (2, .int p1), (3, .int p2), (4, .ref q)] := hl
  refine lv_aload hx hb dL_coach_0 (lv_at hl 4 rfl) ?_
  refine lv_iconst (v := 0) hx hb dL_coach_2 (by decide) ?_
  refine lv_aload_n hx hb dL_coach_3 rfl (lv_at hl 0 rfl) ?_
  refine lv_iload_n hx hb dL_coach_4 rfl (lv_at hl 1 rfl) ?_
  refine lv_iload_n hx hb dL_coach_5 rfl (lv_at hl 2 rfl) ?_
  refine lv_iload_n hx hb dL_coach_6 rfl (lv_at hl 3 rfl) ?_
  refine zK_xi (As := [.int p0, .int p1, .int p2]) (rest := [.int 0, .ref q]) hF hM (cwV 3 hts gL_coach_X1_coach rfl rfl rfl (by decide +kernel) ⟨Nat.le_of_ble_eq_true rfl, Nat.le_of_ble_eq_true rfl⟩) hK hP hD hS hA hE (ci := 1) (q0 := 0) rfl rfl rfl (isC := [0, 1, 2, 3, 4, 5, 6, 7, 8]) (isR := [9]) (perm := [1, 2, 3, 4, 5, 6, 7, 8, 9, 0]) (wr := wo cJ q f) (wN := wx cI o h da la sa h2 da2 la2 sa2 came' u' t' ++ wo cJ q f) ⟨rfl, by decide, rfl, by decide, by decide, rfl, by decide⟩ [0] rfl rfl hl.1 rfl (Nat.le_of_ble_eq_true rfl) dL_coach_7 ⟨Nat.le_of_ble_eq_true rfl, Nat.le_of_ble_eq_true rfl⟩ (fun H locs hP hD hS => ?_)
  refine lv_i2l hx hb dL_coach_10 rfl ?_
  refine va_last (f := f) (n := 1) (cA := cJ) hx hb hK hP hD hS 9 1 rfl rfl (by unfold vp_in; decide) dL_coach_11 (fun H locs hP hD hS => ?_)
  have hP : va_P G vwCl (wx cI o h da la sa h2 da2 la2 sa2 came' u' t' ++ wo cJ q (vp_updL f 0 r.toInt64)) H := hP
  have hD : va_D A (wx cI o h da la sa h2 da2 la2 sa2 came' u' t' ++ wo cJ q (vp_updL f 0 r.toInt64)) := hD
  refine lv_goto (tgt := 23) hx hb dL_coach_12 (by decide) ?_
  refine lv_iconst (v := nI 0) hx hb dL_coach_23 (by decide) ?_
  exact zEY_i hF hr hlk hK hP hD hS (Nat.le_of_ble_eq_true rfl) (Nat.le_of_ble_eq_true rfl) dL_coach_24
set_option maxHeartbeats 4000000 in
set_option maxRecDepth 100000 in
theorem w_coach_x1 (l : Launch) (G : va_G) (cI cJ : ClassId) (o h da la sa h2 da2 la2 sa2 q : Nat) {came : Nat} {u t : WH} (f : Nat → Int64) (p0 : Int32) (p1 : Int32) (p2 : Int32) {r : Int32} (hM : zX_i l yX1_coach wsX1_coach ({ frames := 6, cells := 1, slots := 6, locals := 106 }) G [(cI, .int)] (wx cI o h da la sa h2 da2 la2 sa2 came u t) (wx cI o h da la sa h2 da2 la2 sa2 came u t) [.ref o, .int p0, .int p1, .int p2] (some zIA) r) : zY_i l yL_coach wsL_coach ({ frames := 8, cells := 1, slots := 6, locals := 200 }) G [(cI, .int), (cJ, .long)] (wx cI o h da la sa h2 da2 la2 sa2 came u t ++ wo cJ q f) (wx cI o h da la sa h2 da2 la2 sa2 came u t ++ wo cJ q f) [.ref o, .int p0, .int p1, .int p2, .ref q] 1 6 (nI 1) := by
  refine zBW (cc := cL_coach) (maxL := 6) (ret := (some .int)) (by decide) rfl (Nat.le_of_ble_eq_true rfl) ?_
  intro p e s m args below meth c A hF hr hlk hK hA hP hD hS hE hto ls hl
  obtain ⟨hx, hb, hml, hown, hts⟩ := id hF
  have hl : lv_has ls 6 [(0, .ref o), (1, .int p0), (2, .int p1), (3, .int p2), (4, .ref q)] := hl
  refine lv_aload hx hb dL_coach_0 (lv_at hl 4 rfl) ?_
  refine lv_iconst (v := 0) hx hb dL_coach_2 (by decide) ?_
  refine lv_aload_n hx hb dL_coach_3 rfl (lv_at hl 0 rfl) ?_
  refine lv_iload_n hx hb dL_coach_4 rfl (lv_at hl 1 rfl) ?_
  refine lv_iload_n hx hb dL_coach_5 rfl (lv_at hl 2 rfl) ?_
  refine lv_iload_n hx hb dL_coach_6 rfl (lv_at hl 3 rfl) ?_
  refine zK_xc (As := [.int p0, .int p1, .int p2]) (rest := [.int 0, .ref q]) hF hM (cwV 3 hts gL_coach_X1_coach rfl rfl rfl (by decide +kernel) ⟨Nat.le_of_ble_eq_true rfl, Nat.le_of_ble_eq_true rfl⟩) hK hP hD hS hA hE (ci := 1) (q0 := 0) rfl rfl rfl (isC := [0, 1, 2, 3, 4, 5, 6, 7, 8]) (isR := [9]) (perm := [1, 2, 3, 4, 5, 6, 7, 8, 9, 0]) (wr := wo cJ q f) ⟨rfl, by decide, rfl, by decide, by decide, rfl, by decide⟩ [0] rfl rfl hl.1 rfl (Nat.le_of_ble_eq_true rfl) dL_coach_7 ⟨Nat.le_of_ble_eq_true rfl, Nat.le_of_ble_eq_true rfl⟩ (fun ce q9 H locs hP hD hS hq9 hv9 hcl9 => ?_)
  refine vx_catch (own := RL) (name := zIA) (E := zIA) (ce := ce) hown [] ⟨0, 12, 15, 13⟩ [⟨0, 12, 19, 15⟩] (hto.trans rfl) (fun _ hz => by cases hz) (by decide) (by decide) (hts (.classLink RL 13 zIA) (by decide +kernel)) (va_Nw.use rfl hE.2.2.1.1.1) hq9 hv9 hcl9 ?_
  refine lv_astore (lv' := [(5, .ref q9), (0, .ref o), (1, .int p0), (2, .int p1), (3, .int p2), (4, .ref q)]) hx hb dL_coach_15 hl (by decide) rfl (fun ls hl => ?_)
  refine lv_iconst (v := nI 1) hx hb dL_coach_17 (by decide) ?_
  exact zEY_i hF hr hlk hK hP hD hS (Nat.le_of_ble_eq_true rfl) (Nat.le_of_ble_eq_true rfl) dL_coach_18
set_option maxHeartbeats 4000000 in
set_option maxRecDepth 100000 in
theorem w_coach_x2 (l : Launch) (G : va_G) (cI cJ : ClassId) (o h da la sa h2 da2 la2 sa2 q : Nat) {came : Nat} {u t : WH} (f : Nat → Int64) (p0 : Int32) (p1 : Int32) (p2 : Int32) {r : Int32} (hM : zX_i l yX1_coach wsX1_coach ({ frames := 6, cells := 1, slots := 6, locals := 106 }) G [(cI, .int)] (wx cI o h da la sa h2 da2 la2 sa2 came u t) (wx cI o h da la sa h2 da2 la2 sa2 came u t) [.ref o, .int p0, .int p1, .int p2] (some zIS) r) : zY_i l yL_coach wsL_coach ({ frames := 8, cells := 1, slots := 6, locals := 200 }) G [(cI, .int), (cJ, .long)] (wx cI o h da la sa h2 da2 la2 sa2 came u t ++ wo cJ q f) (wx cI o h da la sa h2 da2 la2 sa2 came u t ++ wo cJ q f) [.ref o, .int p0, .int p1, .int p2, .ref q] 1 6 (nI 2) := by
  refine zBW (cc := cL_coach) (maxL := 6) (ret := (some .int)) (by decide) rfl (Nat.le_of_ble_eq_true rfl) ?_
  intro p e s m args below meth c A hF hr hlk hK hA hP hD hS hE hto ls hl
  obtain ⟨hx, hb, hml, hown, hts⟩ := id hF
  have hl : lv_has ls 6 [(0, .ref o), (1, .int p0), (2, .int p1), (3, .int p2), (4, .ref q)] := hl
  refine lv_aload hx hb dL_coach_0 (lv_at hl 4 rfl) ?_
  refine lv_iconst (v := 0) hx hb dL_coach_2 (by decide) ?_
  refine lv_aload_n hx hb dL_coach_3 rfl (lv_at hl 0 rfl) ?_
  refine lv_iload_n hx hb dL_coach_4 rfl (lv_at hl 1 rfl) ?_
  refine lv_iload_n hx hb dL_coach_5 rfl (lv_at hl 2 rfl) ?_
  refine lv_iload_n hx hb dL_coach_6 rfl (lv_at hl 3 rfl) ?_
  refine zK_xc (As := [.int p0, .int p1, .int p2]) (rest := [.int 0, .ref q]) hF hM (cwV 3 hts gL_coach_X1_coach rfl rfl rfl (by decide +kernel) ⟨Nat.le_of_ble_eq_true rfl, Nat.le_of_ble_eq_true rfl⟩) hK hP hD hS hA hE (ci := 1) (q0 := 0) rfl rfl rfl (isC := [0, 1, 2, 3, 4, 5, 6, 7, 8]) (isR := [9]) (perm := [1, 2, 3, 4, 5, 6, 7, 8, 9, 0]) (wr := wo cJ q f) ⟨rfl, by decide, rfl, by decide, by decide, rfl, by decide⟩ [0] rfl rfl hl.1 rfl (Nat.le_of_ble_eq_true rfl) dL_coach_7 ⟨Nat.le_of_ble_eq_true rfl, Nat.le_of_ble_eq_true rfl⟩ (fun ce q9 H locs hP hD hS hq9 hv9 hcl9 => ?_)
  refine vx_catch (own := RL) (name := zIS) (E := zIS) (ce := ce) hown [⟨0, 12, 15, 13⟩] ⟨0, 12, 19, 15⟩ [] (hto.trans rfl) (fun z hz => by obtain rfl := List.mem_singleton.mp hz; exact Or.inr ⟨by decide, zIA, hts (.classLink RL 13 zIA) (by decide +kernel), hE.2.2.1.2.1.1⟩) (by decide) (by decide) (hts (.classLink RL 15 zIS) (by decide +kernel)) (va_Nw.use rfl hE.2.2.1.1.2.1) hq9 hv9 hcl9 ?_
  refine lv_astore (lv' := [(5, .ref q9), (0, .ref o), (1, .int p0), (2, .int p1), (3, .int p2), (4, .ref q)]) hx hb dL_coach_19 hl (by decide) rfl (fun ls hl => ?_)
  refine lv_iconst (v := nI 2) hx hb dL_coach_21 (by decide) ?_
  exact zEY_i hF hr hlk hK hP hD hS (Nat.le_of_ble_eq_true rfl) (Nat.le_of_ble_eq_true rfl) dL_coach_22
set_option maxHeartbeats 4000000 in
set_option maxRecDepth 100000 in
theorem w_leave_r (l : Launch) (G : va_G) (cI cJ : ClassId) (o h da la sa h2 da2 la2 sa2 q : Nat) {came came' : Nat} {u t u' t' : WH} (f : Nat → Int64)  {r : Int32} (hM : zX_i l yX1_leave wsX1_leave ({ frames := 6, cells := 1, slots := 6, locals := 107 }) G [(cI, .int)] (wx cI o h da la sa h2 da2 la2 sa2 came u t) (wx cI o h da la sa h2 da2 la2 sa2 came' u' t') [.ref o] (none) r) : zY_i l yL_leave wsL_leave ({ frames := 8, cells := 1, slots := 6, locals := 200 }) G [(cI, .int), (cJ, .long)] (wx cI o h da la sa h2 da2 la2 sa2 came u t ++ wo cJ q f) (wx cI o h da la sa h2 da2 la2 sa2 came' u' t' ++ wo cJ q (vp_updL f 0 r.toInt64)) [.ref o, .ref q] 1 6 (nI 0) := by
  refine zBW (cc := cL_leave) (maxL := 3) (ret := (some .int)) (by decide) rfl (Nat.le_of_ble_eq_true rfl) ?_
  intro p e s m args below meth c A hF hr hlk hK hA hP hD hS hE hto ls hl
  obtain ⟨hx, hb, hml, hown, hts⟩ := id hF
  have hl : lv_has ls 3 [(0, .ref o), (1, .ref q)] := hl
  refine lv_aload_n hx hb dL_leave_0 rfl (lv_at hl 1 rfl) ?_
  refine lv_iconst (v := 0) hx hb dL_leave_1 (by decide) ?_
  refine lv_aload_n hx hb dL_leave_2 rfl (lv_at hl 0 rfl) ?_
  refine zK_xi (As := []) (rest := [.int 0, .ref q]) hF hM (cwV 0 hts gL_leave_X1_leave rfl rfl rfl (by decide +kernel) ⟨Nat.le_of_ble_eq_true rfl, Nat.le_of_ble_eq_true rfl⟩) hK hP hD hS hA hE (ci := 1) (q0 := 0) rfl rfl rfl (isC := [0, 1, 2, 3, 4, 5, 6, 7, 8]) (isR := [9]) (perm := [1, 2, 3, 4, 5, 6, 7, 8, 9, 0]) (wr := wo cJ q f) (wN := wx cI o h da la sa h2 da2 la2 sa2 came' u' t' ++ wo cJ q f) ⟨rfl, by decide, rfl, by decide, by decide, rfl, by decide⟩ [0] rfl rfl hl.1 rfl (Nat.le_of_ble_eq_true rfl) dL_leave_3 ⟨Nat.le_of_ble_eq_true rfl, Nat.le_of_ble_eq_true rfl⟩ (fun H locs hP hD hS => ?_)
  refine lv_i2l hx hb dL_leave_6 rfl ?_
  refine va_last (f := f) (n := 1) (cA := cJ) hx hb hK hP hD hS 9 1 rfl rfl (by unfold vp_in; decide) dL_leave_7 (fun H locs hP hD hS => ?_)
  have hP : va_P G vwCl (wx cI o h da la sa h2 da2 la2 sa2 came' u' t' ++ wo cJ q (vp_updL f 0 r.toInt64)) H := hP
  have hD : va_D A (wx cI o h da la sa h2 da2 la2 sa2 came' u' t' ++ wo cJ q (vp_updL f 0 r.toInt64)) := hD
  refine lv_goto (tgt := 14) hx hb dL_leave_8 (by decide) ?_
  refine lv_iconst (v := nI 0) hx hb dL_leave_14 (by decide) ?_
  exact zEY_i hF hr hlk hK hP hD hS (Nat.le_of_ble_eq_true rfl) (Nat.le_of_ble_eq_true rfl) dL_leave_15
set_option maxHeartbeats 4000000 in
set_option maxRecDepth 100000 in
theorem w_leave_x1 (l : Launch) (G : va_G) (cI cJ : ClassId) (o h da la sa h2 da2 la2 sa2 q : Nat) {came : Nat} {u t : WH} (f : Nat → Int64)  {r : Int32} (hM : zX_i l yX1_leave wsX1_leave ({ frames := 6, cells := 1, slots := 6, locals := 107 }) G [(cI, .int)] (wx cI o h da la sa h2 da2 la2 sa2 came u t) (wx cI o h da la sa h2 da2 la2 sa2 came u t) [.ref o] (some zIS) r) : zY_i l yL_leave wsL_leave ({ frames := 8, cells := 1, slots := 6, locals := 200 }) G [(cI, .int), (cJ, .long)] (wx cI o h da la sa h2 da2 la2 sa2 came u t ++ wo cJ q f) (wx cI o h da la sa h2 da2 la2 sa2 came u t ++ wo cJ q f) [.ref o, .ref q] 1 6 (nI 1) := by
  refine zBW (cc := cL_leave) (maxL := 3) (ret := (some .int)) (by decide) rfl (Nat.le_of_ble_eq_true rfl) ?_
  intro p e s m args below meth c A hF hr hlk hK hA hP hD hS hE hto ls hl
  obtain ⟨hx, hb, hml, hown, hts⟩ := id hF
  have hl : lv_has ls 3 [(0, .ref o), (1, .ref q)] := hl
  refine lv_aload_n hx hb dL_leave_0 rfl (lv_at hl 1 rfl) ?_
  refine lv_iconst (v := 0) hx hb dL_leave_1 (by decide) ?_
  refine lv_aload_n hx hb dL_leave_2 rfl (lv_at hl 0 rfl) ?_
  refine zK_xc (As := []) (rest := [.int 0, .ref q]) hF hM (cwV 0 hts gL_leave_X1_leave rfl rfl rfl (by decide +kernel) ⟨Nat.le_of_ble_eq_true rfl, Nat.le_of_ble_eq_true rfl⟩) hK hP hD hS hA hE (ci := 1) (q0 := 0) rfl rfl rfl (isC := [0, 1, 2, 3, 4, 5, 6, 7, 8]) (isR := [9]) (perm := [1, 2, 3, 4, 5, 6, 7, 8, 9, 0]) (wr := wo cJ q f) ⟨rfl, by decide, rfl, by decide, by decide, rfl, by decide⟩ [0] rfl rfl hl.1 rfl (Nat.le_of_ble_eq_true rfl) dL_leave_3 ⟨Nat.le_of_ble_eq_true rfl, Nat.le_of_ble_eq_true rfl⟩ (fun ce q9 H locs hP hD hS hq9 hv9 hcl9 => ?_)
  refine vx_catch (own := RL) (name := zIS) (E := zIS) (ce := ce) hown [] ⟨0, 8, 11, 15⟩ [] (hto.trans rfl) (fun _ hz => by cases hz) (by decide) (by decide) (hts (.classLink RL 15 zIS) (by decide +kernel)) (va_Nw.use rfl hE.2.2.1.1.2.1) hq9 hv9 hcl9 ?_
  refine lv_astore_n (lv' := [(2, .ref q9), (0, .ref o), (1, .ref q)]) hx hb dL_leave_11 rfl hl (by decide) rfl (fun ls hl => ?_)
  refine lv_iconst (v := nI 1) hx hb dL_leave_12 (by decide) ?_
  exact zEY_i hF hr hlk hK hP hD hS (Nat.le_of_ble_eq_true rfl) (Nat.le_of_ble_eq_true rfl) dL_leave_13
set_option maxHeartbeats 4000000 in
set_option maxRecDepth 100000 in
theorem w_hush_r (l : Launch) (G : va_G) (cI cJ : ClassId) (o h da la sa h2 da2 la2 sa2 q : Nat) {came came' : Nat} {u t u' t' : WH} (f : Nat → Int64) (p0 : Int32) (p1 : Int32) {r : Int32} (hM : zX_i l yX1_hush wsX1_hush ({ frames := 6, cells := 1, slots := 6, locals := 131 }) G [(cI, .int)] (wx cI o h da la sa h2 da2 la2 sa2 came u t) (wx cI o h da la sa h2 da2 la2 sa2 came' u' t') [.ref o, .int p0, .int p1] (none) r) : zY_i l yL_hush wsL_hush ({ frames := 8, cells := 1, slots := 6, locals := 200 }) G [(cI, .int), (cJ, .long)] (wx cI o h da la sa h2 da2 la2 sa2 came u t ++ wo cJ q f) (wx cI o h da la sa h2 da2 la2 sa2 came' u' t' ++ wo cJ q (vp_updL f 0 r.toInt64)) [.ref o, .int p0, .int p1, .ref q] 1 6 (nI 0) := by
  refine zBW (cc := cL_hush) (maxL := 5) (ret := (some .int)) (by decide) rfl (Nat.le_of_ble_eq_true rfl) ?_
  intro p e s m args below meth c A hF hr hlk hK hA hP hD hS hE hto ls hl
  obtain ⟨hx, hb, hml, hown, hts⟩ := id hF
  have hl : lv_has ls 5 [(0, .ref o), (1, .int p0), (2, .int p1), (3, .ref q)] := hl
  refine lv_aload_n hx hb dL_hush_0 rfl (lv_at hl 3 rfl) ?_
  refine lv_iconst (v := 0) hx hb dL_hush_1 (by decide) ?_
  refine lv_aload_n hx hb dL_hush_2 rfl (lv_at hl 0 rfl) ?_
  refine lv_iload_n hx hb dL_hush_3 rfl (lv_at hl 1 rfl) ?_
  refine lv_iload_n hx hb dL_hush_4 rfl (lv_at hl 2 rfl) ?_
  refine zK_xi (As := [.int p0, .int p1]) (rest := [.int 0, .ref q]) hF hM (cwV 2 hts gL_hush_X1_hush rfl rfl rfl (by decide +kernel) ⟨Nat.le_of_ble_eq_true rfl, Nat.le_of_ble_eq_true rfl⟩) hK hP hD hS hA hE (ci := 1) (q0 := 0) rfl rfl rfl (isC := [0, 1, 2, 3, 4, 5, 6, 7, 8]) (isR := [9]) (perm := [1, 2, 3, 4, 5, 6, 7, 8, 9, 0]) (wr := wo cJ q f) (wN := wx cI o h da la sa h2 da2 la2 sa2 came' u' t' ++ wo cJ q f) ⟨rfl, by decide, rfl, by decide, by decide, rfl, by decide⟩ [0] rfl rfl hl.1 rfl (Nat.le_of_ble_eq_true rfl) dL_hush_5 ⟨Nat.le_of_ble_eq_true rfl, Nat.le_of_ble_eq_true rfl⟩ (fun H locs hP hD hS => ?_)
  refine lv_i2l hx hb dL_hush_8 rfl ?_
  refine va_last (f := f) (n := 1) (cA := cJ) hx hb hK hP hD hS 9 1 rfl rfl (by unfold vp_in; decide) dL_hush_9 (fun H locs hP hD hS => ?_)
  have hP : va_P G vwCl (wx cI o h da la sa h2 da2 la2 sa2 came' u' t' ++ wo cJ q (vp_updL f 0 r.toInt64)) H := hP
  have hD : va_D A (wx cI o h da la sa h2 da2 la2 sa2 came' u' t' ++ wo cJ q (vp_updL f 0 r.toInt64)) := hD
  refine lv_goto (tgt := 21) hx hb dL_hush_10 (by decide) ?_
  refine lv_iconst (v := nI 0) hx hb dL_hush_21 (by decide) ?_
  exact zEY_i hF hr hlk hK hP hD hS (Nat.le_of_ble_eq_true rfl) (Nat.le_of_ble_eq_true rfl) dL_hush_22
set_option maxHeartbeats 4000000 in
set_option maxRecDepth 100000 in
theorem w_hush_x1 (l : Launch) (G : va_G) (cI cJ : ClassId) (o h da la sa h2 da2 la2 sa2 q : Nat) {came : Nat} {u t : WH} (f : Nat → Int64) (p0 : Int32) (p1 : Int32) {r : Int32} (hM : zX_i l yX1_hush wsX1_hush ({ frames := 6, cells := 1, slots := 6, locals := 131 }) G [(cI, .int)] (wx cI o h da la sa h2 da2 la2 sa2 came u t) (wx cI o h da la sa h2 da2 la2 sa2 came u t) [.ref o, .int p0, .int p1] (some zIX) r) : zY_i l yL_hush wsL_hush ({ frames := 8, cells := 1, slots := 6, locals := 200 }) G [(cI, .int), (cJ, .long)] (wx cI o h da la sa h2 da2 la2 sa2 came u t ++ wo cJ q f) (wx cI o h da la sa h2 da2 la2 sa2 came u t ++ wo cJ q f) [.ref o, .int p0, .int p1, .ref q] 1 6 (nI 1) := by
  refine zBW (cc := cL_hush) (maxL := 5) (ret := (some .int)) (by decide) rfl (Nat.le_of_ble_eq_true rfl) ?_
  intro p e s m args below meth c A hF hr hlk hK hA hP hD hS hE hto ls hl
  obtain ⟨hx, hb, hml, hown, hts⟩ := id hF
  have hl : lv_has ls 5 [(0, .ref o), (1, .int p0), (2, .int p1), (3, .ref q)] := hl
  refine lv_aload_n hx hb dL_hush_0 rfl (lv_at hl 3 rfl) ?_
  refine lv_iconst (v := 0) hx hb dL_hush_1 (by decide) ?_
  refine lv_aload_n hx hb dL_hush_2 rfl (lv_at hl 0 rfl) ?_
  refine lv_iload_n hx hb dL_hush_3 rfl (lv_at hl 1 rfl) ?_
  refine lv_iload_n hx hb dL_hush_4 rfl (lv_at hl 2 rfl) ?_
  refine zK_xc (As := [.int p0, .int p1]) (rest := [.int 0, .ref q]) hF hM (cwV 2 hts gL_hush_X1_hush rfl rfl rfl (by decide +kernel) ⟨Nat.le_of_ble_eq_true rfl, Nat.le_of_ble_eq_true rfl⟩) hK hP hD hS hA hE (ci := 1) (q0 := 0) rfl rfl rfl (isC := [0, 1, 2, 3, 4, 5, 6, 7, 8]) (isR := [9]) (perm := [1, 2, 3, 4, 5, 6, 7, 8, 9, 0]) (wr := wo cJ q f) ⟨rfl, by decide, rfl, by decide, by decide, rfl, by decide⟩ [0] rfl rfl hl.1 rfl (Nat.le_of_ble_eq_true rfl) dL_hush_5 ⟨Nat.le_of_ble_eq_true rfl, Nat.le_of_ble_eq_true rfl⟩ (fun ce q9 H locs hP hD hS hq9 hv9 hcl9 => ?_)
  refine vx_catch (own := RL) (name := zIX) (E := zIX) (ce := ce) hown [] ⟨0, 10, 13, 29⟩ [⟨0, 10, 17, 13⟩] (hto.trans rfl) (fun _ hz => by cases hz) (by decide) (by decide) (hts (.classLink RL 29 zIX) (by decide +kernel)) (va_Nw.use rfl hE.2.2.1.1.2.2) hq9 hv9 hcl9 ?_
  refine lv_astore (lv' := [(4, .ref q9), (0, .ref o), (1, .int p0), (2, .int p1), (3, .ref q)]) hx hb dL_hush_13 hl (by decide) rfl (fun ls hl => ?_)
  refine lv_iconst (v := nI 1) hx hb dL_hush_15 (by decide) ?_
  exact zEY_i hF hr hlk hK hP hD hS (Nat.le_of_ble_eq_true rfl) (Nat.le_of_ble_eq_true rfl) dL_hush_16
set_option maxHeartbeats 4000000 in
set_option maxRecDepth 100000 in
theorem w_hush_x2 (l : Launch) (G : va_G) (cI cJ : ClassId) (o h da la sa h2 da2 la2 sa2 q : Nat) {came : Nat} {u t : WH} (f : Nat → Int64) (p0 : Int32) (p1 : Int32) {r : Int32} (hM : zX_i l yX1_hush wsX1_hush ({ frames := 6, cells := 1, slots := 6, locals := 131 }) G [(cI, .int)] (wx cI o h da la sa h2 da2 la2 sa2 came u t) (wx cI o h da la sa h2 da2 la2 sa2 came u t) [.ref o, .int p0, .int p1] (some zIA) r) : zY_i l yL_hush wsL_hush ({ frames := 8, cells := 1, slots := 6, locals := 200 }) G [(cI, .int), (cJ, .long)] (wx cI o h da la sa h2 da2 la2 sa2 came u t ++ wo cJ q f) (wx cI o h da la sa h2 da2 la2 sa2 came u t ++ wo cJ q f) [.ref o, .int p0, .int p1, .ref q] 1 6 (nI 2) := by
  refine zBW (cc := cL_hush) (maxL := 5) (ret := (some .int)) (by decide) rfl (Nat.le_of_ble_eq_true rfl) ?_
  intro p e s m args below meth c A hF hr hlk hK hA hP hD hS hE hto ls hl
  obtain ⟨hx, hb, hml, hown, hts⟩ := id hF
  have hl : lv_has ls 5 [(0, .ref o), (1, .int p0), (2, .int p1), (3, .ref q)] := hl
  refine lv_aload_n hx hb dL_hush_0 rfl (lv_at hl 3 rfl) ?_
  refine lv_iconst (v := 0) hx hb dL_hush_1 (by decide) ?_
  refine lv_aload_n hx hb dL_hush_2 rfl (lv_at hl 0 rfl) ?_
  refine lv_iload_n hx hb dL_hush_3 rfl (lv_at hl 1 rfl) ?_
  refine lv_iload_n hx hb dL_hush_4 rfl (lv_at hl 2 rfl) ?_
  refine zK_xc (As := [.int p0, .int p1]) (rest := [.int 0, .ref q]) hF hM (cwV 2 hts gL_hush_X1_hush rfl rfl rfl (by decide +kernel) ⟨Nat.le_of_ble_eq_true rfl, Nat.le_of_ble_eq_true rfl⟩) hK hP hD hS hA hE (ci := 1) (q0 := 0) rfl rfl rfl (isC := [0, 1, 2, 3, 4, 5, 6, 7, 8]) (isR := [9]) (perm := [1, 2, 3, 4, 5, 6, 7, 8, 9, 0]) (wr := wo cJ q f) ⟨rfl, by decide, rfl, by decide, by decide, rfl, by decide⟩ [0] rfl rfl hl.1 rfl (Nat.le_of_ble_eq_true rfl) dL_hush_5 ⟨Nat.le_of_ble_eq_true rfl, Nat.le_of_ble_eq_true rfl⟩ (fun ce q9 H locs hP hD hS hq9 hv9 hcl9 => ?_)
  refine vx_catch (own := RL) (name := zIA) (E := zIA) (ce := ce) hown [⟨0, 10, 13, 29⟩] ⟨0, 10, 17, 13⟩ [] (hto.trans rfl) (fun z hz => by obtain rfl := List.mem_singleton.mp hz; exact Or.inr ⟨by decide, zIX, hts (.classLink RL 29 zIX) (by decide +kernel), hE.2.2.1.2.1.2⟩) (by decide) (by decide) (hts (.classLink RL 13 zIA) (by decide +kernel)) (va_Nw.use rfl hE.2.2.1.1.1) hq9 hv9 hcl9 ?_
  refine lv_astore (lv' := [(4, .ref q9), (0, .ref o), (1, .int p0), (2, .int p1), (3, .ref q)]) hx hb dL_hush_17 hl (by decide) rfl (fun ls hl => ?_)
  refine lv_iconst (v := nI 2) hx hb dL_hush_19 (by decide) ?_
  exact zEY_i hF hr hlk hK hP hD hS (Nat.le_of_ble_eq_true rfl) (Nat.le_of_ble_eq_true rfl) dL_hush_20
set_option maxHeartbeats 4000000 in
set_option maxRecDepth 100000 in
theorem w_fetch_r (l : Launch) (G : va_G) (cI cJ : ClassId) (o h da la sa h2 da2 la2 sa2 q : Nat) {came came' : Nat} {u t u' t' : WH} (f : Nat → Int64) (p0 : Int32) {r : Int32} (hM : zX_i l yX1_fetch wsX1_fetch ({ frames := 6, cells := 1, slots := 6, locals := 131 }) G [(cI, .int)] (wx cI o h da la sa h2 da2 la2 sa2 came u t) (wx cI o h da la sa h2 da2 la2 sa2 came' u' t') [.ref o, .int p0] (none) r) : zY_i l yL_fetch wsL_fetch ({ frames := 8, cells := 1, slots := 6, locals := 200 }) G [(cI, .int), (cJ, .long)] (wx cI o h da la sa h2 da2 la2 sa2 came u t ++ wo cJ q f) (wx cI o h da la sa h2 da2 la2 sa2 came' u' t' ++ wo cJ q (vp_updL f 0 r.toInt64)) [.ref o, .int p0, .ref q] 1 6 (nI 0) := by
  refine zBW (cc := cL_fetch) (maxL := 4) (ret := (some .int)) (by decide) rfl (Nat.le_of_ble_eq_true rfl) ?_
  intro p e s m args below meth c A hF hr hlk hK hA hP hD hS hE hto ls hl
  obtain ⟨hx, hb, hml, hown, hts⟩ := id hF
  have hl : lv_has ls 4 [(0, .ref o), (1, .int p0), (2, .ref q)] := hl
  refine lv_aload_n hx hb dL_fetch_0 rfl (lv_at hl 2 rfl) ?_
  refine lv_iconst (v := 0) hx hb dL_fetch_1 (by decide) ?_
  refine lv_aload_n hx hb dL_fetch_2 rfl (lv_at hl 0 rfl) ?_
  refine lv_iload_n hx hb dL_fetch_3 rfl (lv_at hl 1 rfl) ?_
  refine zK_xi (As := [.int p0]) (rest := [.int 0, .ref q]) hF hM (cwV 1 hts gL_fetch_X1_fetch rfl rfl rfl (by decide +kernel) ⟨Nat.le_of_ble_eq_true rfl, Nat.le_of_ble_eq_true rfl⟩) hK hP hD hS hA hE (ci := 1) (q0 := 0) rfl rfl rfl (isC := [0, 1, 2, 3, 4, 5, 6, 7, 8]) (isR := [9]) (perm := [1, 2, 3, 4, 5, 6, 7, 8, 9, 0]) (wr := wo cJ q f) (wN := wx cI o h da la sa h2 da2 la2 sa2 came' u' t' ++ wo cJ q f) ⟨rfl, by decide, rfl, by decide, by decide, rfl, by decide⟩ [0] rfl rfl hl.1 rfl (Nat.le_of_ble_eq_true rfl) dL_fetch_4 ⟨Nat.le_of_ble_eq_true rfl, Nat.le_of_ble_eq_true rfl⟩ (fun H locs hP hD hS => ?_)
  refine lv_i2l hx hb dL_fetch_7 rfl ?_
  refine va_last (f := f) (n := 1) (cA := cJ) hx hb hK hP hD hS 9 1 rfl rfl (by unfold vp_in; decide) dL_fetch_8 (fun H locs hP hD hS => ?_)
  have hP : va_P G vwCl (wx cI o h da la sa h2 da2 la2 sa2 came' u' t' ++ wo cJ q (vp_updL f 0 r.toInt64)) H := hP
  have hD : va_D A (wx cI o h da la sa h2 da2 la2 sa2 came' u' t' ++ wo cJ q (vp_updL f 0 r.toInt64)) := hD
  refine lv_goto (tgt := 15) hx hb dL_fetch_9 (by decide) ?_
  refine lv_iconst (v := nI 0) hx hb dL_fetch_15 (by decide) ?_
  exact zEY_i hF hr hlk hK hP hD hS (Nat.le_of_ble_eq_true rfl) (Nat.le_of_ble_eq_true rfl) dL_fetch_16
set_option maxHeartbeats 4000000 in
set_option maxRecDepth 100000 in
theorem w_fetch_x1 (l : Launch) (G : va_G) (cI cJ : ClassId) (o h da la sa h2 da2 la2 sa2 q : Nat) {came : Nat} {u t : WH} (f : Nat → Int64) (p0 : Int32) {r : Int32} (hM : zX_i l yX1_fetch wsX1_fetch ({ frames := 6, cells := 1, slots := 6, locals := 131 }) G [(cI, .int)] (wx cI o h da la sa h2 da2 la2 sa2 came u t) (wx cI o h da la sa h2 da2 la2 sa2 came u t) [.ref o, .int p0] (some zIX) r) : zY_i l yL_fetch wsL_fetch ({ frames := 8, cells := 1, slots := 6, locals := 200 }) G [(cI, .int), (cJ, .long)] (wx cI o h da la sa h2 da2 la2 sa2 came u t ++ wo cJ q f) (wx cI o h da la sa h2 da2 la2 sa2 came u t ++ wo cJ q f) [.ref o, .int p0, .ref q] 1 6 (nI 1) := by
  refine zBW (cc := cL_fetch) (maxL := 4) (ret := (some .int)) (by decide) rfl (Nat.le_of_ble_eq_true rfl) ?_
  intro p e s m args below meth c A hF hr hlk hK hA hP hD hS hE hto ls hl
  obtain ⟨hx, hb, hml, hown, hts⟩ := id hF
  have hl : lv_has ls 4 [(0, .ref o), (1, .int p0), (2, .ref q)] := hl
  refine lv_aload_n hx hb dL_fetch_0 rfl (lv_at hl 2 rfl) ?_
  refine lv_iconst (v := 0) hx hb dL_fetch_1 (by decide) ?_
  refine lv_aload_n hx hb dL_fetch_2 rfl (lv_at hl 0 rfl) ?_
  refine lv_iload_n hx hb dL_fetch_3 rfl (lv_at hl 1 rfl) ?_
  refine zK_xc (As := [.int p0]) (rest := [.int 0, .ref q]) hF hM (cwV 1 hts gL_fetch_X1_fetch rfl rfl rfl (by decide +kernel) ⟨Nat.le_of_ble_eq_true rfl, Nat.le_of_ble_eq_true rfl⟩) hK hP hD hS hA hE (ci := 1) (q0 := 0) rfl rfl rfl (isC := [0, 1, 2, 3, 4, 5, 6, 7, 8]) (isR := [9]) (perm := [1, 2, 3, 4, 5, 6, 7, 8, 9, 0]) (wr := wo cJ q f) ⟨rfl, by decide, rfl, by decide, by decide, rfl, by decide⟩ [0] rfl rfl hl.1 rfl (Nat.le_of_ble_eq_true rfl) dL_fetch_4 ⟨Nat.le_of_ble_eq_true rfl, Nat.le_of_ble_eq_true rfl⟩ (fun ce q9 H locs hP hD hS hq9 hv9 hcl9 => ?_)
  refine vx_catch (own := RL) (name := zIX) (E := zIX) (ce := ce) hown [] ⟨0, 9, 12, 29⟩ [] (hto.trans rfl) (fun _ hz => by cases hz) (by decide) (by decide) (hts (.classLink RL 29 zIX) (by decide +kernel)) (va_Nw.use rfl hE.2.2.1.1.2.2) hq9 hv9 hcl9 ?_
  refine lv_astore_n (lv' := [(3, .ref q9), (0, .ref o), (1, .int p0), (2, .ref q)]) hx hb dL_fetch_12 rfl hl (by decide) rfl (fun ls hl => ?_)
  refine lv_iconst (v := nI 1) hx hb dL_fetch_13 (by decide) ?_
  exact zEY_i hF hr hlk hK hP hD hS (Nat.le_of_ble_eq_true rfl) (Nat.le_of_ble_eq_true rfl) dL_fetch_14
set_option maxHeartbeats 4000000 in
set_option maxRecDepth 100000 in
theorem w_dukeIn_r (l : Launch) (G : va_G) (cI cJ : ClassId) (o h da la sa h2 da2 la2 sa2 q : Nat) {came came' : Nat} {u t u' t' : WH} (f : Nat → Int64) (p0 : Int32) {r : Int32} (hM : zX_i l yX1_dukeIn wsX1_dukeIn ({ frames := 7, cells := 1, slots := 6, locals := 111 }) G [(cI, .int)] (wx cI o h da la sa h2 da2 la2 sa2 came u t) (wx cI o h da la sa h2 da2 la2 sa2 came' u' t') [.ref o, .int p0] (none) r) : zY_i l yL_dukeIn wsL_dukeIn ({ frames := 8, cells := 1, slots := 6, locals := 200 }) G [(cI, .int), (cJ, .long)] (wx cI o h da la sa h2 da2 la2 sa2 came u t ++ wo cJ q f) (wx cI o h da la sa h2 da2 la2 sa2 came' u' t' ++ wo cJ q (vp_updL f 0 r.toInt64)) [.ref o, .int p0, .ref q] 1 6 (nI 0) := by
  refine zBW (cc := cL_dukeIn) (maxL := 4) (ret := (some .int)) (by decide) rfl (Nat.le_of_ble_eq_true rfl) ?_
  intro p e s m args below meth c A hF hr hlk hK hA hP hD hS hE hto ls hl
  obtain ⟨hx, hb, hml, hown, hts⟩ := id hF
  have hl : lv_has ls 4 [(0, .ref o), (1, .int p0), (2, .ref q)] := hl
  refine lv_aload_n hx hb dL_dukeIn_0 rfl (lv_at hl 2 rfl) ?_
  refine lv_iconst (v := 0) hx hb dL_dukeIn_1 (by decide) ?_
  refine lv_aload_n hx hb dL_dukeIn_2 rfl (lv_at hl 0 rfl) ?_
  refine lv_iload_n hx hb dL_dukeIn_3 rfl (lv_at hl 1 rfl) ?_
  refine zK_xi (As := [.int p0]) (rest := [.int 0, .ref q]) hF hM (cwV 1 hts gL_dukeIn_X1_dukeIn rfl rfl rfl (by decide +kernel) ⟨Nat.le_of_ble_eq_true rfl, Nat.le_of_ble_eq_true rfl⟩) hK hP hD hS hA hE (ci := 1) (q0 := 0) rfl rfl rfl (isC := [0, 1, 2, 3, 4, 5, 6, 7, 8]) (isR := [9]) (perm := [1, 2, 3, 4, 5, 6, 7, 8, 9, 0]) (wr := wo cJ q f) (wN := wx cI o h da la sa h2 da2 la2 sa2 came' u' t' ++ wo cJ q f) ⟨rfl, by decide, rfl, by decide, by decide, rfl, by decide⟩ [0] rfl rfl hl.1 rfl (Nat.le_of_ble_eq_true rfl) dL_dukeIn_4 ⟨Nat.le_of_ble_eq_true rfl, Nat.le_of_ble_eq_true rfl⟩ (fun H locs hP hD hS => ?_)
  refine lv_i2l hx hb dL_dukeIn_7 rfl ?_
  refine va_last (f := f) (n := 1) (cA := cJ) hx hb hK hP hD hS 9 1 rfl rfl (by unfold vp_in; decide) dL_dukeIn_8 (fun H locs hP hD hS => ?_)
  have hP : va_P G vwCl (wx cI o h da la sa h2 da2 la2 sa2 came' u' t' ++ wo cJ q (vp_updL f 0 r.toInt64)) H := hP
  have hD : va_D A (wx cI o h da la sa h2 da2 la2 sa2 came' u' t' ++ wo cJ q (vp_updL f 0 r.toInt64)) := hD
  refine lv_goto (tgt := 15) hx hb dL_dukeIn_9 (by decide) ?_
  refine lv_iconst (v := nI 0) hx hb dL_dukeIn_15 (by decide) ?_
  exact zEY_i hF hr hlk hK hP hD hS (Nat.le_of_ble_eq_true rfl) (Nat.le_of_ble_eq_true rfl) dL_dukeIn_16
set_option maxHeartbeats 4000000 in
set_option maxRecDepth 100000 in
theorem w_dukeIn_x1 (l : Launch) (G : va_G) (cI cJ : ClassId) (o h da la sa h2 da2 la2 sa2 q : Nat) {came : Nat} {u t : WH} (f : Nat → Int64) (p0 : Int32) {r : Int32} (hM : zX_i l yX1_dukeIn wsX1_dukeIn ({ frames := 7, cells := 1, slots := 6, locals := 111 }) G [(cI, .int)] (wx cI o h da la sa h2 da2 la2 sa2 came u t) (wx cI o h da la sa h2 da2 la2 sa2 came u t) [.ref o, .int p0] (some zIX) r) : zY_i l yL_dukeIn wsL_dukeIn ({ frames := 8, cells := 1, slots := 6, locals := 200 }) G [(cI, .int), (cJ, .long)] (wx cI o h da la sa h2 da2 la2 sa2 came u t ++ wo cJ q f) (wx cI o h da la sa h2 da2 la2 sa2 came u t ++ wo cJ q f) [.ref o, .int p0, .ref q] 1 6 (nI 1) := by
  refine zBW (cc := cL_dukeIn) (maxL := 4) (ret := (some .int)) (by decide) rfl (Nat.le_of_ble_eq_true rfl) ?_
  intro p e s m args below meth c A hF hr hlk hK hA hP hD hS hE hto ls hl
  obtain ⟨hx, hb, hml, hown, hts⟩ := id hF
  have hl : lv_has ls 4 [(0, .ref o), (1, .int p0), (2, .ref q)] := hl
  refine lv_aload_n hx hb dL_dukeIn_0 rfl (lv_at hl 2 rfl) ?_
  refine lv_iconst (v := 0) hx hb dL_dukeIn_1 (by decide) ?_
  refine lv_aload_n hx hb dL_dukeIn_2 rfl (lv_at hl 0 rfl) ?_
  refine lv_iload_n hx hb dL_dukeIn_3 rfl (lv_at hl 1 rfl) ?_
  refine zK_xc (As := [.int p0]) (rest := [.int 0, .ref q]) hF hM (cwV 1 hts gL_dukeIn_X1_dukeIn rfl rfl rfl (by decide +kernel) ⟨Nat.le_of_ble_eq_true rfl, Nat.le_of_ble_eq_true rfl⟩) hK hP hD hS hA hE (ci := 1) (q0 := 0) rfl rfl rfl (isC := [0, 1, 2, 3, 4, 5, 6, 7, 8]) (isR := [9]) (perm := [1, 2, 3, 4, 5, 6, 7, 8, 9, 0]) (wr := wo cJ q f) ⟨rfl, by decide, rfl, by decide, by decide, rfl, by decide⟩ [0] rfl rfl hl.1 rfl (Nat.le_of_ble_eq_true rfl) dL_dukeIn_4 ⟨Nat.le_of_ble_eq_true rfl, Nat.le_of_ble_eq_true rfl⟩ (fun ce q9 H locs hP hD hS hq9 hv9 hcl9 => ?_)
  refine vx_catch (own := RL) (name := zIX) (E := zIX) (ce := ce) hown [] ⟨0, 9, 12, 29⟩ [] (hto.trans rfl) (fun _ hz => by cases hz) (by decide) (by decide) (hts (.classLink RL 29 zIX) (by decide +kernel)) (va_Nw.use rfl hE.2.2.1.1.2.2) hq9 hv9 hcl9 ?_
  refine lv_astore_n (lv' := [(3, .ref q9), (0, .ref o), (1, .int p0), (2, .ref q)]) hx hb dL_dukeIn_12 rfl hl (by decide) rfl (fun ls hl => ?_)
  refine lv_iconst (v := nI 1) hx hb dL_dukeIn_13 (by decide) ?_
  exact zEY_i hF hr hlk hK hP hD hS (Nat.le_of_ble_eq_true rfl) (Nat.le_of_ble_eq_true rfl) dL_dukeIn_14
set_option maxHeartbeats 4000000 in
set_option maxRecDepth 100000 in
theorem w_loudnessIn_r (l : Launch) (G : va_G) (cI cJ : ClassId) (o h da la sa h2 da2 la2 sa2 q : Nat) {came came' : Nat} {u t u' t' : WH} (f : Nat → Int64) (p0 : Int32) {r : Int32} (hM : zX_i l yX1_loudnessIn wsX1_loudnessIn ({ frames := 7, cells := 1, slots := 6, locals := 111 }) G [(cI, .int)] (wx cI o h da la sa h2 da2 la2 sa2 came u t) (wx cI o h da la sa h2 da2 la2 sa2 came' u' t') [.ref o, .int p0] (none) r) : zY_i l yL_loudnessIn wsL_loudnessIn ({ frames := 8, cells := 1, slots := 6, locals := 200 }) G [(cI, .int), (cJ, .long)] (wx cI o h da la sa h2 da2 la2 sa2 came u t ++ wo cJ q f) (wx cI o h da la sa h2 da2 la2 sa2 came' u' t' ++ wo cJ q (vp_updL f 0 r.toInt64)) [.ref o, .int p0, .ref q] 1 6 (nI 0) := by
  refine zBW (cc := cL_loudnessIn) (maxL := 4) (ret := (some .int)) (by decide) rfl (Nat.le_of_ble_eq_true rfl) ?_
  intro p e s m args below meth c A hF hr hlk hK hA hP hD hS hE hto ls hl
  obtain ⟨hx, hb, hml, hown, hts⟩ := id hF
  have hl : lv_has ls 4 [(0, .ref o), (1, .int p0), (2, .ref q)] := hl
  refine lv_aload_n hx hb dL_loudnessIn_0 rfl (lv_at hl 2 rfl) ?_
  refine lv_iconst (v := 0) hx hb dL_loudnessIn_1 (by decide) ?_
  refine lv_aload_n hx hb dL_loudnessIn_2 rfl (lv_at hl 0 rfl) ?_
  refine lv_iload_n hx hb dL_loudnessIn_3 rfl (lv_at hl 1 rfl) ?_
  refine zK_xi (As := [.int p0]) (rest := [.int 0, .ref q]) hF hM (cwV 1 hts gL_loudnessIn_X1_loudnessIn rfl rfl rfl (by decide +kernel) ⟨Nat.le_of_ble_eq_true rfl, Nat.le_of_ble_eq_true rfl⟩) hK hP hD hS hA hE (ci := 1) (q0 := 0) rfl rfl rfl (isC := [0, 1, 2, 3, 4, 5, 6, 7, 8]) (isR := [9]) (perm := [1, 2, 3, 4, 5, 6, 7, 8, 9, 0]) (wr := wo cJ q f) (wN := wx cI o h da la sa h2 da2 la2 sa2 came' u' t' ++ wo cJ q f) ⟨rfl, by decide, rfl, by decide, by decide, rfl, by decide⟩ [0] rfl rfl hl.1 rfl (Nat.le_of_ble_eq_true rfl) dL_loudnessIn_4 ⟨Nat.le_of_ble_eq_true rfl, Nat.le_of_ble_eq_true rfl⟩ (fun H locs hP hD hS => ?_)
  refine lv_i2l hx hb dL_loudnessIn_7 rfl ?_
  refine va_last (f := f) (n := 1) (cA := cJ) hx hb hK hP hD hS 9 1 rfl rfl (by unfold vp_in; decide) dL_loudnessIn_8 (fun H locs hP hD hS => ?_)
  have hP : va_P G vwCl (wx cI o h da la sa h2 da2 la2 sa2 came' u' t' ++ wo cJ q (vp_updL f 0 r.toInt64)) H := hP
  have hD : va_D A (wx cI o h da la sa h2 da2 la2 sa2 came' u' t' ++ wo cJ q (vp_updL f 0 r.toInt64)) := hD
  refine lv_goto (tgt := 15) hx hb dL_loudnessIn_9 (by decide) ?_
  refine lv_iconst (v := nI 0) hx hb dL_loudnessIn_15 (by decide) ?_
  exact zEY_i hF hr hlk hK hP hD hS (Nat.le_of_ble_eq_true rfl) (Nat.le_of_ble_eq_true rfl) dL_loudnessIn_16
set_option maxHeartbeats 4000000 in
set_option maxRecDepth 100000 in
theorem w_loudnessIn_x1 (l : Launch) (G : va_G) (cI cJ : ClassId) (o h da la sa h2 da2 la2 sa2 q : Nat) {came : Nat} {u t : WH} (f : Nat → Int64) (p0 : Int32) {r : Int32} (hM : zX_i l yX1_loudnessIn wsX1_loudnessIn ({ frames := 7, cells := 1, slots := 6, locals := 111 }) G [(cI, .int)] (wx cI o h da la sa h2 da2 la2 sa2 came u t) (wx cI o h da la sa h2 da2 la2 sa2 came u t) [.ref o, .int p0] (some zIX) r) : zY_i l yL_loudnessIn wsL_loudnessIn ({ frames := 8, cells := 1, slots := 6, locals := 200 }) G [(cI, .int), (cJ, .long)] (wx cI o h da la sa h2 da2 la2 sa2 came u t ++ wo cJ q f) (wx cI o h da la sa h2 da2 la2 sa2 came u t ++ wo cJ q f) [.ref o, .int p0, .ref q] 1 6 (nI 1) := by
  refine zBW (cc := cL_loudnessIn) (maxL := 4) (ret := (some .int)) (by decide) rfl (Nat.le_of_ble_eq_true rfl) ?_
  intro p e s m args below meth c A hF hr hlk hK hA hP hD hS hE hto ls hl
  obtain ⟨hx, hb, hml, hown, hts⟩ := id hF
  have hl : lv_has ls 4 [(0, .ref o), (1, .int p0), (2, .ref q)] := hl
  refine lv_aload_n hx hb dL_loudnessIn_0 rfl (lv_at hl 2 rfl) ?_
  refine lv_iconst (v := 0) hx hb dL_loudnessIn_1 (by decide) ?_
  refine lv_aload_n hx hb dL_loudnessIn_2 rfl (lv_at hl 0 rfl) ?_
  refine lv_iload_n hx hb dL_loudnessIn_3 rfl (lv_at hl 1 rfl) ?_
  refine zK_xc (As := [.int p0]) (rest := [.int 0, .ref q]) hF hM (cwV 1 hts gL_loudnessIn_X1_loudnessIn rfl rfl rfl (by decide +kernel) ⟨Nat.le_of_ble_eq_true rfl, Nat.le_of_ble_eq_true rfl⟩) hK hP hD hS hA hE (ci := 1) (q0 := 0) rfl rfl rfl (isC := [0, 1, 2, 3, 4, 5, 6, 7, 8]) (isR := [9]) (perm := [1, 2, 3, 4, 5, 6, 7, 8, 9, 0]) (wr := wo cJ q f) ⟨rfl, by decide, rfl, by decide, by decide, rfl, by decide⟩ [0] rfl rfl hl.1 rfl (Nat.le_of_ble_eq_true rfl) dL_loudnessIn_4 ⟨Nat.le_of_ble_eq_true rfl, Nat.le_of_ble_eq_true rfl⟩ (fun ce q9 H locs hP hD hS hq9 hv9 hcl9 => ?_)
  refine vx_catch (own := RL) (name := zIX) (E := zIX) (ce := ce) hown [] ⟨0, 9, 12, 29⟩ [] (hto.trans rfl) (fun _ hz => by cases hz) (by decide) (by decide) (hts (.classLink RL 29 zIX) (by decide +kernel)) (va_Nw.use rfl hE.2.2.1.1.2.2) hq9 hv9 hcl9 ?_
  refine lv_astore_n (lv' := [(3, .ref q9), (0, .ref o), (1, .int p0), (2, .ref q)]) hx hb dL_loudnessIn_12 rfl hl (by decide) rfl (fun ls hl => ?_)
  refine lv_iconst (v := nI 1) hx hb dL_loudnessIn_13 (by decide) ?_
  exact zEY_i hF hr hlk hK hP hD hS (Nat.le_of_ble_eq_true rfl) (Nat.le_of_ble_eq_true rfl) dL_loudnessIn_14
set_option maxHeartbeats 4000000 in
set_option maxRecDepth 100000 in
theorem w_sideOf_r (l : Launch) (G : va_G) (cI cJ : ClassId) (o h da la sa h2 da2 la2 sa2 q : Nat) {came came' : Nat} {u t u' t' : WH} (f : Nat → Int64) (p0 : Int32) {r : Int32} (hM : zX_i l yX1_sideOf wsX1_sideOf ({ frames := 7, cells := 1, slots := 6, locals := 111 }) G [(cI, .int)] (wx cI o h da la sa h2 da2 la2 sa2 came u t) (wx cI o h da la sa h2 da2 la2 sa2 came' u' t') [.ref o, .int p0] (none) r) : zY_i l yL_sideOf wsL_sideOf ({ frames := 8, cells := 1, slots := 6, locals := 200 }) G [(cI, .int), (cJ, .long)] (wx cI o h da la sa h2 da2 la2 sa2 came u t ++ wo cJ q f) (wx cI o h da la sa h2 da2 la2 sa2 came' u' t' ++ wo cJ q (vp_updL f 0 r.toInt64)) [.ref o, .int p0, .ref q] 1 6 (nI 0) := by
  refine zBW (cc := cL_sideOf) (maxL := 4) (ret := (some .int)) (by decide) rfl (Nat.le_of_ble_eq_true rfl) ?_
  intro p e s m args below meth c A hF hr hlk hK hA hP hD hS hE hto ls hl
  obtain ⟨hx, hb, hml, hown, hts⟩ := id hF
  have hl : lv_has ls 4 [(0, .ref o), (1, .int p0), (2, .ref q)] := hl
  refine lv_aload_n hx hb dL_sideOf_0 rfl (lv_at hl 2 rfl) ?_
  refine lv_iconst (v := 0) hx hb dL_sideOf_1 (by decide) ?_
  refine lv_aload_n hx hb dL_sideOf_2 rfl (lv_at hl 0 rfl) ?_
  refine lv_iload_n hx hb dL_sideOf_3 rfl (lv_at hl 1 rfl) ?_
  refine zK_xi (As := [.int p0]) (rest := [.int 0, .ref q]) hF hM (cwV 1 hts gL_sideOf_X1_sideOf rfl rfl rfl (by decide +kernel) ⟨Nat.le_of_ble_eq_true rfl, Nat.le_of_ble_eq_true rfl⟩) hK hP hD hS hA hE (ci := 1) (q0 := 0) rfl rfl rfl (isC := [0, 1, 2, 3, 4, 5, 6, 7, 8]) (isR := [9]) (perm := [1, 2, 3, 4, 5, 6, 7, 8, 9, 0]) (wr := wo cJ q f) (wN := wx cI o h da la sa h2 da2 la2 sa2 came' u' t' ++ wo cJ q f) ⟨rfl, by decide, rfl, by decide, by decide, rfl, by decide⟩ [0] rfl rfl hl.1 rfl (Nat.le_of_ble_eq_true rfl) dL_sideOf_4 ⟨Nat.le_of_ble_eq_true rfl, Nat.le_of_ble_eq_true rfl⟩ (fun H locs hP hD hS => ?_)
  refine lv_i2l hx hb dL_sideOf_7 rfl ?_
  refine va_last (f := f) (n := 1) (cA := cJ) hx hb hK hP hD hS 9 1 rfl rfl (by unfold vp_in; decide) dL_sideOf_8 (fun H locs hP hD hS => ?_)
  have hP : va_P G vwCl (wx cI o h da la sa h2 da2 la2 sa2 came' u' t' ++ wo cJ q (vp_updL f 0 r.toInt64)) H := hP
  have hD : va_D A (wx cI o h da la sa h2 da2 la2 sa2 came' u' t' ++ wo cJ q (vp_updL f 0 r.toInt64)) := hD
  refine lv_goto (tgt := 15) hx hb dL_sideOf_9 (by decide) ?_
  refine lv_iconst (v := nI 0) hx hb dL_sideOf_15 (by decide) ?_
  exact zEY_i hF hr hlk hK hP hD hS (Nat.le_of_ble_eq_true rfl) (Nat.le_of_ble_eq_true rfl) dL_sideOf_16
set_option maxHeartbeats 4000000 in
set_option maxRecDepth 100000 in
theorem w_sideOf_x1 (l : Launch) (G : va_G) (cI cJ : ClassId) (o h da la sa h2 da2 la2 sa2 q : Nat) {came : Nat} {u t : WH} (f : Nat → Int64) (p0 : Int32) {r : Int32} (hM : zX_i l yX1_sideOf wsX1_sideOf ({ frames := 7, cells := 1, slots := 6, locals := 111 }) G [(cI, .int)] (wx cI o h da la sa h2 da2 la2 sa2 came u t) (wx cI o h da la sa h2 da2 la2 sa2 came u t) [.ref o, .int p0] (some zIX) r) : zY_i l yL_sideOf wsL_sideOf ({ frames := 8, cells := 1, slots := 6, locals := 200 }) G [(cI, .int), (cJ, .long)] (wx cI o h da la sa h2 da2 la2 sa2 came u t ++ wo cJ q f) (wx cI o h da la sa h2 da2 la2 sa2 came u t ++ wo cJ q f) [.ref o, .int p0, .ref q] 1 6 (nI 1) := by
  refine zBW (cc := cL_sideOf) (maxL := 4) (ret := (some .int)) (by decide) rfl (Nat.le_of_ble_eq_true rfl) ?_
  intro p e s m args below meth c A hF hr hlk hK hA hP hD hS hE hto ls hl
  obtain ⟨hx, hb, hml, hown, hts⟩ := id hF
  have hl : lv_has ls 4 [(0, .ref o), (1, .int p0), (2, .ref q)] := hl
  refine lv_aload_n hx hb dL_sideOf_0 rfl (lv_at hl 2 rfl) ?_
  refine lv_iconst (v := 0) hx hb dL_sideOf_1 (by decide) ?_
  refine lv_aload_n hx hb dL_sideOf_2 rfl (lv_at hl 0 rfl) ?_
  refine lv_iload_n hx hb dL_sideOf_3 rfl (lv_at hl 1 rfl) ?_
  refine zK_xc (As := [.int p0]) (rest := [.int 0, .ref q]) hF hM (cwV 1 hts gL_sideOf_X1_sideOf rfl rfl rfl (by decide +kernel) ⟨Nat.le_of_ble_eq_true rfl, Nat.le_of_ble_eq_true rfl⟩) hK hP hD hS hA hE (ci := 1) (q0 := 0) rfl rfl rfl (isC := [0, 1, 2, 3, 4, 5, 6, 7, 8]) (isR := [9]) (perm := [1, 2, 3, 4, 5, 6, 7, 8, 9, 0]) (wr := wo cJ q f) ⟨rfl, by decide, rfl, by decide, by decide, rfl, by decide⟩ [0] rfl rfl hl.1 rfl (Nat.le_of_ble_eq_true rfl) dL_sideOf_4 ⟨Nat.le_of_ble_eq_true rfl, Nat.le_of_ble_eq_true rfl⟩ (fun ce q9 H locs hP hD hS hq9 hv9 hcl9 => ?_)
  refine vx_catch (own := RL) (name := zIX) (E := zIX) (ce := ce) hown [] ⟨0, 9, 12, 29⟩ [] (hto.trans rfl) (fun _ hz => by cases hz) (by decide) (by decide) (hts (.classLink RL 29 zIX) (by decide +kernel)) (va_Nw.use rfl hE.2.2.1.1.2.2) hq9 hv9 hcl9 ?_
  refine lv_astore_n (lv' := [(3, .ref q9), (0, .ref o), (1, .int p0), (2, .ref q)]) hx hb dL_sideOf_12 rfl hl (by decide) rfl (fun ls hl => ?_)
  refine lv_iconst (v := nI 1) hx hb dL_sideOf_13 (by decide) ?_
  exact zEY_i hF hr hlk hK hP hD hS (Nat.le_of_ble_eq_true rfl) (Nat.le_of_ble_eq_true rfl) dL_sideOf_14
set_option maxHeartbeats 4000000 in
set_option maxRecDepth 100000 in
theorem w_elderOf_r (l : Launch) (G : va_G) (cI cJ : ClassId) (o h da la sa h2 da2 la2 sa2 q : Nat) {came came' : Nat} {u t u' t' : WH} (f : Nat → Int64) (p0 : Int32) {r : Int32} (hM : zX_i l yX1_elderOf wsX1_elderOf ({ frames := 7, cells := 1, slots := 6, locals := 111 }) G [(cI, .int)] (wx cI o h da la sa h2 da2 la2 sa2 came u t) (wx cI o h da la sa h2 da2 la2 sa2 came' u' t') [.ref o, .int p0] (none) r) : zY_i l yL_elderOf wsL_elderOf ({ frames := 8, cells := 1, slots := 6, locals := 200 }) G [(cI, .int), (cJ, .long)] (wx cI o h da la sa h2 da2 la2 sa2 came u t ++ wo cJ q f) (wx cI o h da la sa h2 da2 la2 sa2 came' u' t' ++ wo cJ q (vp_updL f 0 r.toInt64)) [.ref o, .int p0, .ref q] 1 6 (nI 0) := by
  refine zBW (cc := cL_elderOf) (maxL := 4) (ret := (some .int)) (by decide) rfl (Nat.le_of_ble_eq_true rfl) ?_
  intro p e s m args below meth c A hF hr hlk hK hA hP hD hS hE hto ls hl
  obtain ⟨hx, hb, hml, hown, hts⟩ := id hF
  have hl : lv_has ls 4 [(0, .ref o), (1, .int p0), (2, .ref q)] := hl
  refine lv_aload_n hx hb dL_elderOf_0 rfl (lv_at hl 2 rfl) ?_
  refine lv_iconst (v := 0) hx hb dL_elderOf_1 (by decide) ?_
  refine lv_aload_n hx hb dL_elderOf_2 rfl (lv_at hl 0 rfl) ?_
  refine lv_iload_n hx hb dL_elderOf_3 rfl (lv_at hl 1 rfl) ?_
  refine zK_xi (As := [.int p0]) (rest := [.int 0, .ref q]) hF hM (cwV 1 hts gL_elderOf_X1_elderOf rfl rfl rfl (by decide +kernel) ⟨Nat.le_of_ble_eq_true rfl, Nat.le_of_ble_eq_true rfl⟩) hK hP hD hS hA hE (ci := 1) (q0 := 0) rfl rfl rfl (isC := [0, 1, 2, 3, 4, 5, 6, 7, 8]) (isR := [9]) (perm := [1, 2, 3, 4, 5, 6, 7, 8, 9, 0]) (wr := wo cJ q f) (wN := wx cI o h da la sa h2 da2 la2 sa2 came' u' t' ++ wo cJ q f) ⟨rfl, by decide, rfl, by decide, by decide, rfl, by decide⟩ [0] rfl rfl hl.1 rfl (Nat.le_of_ble_eq_true rfl) dL_elderOf_4 ⟨Nat.le_of_ble_eq_true rfl, Nat.le_of_ble_eq_true rfl⟩ (fun H locs hP hD hS => ?_)
  refine lv_i2l hx hb dL_elderOf_7 rfl ?_
  refine va_last (f := f) (n := 1) (cA := cJ) hx hb hK hP hD hS 9 1 rfl rfl (by unfold vp_in; decide) dL_elderOf_8 (fun H locs hP hD hS => ?_)
  have hP : va_P G vwCl (wx cI o h da la sa h2 da2 la2 sa2 came' u' t' ++ wo cJ q (vp_updL f 0 r.toInt64)) H := hP
  have hD : va_D A (wx cI o h da la sa h2 da2 la2 sa2 came' u' t' ++ wo cJ q (vp_updL f 0 r.toInt64)) := hD
  refine lv_goto (tgt := 15) hx hb dL_elderOf_9 (by decide) ?_
  refine lv_iconst (v := nI 0) hx hb dL_elderOf_15 (by decide) ?_
  exact zEY_i hF hr hlk hK hP hD hS (Nat.le_of_ble_eq_true rfl) (Nat.le_of_ble_eq_true rfl) dL_elderOf_16
set_option maxHeartbeats 4000000 in
set_option maxRecDepth 100000 in
theorem w_elderOf_x1 (l : Launch) (G : va_G) (cI cJ : ClassId) (o h da la sa h2 da2 la2 sa2 q : Nat) {came : Nat} {u t : WH} (f : Nat → Int64) (p0 : Int32) {r : Int32} (hM : zX_i l yX1_elderOf wsX1_elderOf ({ frames := 7, cells := 1, slots := 6, locals := 111 }) G [(cI, .int)] (wx cI o h da la sa h2 da2 la2 sa2 came u t) (wx cI o h da la sa h2 da2 la2 sa2 came u t) [.ref o, .int p0] (some zIX) r) : zY_i l yL_elderOf wsL_elderOf ({ frames := 8, cells := 1, slots := 6, locals := 200 }) G [(cI, .int), (cJ, .long)] (wx cI o h da la sa h2 da2 la2 sa2 came u t ++ wo cJ q f) (wx cI o h da la sa h2 da2 la2 sa2 came u t ++ wo cJ q f) [.ref o, .int p0, .ref q] 1 6 (nI 1) := by
  refine zBW (cc := cL_elderOf) (maxL := 4) (ret := (some .int)) (by decide) rfl (Nat.le_of_ble_eq_true rfl) ?_
  intro p e s m args below meth c A hF hr hlk hK hA hP hD hS hE hto ls hl
  obtain ⟨hx, hb, hml, hown, hts⟩ := id hF
  have hl : lv_has ls 4 [(0, .ref o), (1, .int p0), (2, .ref q)] := hl
  refine lv_aload_n hx hb dL_elderOf_0 rfl (lv_at hl 2 rfl) ?_
  refine lv_iconst (v := 0) hx hb dL_elderOf_1 (by decide) ?_
  refine lv_aload_n hx hb dL_elderOf_2 rfl (lv_at hl 0 rfl) ?_
  refine lv_iload_n hx hb dL_elderOf_3 rfl (lv_at hl 1 rfl) ?_
  refine zK_xc (As := [.int p0]) (rest := [.int 0, .ref q]) hF hM (cwV 1 hts gL_elderOf_X1_elderOf rfl rfl rfl (by decide +kernel) ⟨Nat.le_of_ble_eq_true rfl, Nat.le_of_ble_eq_true rfl⟩) hK hP hD hS hA hE (ci := 1) (q0 := 0) rfl rfl rfl (isC := [0, 1, 2, 3, 4, 5, 6, 7, 8]) (isR := [9]) (perm := [1, 2, 3, 4, 5, 6, 7, 8, 9, 0]) (wr := wo cJ q f) ⟨rfl, by decide, rfl, by decide, by decide, rfl, by decide⟩ [0] rfl rfl hl.1 rfl (Nat.le_of_ble_eq_true rfl) dL_elderOf_4 ⟨Nat.le_of_ble_eq_true rfl, Nat.le_of_ble_eq_true rfl⟩ (fun ce q9 H locs hP hD hS hq9 hv9 hcl9 => ?_)
  refine vx_catch (own := RL) (name := zIX) (E := zIX) (ce := ce) hown [] ⟨0, 9, 12, 29⟩ [] (hto.trans rfl) (fun _ hz => by cases hz) (by decide) (by decide) (hts (.classLink RL 29 zIX) (by decide +kernel)) (va_Nw.use rfl hE.2.2.1.1.2.2) hq9 hv9 hcl9 ?_
  refine lv_astore_n (lv' := [(3, .ref q9), (0, .ref o), (1, .int p0), (2, .ref q)]) hx hb dL_elderOf_12 rfl hl (by decide) rfl (fun ls hl => ?_)
  refine lv_iconst (v := nI 1) hx hb dL_elderOf_13 (by decide) ?_
  exact zEY_i hF hr hlk hK hP hD hS (Nat.le_of_ble_eq_true rfl) (Nat.le_of_ble_eq_true rfl) dL_elderOf_14
set_option maxHeartbeats 4000000 in
set_option maxRecDepth 100000 in
theorem w_followersOf_r (l : Launch) (G : va_G) (cI cJ : ClassId) (o h da la sa h2 da2 la2 sa2 q : Nat) {came came' : Nat} {u t u' t' : WH} (f : Nat → Int64) (p0 : Int32) {r : Int32} (hM : zX_i l yX1_followersOf wsX1_followersOf ({ frames := 7, cells := 1, slots := 6, locals := 111 }) G [(cI, .int)] (wx cI o h da la sa h2 da2 la2 sa2 came u t) (wx cI o h da la sa h2 da2 la2 sa2 came' u' t') [.ref o, .int p0] (none) r) : zY_i l yL_followersOf wsL_followersOf ({ frames := 8, cells := 1, slots := 6, locals := 200 }) G [(cI, .int), (cJ, .long)] (wx cI o h da la sa h2 da2 la2 sa2 came u t ++ wo cJ q f) (wx cI o h da la sa h2 da2 la2 sa2 came' u' t' ++ wo cJ q (vp_updL f 0 r.toInt64)) [.ref o, .int p0, .ref q] 1 6 (nI 0) := by
  refine zBW (cc := cL_followersOf) (maxL := 4) (ret := (some .int)) (by decide) rfl (Nat.le_of_ble_eq_true rfl) ?_
  intro p e s m args below meth c A hF hr hlk hK hA hP hD hS hE hto ls hl
  obtain ⟨hx, hb, hml, hown, hts⟩ := id hF
  have hl : lv_has ls 4 [(0, .ref o), (1, .int p0), (2, .ref q)] := hl
  refine lv_aload_n hx hb dL_followersOf_0 rfl (lv_at hl 2 rfl) ?_
  refine lv_iconst (v := 0) hx hb dL_followersOf_1 (by decide) ?_
  refine lv_aload_n hx hb dL_followersOf_2 rfl (lv_at hl 0 rfl) ?_
  refine lv_iload_n hx hb dL_followersOf_3 rfl (lv_at hl 1 rfl) ?_
  refine zK_xi (As := [.int p0]) (rest := [.int 0, .ref q]) hF hM (cwV 1 hts gL_followersOf_X1_followersOf rfl rfl rfl (by decide +kernel) ⟨Nat.le_of_ble_eq_true rfl, Nat.le_of_ble_eq_true rfl⟩) hK hP hD hS hA hE (ci := 1) (q0 := 0) rfl rfl rfl (isC := [0, 1, 2, 3, 4, 5, 6, 7, 8]) (isR := [9]) (perm := [1, 2, 3, 4, 5, 6, 7, 8, 9, 0]) (wr := wo cJ q f) (wN := wx cI o h da la sa h2 da2 la2 sa2 came' u' t' ++ wo cJ q f) ⟨rfl, by decide, rfl, by decide, by decide, rfl, by decide⟩ [0] rfl rfl hl.1 rfl (Nat.le_of_ble_eq_true rfl) dL_followersOf_4 ⟨Nat.le_of_ble_eq_true rfl, Nat.le_of_ble_eq_true rfl⟩ (fun H locs hP hD hS => ?_)
  refine lv_i2l hx hb dL_followersOf_7 rfl ?_
  refine va_last (f := f) (n := 1) (cA := cJ) hx hb hK hP hD hS 9 1 rfl rfl (by unfold vp_in; decide) dL_followersOf_8 (fun H locs hP hD hS => ?_)
  have hP : va_P G vwCl (wx cI o h da la sa h2 da2 la2 sa2 came' u' t' ++ wo cJ q (vp_updL f 0 r.toInt64)) H := hP
  have hD : va_D A (wx cI o h da la sa h2 da2 la2 sa2 came' u' t' ++ wo cJ q (vp_updL f 0 r.toInt64)) := hD
  refine lv_goto (tgt := 15) hx hb dL_followersOf_9 (by decide) ?_
  refine lv_iconst (v := nI 0) hx hb dL_followersOf_15 (by decide) ?_
  exact zEY_i hF hr hlk hK hP hD hS (Nat.le_of_ble_eq_true rfl) (Nat.le_of_ble_eq_true rfl) dL_followersOf_16
set_option maxHeartbeats 4000000 in
set_option maxRecDepth 100000 in
theorem w_followersOf_x1 (l : Launch) (G : va_G) (cI cJ : ClassId) (o h da la sa h2 da2 la2 sa2 q : Nat) {came : Nat} {u t : WH} (f : Nat → Int64) (p0 : Int32) {r : Int32} (hM : zX_i l yX1_followersOf wsX1_followersOf ({ frames := 7, cells := 1, slots := 6, locals := 111 }) G [(cI, .int)] (wx cI o h da la sa h2 da2 la2 sa2 came u t) (wx cI o h da la sa h2 da2 la2 sa2 came u t) [.ref o, .int p0] (some zIX) r) : zY_i l yL_followersOf wsL_followersOf ({ frames := 8, cells := 1, slots := 6, locals := 200 }) G [(cI, .int), (cJ, .long)] (wx cI o h da la sa h2 da2 la2 sa2 came u t ++ wo cJ q f) (wx cI o h da la sa h2 da2 la2 sa2 came u t ++ wo cJ q f) [.ref o, .int p0, .ref q] 1 6 (nI 1) := by
  refine zBW (cc := cL_followersOf) (maxL := 4) (ret := (some .int)) (by decide) rfl (Nat.le_of_ble_eq_true rfl) ?_
  intro p e s m args below meth c A hF hr hlk hK hA hP hD hS hE hto ls hl
  obtain ⟨hx, hb, hml, hown, hts⟩ := id hF
  have hl : lv_has ls 4 [(0, .ref o), (1, .int p0), (2, .ref q)] := hl
  refine lv_aload_n hx hb dL_followersOf_0 rfl (lv_at hl 2 rfl) ?_
  refine lv_iconst (v := 0) hx hb dL_followersOf_1 (by decide) ?_
  refine lv_aload_n hx hb dL_followersOf_2 rfl (lv_at hl 0 rfl) ?_
  refine lv_iload_n hx hb dL_followersOf_3 rfl (lv_at hl 1 rfl) ?_
  refine zK_xc (As := [.int p0]) (rest := [.int 0, .ref q]) hF hM (cwV 1 hts gL_followersOf_X1_followersOf rfl rfl rfl (by decide +kernel) ⟨Nat.le_of_ble_eq_true rfl, Nat.le_of_ble_eq_true rfl⟩) hK hP hD hS hA hE (ci := 1) (q0 := 0) rfl rfl rfl (isC := [0, 1, 2, 3, 4, 5, 6, 7, 8]) (isR := [9]) (perm := [1, 2, 3, 4, 5, 6, 7, 8, 9, 0]) (wr := wo cJ q f) ⟨rfl, by decide, rfl, by decide, by decide, rfl, by decide⟩ [0] rfl rfl hl.1 rfl (Nat.le_of_ble_eq_true rfl) dL_followersOf_4 ⟨Nat.le_of_ble_eq_true rfl, Nat.le_of_ble_eq_true rfl⟩ (fun ce q9 H locs hP hD hS hq9 hv9 hcl9 => ?_)
  refine vx_catch (own := RL) (name := zIX) (E := zIX) (ce := ce) hown [] ⟨0, 9, 12, 29⟩ [] (hto.trans rfl) (fun _ hz => by cases hz) (by decide) (by decide) (hts (.classLink RL 29 zIX) (by decide +kernel)) (va_Nw.use rfl hE.2.2.1.1.2.2) hq9 hv9 hcl9 ?_
  refine lv_astore_n (lv' := [(3, .ref q9), (0, .ref o), (1, .int p0), (2, .ref q)]) hx hb dL_followersOf_12 rfl hl (by decide) rfl (fun ls hl => ?_)
  refine lv_iconst (v := nI 1) hx hb dL_followersOf_13 (by decide) ?_
  exact zEY_i hF hr hlk hK hP hD hS (Nat.le_of_ble_eq_true rfl) (Nat.le_of_ble_eq_true rfl) dL_followersOf_14
set_option maxHeartbeats 4000000 in
set_option maxRecDepth 100000 in
theorem w_leavesAt_r (l : Launch) (G : va_G) (cI cJ : ClassId) (o h da la sa h2 da2 la2 sa2 q : Nat) {came came' : Nat} {u t u' t' : WH} (f : Nat → Int64) (p0 : Int32) {r : Int32} (hM : zX_i l yX1_leavesAt wsX1_leavesAt ({ frames := 6, cells := 1, slots := 6, locals := 129 }) G [(cI, .int)] (wx cI o h da la sa h2 da2 la2 sa2 came u t) (wx cI o h da la sa h2 da2 la2 sa2 came' u' t') [.ref o, .int p0] (none) r) : zY_i l yL_leavesAt wsL_leavesAt ({ frames := 8, cells := 1, slots := 6, locals := 200 }) G [(cI, .int), (cJ, .long)] (wx cI o h da la sa h2 da2 la2 sa2 came u t ++ wo cJ q f) (wx cI o h da la sa h2 da2 la2 sa2 came' u' t' ++ wo cJ q (vp_updL f 0 r.toInt64)) [.ref o, .int p0, .ref q] 1 6 (nI 0) := by
  refine zBW (cc := cL_leavesAt) (maxL := 4) (ret := (some .int)) (by decide) rfl (Nat.le_of_ble_eq_true rfl) ?_
  intro p e s m args below meth c A hF hr hlk hK hA hP hD hS hE hto ls hl
  obtain ⟨hx, hb, hml, hown, hts⟩ := id hF
  have hl : lv_has ls 4 [(0, .ref o), (1, .int p0), (2, .ref q)] := hl
  refine lv_aload_n hx hb dL_leavesAt_0 rfl (lv_at hl 2 rfl) ?_
  refine lv_iconst (v := 0) hx hb dL_leavesAt_1 (by decide) ?_
  refine lv_aload_n hx hb dL_leavesAt_2 rfl (lv_at hl 0 rfl) ?_
  refine lv_iload_n hx hb dL_leavesAt_3 rfl (lv_at hl 1 rfl) ?_
  refine zK_xi (As := [.int p0]) (rest := [.int 0, .ref q]) hF hM (cwV 1 hts gL_leavesAt_X1_leavesAt rfl rfl rfl (by decide +kernel) ⟨Nat.le_of_ble_eq_true rfl, Nat.le_of_ble_eq_true rfl⟩) hK hP hD hS hA hE (ci := 1) (q0 := 0) rfl rfl rfl (isC := [0, 1, 2, 3, 4, 5, 6, 7, 8]) (isR := [9]) (perm := [1, 2, 3, 4, 5, 6, 7, 8, 9, 0]) (wr := wo cJ q f) (wN := wx cI o h da la sa h2 da2 la2 sa2 came' u' t' ++ wo cJ q f) ⟨rfl, by decide, rfl, by decide, by decide, rfl, by decide⟩ [0] rfl rfl hl.1 rfl (Nat.le_of_ble_eq_true rfl) dL_leavesAt_4 ⟨Nat.le_of_ble_eq_true rfl, Nat.le_of_ble_eq_true rfl⟩ (fun H locs hP hD hS => ?_)
  refine lv_i2l hx hb dL_leavesAt_7 rfl ?_
  refine va_last (f := f) (n := 1) (cA := cJ) hx hb hK hP hD hS 9 1 rfl rfl (by unfold vp_in; decide) dL_leavesAt_8 (fun H locs hP hD hS => ?_)
  have hP : va_P G vwCl (wx cI o h da la sa h2 da2 la2 sa2 came' u' t' ++ wo cJ q (vp_updL f 0 r.toInt64)) H := hP
  have hD : va_D A (wx cI o h da la sa h2 da2 la2 sa2 came' u' t' ++ wo cJ q (vp_updL f 0 r.toInt64)) := hD
  refine lv_goto (tgt := 15) hx hb dL_leavesAt_9 (by decide) ?_
  refine lv_iconst (v := nI 0) hx hb dL_leavesAt_15 (by decide) ?_
  exact zEY_i hF hr hlk hK hP hD hS (Nat.le_of_ble_eq_true rfl) (Nat.le_of_ble_eq_true rfl) dL_leavesAt_16
set_option maxHeartbeats 4000000 in
set_option maxRecDepth 100000 in
theorem w_leavesAt_x1 (l : Launch) (G : va_G) (cI cJ : ClassId) (o h da la sa h2 da2 la2 sa2 q : Nat) {came : Nat} {u t : WH} (f : Nat → Int64) (p0 : Int32) {r : Int32} (hM : zX_i l yX1_leavesAt wsX1_leavesAt ({ frames := 6, cells := 1, slots := 6, locals := 129 }) G [(cI, .int)] (wx cI o h da la sa h2 da2 la2 sa2 came u t) (wx cI o h da la sa h2 da2 la2 sa2 came u t) [.ref o, .int p0] (some zIX) r) : zY_i l yL_leavesAt wsL_leavesAt ({ frames := 8, cells := 1, slots := 6, locals := 200 }) G [(cI, .int), (cJ, .long)] (wx cI o h da la sa h2 da2 la2 sa2 came u t ++ wo cJ q f) (wx cI o h da la sa h2 da2 la2 sa2 came u t ++ wo cJ q f) [.ref o, .int p0, .ref q] 1 6 (nI 1) := by
  refine zBW (cc := cL_leavesAt) (maxL := 4) (ret := (some .int)) (by decide) rfl (Nat.le_of_ble_eq_true rfl) ?_
  intro p e s m args below meth c A hF hr hlk hK hA hP hD hS hE hto ls hl
  obtain ⟨hx, hb, hml, hown, hts⟩ := id hF
  have hl : lv_has ls 4 [(0, .ref o), (1, .int p0), (2, .ref q)] := hl
  refine lv_aload_n hx hb dL_leavesAt_0 rfl (lv_at hl 2 rfl) ?_
  refine lv_iconst (v := 0) hx hb dL_leavesAt_1 (by decide) ?_
  refine lv_aload_n hx hb dL_leavesAt_2 rfl (lv_at hl 0 rfl) ?_
  refine lv_iload_n hx hb dL_leavesAt_3 rfl (lv_at hl 1 rfl) ?_
  refine zK_xc (As := [.int p0]) (rest := [.int 0, .ref q]) hF hM (cwV 1 hts gL_leavesAt_X1_leavesAt rfl rfl rfl (by decide +kernel) ⟨Nat.le_of_ble_eq_true rfl, Nat.le_of_ble_eq_true rfl⟩) hK hP hD hS hA hE (ci := 1) (q0 := 0) rfl rfl rfl (isC := [0, 1, 2, 3, 4, 5, 6, 7, 8]) (isR := [9]) (perm := [1, 2, 3, 4, 5, 6, 7, 8, 9, 0]) (wr := wo cJ q f) ⟨rfl, by decide, rfl, by decide, by decide, rfl, by decide⟩ [0] rfl rfl hl.1 rfl (Nat.le_of_ble_eq_true rfl) dL_leavesAt_4 ⟨Nat.le_of_ble_eq_true rfl, Nat.le_of_ble_eq_true rfl⟩ (fun ce q9 H locs hP hD hS hq9 hv9 hcl9 => ?_)
  refine vx_catch (own := RL) (name := zIX) (E := zIX) (ce := ce) hown [] ⟨0, 9, 12, 29⟩ [] (hto.trans rfl) (fun _ hz => by cases hz) (by decide) (by decide) (hts (.classLink RL 29 zIX) (by decide +kernel)) (va_Nw.use rfl hE.2.2.1.1.2.2) hq9 hv9 hcl9 ?_
  refine lv_astore_n (lv' := [(3, .ref q9), (0, .ref o), (1, .int p0), (2, .ref q)]) hx hb dL_leavesAt_12 rfl hl (by decide) rfl (fun ls hl => ?_)
  refine lv_iconst (v := nI 1) hx hb dL_leavesAt_13 (by decide) ?_
  exact zEY_i hF hr hlk hK hP hD hS (Nat.le_of_ble_eq_true rfl) (Nat.le_of_ble_eq_true rfl) dL_leavesAt_14
set_option maxHeartbeats 4000000 in
set_option maxRecDepth 100000 in
theorem w_quieterThan_r (l : Launch) (G : va_G) (cI cJ : ClassId) (o h da la sa h2 da2 la2 sa2 q : Nat) {came came' : Nat} {u t u' t' : WH} (f : Nat → Int64) (p0 : Int32) {r : Int32} (hM : zX_i l yX1_quieterThan wsX1_quieterThan ({ frames := 6, cells := 1, slots := 6, locals := 110 }) G [(cI, .int)] (wx cI o h da la sa h2 da2 la2 sa2 came u t) (wx cI o h da la sa h2 da2 la2 sa2 came' u' t') [.ref o, .int p0] (none) r) : zY_i l yL_quieterThan wsL_quieterThan ({ frames := 8, cells := 1, slots := 6, locals := 200 }) G [(cI, .int), (cJ, .long)] (wx cI o h da la sa h2 da2 la2 sa2 came u t ++ wo cJ q f) (wx cI o h da la sa h2 da2 la2 sa2 came' u' t' ++ wo cJ q (vp_updL f 0 r.toInt64)) [.ref o, .int p0, .ref q] 1 6 (nI 0) := by
  refine zBW (cc := cL_quieterThan) (maxL := 4) (ret := (some .int)) (by decide) rfl (Nat.le_of_ble_eq_true rfl) ?_
  intro p e s m args below meth c A hF hr hlk hK hA hP hD hS hE hto ls hl
  obtain ⟨hx, hb, hml, hown, hts⟩ := id hF
  have hl : lv_has ls 4 [(0, .ref o), (1, .int p0), (2, .ref q)] := hl
  refine lv_aload_n hx hb dL_quieterThan_0 rfl (lv_at hl 2 rfl) ?_
  refine lv_iconst (v := 0) hx hb dL_quieterThan_1 (by decide) ?_
  refine lv_aload_n hx hb dL_quieterThan_2 rfl (lv_at hl 0 rfl) ?_
  refine lv_iload_n hx hb dL_quieterThan_3 rfl (lv_at hl 1 rfl) ?_
  refine zK_xi (As := [.int p0]) (rest := [.int 0, .ref q]) hF hM (cwV 1 hts gL_quieterThan_X1_quieterThan rfl rfl rfl (by decide +kernel) ⟨Nat.le_of_ble_eq_true rfl, Nat.le_of_ble_eq_true rfl⟩) hK hP hD hS hA hE (ci := 1) (q0 := 0) rfl rfl rfl (isC := [0, 1, 2, 3, 4, 5, 6, 7, 8]) (isR := [9]) (perm := [1, 2, 3, 4, 5, 6, 7, 8, 9, 0]) (wr := wo cJ q f) (wN := wx cI o h da la sa h2 da2 la2 sa2 came' u' t' ++ wo cJ q f) ⟨rfl, by decide, rfl, by decide, by decide, rfl, by decide⟩ [0] rfl rfl hl.1 rfl (Nat.le_of_ble_eq_true rfl) dL_quieterThan_4 ⟨Nat.le_of_ble_eq_true rfl, Nat.le_of_ble_eq_true rfl⟩ (fun H locs hP hD hS => ?_)
  refine lv_i2l hx hb dL_quieterThan_7 rfl ?_
  refine va_last (f := f) (n := 1) (cA := cJ) hx hb hK hP hD hS 9 1 rfl rfl (by unfold vp_in; decide) dL_quieterThan_8 (fun H locs hP hD hS => ?_)
  have hP : va_P G vwCl (wx cI o h da la sa h2 da2 la2 sa2 came' u' t' ++ wo cJ q (vp_updL f 0 r.toInt64)) H := hP
  have hD : va_D A (wx cI o h da la sa h2 da2 la2 sa2 came' u' t' ++ wo cJ q (vp_updL f 0 r.toInt64)) := hD
  refine lv_goto (tgt := 15) hx hb dL_quieterThan_9 (by decide) ?_
  refine lv_iconst (v := nI 0) hx hb dL_quieterThan_15 (by decide) ?_
  exact zEY_i hF hr hlk hK hP hD hS (Nat.le_of_ble_eq_true rfl) (Nat.le_of_ble_eq_true rfl) dL_quieterThan_16
set_option maxHeartbeats 4000000 in
set_option maxRecDepth 100000 in
theorem w_quieterThan_x1 (l : Launch) (G : va_G) (cI cJ : ClassId) (o h da la sa h2 da2 la2 sa2 q : Nat) {came : Nat} {u t : WH} (f : Nat → Int64) (p0 : Int32) {r : Int32} (hM : zX_i l yX1_quieterThan wsX1_quieterThan ({ frames := 6, cells := 1, slots := 6, locals := 110 }) G [(cI, .int)] (wx cI o h da la sa h2 da2 la2 sa2 came u t) (wx cI o h da la sa h2 da2 la2 sa2 came u t) [.ref o, .int p0] (some zIX) r) : zY_i l yL_quieterThan wsL_quieterThan ({ frames := 8, cells := 1, slots := 6, locals := 200 }) G [(cI, .int), (cJ, .long)] (wx cI o h da la sa h2 da2 la2 sa2 came u t ++ wo cJ q f) (wx cI o h da la sa h2 da2 la2 sa2 came u t ++ wo cJ q f) [.ref o, .int p0, .ref q] 1 6 (nI 1) := by
  refine zBW (cc := cL_quieterThan) (maxL := 4) (ret := (some .int)) (by decide) rfl (Nat.le_of_ble_eq_true rfl) ?_
  intro p e s m args below meth c A hF hr hlk hK hA hP hD hS hE hto ls hl
  obtain ⟨hx, hb, hml, hown, hts⟩ := id hF
  have hl : lv_has ls 4 [(0, .ref o), (1, .int p0), (2, .ref q)] := hl
  refine lv_aload_n hx hb dL_quieterThan_0 rfl (lv_at hl 2 rfl) ?_
  refine lv_iconst (v := 0) hx hb dL_quieterThan_1 (by decide) ?_
  refine lv_aload_n hx hb dL_quieterThan_2 rfl (lv_at hl 0 rfl) ?_
  refine lv_iload_n hx hb dL_quieterThan_3 rfl (lv_at hl 1 rfl) ?_
  refine zK_xc (As := [.int p0]) (rest := [.int 0, .ref q]) hF hM (cwV 1 hts gL_quieterThan_X1_quieterThan rfl rfl rfl (by decide +kernel) ⟨Nat.le_of_ble_eq_true rfl, Nat.le_of_ble_eq_true rfl⟩) hK hP hD hS hA hE (ci := 1) (q0 := 0) rfl rfl rfl (isC := [0, 1, 2, 3, 4, 5, 6, 7, 8]) (isR := [9]) (perm := [1, 2, 3, 4, 5, 6, 7, 8, 9, 0]) (wr := wo cJ q f) ⟨rfl, by decide, rfl, by decide, by decide, rfl, by decide⟩ [0] rfl rfl hl.1 rfl (Nat.le_of_ble_eq_true rfl) dL_quieterThan_4 ⟨Nat.le_of_ble_eq_true rfl, Nat.le_of_ble_eq_true rfl⟩ (fun ce q9 H locs hP hD hS hq9 hv9 hcl9 => ?_)
  refine vx_catch (own := RL) (name := zIX) (E := zIX) (ce := ce) hown [] ⟨0, 9, 12, 29⟩ [] (hto.trans rfl) (fun _ hz => by cases hz) (by decide) (by decide) (hts (.classLink RL 29 zIX) (by decide +kernel)) (va_Nw.use rfl hE.2.2.1.1.2.2) hq9 hv9 hcl9 ?_
  refine lv_astore_n (lv' := [(3, .ref q9), (0, .ref o), (1, .int p0), (2, .ref q)]) hx hb dL_quieterThan_12 rfl hl (by decide) rfl (fun ls hl => ?_)
  refine lv_iconst (v := nI 1) hx hb dL_quieterThan_13 (by decide) ?_
  exact zEY_i hF hr hlk hK hP hD hS (Nat.le_of_ble_eq_true rfl) (Nat.le_of_ble_eq_true rfl) dL_quieterThan_14
