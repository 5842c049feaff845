/-! ## the constructors -/
def zeroH : WH := (fun _ => 0, fun _ => 0, fun _ => 0, 0, 0, 0)
theorem z_arr {args : Array Value} {s : State} (h : (Cond.arrayClass .int).before args s = true) : ∃ cA : ClassId, ArrOfT s cA .int ∧ va_RA s cA .int := by
  obtain ⟨cA, kA, comp, h1, h2, h3⟩ := Cond.arrayClass_spec h
  exact ⟨cA, fun n z => ⟨fun k h => (by cases h), kA, h2, comp, h3⟩, h1⟩
theorem z_same {G : va_G} {cI cA : ClassId} {s : State} (h : va_K G vwCl ([(cI, .int)] ++ [(cA, .int)]) s) : cI = cA :=
  Option.some.inj ((va_nm_int (h.2 0 _ rfl).2).symm.trans (va_nm_int (h.2 1 _ rfl).2))
abbrev zPI (G : va_G) (tys : zTy) (ws : va_W) (av : List Value) (sz : Nat) (N : State → Prop) : Array Value → State → Prop := va_Pc av (fun U => U.heap.size = sz ∧ va_P G vwCl ws U.heap ∧ va_K G vwCl tys U ∧ va_D (fun _ => True) ws ∧ N U)
/-- a constructor: cells come, their places are known behind it -/
def zI {S : Type} (l : Launch) (y : MethodName) (wd : List Cond) (rm : Room) (G : va_G) (tys : zTy) (ws : va_W) (ws' : S → va_W) (av : List Value) (mc ms : Nat) (N : State → Prop) : Prop :=
  ∀ sz : Nat, Met l y wd rm (zPI G tys ws av sz N) (va_Qv (fun (_ : S) => True) (fun u t => zWld G tys (ws' u) (va_A ws sz) t) (va_A ws sz)) mc ms (va_A ws sz)
theorem zBI {S : Type} {l : Launch} {y : MethodName} {wd wd' : List Cond} {rm : Room} {G : va_G} {tys : zTy} {ws : va_W} {ws' : S → va_W} {av : List Value} {mc ms : Nat} {N : State → Prop} {cc : ByteArray} {maxL : Nat} {ret : Option FieldType} (hy : plainName y.cls = true) (hw : wd = Cond.code y cc maxL ret :: wd') (ha : (lg_sl av).length ≤ maxL)
    (k : ∀ (p : Program) (e : Env) (s : State) (m : MethodId) (args : Array Value) (below : List Frame) (meth : Method) (c : Code) (A : Nat → Prop), CallFix p m c cc maxL s args wd y.cls → meth.sig.returnType = ret → meth.locks = false → meth.name = y.name → va_K G vwCl tys s → (∀ q, s.heap.size ≤ q → A q) → va_P G vwCl ws s.heap → va_D A ws → va_S A s.heap s.heap [] → N s → ∀ ls : Array Slot, lv_has ls maxL (lv_args 0 av) →
      W p l e rm s m args below meth c s.heap [] 0 0 (MQ below (va_Qv (fun (_ : S) => True) (fun u t => zWld G tys (ws' u) A t) A) args s mc ms A) (F0 m 0 ls [])) : zI l y wd rm G tys ws ws' av mc ms N := by
  intro sz
  refine Met.ofW (cc := cc) (maxL := maxL) (ret := ret) hy hw ?_
  intro p e s m args below meth c s₁ B hml hv
  obtain ⟨rfl, hsz, hP, hK, hD0, hN⟩ := hv
  subst hsz
  have hl := lv_entry av (n := maxL) ha
  rw [lg_entry_eq]
  exact k p e s m _ below meth c (va_A ws s.heap.size) ⟨B.exec, B.bytes, hml, findClass_of_methodNamed B.named, atoms_spec (ws := wd) B.pre⟩ B.returns B.notSynchronized (name_of_methodNamed B.named B.method).1 hK (fun q h => Or.inr h) hP (hD0.self (sz := s.heap.size)) va_S.rf hN _ hl

set_option maxHeartbeats 4000000 in
set_option maxRecDepth 100000 in
theorem c_X0_init (l : Launch) (G : va_G) (cI : ClassId) (o : Nat) : zI (S := Nat × Nat × Nat) l yX0_init wsX0_init ({ frames := 1, cells := 3, slots := 189, locals := 12 }) G [(cI, .int)] [(o, .inr (0, [.null, .null, .null, .int 0, .int 0, .int 0]))] (fun u => wh cI o u.1 u.2.1 u.2.2 zeroH) [.ref o] 3 189 (fun _ => True) := by
  refine zBI (cc := cX0_init) (maxL := 1) (ret := none) (by decide) rfl (Nat.le_of_ble_eq_true rfl) ?_
  intro p e s m args below meth c A hF hr hlk hin hK hA hP hD hS hN ls hl
  obtain ⟨hx, hb, hml, hown, hts⟩ := id hF
  have hinX0 : ∀ w ∈ wsX00, w ∈ wsX0_init := by decide +kernel
  have hl : lv_has ls 1 [(0, .ref o)] := hl
  refine lv_aload_n hx hb dX0_init_0 rfl (lv_at hl 0 rfl) ?_
  refine W.objInit hx hb hown (hts (.methodLink RX0 3 objectInit) (by decide +kernel)) (hts (.instanceMethod objectInit) (by decide +kernel)) (hts _ (List.mem_cons_of_mem _ (List.mem_append_left _ (List.mem_of_getElem? (i := 2) rfl)))) rfl (by rw [hml]; exact hl.1) rfl dX0_init_1 (Nat.le_of_ble_eq_true rfl) (Nat.le_of_ble_eq_true rfl) ?_
  refine W.eq (g2 := F0 m 4 ls []) rfl ?_
  refine lv_aload_n hx hb dX0_init_4 rfl (lv_at hl 0 rfl) ?_
  refine lv_bipush (v := nI 63) hx hb dX0_init_5 (by decide) ?_
  refine va_newa (atype := .int) (ty := .int) (N' := 63) (a0 := (63, .inl (fun _ => 0))) hx hb (hts (.arrayClass .int) (by decide +kernel)) rfl hK hP hD hS hA (fun _ => rfl) (by decide) (nI_clamp (by omega)) (Nat.le_of_ble_eq_true rfl) (Nat.le_of_ble_eq_true rfl) (Nat.le_of_ble_eq_true rfl) dX0_init_7 (fun q0 cA H hK9 hP hD hS => ?_)
  obtain rfl : cI = cA := z_same hK9
  clear hK9
  have hP : va_P G vwCl [(o, .inr (0, [.null, .null, .null, .int 0, .int 0, .int 0])), (q0, .inl (cI, 63, .inl (fun _ => 0)))] H := hP
  have hD : va_D A [(o, .inr (0, [.null, .null, .null, .int 0, .int 0, .int 0])), (q0, .inl (cI, 63, .inl (fun _ => 0)))] := hD
  refine va_putF (D := G) (ci := 0) (v := .ref q0) (ty := .array .int) (C := RX0) (T := TX0) (N := 6) hx hb hts hinX0 tyX0 tyX0_ok nmX0 hown hK hP hD hS 0 rfl rfl 0 (by decide) (hts (.fieldLink RX0 9 "SnoringDukes$WeakHeap" "duke" "[I") (by decide +kernel)) (fun _ h9 => h9) rfl hin rfl (by decide +kernel) rfl rfl (Nat.le_of_ble_eq_true rfl) dX0_init_9 (fun H locs hP hD hS => ?_)
  have hP : va_P G vwCl [(o, .inr (0, [.ref q0, .null, .null, .int 0, .int 0, .int 0])), (q0, .inl (cI, 63, .inl (fun _ => 0)))] H := hP
  have hD : va_D A [(o, .inr (0, [.ref q0, .null, .null, .int 0, .int 0, .int 0])), (q0, .inl (cI, 63, .inl (fun _ => 0)))] := hD
  refine lv_aload_n hx hb dX0_init_12 rfl (lv_at hl 0 rfl) ?_
  refine lv_bipush (v := nI 63) hx hb dX0_init_13 (by decide) ?_
  refine va_newa (atype := .int) (ty := .int) (N' := 63) (a0 := (63, .inl (fun _ => 0))) hx hb (hts (.arrayClass .int) (by decide +kernel)) rfl hK hP hD hS hA (fun _ => rfl) (by decide) (nI_clamp (by omega)) (Nat.le_of_ble_eq_true rfl) (Nat.le_of_ble_eq_true rfl) (Nat.le_of_ble_eq_true rfl) dX0_init_15 (fun q1 cA H hK9 hP hD hS => ?_)
  obtain rfl : cI = cA := z_same hK9
  clear hK9
  have hP : va_P G vwCl [(o, .inr (0, [.ref q0, .null, .null, .int 0, .int 0, .int 0])), (q0, .inl (cI, 63, .inl (fun _ => 0))), (q1, .inl (cI, 63, .inl (fun _ => 0)))] H := hP
  have hD : va_D A [(o, .inr (0, [.ref q0, .null, .null, .int 0, .int 0, .int 0])), (q0, .inl (cI, 63, .inl (fun _ => 0))), (q1, .inl (cI, 63, .inl (fun _ => 0)))] := hD
  refine va_putF (D := G) (ci := 0) (v := .ref q1) (ty := .array .int) (C := RX0) (T := TX0) (N := 6) hx hb hts hinX0 tyX0 tyX0_ok nmX0 hown hK hP hD hS 0 rfl rfl 1 (by decide) (hts (.fieldLink RX0 15 "SnoringDukes$WeakHeap" "loudness" "[I") (by decide +kernel)) (fun _ h9 => h9) rfl hin rfl (by decide +kernel) rfl rfl (Nat.le_of_ble_eq_true rfl) dX0_init_17 (fun H locs hP hD hS => ?_)
  have hP : va_P G vwCl [(o, .inr (0, [.ref q0, .ref q1, .null, .int 0, .int 0, .int 0])), (q0, .inl (cI, 63, .inl (fun _ => 0))), (q1, .inl (cI, 63, .inl (fun _ => 0)))] H := hP
  have hD : va_D A [(o, .inr (0, [.ref q0, .ref q1, .null, .int 0, .int 0, .int 0])), (q0, .inl (cI, 63, .inl (fun _ => 0))), (q1, .inl (cI, 63, .inl (fun _ => 0)))] := hD
  refine lv_aload_n hx hb dX0_init_20 rfl (lv_at hl 0 rfl) ?_
  refine lv_bipush (v := nI 63) hx hb dX0_init_21 (by decide) ?_
  refine va_newa (atype := .int) (ty := .int) (N' := 63) (a0 := (63, .inl (fun _ => 0))) hx hb (hts (.arrayClass .int) (by decide +kernel)) rfl hK hP hD hS hA (fun _ => rfl) (by decide) (nI_clamp (by omega)) (Nat.le_of_ble_eq_true rfl) (Nat.le_of_ble_eq_true rfl) (Nat.le_of_ble_eq_true rfl) dX0_init_23 (fun q2 cA H hK9 hP hD hS => ?_)
  obtain rfl : cI = cA := z_same hK9
  clear hK9
  have hP : va_P G vwCl [(o, .inr (0, [.ref q0, .ref q1, .null, .int 0, .int 0, .int 0])), (q0, .inl (cI, 63, .inl (fun _ => 0))), (q1, .inl (cI, 63, .inl (fun _ => 0))), (q2, .inl (cI, 63, .inl (fun _ => 0)))] H := hP
  have hD : va_D A [(o, .inr (0, [.ref q0, .ref q1, .null, .int 0, .int 0, .int 0])), (q0, .inl (cI, 63, .inl (fun _ => 0))), (q1, .inl (cI, 63, .inl (fun _ => 0))), (q2, .inl (cI, 63, .inl (fun _ => 0)))] := hD
  refine va_putF (D := G) (ci := 0) (v := .ref q2) (ty := .array .int) (C := RX0) (T := TX0) (N := 6) hx hb hts hinX0 tyX0 tyX0_ok nmX0 hown hK hP hD hS 0 rfl rfl 2 (by decide) (hts (.fieldLink RX0 18 "SnoringDukes$WeakHeap" "side" "[I") (by decide +kernel)) (fun _ h9 => h9) rfl hin rfl (by decide +kernel) rfl rfl (Nat.le_of_ble_eq_true rfl) dX0_init_25 (fun H locs hP hD hS => ?_)
  have hP : va_P G vwCl [(o, .inr (0, [.ref q0, .ref q1, .ref q2, .int 0, .int 0, .int 0])), (q0, .inl (cI, 63, .inl (fun _ => 0))), (q1, .inl (cI, 63, .inl (fun _ => 0))), (q2, .inl (cI, 63, .inl (fun _ => 0)))] H := hP
  have hD : va_D A [(o, .inr (0, [.ref q0, .ref q1, .ref q2, .int 0, .int 0, .int 0])), (q0, .inl (cI, 63, .inl (fun _ => 0))), (q1, .inl (cI, 63, .inl (fun _ => 0))), (q2, .inl (cI, 63, .inl (fun _ => 0)))] := hD
  refine lv_aload_n hx hb dX0_init_28 rfl (lv_at hl 0 rfl) ?_
  refine lv_iconst (v := 0) hx hb dX0_init_29 (by decide) ?_
  refine va_put (D := G) (ci := 0) (v := .int 0) (ty := .int) (C := RX0) (T := TX0) (N := 6) hx hb hts hinX0 tyX0 tyX0_ok nmX0 hown hK hP hD hS 0 rfl rfl 3 (by decide) (hts (.fieldLink RX0 21 "SnoringDukes$WeakHeap" "size" "I") (by decide +kernel)) (fun _ h9 => h9) rfl (by decide +kernel) rfl rfl (Nat.le_of_ble_eq_true rfl) dX0_init_30 (fun H locs hP hD hS => ?_)
  have hP : va_P G vwCl [(o, .inr (0, [.ref q0, .ref q1, .ref q2, .int 0, .int 0, .int 0])), (q0, .inl (cI, 63, .inl (fun _ => 0))), (q1, .inl (cI, 63, .inl (fun _ => 0))), (q2, .inl (cI, 63, .inl (fun _ => 0)))] H := hP
  have hD : va_D A [(o, .inr (0, [.ref q0, .ref q1, .ref q2, .int 0, .int 0, .int 0])), (q0, .inl (cI, 63, .inl (fun _ => 0))), (q1, .inl (cI, 63, .inl (fun _ => 0))), (q2, .inl (cI, 63, .inl (fun _ => 0)))] := hD
  refine lv_aload_n hx hb dX0_init_33 rfl (lv_at hl 0 rfl) ?_
  refine lv_iconst (v := 0) hx hb dX0_init_34 (by decide) ?_
  refine va_put (D := G) (ci := 0) (v := .int 0) (ty := .int) (C := RX0) (T := TX0) (N := 6) hx hb hts hinX0 tyX0 tyX0_ok nmX0 hown hK hP hD hS 0 rfl rfl 4 (by decide) (hts (.fieldLink RX0 25 "SnoringDukes$WeakHeap" "compared" "I") (by decide +kernel)) (fun _ h9 => h9) rfl (by decide +kernel) rfl rfl (Nat.le_of_ble_eq_true rfl) dX0_init_35 (fun H locs hP hD hS => ?_)
  have hP : va_P G vwCl [(o, .inr (0, [.ref q0, .ref q1, .ref q2, .int 0, .int 0, .int 0])), (q0, .inl (cI, 63, .inl (fun _ => 0))), (q1, .inl (cI, 63, .inl (fun _ => 0))), (q2, .inl (cI, 63, .inl (fun _ => 0)))] H := hP
  have hD : va_D A [(o, .inr (0, [.ref q0, .ref q1, .ref q2, .int 0, .int 0, .int 0])), (q0, .inl (cI, 63, .inl (fun _ => 0))), (q1, .inl (cI, 63, .inl (fun _ => 0))), (q2, .inl (cI, 63, .inl (fun _ => 0)))] := hD
  refine lv_aload_n hx hb dX0_init_38 rfl (lv_at hl 0 rfl) ?_
  refine lv_iconst (v := 0) hx hb dX0_init_39 (by decide) ?_
  refine va_put (D := G) (ci := 0) (v := .int 0) (ty := .int) (C := RX0) (T := TX0) (N := 6) hx hb hts hinX0 tyX0 tyX0_ok nmX0 hown hK hP hD hS 0 rfl rfl 5 (by decide) (hts (.fieldLink RX0 28 "SnoringDukes$WeakHeap" "changed" "I") (by decide +kernel)) (fun _ h9 => h9) rfl (by decide +kernel) rfl rfl (Nat.le_of_ble_eq_true rfl) dX0_init_40 (fun H locs hP hD hS => ?_)
  have hP : va_P G vwCl [(o, .inr (0, [.ref q0, .ref q1, .ref q2, .int 0, .int 0, .int 0])), (q0, .inl (cI, 63, .inl (fun _ => 0))), (q1, .inl (cI, 63, .inl (fun _ => 0))), (q2, .inl (cI, 63, .inl (fun _ => 0)))] H := hP
  have hD : va_D A [(o, .inr (0, [.ref q0, .ref q1, .ref q2, .int 0, .int 0, .int 0])), (q0, .inl (cI, 63, .inl (fun _ => 0))), (q1, .inl (cI, 63, .inl (fun _ => 0))), (q2, .inl (cI, 63, .inl (fun _ => 0)))] := hD
  exact W.vret hx hb hr (fun t ht hW => ⟨⟨(q0, q1, q2), rfl, trivial, by rw [ht]; exact hP, va_K.moved hW.alike hK, hD⟩, hS.F ht⟩) hS.2.2 dX0_init_43 hlk
set_option maxHeartbeats 4000000 in
set_option maxRecDepth 100000 in
theorem c_X2_init (l : Launch) (G : va_G) (cI : ClassId) (o : Nat) : zI (S := Nat × Nat × Nat × Nat × Nat) l yX2_init wsX2_init ({ frames := 1, cells := 5, slots := 752, locals := 12 }) G [(cI, .int)] [(o, .inr (2, [.int 0, .int 0, .int 0, .int 0, .null, .null, .null, .null, .null, .int 0]))] (fun u => wm cI o u.1 u.2.1 u.2.2.1 u.2.2.2.1 u.2.2.2.2 0 0 0 0 (fun _ => 0) (fun _ => 0) (fun _ => 0) (fun _ => 0) (fun _ => 0) 0) [.ref o] 5 752 (fun _ => True) := by
  refine zBI (cc := cX2_init) (maxL := 1) (ret := none) (by decide) rfl (Nat.le_of_ble_eq_true rfl) ?_
  intro p e s m args below meth c A hF hr hlk hin hK hA hP hD hS hN ls hl
  obtain ⟨hx, hb, hml, hown, hts⟩ := id hF
  have hinX2 : ∀ w ∈ wsX20, w ∈ wsX2_init := by decide +kernel
  have hl : lv_has ls 1 [(0, .ref o)] := hl
  refine lv_aload_n hx hb dX2_init_0 rfl (lv_at hl 0 rfl) ?_
  refine W.objInit hx hb hown (hts (.methodLink RX2 1 objectInit) (by decide +kernel)) (hts (.instanceMethod objectInit) (by decide +kernel)) (hts _ (List.mem_cons_of_mem _ (List.mem_append_left _ (List.mem_of_getElem? (i := 2) rfl)))) rfl (by rw [hml]; exact hl.1) rfl dX2_init_1 (Nat.le_of_ble_eq_true rfl) (Nat.le_of_ble_eq_true rfl) ?_
  refine W.eq (g2 := F0 m 4 ls []) rfl ?_
  refine lv_aload_n hx hb dX2_init_4 rfl (lv_at hl 0 rfl) ?_
  refine lv_sipush (v := nI 500) hx hb dX2_init_5 (by decide) ?_
  refine va_newa (atype := .int) (ty := .int) (N' := 500) (a0 := (500, .inl (fun _ => 0))) hx hb (hts (.arrayClass .int) (by decide +kernel)) rfl hK hP hD hS hA (fun _ => rfl) (by decide) (nI_clamp (by omega)) (Nat.le_of_ble_eq_true rfl) (Nat.le_of_ble_eq_true rfl) (Nat.le_of_ble_eq_true rfl) dX2_init_8 (fun q0 cA H hK9 hP hD hS => ?_)
  obtain rfl : cI = cA := z_same hK9
  clear hK9
  have hP : va_P G vwCl [(o, .inr (2, [.int 0, .int 0, .int 0, .int 0, .null, .null, .null, .null, .null, .int 0])), (q0, .inl (cI, 500, .inl (fun _ => 0)))] H := hP
  have hD : va_D A [(o, .inr (2, [.int 0, .int 0, .int 0, .int 0, .null, .null, .null, .null, .null, .int 0])), (q0, .inl (cI, 500, .inl (fun _ => 0)))] := hD
  refine va_putF (D := G) (ci := 2) (v := .ref q0) (ty := .array .int) (C := RX2) (T := TX2) (N := 10) hx hb hts hinX2 tyX2 tyX2_ok nmX2 hown hK hP hD hS 0 rfl rfl 4 (by decide) (hts (.fieldLink RX2 7 "SnoringDukesModel" "loud" "[I") (by decide +kernel)) (fun _ h9 => h9) rfl hin rfl (by decide +kernel) rfl rfl (Nat.le_of_ble_eq_true rfl) dX2_init_10 (fun H locs hP hD hS => ?_)
  have hP : va_P G vwCl [(o, .inr (2, [.int 0, .int 0, .int 0, .int 0, .ref q0, .null, .null, .null, .null, .int 0])), (q0, .inl (cI, 500, .inl (fun _ => 0)))] H := hP
  have hD : va_D A [(o, .inr (2, [.int 0, .int 0, .int 0, .int 0, .ref q0, .null, .null, .null, .null, .int 0])), (q0, .inl (cI, 500, .inl (fun _ => 0)))] := hD
  refine lv_aload_n hx hb dX2_init_13 rfl (lv_at hl 0 rfl) ?_
  refine lv_bipush (v := nI 63) hx hb dX2_init_14 (by decide) ?_
  refine va_newa (atype := .int) (ty := .int) (N' := 63) (a0 := (63, .inl (fun _ => 0))) hx hb (hts (.arrayClass .int) (by decide +kernel)) rfl hK hP hD hS hA (fun _ => rfl) (by decide) (nI_clamp (by omega)) (Nat.le_of_ble_eq_true rfl) (Nat.le_of_ble_eq_true rfl) (Nat.le_of_ble_eq_true rfl) dX2_init_16 (fun q1 cA H hK9 hP hD hS => ?_)
  obtain rfl : cI = cA := z_same hK9
  clear hK9
  have hP : va_P G vwCl [(o, .inr (2, [.int 0, .int 0, .int 0, .int 0, .ref q0, .null, .null, .null, .null, .int 0])), (q0, .inl (cI, 500, .inl (fun _ => 0))), (q1, .inl (cI, 63, .inl (fun _ => 0)))] H := hP
  have hD : va_D A [(o, .inr (2, [.int 0, .int 0, .int 0, .int 0, .ref q0, .null, .null, .null, .null, .int 0])), (q0, .inl (cI, 500, .inl (fun _ => 0))), (q1, .inl (cI, 63, .inl (fun _ => 0)))] := hD
  refine va_putF (D := G) (ci := 2) (v := .ref q1) (ty := .array .int) (C := RX2) (T := TX2) (N := 10) hx hb hts hinX2 tyX2 tyX2_ok nmX2 hown hK hP hD hS 0 rfl rfl 5 (by decide) (hts (.fieldLink RX2 13 "SnoringDukesModel" "lies" "[I") (by decide +kernel)) (fun _ h9 => h9) rfl hin rfl (by decide +kernel) rfl rfl (Nat.le_of_ble_eq_true rfl) dX2_init_18 (fun H locs hP hD hS => ?_)
  have hP : va_P G vwCl [(o, .inr (2, [.int 0, .int 0, .int 0, .int 0, .ref q0, .ref q1, .null, .null, .null, .int 0])), (q0, .inl (cI, 500, .inl (fun _ => 0))), (q1, .inl (cI, 63, .inl (fun _ => 0)))] H := hP
  have hD : va_D A [(o, .inr (2, [.int 0, .int 0, .int 0, .int 0, .ref q0, .ref q1, .null, .null, .null, .int 0])), (q0, .inl (cI, 500, .inl (fun _ => 0))), (q1, .inl (cI, 63, .inl (fun _ => 0)))] := hD
  refine lv_aload_n hx hb dX2_init_21 rfl (lv_at hl 0 rfl) ?_
  refine lv_bipush (v := nI 63) hx hb dX2_init_22 (by decide) ?_
  refine va_newa (atype := .int) (ty := .int) (N' := 63) (a0 := (63, .inl (fun _ => 0))) hx hb (hts (.arrayClass .int) (by decide +kernel)) rfl hK hP hD hS hA (fun _ => rfl) (by decide) (nI_clamp (by omega)) (Nat.le_of_ble_eq_true rfl) (Nat.le_of_ble_eq_true rfl) (Nat.le_of_ble_eq_true rfl) dX2_init_24 (fun q2 cA H hK9 hP hD hS => ?_)
  obtain rfl : cI = cA := z_same hK9
  clear hK9
  have hP : va_P G vwCl [(o, .inr (2, [.int 0, .int 0, .int 0, .int 0, .ref q0, .ref q1, .null, .null, .null, .int 0])), (q0, .inl (cI, 500, .inl (fun _ => 0))), (q1, .inl (cI, 63, .inl (fun _ => 0))), (q2, .inl (cI, 63, .inl (fun _ => 0)))] H := hP
  have hD : va_D A [(o, .inr (2, [.int 0, .int 0, .int 0, .int 0, .ref q0, .ref q1, .null, .null, .null, .int 0])), (q0, .inl (cI, 500, .inl (fun _ => 0))), (q1, .inl (cI, 63, .inl (fun _ => 0))), (q2, .inl (cI, 63, .inl (fun _ => 0)))] := hD
  refine va_putF (D := G) (ci := 2) (v := .ref q2) (ty := .array .int) (C := RX2) (T := TX2) (N := 10) hx hb hts hinX2 tyX2 tyX2_ok nmX2 hown hK hP hD hS 0 rfl rfl 6 (by decide) (hts (.fieldLink RX2 16 "SnoringDukesModel" "side" "[I") (by decide +kernel)) (fun _ h9 => h9) rfl hin rfl (by decide +kernel) rfl rfl (Nat.le_of_ble_eq_true rfl) dX2_init_26 (fun H locs hP hD hS => ?_)
  have hP : va_P G vwCl [(o, .inr (2, [.int 0, .int 0, .int 0, .int 0, .ref q0, .ref q1, .ref q2, .null, .null, .int 0])), (q0, .inl (cI, 500, .inl (fun _ => 0))), (q1, .inl (cI, 63, .inl (fun _ => 0))), (q2, .inl (cI, 63, .inl (fun _ => 0)))] H := hP
  have hD : va_D A [(o, .inr (2, [.int 0, .int 0, .int 0, .int 0, .ref q0, .ref q1, .ref q2, .null, .null, .int 0])), (q0, .inl (cI, 500, .inl (fun _ => 0))), (q1, .inl (cI, 63, .inl (fun _ => 0))), (q2, .inl (cI, 63, .inl (fun _ => 0)))] := hD
  refine lv_aload_n hx hb dX2_init_29 rfl (lv_at hl 0 rfl) ?_
  refine lv_bipush (v := nI 63) hx hb dX2_init_30 (by decide) ?_
  refine va_newa (atype := .int) (ty := .int) (N' := 63) (a0 := (63, .inl (fun _ => 0))) hx hb (hts (.arrayClass .int) (by decide +kernel)) rfl hK hP hD hS hA (fun _ => rfl) (by decide) (nI_clamp (by omega)) (Nat.le_of_ble_eq_true rfl) (Nat.le_of_ble_eq_true rfl) (Nat.le_of_ble_eq_true rfl) dX2_init_32 (fun q3 cA H hK9 hP hD hS => ?_)
  obtain rfl : cI = cA := z_same hK9
  clear hK9
  have hP : va_P G vwCl [(o, .inr (2, [.int 0, .int 0, .int 0, .int 0, .ref q0, .ref q1, .ref q2, .null, .null, .int 0])), (q0, .inl (cI, 500, .inl (fun _ => 0))), (q1, .inl (cI, 63, .inl (fun _ => 0))), (q2, .inl (cI, 63, .inl (fun _ => 0))), (q3, .inl (cI, 63, .inl (fun _ => 0)))] H := hP
  have hD : va_D A [(o, .inr (2, [.int 0, .int 0, .int 0, .int 0, .ref q0, .ref q1, .ref q2, .null, .null, .int 0])), (q0, .inl (cI, 500, .inl (fun _ => 0))), (q1, .inl (cI, 63, .inl (fun _ => 0))), (q2, .inl (cI, 63, .inl (fun _ => 0))), (q3, .inl (cI, 63, .inl (fun _ => 0)))] := hD
  refine va_putF (D := G) (ci := 2) (v := .ref q3) (ty := .array .int) (C := RX2) (T := TX2) (N := 10) hx hb hts hinX2 tyX2 tyX2_ok nmX2 hown hK hP hD hS 0 rfl rfl 7 (by decide) (hts (.fieldLink RX2 19 "SnoringDukesModel" "shadow" "[I") (by decide +kernel)) (fun _ h9 => h9) rfl hin rfl (by decide +kernel) rfl rfl (Nat.le_of_ble_eq_true rfl) dX2_init_34 (fun H locs hP hD hS => ?_)
  have hP : va_P G vwCl [(o, .inr (2, [.int 0, .int 0, .int 0, .int 0, .ref q0, .ref q1, .ref q2, .ref q3, .null, .int 0])), (q0, .inl (cI, 500, .inl (fun _ => 0))), (q1, .inl (cI, 63, .inl (fun _ => 0))), (q2, .inl (cI, 63, .inl (fun _ => 0))), (q3, .inl (cI, 63, .inl (fun _ => 0)))] H := hP
  have hD : va_D A [(o, .inr (2, [.int 0, .int 0, .int 0, .int 0, .ref q0, .ref q1, .ref q2, .ref q3, .null, .int 0])), (q0, .inl (cI, 500, .inl (fun _ => 0))), (q1, .inl (cI, 63, .inl (fun _ => 0))), (q2, .inl (cI, 63, .inl (fun _ => 0))), (q3, .inl (cI, 63, .inl (fun _ => 0)))] := hD
  refine lv_aload_n hx hb dX2_init_37 rfl (lv_at hl 0 rfl) ?_
  refine lv_bipush (v := nI 63) hx hb dX2_init_38 (by decide) ?_
  refine va_newa (atype := .int) (ty := .int) (N' := 63) (a0 := (63, .inl (fun _ => 0))) hx hb (hts (.arrayClass .int) (by decide +kernel)) rfl hK hP hD hS hA (fun _ => rfl) (by decide) (nI_clamp (by omega)) (Nat.le_of_ble_eq_true rfl) (Nat.le_of_ble_eq_true rfl) (Nat.le_of_ble_eq_true rfl) dX2_init_40 (fun q4 cA H hK9 hP hD hS => ?_)
  obtain rfl : cI = cA := z_same hK9
  clear hK9
  have hP : va_P G vwCl [(o, .inr (2, [.int 0, .int 0, .int 0, .int 0, .ref q0, .ref q1, .ref q2, .ref q3, .null, .int 0])), (q0, .inl (cI, 500, .inl (fun _ => 0))), (q1, .inl (cI, 63, .inl (fun _ => 0))), (q2, .inl (cI, 63, .inl (fun _ => 0))), (q3, .inl (cI, 63, .inl (fun _ => 0))), (q4, .inl (cI, 63, .inl (fun _ => 0)))] H := hP
  have hD : va_D A [(o, .inr (2, [.int 0, .int 0, .int 0, .int 0, .ref q0, .ref q1, .ref q2, .ref q3, .null, .int 0])), (q0, .inl (cI, 500, .inl (fun _ => 0))), (q1, .inl (cI, 63, .inl (fun _ => 0))), (q2, .inl (cI, 63, .inl (fun _ => 0))), (q3, .inl (cI, 63, .inl (fun _ => 0))), (q4, .inl (cI, 63, .inl (fun _ => 0)))] := hD
  refine va_putF (D := G) (ci := 2) (v := .ref q4) (ty := .array .int) (C := RX2) (T := TX2) (N := 10) hx hb hts hinX2 tyX2 tyX2_ok nmX2 hown hK hP hD hS 0 rfl rfl 8 (by decide) (hts (.fieldLink RX2 22 "SnoringDukesModel" "shade" "[I") (by decide +kernel)) (fun _ h9 => h9) rfl hin rfl (by decide +kernel) rfl rfl (Nat.le_of_ble_eq_true rfl) dX2_init_42 (fun H locs hP hD hS => ?_)
  have hP : va_P G vwCl [(o, .inr (2, [.int 0, .int 0, .int 0, .int 0, .ref q0, .ref q1, .ref q2, .ref q3, .ref q4, .int 0])), (q0, .inl (cI, 500, .inl (fun _ => 0))), (q1, .inl (cI, 63, .inl (fun _ => 0))), (q2, .inl (cI, 63, .inl (fun _ => 0))), (q3, .inl (cI, 63, .inl (fun _ => 0))), (q4, .inl (cI, 63, .inl (fun _ => 0)))] H := hP
  have hD : va_D A [(o, .inr (2, [.int 0, .int 0, .int 0, .int 0, .ref q0, .ref q1, .ref q2, .ref q3, .ref q4, .int 0])), (q0, .inl (cI, 500, .inl (fun _ => 0))), (q1, .inl (cI, 63, .inl (fun _ => 0))), (q2, .inl (cI, 63, .inl (fun _ => 0))), (q3, .inl (cI, 63, .inl (fun _ => 0))), (q4, .inl (cI, 63, .inl (fun _ => 0)))] := hD
  exact W.vret hx hb hr (fun t ht hW => ⟨⟨(q0, q1, q2, q3, q4), rfl, trivial, by rw [ht]; exact hP, va_K.moved hW.alike hK, hD⟩, hS.F ht⟩) hS.2.2 dX2_init_45 hlk
set_option maxHeartbeats 4000000 in
set_option maxRecDepth 100000 in
theorem c_X1_init (l : Launch) (G : va_G) (cI : ClassId) (o : Nat) : zI (S := (Nat × Nat × Nat × Nat) × (Nat × Nat × Nat × Nat)) l yX1_init wsX1_init ({ frames := 2, cells := 8, slots := 390, locals := 32 }) G [(cI, .int)] [(o, .inr (1, [.null, .null, .int 0]))] (fun u => wx cI o u.1.1 u.1.2.1 u.1.2.2.1 u.1.2.2.2 u.2.1 u.2.2.1 u.2.2.2.1 u.2.2.2.2 0 zeroH zeroH) [.ref o] 8 390 (fun U => va_Nw (.methodLinkNest RX1 9 yX0_init RX1) U) := by
  refine zBI (cc := cX1_init) (maxL := 1) (ret := none) (by decide) rfl (Nat.le_of_ble_eq_true rfl) ?_
  intro p e s m args below meth c A hF hr hlk hin hK hA hP hD hS hN ls hl
  obtain ⟨hx, hb, hml, hown, hts⟩ := id hF
  have hinX0 : ∀ w ∈ wsX00, w ∈ wsX1_init := by decide +kernel
  have hinX1 : ∀ w ∈ wsX10, w ∈ wsX1_init := by decide +kernel
  have hl : lv_has ls 1 [(0, .ref o)] := hl
  refine lv_aload_n hx hb dX1_init_0 rfl (lv_at hl 0 rfl) ?_
  refine W.objInit hx hb hown (hts (.methodLink RX1 1 objectInit) (by decide +kernel)) (hts (.instanceMethod objectInit) (by decide +kernel)) (hts _ (List.mem_cons_of_mem _ (List.mem_append_left _ (List.mem_append_left _ (List.mem_of_getElem? (i := 2) rfl))))) rfl (by rw [hml]; exact hl.1) rfl dX1_init_1 (Nat.le_of_ble_eq_true rfl) (Nat.le_of_ble_eq_true rfl) ?_
  refine W.eq (g2 := F0 m 4 ls []) rfl ?_
  refine lv_aload_n hx hb dX1_init_4 rfl (lv_at hl 0 rfl) ?_
  refine va_new (ci := 0) (fs := [.null, .null, .null, .int 0, .int 0, .int 0]) (C := RX0) (T := TX0) (N := 6) hx hb hts hinX0 tyX0 tyX0_ok hown (hts (.classLink RX1 7 RX0) (by decide +kernel)) (hts (.instantiable RX0 6) (by decide +kernel)) (hts (.initialized RX0) (by decide +kernel)) hK hP hD hS hA rfl (fun j hj => by rcases (show j = 0 ∨ j = 1 ∨ j = 2 ∨ j = 3 ∨ j = 4 ∨ j = 5 by omega) with rfl | rfl | rfl | rfl | rfl | rfl <;> rfl) (Nat.le_of_ble_eq_true rfl) (Nat.le_of_ble_eq_true rfl) dX1_init_5 (fun q0 H hP hD hS => ?_)
  have hP : va_P G vwCl ((o, .inr (1, [.null, .null, .int 0])) :: ([(q0, .inr (0, [.null, .null, .null, .int 0, .int 0, .int 0]))])) H := hP
  have hD : va_D A ((o, .inr (1, [.null, .null, .int 0])) :: ([(q0, .inr (0, [.null, .null, .null, .int 0, .int 0, .int 0]))])) := hD
  refine lv_dup hx hb dX1_init_8 rfl ?_
  have hPc := hP.sub (ws' := [(q0, .inr (0, [.null, .null, .null, .int 0, .int 0, .int 0]))]) [1] rfl
  have hDc := hD.sub (ws' := [(q0, .inr (0, [.null, .null, .null, .int 0, .int 0, .int 0]))]) [1] (by decide) rfl
  have hFc := va_free (wc := [(q0, .inr (0, [.null, .null, .null, .int 0, .int 0, .int 0]))]) hD hS hA [1] rfl
  refine va_callv (va_runIN (As := []) (rest := [.ref q0, .ref o]) hF (c_X0_init l G cI q0 H.size) ⟨va_cnB 0 hts gX1_init_X0_init_n9 rfl rfl rfl hN (hts (.initialized RX0) (by decide +kernel)) (by decide +kernel) ⟨Nat.le_of_ble_eq_true rfl, Nat.le_of_ble_eq_true rfl⟩, rfl, hts (.instanceMethod yX0_init) (by decide +kernel)⟩ ⟨fun a U g mk q => by obtain ⟨q0, q1, qP, qK, qD, qN⟩ := q; exact ⟨q0, q1, qP, va_K.moved (u := U) (U := U.calling g mk a) (Vm.Alike.refl U.vm) qK, qD, trivial⟩, fun U hU hW => ⟨rfl, by rw [hU], by rw [hU]; exact hPc, va_K.moved hW.alike hK, hDc.weaken (fun _ _ _ _ => trivial), trivial⟩⟩ rfl rfl hl.1 rfl (lv_room (Nat.le_of_ble_eq_true rfl)) dX1_init_9 ⟨Nat.le_of_ble_eq_true rfl, Nat.le_of_ble_eq_true rfl⟩) hS (fun q _ h => hFc q h) hFc (fun u t H1 locs ht hvm hw hB hz1 hk1 hS => ?_)
  obtain ⟨x0d, x0l, x0s⟩ := u
  obtain ⟨hP1, hK1, hD1⟩ := hB
  rw [ht] at hP1
  obtain ⟨hP, hD⟩ := va_join (wr := (o, .inr (1, [.null, .null, .int 0])) :: ([])) (w1 := wh cI q0 x0d x0l x0s zeroH) hP hD [1] [0] rfl rfl (by decide) (by decide) hk1 hFc hP1 hD1
  generalize H1 = H at hP hS ⊢
  have hP : va_P G vwCl ((o, .inr (1, [.null, .null, .int 0])) :: (wh cI q0 x0d x0l x0s zeroH)) H := hP
  have hD : va_D A ((o, .inr (1, [.null, .null, .int 0])) :: (wh cI q0 x0d x0l x0s zeroH)) := hD
  refine va_putF (D := G) (ci := 1) (v := .ref q0) (ty := .object "SnoringDukes$WeakHeap") (C := RX1) (T := TX1) (N := 3) hx hb hts hinX1 tyX1 tyX1_ok nmX1 hown hK hP hD hS 0 rfl rfl 0 (by decide) (hts (.fieldLink RX1 10 "SnoringDukes" "heap" "LSnoringDukes$WeakHeap;") (by decide +kernel)) (fun _ h9 => h9) rfl hin rfl (by decide +kernel) rfl rfl (Nat.le_of_ble_eq_true rfl) dX1_init_12 (fun H locs hP hD hS => ?_)
  have hP : va_P G vwCl ((o, .inr (1, [.ref q0, .null, .int 0])) :: (wh cI q0 x0d x0l x0s zeroH)) H := hP
  have hD : va_D A ((o, .inr (1, [.ref q0, .null, .int 0])) :: (wh cI q0 x0d x0l x0s zeroH)) := hD
  refine lv_aload_n hx hb dX1_init_15 rfl (lv_at hl 0 rfl) ?_
  refine va_new (ci := 0) (fs := [.null, .null, .null, .int 0, .int 0, .int 0]) (C := RX0) (T := TX0) (N := 6) hx hb hts hinX0 tyX0 tyX0_ok hown (hts (.classLink RX1 7 RX0) (by decide +kernel)) (hts (.instantiable RX0 6) (by decide +kernel)) (hts (.initialized RX0) (by decide +kernel)) hK hP hD hS hA rfl (fun j hj => by rcases (show j = 0 ∨ j = 1 ∨ j = 2 ∨ j = 3 ∨ j = 4 ∨ j = 5 by omega) with rfl | rfl | rfl | rfl | rfl | rfl <;> rfl) (Nat.le_of_ble_eq_true rfl) (Nat.le_of_ble_eq_true rfl) dX1_init_16 (fun q1 H hP hD hS => ?_)
  have hP : va_P G vwCl ((o, .inr (1, [.ref q0, .null, .int 0])) :: (wh cI q0 x0d x0l x0s zeroH ++ [(q1, .inr (0, [.null, .null, .null, .int 0, .int 0, .int 0]))])) H := hP
  have hD : va_D A ((o, .inr (1, [.ref q0, .null, .int 0])) :: (wh cI q0 x0d x0l x0s zeroH ++ [(q1, .inr (0, [.null, .null, .null, .int 0, .int 0, .int 0]))])) := hD
  refine lv_dup hx hb dX1_init_19 rfl ?_
  have hPc := hP.sub (ws' := [(q1, .inr (0, [.null, .null, .null, .int 0, .int 0, .int 0]))]) [5] rfl
  have hDc := hD.sub (ws' := [(q1, .inr (0, [.null, .null, .null, .int 0, .int 0, .int 0]))]) [5] (by decide) rfl
  have hFc := va_free (wc := [(q1, .inr (0, [.null, .null, .null, .int 0, .int 0, .int 0]))]) hD hS hA [5] rfl
  refine va_callv (va_runIN (As := []) (rest := [.ref q1, .ref o]) hF (c_X0_init l G cI q1 H.size) ⟨va_cnB 0 hts gX1_init_X0_init_n9 rfl rfl rfl hN (hts (.initialized RX0) (by decide +kernel)) (by decide +kernel) ⟨Nat.le_of_ble_eq_true rfl, Nat.le_of_ble_eq_true rfl⟩, rfl, hts (.instanceMethod yX0_init) (by decide +kernel)⟩ ⟨fun a U g mk q => by obtain ⟨q0, q1, qP, qK, qD, qN⟩ := q; exact ⟨q0, q1, qP, va_K.moved (u := U) (U := U.calling g mk a) (Vm.Alike.refl U.vm) qK, qD, trivial⟩, fun U hU hW => ⟨rfl, by rw [hU], by rw [hU]; exact hPc, va_K.moved hW.alike hK, hDc.weaken (fun _ _ _ _ => trivial), trivial⟩⟩ rfl rfl hl.1 rfl (lv_room (Nat.le_of_ble_eq_true rfl)) dX1_init_20 ⟨Nat.le_of_ble_eq_true rfl, Nat.le_of_ble_eq_true rfl⟩) hS (fun q _ h => hFc q h) hFc (fun u t H1 locs ht hvm hw hB hz1 hk1 hS => ?_)
  obtain ⟨x1d, x1l, x1s⟩ := u
  obtain ⟨hP1, hK1, hD1⟩ := hB
  rw [ht] at hP1
  obtain ⟨hP, hD⟩ := va_join (wr := (o, .inr (1, [.ref q0, .null, .int 0])) :: (wh cI q0 x0d x0l x0s zeroH ++ [])) (w1 := wh cI q1 x1d x1l x1s zeroH) hP hD [5] [0, 1, 2, 3, 4] rfl rfl (by decide) (by decide) hk1 hFc hP1 hD1
  generalize H1 = H at hP hS ⊢
  have hP : va_P G vwCl ((o, .inr (1, [.ref q0, .null, .int 0])) :: (wh cI q0 x0d x0l x0s zeroH ++ wh cI q1 x1d x1l x1s zeroH)) H := hP
  have hD : va_D A ((o, .inr (1, [.ref q0, .null, .int 0])) :: (wh cI q0 x0d x0l x0s zeroH ++ wh cI q1 x1d x1l x1s zeroH)) := hD
  refine va_putF (D := G) (ci := 1) (v := .ref q1) (ty := .object "SnoringDukes$WeakHeap") (C := RX1) (T := TX1) (N := 3) hx hb hts hinX1 tyX1 tyX1_ok nmX1 hown hK hP hD hS 0 rfl rfl 1 (by decide) (hts (.fieldLink RX1 16 "SnoringDukes" "trial" "LSnoringDukes$WeakHeap;") (by decide +kernel)) (fun _ h9 => h9) rfl hin rfl (by decide +kernel) rfl rfl (Nat.le_of_ble_eq_true rfl) dX1_init_23 (fun H locs hP hD hS => ?_)
  have hP : va_P G vwCl ((o, .inr (1, [.ref q0, .ref q1, .int 0])) :: (wh cI q0 x0d x0l x0s zeroH ++ wh cI q1 x1d x1l x1s zeroH)) H := hP
  have hD : va_D A ((o, .inr (1, [.ref q0, .ref q1, .int 0])) :: (wh cI q0 x0d x0l x0s zeroH ++ wh cI q1 x1d x1l x1s zeroH)) := hD
  refine lv_aload_n hx hb dX1_init_26 rfl (lv_at hl 0 rfl) ?_
  refine lv_iconst (v := 0) hx hb dX1_init_27 (by decide) ?_
  refine va_put (D := G) (ci := 1) (v := .int 0) (ty := .int) (C := RX1) (T := TX1) (N := 3) hx hb hts hinX1 tyX1 tyX1_ok nmX1 hown hK hP hD hS 0 rfl rfl 2 (by decide) (hts (.fieldLink RX1 19 "SnoringDukes" "numbered" "I") (by decide +kernel)) (fun _ h9 => h9) rfl (by decide +kernel) rfl rfl (Nat.le_of_ble_eq_true rfl) dX1_init_28 (fun H locs hP hD hS => ?_)
  exact W.vret hx hb hr (fun t ht hW => ⟨⟨((q0, x0d, x0l, x0s), (q1, x1d, x1l, x1s)), rfl, trivial, by rw [ht]; exact hP, va_K.moved hW.alike hK, hD⟩, hS.F ht⟩) hS.2.2 dX1_init_31 hlk
