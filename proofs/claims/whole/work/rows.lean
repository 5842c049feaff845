section
-- ===== PART A: goes FIRST, ahead of the names: the tables' words, and 'selects' of the private methods out of them =====
/-- a private method of a class that the tables say can be made, by its rows of tables_1 -/
def lw_okq (q : MethodName × Nat) : Prop := (q.1.cls ≠ "java/lang/invoke/MethodHandle" ∧ q.1.cls ≠ "java/lang/invoke/VarHandle") ∧ Cond.instantiable q.1.cls q.2 ∈ tables_1 ∧ Cond.privateMethod q.1 ∈ tables_1 ∧ Cond.instanceMethod q.1 ∈ tables_1
theorem lw_p0 : lw_okq (⟨"SnoringDukes$WeakHeap", "joinTop", "()V"⟩, 6) := ⟨⟨by decide +kernel, by decide +kernel⟩, List.mem_of_getElem? (i := 20) (by decide +kernel), List.mem_of_getElem? (i := 120) (by decide +kernel), List.mem_of_getElem? (i := 121) (by decide +kernel)⟩
theorem lw_p1 : lw_okq (⟨"SnoringDukes$WeakHeap", "join", "(II)Z"⟩, 6) := ⟨⟨by decide +kernel, by decide +kernel⟩, List.mem_of_getElem? (i := 20) (by decide +kernel), List.mem_of_getElem? (i := 128) (by decide +kernel), List.mem_of_getElem? (i := 129) (by decide +kernel)⟩
theorem lw_p2 : lw_okq (⟨"SnoringDukes$WeakHeap", "exchange", "(II)V"⟩, 6) := ⟨⟨by decide +kernel, by decide +kernel⟩, List.mem_of_getElem? (i := 20) (by decide +kernel), List.mem_of_getElem? (i := 132) (by decide +kernel), List.mem_of_getElem? (i := 133) (by decide +kernel)⟩
theorem lw_p3 : lw_okq (⟨"java/lang/Throwable", "fillInStackTrace", "(I)Ljava/lang/Throwable;"⟩, 6) := ⟨⟨by decide +kernel, by decide +kernel⟩, List.mem_of_getElem? (i := 186) (by decide +kernel), List.mem_of_getElem? (i := 184) (by decide +kernel), List.mem_of_getElem? (i := 185) (by decide +kernel)⟩
theorem lw_p4 : lw_okq (⟨"SnoringDukes", "hasRoomFor", "(I)Z"⟩, 3) := ⟨⟨by decide +kernel, by decide +kernel⟩, List.mem_of_getElem? (i := 12) (by decide +kernel), List.mem_of_getElem? (i := 216) (by decide +kernel), List.mem_of_getElem? (i := 217) (by decide +kernel)⟩
theorem lw_p5 : lw_okq (⟨"SnoringDukes$WeakHeap", "rise", "(I)I"⟩, 6) := ⟨⟨by decide +kernel, by decide +kernel⟩, List.mem_of_getElem? (i := 20) (by decide +kernel), List.mem_of_getElem? (i := 244) (by decide +kernel), List.mem_of_getElem? (i := 245) (by decide +kernel)⟩
theorem lw_p6 : lw_okq (⟨"SnoringDukes", "refuseUnlessBerth", "(I)V"⟩, 3) := ⟨⟨by decide +kernel, by decide +kernel⟩, List.mem_of_getElem? (i := 12) (by decide +kernel), List.mem_of_getElem? (i := 323) (by decide +kernel), List.mem_of_getElem? (i := 324) (by decide +kernel)⟩
theorem lw_p7 : lw_okq (⟨"SnoringDukesModel", "lays", "(I)V"⟩, 10) := ⟨⟨by decide +kernel, by decide +kernel⟩, List.mem_of_getElem? (i := 389) (by decide +kernel), List.mem_of_getElem? (i := 437) (by decide +kernel), List.mem_of_getElem? (i := 438) (by decide +kernel)⟩
theorem lw_p8 : lw_okq (⟨"SnoringDukesModel", "rises", "(IZ)I"⟩, 10) := ⟨⟨by decide +kernel, by decide +kernel⟩, List.mem_of_getElem? (i := 389) (by decide +kernel), List.mem_of_getElem? (i := 441) (by decide +kernel), List.mem_of_getElem? (i := 442) (by decide +kernel)⟩
theorem lw_p9 : lw_okq (⟨"SnoringDukesModel", "elder", "(I)I"⟩, 10) := ⟨⟨by decide +kernel, by decide +kernel⟩, List.mem_of_getElem? (i := 389) (by decide +kernel), List.mem_of_getElem? (i := 445) (by decide +kernel), List.mem_of_getElem? (i := 446) (by decide +kernel)⟩
theorem lw_p10 : lw_okq (⟨"SnoringDukesModel", "left", "(I)I"⟩, 10) := ⟨⟨by decide +kernel, by decide +kernel⟩, List.mem_of_getElem? (i := 389) (by decide +kernel), List.mem_of_getElem? (i := 449) (by decide +kernel), List.mem_of_getElem? (i := 450) (by decide +kernel)⟩
theorem lw_p11 : lw_okq (⟨"SnoringDukesModel", "joins", "(IIZ)Z"⟩, 10) := ⟨⟨by decide +kernel, by decide +kernel⟩, List.mem_of_getElem? (i := 389) (by decide +kernel), List.mem_of_getElem? (i := 453) (by decide +kernel), List.mem_of_getElem? (i := 454) (by decide +kernel)⟩
theorem lw_p12 : lw_okq (⟨"SnoringDukesModel", "leaves", "()I"⟩, 10) := ⟨⟨by decide +kernel, by decide +kernel⟩, List.mem_of_getElem? (i := 389) (by decide +kernel), List.mem_of_getElem? (i := 465) (by decide +kernel), List.mem_of_getElem? (i := 466) (by decide +kernel)⟩
theorem lw_p13 : lw_okq (⟨"SnoringDukesModel", "find", "(I)I"⟩, 10) := ⟨⟨by decide +kernel, by decide +kernel⟩, List.mem_of_getElem? (i := 389) (by decide +kernel), List.mem_of_getElem? (i := 473) (by decide +kernel), List.mem_of_getElem? (i := 474) (by decide +kernel)⟩
theorem lw_p14 : lw_okq (⟨"SnoringDukesModel", "isBerth", "(I)Z"⟩, 10) := ⟨⟨by decide +kernel, by decide +kernel⟩, List.mem_of_getElem? (i := 389) (by decide +kernel), List.mem_of_getElem? (i := 497) (by decide +kernel), List.mem_of_getElem? (i := 498) (by decide +kernel)⟩
theorem lw_p15 : lw_okq (⟨"SnoringDukesModel", "thought", "(IZ)I"⟩, 10) := ⟨⟨by decide +kernel, by decide +kernel⟩, List.mem_of_getElem? (i := 389) (by decide +kernel), List.mem_of_getElem? (i := 533) (by decide +kernel), List.mem_of_getElem? (i := 534) (by decide +kernel)⟩
def lw_privs_1 : List (MethodName × Nat) := [(⟨"SnoringDukes$WeakHeap", "joinTop", "()V"⟩, 6), (⟨"SnoringDukes$WeakHeap", "join", "(II)Z"⟩, 6), (⟨"SnoringDukes$WeakHeap", "exchange", "(II)V"⟩, 6), (⟨"java/lang/Throwable", "fillInStackTrace", "(I)Ljava/lang/Throwable;"⟩, 6), (⟨"SnoringDukes", "hasRoomFor", "(I)Z"⟩, 3), (⟨"SnoringDukes$WeakHeap", "rise", "(I)I"⟩, 6), (⟨"SnoringDukes", "refuseUnlessBerth", "(I)V"⟩, 3), (⟨"SnoringDukesModel", "lays", "(I)V"⟩, 10), (⟨"SnoringDukesModel", "rises", "(IZ)I"⟩, 10), (⟨"SnoringDukesModel", "elder", "(I)I"⟩, 10), (⟨"SnoringDukesModel", "left", "(I)I"⟩, 10), (⟨"SnoringDukesModel", "joins", "(IIZ)Z"⟩, 10), (⟨"SnoringDukesModel", "leaves", "()I"⟩, 10), (⟨"SnoringDukesModel", "find", "(I)I"⟩, 10), (⟨"SnoringDukesModel", "isBerth", "(I)Z"⟩, 10), (⟨"SnoringDukesModel", "thought", "(IZ)I"⟩, 10)]
theorem lw_r1 : ∀ q ∈ lw_privs_1, lw_okq q := List.forall_mem_cons.mpr ⟨lw_p0, List.forall_mem_cons.mpr ⟨lw_p1, List.forall_mem_cons.mpr ⟨lw_p2, List.forall_mem_cons.mpr ⟨lw_p3, List.forall_mem_cons.mpr ⟨lw_p4, List.forall_mem_cons.mpr ⟨lw_p5, List.forall_mem_cons.mpr ⟨lw_p6, List.forall_mem_cons.mpr ⟨lw_p7, List.forall_mem_cons.mpr ⟨lw_p8, List.forall_mem_cons.mpr ⟨lw_p9, List.forall_mem_cons.mpr ⟨lw_p10, List.forall_mem_cons.mpr ⟨lw_p11, List.forall_mem_cons.mpr ⟨lw_p12, List.forall_mem_cons.mpr ⟨lw_p13, List.forall_mem_cons.mpr ⟨lw_p14, List.forall_mem_cons.mpr ⟨lw_p15, fun _ h => absurd h List.not_mem_nil⟩⟩⟩⟩⟩⟩⟩⟩⟩⟩⟩⟩⟩⟩⟩⟩
def lw_privs : List (MethodName × Nat) := lw_privs_1
def lw_tbl : List Cond := k2_sels lw_privs ++ tables_1
theorem lw_privs_ok : ∀ q ∈ lw_privs, lw_okq q := lw_r1
/-! ===== BEGIN words of one list among another's, by their places ===== -/
theorem goodIn_r {big : List Cond} (ws : List Cond) (ps : List Nat) (hp : ws = ps.filterMap (fun i => big[i]?)) (h : ws.all goodWord = true) : GoodIn big ws := by
  intro w hw
  have h1 := List.all_eq_true.mp h w hw
  rw [hp] at hw
  obtain ⟨i, -, hi⟩ := List.mem_filterMap.mp hw
  have hm : w ∈ big := by first | exact List.mem_of_getElem? hi | exact List.getElem?_mem hi
  exact ⟨hm, good_of_word h1⟩
theorem goodIn_app {big a b : List Cond} (ha : GoodIn big a) (hb : GoodIn big b) : GoodIn big (a ++ b) := fun w h => (List.mem_append.mp h).elim (ha w) (hb w)
theorem goodIn_ca {big a b : List Cond} {c : Cond} (ha : GoodIn big (c :: a)) (hb : GoodIn big b) : GoodIn big (c :: (a ++ b)) := fun w h => (List.mem_cons.mp h).elim (fun e => ha w (List.mem_cons.mpr (Or.inl e))) (fun h => (List.mem_append.mp h).elim (fun h => ha w (List.mem_cons.mpr (Or.inr h))) (hb w))
theorem goodIn_sub {big ws : List Cond} (hm : ∀ w ∈ ws, w ∈ big) (h : ws.all goodWord = true) : GoodIn big ws := fun w hw => ⟨hm w hw, good_of_word (List.all_eq_true.mp h w hw)⟩
/-! ===== END ===== -/

/-! ===== BEGIN exceptions that leave a method, and their catching by the caller (launches without stack traces) ===== -/
section VXA
/-! The laws vx_back, vx_callV, vx_callS, vx_callSW, vx_throw0, vx_throwS follow proofs of the library, with one case more: JvmDerived/Free/Laws.lean (Back.of_free), Shelf42/LK1.lean (callV, callS), Shelf/KitTraced.lean (throwNew0V, throwNewS). -/
/-- where a method has thrown q: the class by its name, the cell, what was written, the world -/
def vx_T (XC : String → State → State → Prop) (st : State) (q : Addr) (t : State) (mc ms : Nat) (free : Addr → Prop) : Prop :=
  ∃ (E : String) (ce : Cell) (L : List Loc), XC E st t ∧ t.heap[q]? = some ce ∧ ce.vm = .none ∧ st.vm.findClass E = some ce.cls ∧ st.WarmedH t.vm ∧ st.sameButNew ({ t with vm := st.vm } : State) L mc ms ∧ ∀ z ∈ L, free z.base
def vx_Q (Qc : Array Value → State → Outcome → State → Prop) (XC : String → State → State → Prop) (mc ms : Nat) (free : Addr → Prop) : Array Value → State → Outcome → State → Prop := fun a st o t =>
  (Qc a st o t ∧ ∃ L, FrameEnd st o t L mc ms ∧ ∀ q ∈ L, free q.base) ∨ ∃ q, o = .threw q ∧ vx_T XC st q t mc ms free
/-- a callee that returns or throws -/
def vx_Met (l : Launch) (y : MethodName) (ws : List Cond) (rm : Room) (Pc : Array Value → State → Prop) (Qc : Array Value → State → Outcome → State → Prop) (XC : String → State → State → Prop) (mc ms : Nat) (free : Addr → Prop) : Prop :=
  MetFree l y (headSpec ws rm) Pc (fun _ _ _ _ _ => True) (vx_Q Qc XC mc ms free)
def vx_Post (XC : String → State → State → Prop) (mc ms : Nat) (free : Addr → Prop) : Pt → Array Value → Addr → Pt → Prop := fun A a q B =>
  ∃ (g : JFrame) (mk : MethodId) (t : State) (L : List Loc) (E : String) (ce : Cell), B.U.heap = t.heap ∧ B.U.vm = t.vm ∧ XC E (A.U.calling g mk a) t ∧ t.heap[q]? = some ce ∧ ce.vm = .none ∧ A.U.vm.findClass E = some ce.cls ∧ B.locs = A.locs ++ L ∧ (∀ z ∈ L, free z.base) ∧ B.cells = A.cells + mc ∧ B.slots = A.slots + ms
def vx_Back (l : Launch) (R : Room) (p : Program) (e : Env) (below : List Frame) (s : State) (sargs : Array Value) (y : MethodName) (len W9 : Nat)
    (Pre : Pt → Array Value → Prop) (Post : Pt → Array Value → Option Value → Pt → Prop) (PostX : Pt → Array Value → Addr → Pt → Prop) : Prop :=
  ∀ (m : MethodId) (meth : Method) (c : Code) (A : Pt) (g : JFrame) (ig : Instr) (mk : MethodId) (a : Array Value),
    Stand p l e R s m sargs below meth c A.U A.locs A.cells A.slots → g.method = m → g.locals.size = c.maxLocals → decode c.code g.pc = .ok (ig, len) →
    2 * g.monitorRoom + (g.stack.map fun v => v.category).sum ≤ W9 → A.U.methodNamed? y = some mk → Pre A a →
    (∃ (v : Option Value) (B : Pt), Stand p l e R s m sargs below meth c B.U B.locs B.cells B.slots ∧ Post A a v B ∧
      Steps p.tables e below (doInvoke e (A.U.setTop g) [] mk a).1 (B.U.setTop { g with pc := g.pc + len, stack := v.toList ++ g.stack })) ∨
    (∃ (q : Addr) (B : Pt), Stand p l e R s m sargs below meth c B.U B.locs B.cells B.slots ∧ PostX A a q B ∧
      Steps p.tables e below (doInvoke e (A.U.setTop g) [] mk a).1 ((B.U.setTop g).pushFrame (.throwing q)))
section Payer
variable {l : Launch} {R : Room} {p : Program} {e : Env} {below : List Frame} {s : State} {sargs : Array Value} {y : MethodName} {len W9 : Nat}
theorem vx_back {ws : List Cond} {rm : Room} {Pc : Array Value → State → Prop} {Qc : Array Value → State → Outcome → State → Prop} {XC : String → State → State → Prop} {mc ms : Nat} {free : Addr → Prop} {bytes : ByteArray} {maxL : Nat} {ret : Option FieldType}
    (hM : vx_Met l y ws rm Pc Qc XC mc ms free) (hblind : FrameBlind Pc) (hrc : rm.cells = mc) (hrs : rm.slots = ms)
    (hframes : rm.frames + 1 ≤ R.frames) (hlocals : W9 + (maxL + 11) + rm.locals ≤ R.locals)
    (hws : ∀ w ∈ ws, ∀ a' U, s.WarmedH U.vm → w.before a' U = true) (hcode : Cond.code y bytes maxL ret ∈ ws) (hinit : ∀ a' U, s.WarmedH U.vm → (Cond.initialized y.cls).before a' U = true) :
    vx_Back l R p e below s sargs y len W9 (PreOf R mc ms Pc) (PostOf Qc mc ms free) (vx_Post XC mc ms free) := by
  intro m meth c A g ig mk a X hg hsize hdg hW hn hp
  have h1 : (headSpec ws rm).pre.before a A.U = true := atoms_intro fun w hw => hws w hw _ _ X.warmed
  have h2 : (Cond.code y bytes maxL ret).before a A.U = true := hws _ hcode _ _ X.warmed
  have h3 : (Cond.initialized y.cls).before a A.U = true := hinit _ _ X.warmed
  have h4 : A.cells + (headSpec ws rm).room.cells ≤ R.cells := by rw [show (headSpec ws rm).room.cells = mc from hrc]; exact hp.1
  have h5 : A.slots + (headSpec ws rm).room.slots ≤ R.slots := by rw [show (headSpec ws rm).room.slots = ms from hrs]; exact hp.2.1
  have hPc : Pc a (A.U.calling g mk a) := hblind _ _ _ _ hp.2.2
  obtain ⟨U, Ls, c0, s0⟩ := A
  dsimp only [Pt.U, Pt.locs, Pt.cells, Pt.slots] at h1 h2 h3 h4 h5 X hn hPc ⊢
  obtain ⟨methY, cY, hmY, hcY, -, hlY, -, -, -, -⟩ := Cond.code_spec hn h2
  obtain ⟨kY, hkY, -⟩ := className_of_methodNamed hn
  have hinitY : kY.init = .initialized := Cond.initialized_spec (findClass_of_methodNamed hn) hkY h3
  have h : At U g.method c below := by rw [hg]; exact X.here
  have hlocals9 : W9 + (maxL + 11) + (headSpec ws rm).room.locals ≤ R.locals := hlocals
  have happ : (headSpec ws rm).appliesLoose y e.platform (U.calling g mk a) = true :=
    Spec.appliesLoose_calling (g := g) h hdg hn hkY hinitY
      (X.room_calling (g := g) (R' := (headSpec ws rm).room) hsize hmY hcY hframes (by rw [hlY]; omega) h4 h5) h1
  obtain ⟨mid, hmid⟩ := h.above
  have hfr : (U.setTop g).frames = (.java g :: mid) ++ below := by rw [State.frames_setTop' g h.top, hmid]; rfl
  obtain ⟨o, s₂, hsteps, -, hend, hq⟩ := Steps.callFree hM p X.admits X.cas X.clock (acts := []) hfr happ hPc trivial
  have hq' : vx_Q Qc XC mc ms free a (U.calling g mk a) o s₂ := hq
  rw [State.frames_setTop' g h.top] at hend
  obtain ⟨g₀, hg0⟩ := Option.isSome_iff_exists.mp h.top
  obtain ⟨r, hr⟩ := State.topJava?_eq_some.mp hg0
  have hr' : (({ U with heap := s₂.heap, slotsUsed := s₂.slotsUsed } : State).setVm s₂.vm).frames = .java g₀ :: r := hr
  rcases hq' with ⟨hqc, L, hfe, hL⟩ | ⟨q, rfl, E, ce, L, hx, hce, hcv, hcl, hW₂, hsm, hL⟩
  · obtain ⟨⟨v, rfl⟩, hW₂, e2, q2, q3, q4, q5, q6⟩ := id hfe
    have e3 : s₂ = ({ (U.calling g mk a).setFrames s₂.frames with heap := s₂.heap, slotsUsed := s₂.slotsUsed } : State).setVm s₂.vm := by
      have : s₂ = ({ s₂ with vm := (U.calling g mk a).vm } : State).setVm s₂.vm := rfl
      rw [e2] at this
      exact this
    obtain ⟨c₂, i₂, len₂, hc₂, hd₂, hf₂⟩ := hend
    have hW' : U.WarmedH s₂.vm := hW₂
    have hcc : c₂ = c := by
      have h1 : s₂.code? g.method = U.code? g.method := by
        rw [State.code?_eq, State.code?_eq, hW'.alike.method?]
      exact Option.some.inj (hc₂.symm.trans (h1.trans h.code))
    subst hcc
    have hlen : len₂ = len := by rw [hdg] at hd₂; cases hd₂; rfl
    subst hlen
    have hs₂ : s₂ = (({ U with heap := s₂.heap, slotsUsed := s₂.slotsUsed } : State).setVm s₂.vm).setTop { g with pc := g.pc + len₂, stack := v.toList ++ g.stack } := by
      refine e3.trans ?_
      rw [hf₂, State.calling_eq h.top, State.setFrames_setFrames, State.setTop_of_frames _ hr', hr]
      rfl
    have hsame : U.sameButNew ({ U with heap := s₂.heap, slotsUsed := s₂.slotsUsed } : State) L mc ms := by
      refine ⟨?_, q2, q3, q4, q5, q6⟩
      obtain ⟨t, ht, -⟩ := State.frames_cons hr
      show ({ U with heap := s₂.heap, slotsUsed := s₂.slotsUsed } : State) = { U.setFrames U.frames with heap := s₂.heap, slotsUsed := s₂.slotsUsed }
      rw [State.setFrames_self ht]
    subst hg
    refine Or.inl ⟨v, ⟨(({ U with heap := s₂.heap, slotsUsed := s₂.slotsUsed } : State).setVm s₂.vm), Ls ++ L, c0 + mc, s0 + ms⟩,
      ⟨X.admits, X.cas, X.clock, X.frames, X.room, X.hears, X.method, X.code, (X.here.setHeapUsed s₂.heap s₂.slotsUsed).setVm hW'.alike, X.tail, State.WarmedH.trans X.warmed hW', X.limits, X.bytes, X.same.trans (hsame.setVm s.vm)⟩,
      ⟨g, mk, s₂, L, rfl, rfl, hqc, rfl, hL, rfl, rfl⟩, ?_⟩
    show Steps p.tables e below _ ((({ U with heap := s₂.heap, slotsUsed := s₂.slotsUsed } : State).setVm s₂.vm).setTop { g with pc := g.pc + len₂, stack := v.toList ++ g.stack })
    rw [← hs₂]
    exact hsteps
  · obtain ⟨e2, q2, q3, q4, q5, q6⟩ := id hsm
    have e3 : s₂ = ({ (U.calling g mk a).setFrames s₂.frames with heap := s₂.heap, slotsUsed := s₂.slotsUsed } : State).setVm s₂.vm := by
      have : s₂ = ({ s₂ with vm := (U.calling g mk a).vm } : State).setVm s₂.vm := rfl
      rw [e2] at this
      exact this
    have hf₂ : s₂.frames = .throwing q :: .java g :: U.frames.tail := hend
    have hW' : U.WarmedH s₂.vm := hW₂
    have hs₂ : s₂ = ((({ U with heap := s₂.heap, slotsUsed := s₂.slotsUsed } : State).setVm s₂.vm).setTop g).pushFrame (.throwing q) := by
      refine e3.trans ?_
      rw [hf₂, State.calling_eq h.top, State.setFrames_setFrames, State.pushFrame, State.frames_setTop _ hr', State.setTop_of_frames _ hr', State.setFrames_setFrames, hr]
      rfl
    have hsame : U.sameButNew ({ U with heap := s₂.heap, slotsUsed := s₂.slotsUsed } : State) L mc ms := by
      refine ⟨?_, q2, q3, q4, q5, q6⟩
      obtain ⟨t, ht, -⟩ := State.frames_cons hr
      show ({ U with heap := s₂.heap, slotsUsed := s₂.slotsUsed } : State) = { U.setFrames U.frames with heap := s₂.heap, slotsUsed := s₂.slotsUsed }
      rw [State.setFrames_self ht]
    subst hg
    refine Or.inr ⟨q, ⟨(({ U with heap := s₂.heap, slotsUsed := s₂.slotsUsed } : State).setVm s₂.vm), Ls ++ L, c0 + mc, s0 + ms⟩,
      ⟨X.admits, X.cas, X.clock, X.frames, X.room, X.hears, X.method, X.code, (X.here.setHeapUsed s₂.heap s₂.slotsUsed).setVm hW'.alike, X.tail, State.WarmedH.trans X.warmed hW', X.limits, X.bytes, X.same.trans (hsame.setVm s.vm)⟩,
      ⟨g, mk, s₂, L, E, ce, rfl, rfl, hx, hce, hcv, hcl, rfl, hL, rfl, rfl⟩, ?_⟩
    show Steps p.tables e below _ (((({ U with heap := s₂.heap, slotsUsed := s₂.slotsUsed } : State).setVm s₂.vm).setTop g).pushFrame (.throwing q))
    rw [← hs₂]
    exact hsteps
end Payer
section Calls
variable {p : Program} {l : Launch} {e : Env} {R : Room} {s : State} {m : MethodId} {args : Array Value} {below : List Frame} {meth : Method} {c : Code} {T : State} {locs : List Loc} {cells slots : Nat}
theorem vx_callV (X : Stand p l e R s m args below meth c T locs cells slots) (hexec : p.tables.exec = Jvm.exec) {own C : String} {index : Nat} {y : MethodName} {bytes : ByteArray} {maxL : Nat} {ret : Option FieldType}
    (hown : s.vm.findClass own = some m.cls) (hlink : (Cond.methodLink own index y).before args s = true) (hinst : (Cond.instanceMethod y).before args s = true) (hsel : (Cond.selects C y y).before args s = true)
    (hcode : (Cond.code y bytes maxL ret).before args s = true) (hy : y.cls ≠ "java/lang/invoke/MethodHandle" ∧ y.cls ≠ "java/lang/invoke/VarHandle")
    {W9 : Nat} {Pre : Pt → Array Value → Prop} {Post : Pt → Array Value → Option Value → Pt → Prop} {PostX : Pt → Array Value → Addr → Pt → Prop} (hK : vx_Back l R p e below s args y 3 W9 Pre Post PostX)
    {b : Addr} {cellB : Cell} (hcell : T.heap[b]? = some cellB) (hobj : cellB.vm.isStatics = false) (hcls : s.vm.findClass C = some cellB.cls)
    {g : JFrame} (hg : g.method = m) (hsize : g.locals.size = c.maxLocals) {argsL rest : List Value} (hlen : ∀ sig, parseMethodDescriptor y.desc = some sig → argsL.length = sig.parameters.length)
    (hstack : g.stack = argsL.reverse ++ .ref b :: rest) (hW : 2 * g.monitorRoom + (rest.map fun v => v.category).sum ≤ W9) (hdg : decode c.code g.pc = .ok (.invokevirtual index, 3))
    (hpre : ∀ vm₁, s.WarmedH vm₁ → Pre ⟨T.setVm vm₁, locs, cells, slots⟩ (Value.ref b :: argsL).toArray) :
    (∃ (v : Option Value) (vm₁ : Vm) (B : Pt), s.WarmedH vm₁ ∧ Stand p l e R s m args below meth c B.U B.locs B.cells B.slots ∧ Post ⟨T.setVm vm₁, locs, cells, slots⟩ (Value.ref b :: argsL).toArray v B ∧
      ∀ target, Steps p.tables e below (B.U.setTop { g with pc := g.pc + 3, stack := v.toList ++ rest }) target → Steps p.tables e below (T.setTop g) target) ∨
    (∃ (q : Addr) (vm₁ : Vm) (B : Pt), s.WarmedH vm₁ ∧ Stand p l e R s m args below meth c B.U B.locs B.cells B.slots ∧ PostX ⟨T.setVm vm₁, locs, cells, slots⟩ (Value.ref b :: argsL).toArray q B ∧
      Steps p.tables e below (T.setTop g) ((B.U.setTop { g with stack := rest }).pushFrame (.throwing q))) := by
  obtain ⟨mk, methM, hnamed, hmethM, hstM, habM⟩ := Cond.instanceMethod_spec hinst
  obtain ⟨methM', cM, hmethM', -, -, -, -, -, -, hsigM⟩ := Cond.code_spec hnamed hcode
  cases hmethM.symm.trans hmethM'
  obtain ⟨c2, r2, m2, q1, q2, q3, q4, kP, hkP, hkPi⟩ := Cond.selects_spec hsel
  cases hcls.symm.trans q1
  cases (State.methodFound?_of_named hnamed hy).symm.trans q2
  cases hnamed.symm.trans q3
  have hselP : selectMethod e.platform s.vm cellB.cls mk = .method mk := by rw [Launch.admits_selectMethod X.admits]; exact q4
  obtain ⟨vm₁, X₁, hstep₁⟩ := X.invokevirtual hexec hown hlink hnamed hmethM hstM hkP hkPi hy (a := b) (cell := cellB) hcell
    (fun z h => by rw [h] at hobj; cases hobj) hselP hmethM habM hkP hkPi (g := g) hg (argsL := argsL) (rest := rest) (hlen _ hsigM) hstack hdg
  rcases hK m meth c ⟨T.setVm vm₁, locs, cells, slots⟩ { g with stack := rest } (.invokevirtual index) mk (Value.ref b :: argsL).toArray X₁ hg hsize hdg hW (X₁.named hnamed) (hpre vm₁ X₁.warmed) with ⟨v, B, X', hpost, hsteps⟩ | ⟨q, B, X', hpost, hsteps⟩
  · exact Or.inl ⟨v, vm₁, B, X₁.warmed, X', hpost, fun target h => hstep₁ _ fun acts => by rw [doInvoke_state]; exact hsteps.trans h⟩
  · exact Or.inr ⟨q, vm₁, B, X₁.warmed, X', hpost, hstep₁ _ fun acts => by rw [doInvoke_state]; exact hsteps⟩
theorem vx_callS (X : Stand p l e R s m args below meth c T locs cells slots) (hexec : p.tables.exec = Jvm.exec) {own : String} {index : Nat} {y : MethodName} {bytes : ByteArray} {maxL : Nat} {ret : Option FieldType}
    (hown : s.vm.findClass own = some m.cls) (hlink : (Cond.methodLink own index y).before args s = true) (hstat : (Cond.static y).before args s = true) (hinit : (Cond.initialized y.cls).before args s = true)
    (hcode : (Cond.code y bytes maxL ret).before args s = true) (hy : y.cls ≠ "java/lang/invoke/MethodHandle" ∧ y.cls ≠ "java/lang/invoke/VarHandle")
    {W9 : Nat} {Pre : Pt → Array Value → Prop} {Post : Pt → Array Value → Option Value → Pt → Prop} {PostX : Pt → Array Value → Addr → Pt → Prop} (hK : vx_Back l R p e below s args y 3 W9 Pre Post PostX)
    {g : JFrame} (hg : g.method = m) (hsize : g.locals.size = c.maxLocals) {argsL rest : List Value} (hlen : ∀ sig, parseMethodDescriptor y.desc = some sig → argsL.length = sig.parameters.length)
    (hstack : g.stack = argsL.reverse ++ rest) (hW : 2 * g.monitorRoom + (rest.map fun v => v.category).sum ≤ W9) (hdg : decode c.code g.pc = .ok (.invokestatic index, 3))
    (hpre : ∀ vm₁, s.WarmedH vm₁ → Pre ⟨T.setVm vm₁, locs, cells, slots⟩ argsL.toArray) :
    (∃ (v : Option Value) (vm₁ : Vm) (B : Pt), s.WarmedH vm₁ ∧ Stand p l e R s m args below meth c B.U B.locs B.cells B.slots ∧ Post ⟨T.setVm vm₁, locs, cells, slots⟩ argsL.toArray v B ∧
      ∀ target, Steps p.tables e below (B.U.setTop { g with pc := g.pc + 3, stack := v.toList ++ rest }) target → Steps p.tables e below (T.setTop g) target) ∨
    (∃ (q : Addr) (vm₁ : Vm) (B : Pt), s.WarmedH vm₁ ∧ Stand p l e R s m args below meth c B.U B.locs B.cells B.slots ∧ PostX ⟨T.setVm vm₁, locs, cells, slots⟩ argsL.toArray q B ∧
      Steps p.tables e below (T.setTop g) ((B.U.setTop { g with stack := rest }).pushFrame (.throwing q))) := by
  obtain ⟨mk, hnamed⟩ := Cond.code_named hcode
  obtain ⟨methM, cM, hmethM, -, -, -, -, -, -, hsigM⟩ := Cond.code_spec hnamed hcode
  have hstatic : methM.isStatic = true := Cond.static_spec hnamed hmethM hstat
  obtain ⟨kP, hkP, -⟩ := className_of_methodNamed hnamed
  have hinitP : kP.init = .initialized := Cond.initialized_spec (findClass_of_methodNamed hnamed) hkP hinit
  obtain ⟨vm₁, X₁, hstep₁⟩ := X.invokestatic hexec hown hlink hnamed hmethM hstatic hkP hinitP hy (g := g) hg (argsL := argsL) (rest := rest) (hlen _ hsigM) hstack hdg
  rcases hK m meth c ⟨T.setVm vm₁, locs, cells, slots⟩ { g with stack := rest } (.invokestatic index) mk argsL.toArray X₁ hg hsize hdg hW (X₁.named hnamed) (hpre vm₁ X₁.warmed) with ⟨v, B, X', hpost, hsteps⟩ | ⟨q, B, X', hpost, hsteps⟩
  · exact Or.inl ⟨v, vm₁, B, X₁.warmed, X', hpost, fun target h => hstep₁ _ fun acts => by rw [doInvoke_state]; exact hsteps.trans h⟩
  · exact Or.inr ⟨q, vm₁, B, X₁.warmed, X', hpost, hstep₁ _ fun acts => by rw [doInvoke_state]; exact hsteps⟩
end Calls
theorem vx_cls {s : State} {T : State} {vm₁ : Vm} {E : String} {k : ClassId} (hW : s.WarmedH vm₁) (h : (T.setVm vm₁).vm.findClass E = some k) : s.vm.findClass E = some k := by
  have h1 : vm₁.findClass E = some k := h
  rw [hW.alike.findClass] at h1
  exact h1
/-- the method's frame g, with q thrown over it -/
def vx_W (p : Program) (l : Launch) (e : Env) (R : Room) (s : State) (m : MethodId) (args : Array Value) (below : List Frame) (meth : Method) (c : Code) (H : Heap) (locs : List Loc) (cells slots : Nat) (Q : State → Prop) (g : JFrame) (q : Addr) : Prop :=
  ∀ T : State, T.heap = H → Stand p l e R s m args below meth c T locs cells slots → ∃ t, Steps p.tables e below ((T.setTop g).pushFrame (.throwing q)) t ∧ Q t
def vx_Run (p : Program) (l : Launch) (e : Env) (R : Room) (s : State) (m : MethodId) (args : Array Value) (below : List Frame) (meth : Method) (c : Code) (H : Heap) (locs : List Loc) (cells slots mc ms : Nat) (g : JFrame) (rest : List Value) (Qa : State → Outcome → State → Prop) (XC : String → State → State → Prop) (free : Addr → Prop) : Prop :=
  ∀ T : State, T.heap = H → Stand p l e R s m args below meth c T locs cells slots →
    (∃ (v : Option Value) (st₀ t T' : State) (L : List Loc), st₀.heap = H ∧ Stand p l e R s m args below meth c T' (locs ++ L) (cells + mc) (slots + ms) ∧ (∀ q ∈ L, free q.base) ∧ T'.heap = t.heap ∧ T'.vm = t.vm ∧ Qa st₀ (.returned v) t ∧
      Goes p e below T g T' { g with pc := g.pc + 3, stack := v.toList ++ rest }) ∨
    (∃ (q : Addr) (st₀ t T' : State) (L : List Loc) (E : String) (ce : Cell), st₀.heap = H ∧ Stand p l e R s m args below meth c T' (locs ++ L) (cells + mc) (slots + ms) ∧ (∀ z ∈ L, free z.base) ∧ T'.heap = t.heap ∧ T'.vm = t.vm ∧ XC E st₀ t ∧ t.heap[q]? = some ce ∧ ce.vm = .none ∧ s.vm.findClass E = some ce.cls ∧
      Steps p.tables e below (T.setTop g) ((T'.setTop { g with stack := rest }).pushFrame (.throwing q)))
def vx_X {S : Type} (px : S → Prop) (B : String → S → State → Prop) (A : Nat → Prop) : String → State → State → Prop := fun E st t => ∃ u : S, px u ∧ B E u t ∧ va_F A st t
section Runs
variable {p : Program} {l : Launch} {e : Env} {R : Room} {s : State} {m : MethodId} {args : Array Value} {below : List Frame} {meth : Method} {c : Code} {H : Heap} {locs : List Loc} {cells slots : Nat}
variable {y : MethodName} {bytes cc : ByteArray} {maxL nL mc ms n index : Nat} {ret : Option FieldType} {ws : List Cond} {rm : Room} {Pc : Array Value → State → Prop} {Qc : Array Value → State → Outcome → State → Prop} {XC : String → State → State → Prop} {free : Addr → Prop} {Ts : List Cond} {own C : String} {b : Addr} {As rest : List Value} {g : JFrame}
theorem vx_callBack (cb : CallB R s args own index y bytes maxL ret ws rm mc ms n) (hM : vx_Met l y ws rm Pc Qc XC mc ms free) (hbl : FrameBlind Pc) : vx_Back l R p e below s args y 3 8 (PreOf R mc ms Pc) (PostOf Qc mc ms free) (vx_Post XC mc ms free) := by
  obtain ⟨hrc, hrs, hfr, hlo, hws, hcw, -, hini, -⟩ := cb
  exact vx_back (bytes := bytes) (maxL := maxL) (ret := ret) hM hbl hrc hrs hfr hlo hws hcw (fun a' U hW => word_at hW (Or.inl (by first | rfl | simp [Cond.onTables, Cond.keeps, Cond.steady])) hini)
theorem vx_runV (S : CallFix p m c cc nL s args Ts own) (hM : vx_Met l y ws rm Pc Qc XC mc ms free) (cw : CallW R s args own C index y bytes maxL ret ws rm mc ms n) (hp : PreV s H C b Pc As)
    (hg : g.method = m) (hn : As.length = n) (hsize : g.locals.size = nL) (hstack : g.stack = As.reverse ++ .ref b :: rest) (hW : 2 * g.monitorRoom + (rest.map fun v => v.category).sum ≤ 8) (hdg : decode cc g.pc = .ok (.invokevirtual index, 3)) (hf : cells + mc ≤ R.cells ∧ slots + ms ≤ R.slots) :
    vx_Run p l e R s m args below meth c H locs cells slots mc ms g rest (Qc (Value.ref b :: As).toArray) XC free := by
  have hK : vx_Back l R p e below s args y 3 8 (PreOf R mc ms Pc) (PostOf Qc mc ms free) (vx_Post XC mc ms free) := vx_callBack cw.1 hM hp.1
  obtain ⟨⟨-, -, -, -, -, -, hcode, -, hy, hlen, hl⟩, hin, hse⟩ := cw
  obtain ⟨hx, hb, hml, ho, -⟩ := S
  obtain ⟨-, ⟨cellB, hcB, hoB, hclB⟩, hPc⟩ := hp
  intro T hT X
  rcases vx_callV X hx (C := C) (bytes := bytes) (maxL := maxL) (ret := ret) ho hl hin hse hcode hy hK (by rw [hT]; exact hcB) hoB hclB hg (hsize.trans hml.symm) (argsL := As) (rest := rest) (fun sig h => hn.trans (hlen sig h)) hstack hW (by rw [hb]; exact hdg)
    (fun vm₁ hW₁ => ⟨hf.1, hf.2, hPc (T.setVm vm₁) hT hW₁⟩) with ⟨v, vm₁, ⟨U', l2, c2, s2⟩, hW₁, X', ⟨g', mk, t, L, e1, e2, hq, h1, hL, h2, h3⟩, st⟩ | ⟨q, vm₁, ⟨U', l2, c2, s2⟩, hW₁, X', ⟨g', mk, t, L, E, ce, e1, e2, hq, hce, hcv, hcl, h1, hL, h2, h3⟩, st⟩
  · dsimp only [Pt.U, Pt.locs, Pt.cells, Pt.slots] at X' e1 e2 h1 h2 h3 st
    subst h1; subst h2; subst h3
    exact Or.inl ⟨v, (T.setVm vm₁).calling g' mk (Value.ref b :: As).toArray, t, U', L, hT, X', hL, e1, e2, hq, st⟩
  · dsimp only [Pt.U, Pt.locs, Pt.cells, Pt.slots] at X' e1 e2 h1 h2 h3 st hcl
    subst h1; subst h2; subst h3
    exact Or.inr ⟨q, (T.setVm vm₁).calling g' mk (Value.ref b :: As).toArray, t, U', L, E, ce, hT, X', hL, e1, e2, hq, hce, hcv, vx_cls hW₁ hcl, st⟩
theorem vx_runS (S : CallFix p m c cc nL s args Ts own) (hM : vx_Met l y ws rm Pc Qc XC mc ms free) (cw : CallB R s args own index y bytes maxL ret ws rm mc ms n ∧ (Cond.static y).before args s = true) (hp : PreS s H Pc As)
    (hg : g.method = m) (hn : As.length = n) (hsize : g.locals.size = nL) (hstack : g.stack = As.reverse ++ rest) (hW : 2 * g.monitorRoom + (rest.map fun v => v.category).sum ≤ 8) (hdg : decode cc g.pc = .ok (.invokestatic index, 3)) (hf : cells + mc ≤ R.cells ∧ slots + ms ≤ R.slots) :
    vx_Run p l e R s m args below meth c H locs cells slots mc ms g rest (Qc As.toArray) XC free := by
  have hK : vx_Back l R p e below s args y 3 8 (PreOf R mc ms Pc) (PostOf Qc mc ms free) (vx_Post XC mc ms free) := vx_callBack cw.1 hM hp.1
  obtain ⟨⟨-, -, -, -, -, -, hcode, hini, hy, hlen, hl⟩, hstt⟩ := cw
  obtain ⟨hx, hb, hml, ho, -⟩ := S
  intro T hT X
  rcases vx_callS X hx (bytes := bytes) (maxL := maxL) (ret := ret) ho hl hstt hini hcode hy hK hg (hsize.trans hml.symm) (argsL := As) (rest := rest) (fun sig h => hn.trans (hlen sig h)) hstack hW (by rw [hb]; exact hdg)
    (fun vm₁ hW₁ => ⟨hf.1, hf.2, hp.2 (T.setVm vm₁) hT hW₁⟩) with ⟨v, vm₁, ⟨U', l2, c2, s2⟩, hW₁, X', ⟨g', mk, t, L, e1, e2, hq, h1, hL, h2, h3⟩, st⟩ | ⟨q, vm₁, ⟨U', l2, c2, s2⟩, hW₁, X', ⟨g', mk, t, L, E, ce, e1, e2, hq, hce, hcv, hcl, h1, hL, h2, h3⟩, st⟩
  · dsimp only [Pt.U, Pt.locs, Pt.cells, Pt.slots] at X' e1 e2 h1 h2 h3 st
    subst h1; subst h2; subst h3
    exact Or.inl ⟨v, (T.setVm vm₁).calling g' mk As.toArray, t, U', L, hT, X', hL, e1, e2, hq, st⟩
  · dsimp only [Pt.U, Pt.locs, Pt.cells, Pt.slots] at X' e1 e2 h1 h2 h3 st hcl
    subst h1; subst h2; subst h3
    exact Or.inr ⟨q, (T.setVm vm₁).calling g' mk As.toArray, t, U', L, E, ce, hT, X', hL, e1, e2, hq, hce, hcv, vx_cls hW₁ hcl, st⟩
end Runs
section Rows
variable {p : Program} {l : Launch} {e : Env} {R : Room} {s : State} {m : MethodId} {args : Array Value} {below : List Frame} {meth : Method} {c : Code} {H : Heap} {locs : List Loc} {cells slots : Nat} {Q : State → Prop}
variable {mc ms : Nat} {free : Addr → Prop} {A0 A1 : Nat → Prop} {H0 : Heap} {a : Array Value} {pc : Nat} {ls : Array Slot} {st0 rest : List Value}
theorem vx_keep {st₀ t T' : State} {L : List Loc} (h0 : st₀.heap = H) (e1 : T'.heap = t.heap) (hS : va_S A0 H0 H locs) (hA : ∀ q, q < H.size → A1 q → A0 q) (hf : ∀ q, free q → A0 q) (hL : ∀ q ∈ L, free q.base) (hF : va_F A1 st₀ t) :
    H.size ≤ T'.heap.size ∧ (∀ q : Nat, q < H.size → ¬ A1 q → T'.heap[q]? = H[q]?) ∧ va_S A0 H0 T'.heap (locs ++ L) := by
  obtain ⟨hz, hk⟩ := hF
  rw [h0] at hz hk
  exact ⟨by rw [e1]; exact hz, fun q h1 h2 => by rw [e1]; exact hk q h1 h2,
    ⟨Nat.le_trans hS.1 (by rw [e1]; exact hz), fun q h1 h2 => by rw [e1, hk q (Nat.lt_of_lt_of_le h1 hS.1) (fun z => h2 (hA q (Nat.lt_of_lt_of_le h1 hS.1) z))]; exact hS.2.1 q h1 h2, fun q hq => by
      rcases List.mem_append.mp hq with h | h
      · exact hS.2.2 q h
      · exact hf _ (hL q h)⟩⟩
theorem vx_calli {S SX : Type} {post : Int32 → S → Prop} {px : SX → Prop} {B : S → State → Prop} {BX : String → SX → State → Prop} {AX : Nat → Prop} (hr : vx_Run p l e R s m args below meth c H locs cells slots mc ms (F0 m pc ls st0) rest (va_Qi post B A1 a) (vx_X px BX AX) free) (hS : va_S A0 H0 H locs) (hA : ∀ q, q < H.size → A1 q → A0 q) (hf : ∀ q, free q → A0 q) (hAX : ∀ q, q < H.size → AX q → A0 q)
    (kx : ∀ (E : String) (ce : Cell) (q9 : Addr) (u : SX) (t : State) (H1 : Heap) (locs1 : List Loc), t.heap = H1 → s.vm.Alike t.vm → px u → BX E u t → H.size ≤ H1.size → (∀ q : Nat, q < H.size → ¬ AX q → H1[q]? = H[q]?) → va_S A0 H0 H1 locs1 → H1[q9]? = some ce → ce.vm = .none → s.vm.findClass E = some ce.cls → vx_W p l e R s m args below meth c H1 locs1 (cells + mc) (slots + ms) Q (F0 m pc ls rest) q9)
    (kk : ∀ (r : Int32) (u : S) (t : State) (H1 : Heap) (locs1 : List Loc), t.heap = H1 → s.vm.Alike t.vm → post r u → B u t → H.size ≤ H1.size → (∀ q : Nat, q < H.size → ¬ A1 q → H1[q]? = H[q]?) → va_S A0 H0 H1 locs1 → W p l e R s m args below meth c H1 locs1 (cells + mc) (slots + ms) Q (F0 m (pc + 3) ls (.int r :: rest))) : W p l e R s m args below meth c H locs cells slots Q (F0 m pc ls st0) := by
  intro T hT X
  rcases hr T hT X with ⟨v, st₀, t, T', L, h0, X', hL, e1, e2, ⟨⟨r, u, hv, hp, hb⟩, hF⟩, st⟩ | ⟨q, st₀, t, T', L, E, ce, h0, X', hL, e1, e2, ⟨u, hp, hb, hF⟩, hce, hcv, hcl, st⟩
  · cases hv
    obtain ⟨k1, k2, k3⟩ := vx_keep h0 e1 hS hA hf hL hF
    obtain ⟨t2, a1, b1⟩ := kk r u t T'.heap (locs ++ L) e1.symm (by rw [← e2]; exact X'.warmed.alike) hp hb k1 k2 k3 T' rfl X'
    exact ⟨t2, st t2 a1, b1⟩
  · obtain ⟨k1, k2, k3⟩ := vx_keep h0 e1 hS hAX hf hL hF
    obtain ⟨t2, a1, b1⟩ := kx E ce q u t T'.heap (locs ++ L) e1.symm (by rw [← e2]; exact X'.warmed.alike) hp hb k1 k2 k3 (by rw [e1]; exact hce) hcv hcl T' rfl X'
    exact ⟨t2, st.trans a1, b1⟩
theorem vx_calll {S SX : Type} {post : Int64 → S → Prop} {px : SX → Prop} {B : S → State → Prop} {BX : String → SX → State → Prop} {AX : Nat → Prop} (hr : vx_Run p l e R s m args below meth c H locs cells slots mc ms (F0 m pc ls st0) rest (va_Ql post B A1 a) (vx_X px BX AX) free) (hS : va_S A0 H0 H locs) (hA : ∀ q, q < H.size → A1 q → A0 q) (hf : ∀ q, free q → A0 q) (hAX : ∀ q, q < H.size → AX q → A0 q)
    (kx : ∀ (E : String) (ce : Cell) (q9 : Addr) (u : SX) (t : State) (H1 : Heap) (locs1 : List Loc), t.heap = H1 → s.vm.Alike t.vm → px u → BX E u t → H.size ≤ H1.size → (∀ q : Nat, q < H.size → ¬ AX q → H1[q]? = H[q]?) → va_S A0 H0 H1 locs1 → H1[q9]? = some ce → ce.vm = .none → s.vm.findClass E = some ce.cls → vx_W p l e R s m args below meth c H1 locs1 (cells + mc) (slots + ms) Q (F0 m pc ls rest) q9)
    (kk : ∀ (r : Int64) (u : S) (t : State) (H1 : Heap) (locs1 : List Loc), t.heap = H1 → s.vm.Alike t.vm → post r u → B u t → H.size ≤ H1.size → (∀ q : Nat, q < H.size → ¬ A1 q → H1[q]? = H[q]?) → va_S A0 H0 H1 locs1 → W p l e R s m args below meth c H1 locs1 (cells + mc) (slots + ms) Q (F0 m (pc + 3) ls (.long r :: rest))) : W p l e R s m args below meth c H locs cells slots Q (F0 m pc ls st0) := by
  intro T hT X
  rcases hr T hT X with ⟨v, st₀, t, T', L, h0, X', hL, e1, e2, ⟨⟨r, u, hv, hp, hb⟩, hF⟩, st⟩ | ⟨q, st₀, t, T', L, E, ce, h0, X', hL, e1, e2, ⟨u, hp, hb, hF⟩, hce, hcv, hcl, st⟩
  · cases hv
    obtain ⟨k1, k2, k3⟩ := vx_keep h0 e1 hS hA hf hL hF
    obtain ⟨t2, a1, b1⟩ := kk r u t T'.heap (locs ++ L) e1.symm (by rw [← e2]; exact X'.warmed.alike) hp hb k1 k2 k3 T' rfl X'
    exact ⟨t2, st t2 a1, b1⟩
  · obtain ⟨k1, k2, k3⟩ := vx_keep h0 e1 hS hAX hf hL hF
    obtain ⟨t2, a1, b1⟩ := kx E ce q u t T'.heap (locs ++ L) e1.symm (by rw [← e2]; exact X'.warmed.alike) hp hb k1 k2 k3 (by rw [e1]; exact hce) hcv hcl T' rfl X'
    exact ⟨t2, st.trans a1, b1⟩
theorem vx_callf {S SX : Type} {post : UInt32 → S → Prop} {px : SX → Prop} {B : S → State → Prop} {BX : String → SX → State → Prop} {AX : Nat → Prop} (hr : vx_Run p l e R s m args below meth c H locs cells slots mc ms (F0 m pc ls st0) rest (va_Qf post B A1 a) (vx_X px BX AX) free) (hS : va_S A0 H0 H locs) (hA : ∀ q, q < H.size → A1 q → A0 q) (hf : ∀ q, free q → A0 q) (hAX : ∀ q, q < H.size → AX q → A0 q)
    (kx : ∀ (E : String) (ce : Cell) (q9 : Addr) (u : SX) (t : State) (H1 : Heap) (locs1 : List Loc), t.heap = H1 → s.vm.Alike t.vm → px u → BX E u t → H.size ≤ H1.size → (∀ q : Nat, q < H.size → ¬ AX q → H1[q]? = H[q]?) → va_S A0 H0 H1 locs1 → H1[q9]? = some ce → ce.vm = .none → s.vm.findClass E = some ce.cls → vx_W p l e R s m args below meth c H1 locs1 (cells + mc) (slots + ms) Q (F0 m pc ls rest) q9)
    (kk : ∀ (r : UInt32) (u : S) (t : State) (H1 : Heap) (locs1 : List Loc), t.heap = H1 → s.vm.Alike t.vm → post r u → B u t → H.size ≤ H1.size → (∀ q : Nat, q < H.size → ¬ A1 q → H1[q]? = H[q]?) → va_S A0 H0 H1 locs1 → W p l e R s m args below meth c H1 locs1 (cells + mc) (slots + ms) Q (F0 m (pc + 3) ls (.float r :: rest))) : W p l e R s m args below meth c H locs cells slots Q (F0 m pc ls st0) := by
  intro T hT X
  rcases hr T hT X with ⟨v, st₀, t, T', L, h0, X', hL, e1, e2, ⟨⟨r, u, hv, hp, hb⟩, hF⟩, st⟩ | ⟨q, st₀, t, T', L, E, ce, h0, X', hL, e1, e2, ⟨u, hp, hb, hF⟩, hce, hcv, hcl, st⟩
  · cases hv
    obtain ⟨k1, k2, k3⟩ := vx_keep h0 e1 hS hA hf hL hF
    obtain ⟨t2, a1, b1⟩ := kk r u t T'.heap (locs ++ L) e1.symm (by rw [← e2]; exact X'.warmed.alike) hp hb k1 k2 k3 T' rfl X'
    exact ⟨t2, st t2 a1, b1⟩
  · obtain ⟨k1, k2, k3⟩ := vx_keep h0 e1 hS hAX hf hL hF
    obtain ⟨t2, a1, b1⟩ := kx E ce q u t T'.heap (locs ++ L) e1.symm (by rw [← e2]; exact X'.warmed.alike) hp hb k1 k2 k3 (by rw [e1]; exact hce) hcv hcl T' rfl X'
    exact ⟨t2, st.trans a1, b1⟩
theorem vx_calld {S SX : Type} {post : UInt64 → S → Prop} {px : SX → Prop} {B : S → State → Prop} {BX : String → SX → State → Prop} {AX : Nat → Prop} (hr : vx_Run p l e R s m args below meth c H locs cells slots mc ms (F0 m pc ls st0) rest (va_Qd post B A1 a) (vx_X px BX AX) free) (hS : va_S A0 H0 H locs) (hA : ∀ q, q < H.size → A1 q → A0 q) (hf : ∀ q, free q → A0 q) (hAX : ∀ q, q < H.size → AX q → A0 q)
    (kx : ∀ (E : String) (ce : Cell) (q9 : Addr) (u : SX) (t : State) (H1 : Heap) (locs1 : List Loc), t.heap = H1 → s.vm.Alike t.vm → px u → BX E u t → H.size ≤ H1.size → (∀ q : Nat, q < H.size → ¬ AX q → H1[q]? = H[q]?) → va_S A0 H0 H1 locs1 → H1[q9]? = some ce → ce.vm = .none → s.vm.findClass E = some ce.cls → vx_W p l e R s m args below meth c H1 locs1 (cells + mc) (slots + ms) Q (F0 m pc ls rest) q9)
    (kk : ∀ (r : UInt64) (u : S) (t : State) (H1 : Heap) (locs1 : List Loc), t.heap = H1 → s.vm.Alike t.vm → post r u → B u t → H.size ≤ H1.size → (∀ q : Nat, q < H.size → ¬ A1 q → H1[q]? = H[q]?) → va_S A0 H0 H1 locs1 → W p l e R s m args below meth c H1 locs1 (cells + mc) (slots + ms) Q (F0 m (pc + 3) ls (.double r :: rest))) : W p l e R s m args below meth c H locs cells slots Q (F0 m pc ls st0) := by
  intro T hT X
  rcases hr T hT X with ⟨v, st₀, t, T', L, h0, X', hL, e1, e2, ⟨⟨r, u, hv, hp, hb⟩, hF⟩, st⟩ | ⟨q, st₀, t, T', L, E, ce, h0, X', hL, e1, e2, ⟨u, hp, hb, hF⟩, hce, hcv, hcl, st⟩
  · cases hv
    obtain ⟨k1, k2, k3⟩ := vx_keep h0 e1 hS hA hf hL hF
    obtain ⟨t2, a1, b1⟩ := kk r u t T'.heap (locs ++ L) e1.symm (by rw [← e2]; exact X'.warmed.alike) hp hb k1 k2 k3 T' rfl X'
    exact ⟨t2, st t2 a1, b1⟩
  · obtain ⟨k1, k2, k3⟩ := vx_keep h0 e1 hS hAX hf hL hF
    obtain ⟨t2, a1, b1⟩ := kx E ce q u t T'.heap (locs ++ L) e1.symm (by rw [← e2]; exact X'.warmed.alike) hp hb k1 k2 k3 (by rw [e1]; exact hce) hcv hcl T' rfl X'
    exact ⟨t2, st.trans a1, b1⟩
theorem vx_callv {S SX : Type} {post : S → Prop} {px : SX → Prop} {B : S → State → Prop} {BX : String → SX → State → Prop} {AX : Nat → Prop} (hr : vx_Run p l e R s m args below meth c H locs cells slots mc ms (F0 m pc ls st0) rest (va_Qv post B A1 a) (vx_X px BX AX) free) (hS : va_S A0 H0 H locs) (hA : ∀ q, q < H.size → A1 q → A0 q) (hf : ∀ q, free q → A0 q) (hAX : ∀ q, q < H.size → AX q → A0 q)
    (kx : ∀ (E : String) (ce : Cell) (q9 : Addr) (u : SX) (t : State) (H1 : Heap) (locs1 : List Loc), t.heap = H1 → s.vm.Alike t.vm → px u → BX E u t → H.size ≤ H1.size → (∀ q : Nat, q < H.size → ¬ AX q → H1[q]? = H[q]?) → va_S A0 H0 H1 locs1 → H1[q9]? = some ce → ce.vm = .none → s.vm.findClass E = some ce.cls → vx_W p l e R s m args below meth c H1 locs1 (cells + mc) (slots + ms) Q (F0 m pc ls rest) q9)
    (kk : ∀ (u : S) (t : State) (H1 : Heap) (locs1 : List Loc), t.heap = H1 → s.vm.Alike t.vm → post u → B u t → H.size ≤ H1.size → (∀ q : Nat, q < H.size → ¬ A1 q → H1[q]? = H[q]?) → va_S A0 H0 H1 locs1 → W p l e R s m args below meth c H1 locs1 (cells + mc) (slots + ms) Q (F0 m (pc + 3) ls (rest))) : W p l e R s m args below meth c H locs cells slots Q (F0 m pc ls st0) := by
  intro T hT X
  rcases hr T hT X with ⟨v, st₀, t, T', L, h0, X', hL, e1, e2, ⟨⟨u, hv, hp, hb⟩, hF⟩, st⟩ | ⟨q, st₀, t, T', L, E, ce, h0, X', hL, e1, e2, ⟨u, hp, hb, hF⟩, hce, hcv, hcl, st⟩
  · cases hv
    obtain ⟨k1, k2, k3⟩ := vx_keep h0 e1 hS hA hf hL hF
    obtain ⟨t2, a1, b1⟩ := kk u t T'.heap (locs ++ L) e1.symm (by rw [← e2]; exact X'.warmed.alike) hp hb k1 k2 k3 T' rfl X'
    exact ⟨t2, st t2 a1, b1⟩
  · obtain ⟨k1, k2, k3⟩ := vx_keep h0 e1 hS hAX hf hL hF
    obtain ⟨t2, a1, b1⟩ := kx E ce q u t T'.heap (locs ++ L) e1.symm (by rw [← e2]; exact X'.warmed.alike) hp hb k1 k2 k3 (by rw [e1]; exact hce) hcv hcl T' rfl X'
    exact ⟨t2, st.trans a1, b1⟩
/-- caught by the row x of this method's table; the rows ahead don't take it -/
theorem vx_catch {own name : String} {E : String} {ce : Cell} {q : Addr} (hown : s.vm.findClass own = some m.cls) (pre : List ExceptionTableEntry) (x : ExceptionTableEntry) (suf : List ExceptionTableEntry) (hsplit : c.exceptionTable.toList = pre ++ x :: suf)
    (hpass : ∀ z ∈ pre, covers z pc = false ∨ (z.catchType ≠ 0 ∧ ∃ nm : String, (Cond.classLink own z.catchType nm).before args s = true ∧ va_Nc E nm s)) (hx : covers x pc = true) (h0 : x.catchType ≠ 0)
    (hlink : (Cond.classLink own x.catchType name).before args s = true) (hcast : (Cond.castable E name).before args s = true) (hcell : H[q]? = some ce) (hv : ce.vm = .none) (hcl : s.vm.findClass E = some ce.cls)
    (kk : W p l e R s m args below meth c H locs cells slots Q (F0 m x.handlerPc ls [.ref q])) : vx_W p l e R s m args below meth c H locs cells slots Q (F0 m pc ls rest) q := by
  intro T hT X
  have hpl : e.platform.magicAccessors = ({} : Platform).magicAccessors := by rw [X.admits.platform]
  obtain ⟨c3, c4, hc3, hc4, hasg⟩ := Cond.castable_spec hcast
  cases Option.some.inj (hc3.symm.trans hcl)
  obtain ⟨c5, hc5, hcl5⟩ := Cond.classLink_spec hown hlink e.platform hpl
  cases Option.some.inj (hc4.symm.trans hc5)
  obtain ⟨vm', X', st⟩ := X.thenCaughtThrough q (g := F0 m pc ls rest) rfl (Steps.refl _) (by rw [hT]; exact hcell) (by rw [hv]; rfl) (by obtain ⟨k9, h9, -⟩ := Vm.findClass_spec hcl; exact ⟨k9, h9⟩) pre x suf hsplit
    (fun z hz => by
      rcases hpass z hz with h | ⟨hz0, nm, hl1, hn1⟩
      · exact Or.inl h
      · obtain ⟨c6, hc6, hcl6⟩ := Cond.classLink_spec hown hl1 e.platform hpl
        obtain ⟨a8, b8, h1, h2, h3⟩ := hn1
        cases Option.some.inj (h1.symm.trans hcl)
        cases Option.some.inj (h2.symm.trans hc6)
        exact Or.inr ⟨hz0, _, hcl6, h3⟩) hx (Or.inr ⟨h0, c4, hcl5, hasg⟩)
  obtain ⟨t, a1, b1⟩ := kk (T.setVm vm') hT X'
  exact ⟨t, st.trans a1, b1⟩
end Rows
section Ends
variable {p : Program} {l : Launch} {e : Env} {R : Room} {s : State} {m : MethodId} {args : Array Value} {below : List Frame} {meth : Method} {c : Code} {H : Heap} {locs : List Loc} {cells slots : Nat} {Q : State → Prop}
variable {mc ms : Nat} {free : Addr → Prop} {A0 A1 : Nat → Prop} {H0 : Heap} {a : Array Value} {ls : Array Slot} {st0 rest : List Value}
variable {Qc : Array Value → State → Outcome → State → Prop} {XC : String → State → State → Prop}
/-- what a body that may throw owes at its end -/
def vx_MQ (below : List Frame) (Qc : Array Value → State → Outcome → State → Prop) (XC : String → State → State → Prop) (a : Array Value) (s : State) (mc ms : Nat) (free : Addr → Prop) : State → Prop := fun t =>
  ∃ o, t.status = .running ∧ Ended t below o ∧ vx_Q Qc XC mc ms free a s o t
theorem vx_ret {g : JFrame} {mc ms : Nat} (k : W p l e R s m args below meth c H locs cells slots (MQ below Qc args s mc ms free) g) : W p l e R s m args below meth c H locs cells slots (vx_MQ below Qc XC args s mc ms free) g := by
  intro T hT X
  obtain ⟨t, a1, o, b1, b2, b3, b4⟩ := k T hT X
  exact ⟨t, a1, o, b1, b2, Or.inl ⟨b3, b4⟩⟩
/-- not caught here: it goes on to the caller -/
theorem vx_widen {g : JFrame} {q : Addr} {k n : Nat} (h1 : cells ≤ k) (h2 : slots ≤ n) (kk : vx_W p l e R s m args below meth c H locs k n Q g q) : vx_W p l e R s m args below meth c H locs cells slots Q g q := fun T hT X => kk T hT (stand_widen X h1 h2)
theorem vx_out {pc : Nat} {E : String} {ce : Cell} {q : Addr} {mc ms : Nat} (hout : ∀ x ∈ c.exceptionTable.toList, covers x pc = false) (hlocks : meth.locks = false) (hcell : H[q]? = some ce) (hv : ce.vm = .none) (hcl : s.vm.findClass E = some ce.cls)
    (hx : ∀ t : State, t.heap = H → s.vm.Alike t.vm → XC E s t) (hf : ∀ z ∈ locs, free z.base) (hc : cells ≤ mc) (hs : slots ≤ ms) :
    vx_W p l e R s m args below meth c H locs cells slots (vx_MQ below Qc XC args s mc ms free) (F0 m pc ls rest) q := by
  intro T hT X
  obtain ⟨st1, hrun, hend, hW, hsm⟩ := X.leaveThrown q (g := F0 m pc ls rest) rfl rfl rfl hout hlocks
  have hcell9 : (T.setFrames (.throwing q :: below)).heap[q]? = some ce := by
    show T.heap[q]? = some ce
    rw [hT]; exact hcell
  exact ⟨_, st1, .threw q, hrun, hend, Or.inr ⟨q, rfl, E, ce, locs, hx _ hT hW.alike, hcell9, hv, hcl, hW, hsm.mono hc hs, hf⟩⟩
theorem vx_frame {U : State} {k n : Nat} (h : s.sameButNew ({ U with vm := s.vm } : State) locs k n) : s.heap.size ≤ U.heap.size ∧ ∀ q : Nat, q < s.heap.size → (∀ z ∈ locs, z.base ≠ q) → U.heap[q]? = s.heap[q]? := by
  obtain ⟨-, h2, -, -, -, h6⟩ := h
  refine ⟨h2, fun q hq hz => ?_⟩
  obtain ⟨c9, e1, e2, e3, e4⟩ := h6 q _ (Array.getElem?_eq_getElem hq)
  have hs : c9.slots = (s.heap[q]).slots := Array.ext_getElem? fun i => e4 i fun hm => hz _ hm rfl
  have h9 : c9 = s.heap[q] := by
    rw [hs] at e2
    exact e2
  have e5 : U.heap[q]? = some c9 := e1
  rw [e5, h9, Array.getElem?_eq_getElem hq]
/-- the words of a throw but the four that speak of the heap -/
def vx_no (w : Cond) : Bool := decide (w ≠ .isRef (.static Bundle.tN "UNASSIGNED_STACK" Bundle.steD)) && decide (w ≠ .isRef (.static Bundle.tN "SUPPRESSED_SENTINEL" Bundle.listD)) && decide (w ≠ .laysStatic Bundle.tN "UNASSIGNED_STACK" Bundle.steD) && decide (w ≠ .laysStatic Bundle.tN "SUPPRESSED_SENTINEL" Bundle.listD)
def vx_at0 (own : String) (ic : Nat) (X : String) (names : List String) : List Cond := (Bundle.ownAtoms0 own ic X names).filter vx_no
def vx_atS (own : String) (ic : Nat) (X : String) (names : List String) : List Cond := (Bundle.ownAtoms own ic X names).filter vx_no
/-- a word that the tables alone decide, or a good one -/
def vx_ot (w : Cond) : Bool := w.onTables || goodWord w
theorem vx_ot_at {args a' : Array Value} {s U : State} {w : Cond} (hW : s.WarmedH U.vm) (hvm : s.vm = U.vm) (hg : vx_ot w = true) (h : w.before args s = true) : w.before a' U = true := by
  simp only [vx_ot, Bool.or_eq_true] at hg
  rcases hg with hg | hg
  · exact va_tabs hg hvm h
  · exact word_at hW (good_of_word hg) h
/-- a list's words: the good ones out of the method's own list, the others by premises of their own -/
theorem vx_hat {args : Array Value} {s : State} {L B : List Cond} (h1 : ∀ w ∈ L.filter goodWord, w.before args s = true) (h2 : ∀ w ∈ L.filter (fun w => !goodWord w), w ∈ B) (h3 : ∀ w ∈ B, w.before args s = true) : ∀ w ∈ L, w.before args s = true := by
  intro w hw
  by_cases g : goodWord w = true
  · exact h1 w (List.mem_filter.mpr ⟨hw, g⟩)
  · refine h3 w (h2 w (List.mem_filter.mpr ⟨hw, ?_⟩))
    show (!goodWord w) = true
    cases hgw : goodWord w
    · rfl
    · exact absurd hgw g
theorem vx_c {args : Array Value} {s : State} {w : Cond} {B : List Cond} (h : w.before args s = true) (t : ∀ w ∈ B, w.before args s = true) : ∀ w' ∈ w :: B, w'.before args s = true := fun w' h' => (List.mem_cons.mp h').elim (fun e => by rw [e]; exact h) (t w')
theorem vx_n {args : Array Value} {s : State} : ∀ w ∈ ([] : List Cond), w.before args s = true := fun _ h => nomatch h
theorem vx_own {args : Array Value} {s : State} {L : List Cond} (h1 : ∀ w ∈ L.filter vx_no, w.before args s = true)
    (hU : (Cond.isRef (.static Bundle.tN "UNASSIGNED_STACK" Bundle.steD)).before args s = true) (hN : (Cond.isRef (.static Bundle.tN "SUPPRESSED_SENTINEL" Bundle.listD)).before args s = true)
    (lU : (Cond.laysStatic Bundle.tN "UNASSIGNED_STACK" Bundle.steD).before args s = true) (lN : (Cond.laysStatic Bundle.tN "SUPPRESSED_SENTINEL" Bundle.listD).before args s = true) : ∀ w ∈ L, w.before args s = true := by
  intro w hw
  by_cases e1 : w = .isRef (.static Bundle.tN "UNASSIGNED_STACK" Bundle.steD)
  · rw [e1]; exact hU
  · by_cases e2 : w = .isRef (.static Bundle.tN "SUPPRESSED_SENTINEL" Bundle.listD)
    · rw [e2]; exact hN
    · by_cases e3 : w = .laysStatic Bundle.tN "UNASSIGNED_STACK" Bundle.steD
      · rw [e3]; exact lU
      · by_cases e4 : w = .laysStatic Bundle.tN "SUPPRESSED_SENTINEL" Bundle.listD
        · rw [e4]; exact lN
        · exact h1 w (List.mem_filter.mpr ⟨hw, by unfold vx_no; rw [decide_eq_true e1, decide_eq_true e2, decide_eq_true e3, decide_eq_true e4]; rfl⟩)
/-- where a static field lies, its class's statics cell in H -/
def vx_L (C n d : String) (A : Nat → Prop) (U : State) (H : Heap) : Prop := ∃ (c : ClassId) (k : Class) (i : Nat) (f : Field) (a : Nat) (cell : Cell), U.vm.findClass C = some c ∧ U.fieldFound? C n d = some (c, k, i, f) ∧ f.isStatic = true ∧ k.statics = some a ∧ H[a]? = some cell ∧ cell.vm.isStatics = true ∧ cell.cls = c ∧ f.slot < cell.slots.size ∧ k.staticTypes[f.slot]? = some f.type ∧ ¬ A a
theorem vx_L.moved {C n d : String} {A : Nat → Prop} {u U : State} {H : Heap} (hvm : u.vm.Alike U.vm) (h : vx_L C n d A u H) : vx_L C n d A U H := by
  obtain ⟨c, k, i, f, a, cell, h1, h2, h3, h4, h5, h6, h7, h8, h9, h10⟩ := h
  obtain ⟨k', hi', he⟩ := State.fieldFound?_setVm hvm h2
  exact ⟨c, k', i, f, a, cell, by rw [hvm.findClass]; exact h1, hi', h3, by rw [he]; exact h4, h5, h6, h7, h8, by rw [he]; exact h9, h10⟩
theorem vx_L.kept {C n d : String} {A : Nat → Prop} {U : State} {H H1 : Heap} (h : vx_L C n d A U H) (hq : ∀ a : Nat, a < H.size → ¬ A a → H1[a]? = H[a]?) : vx_L C n d A U H1 := by
  obtain ⟨c, k, i, f, a, cell, h1, h2, h3, h4, h5, h6, h7, h8, h9, h10⟩ := h
  exact ⟨c, k, i, f, a, cell, h1, h2, h3, h4, by rw [hq a (Array.getElem?_eq_some_iff.mp h5).1 h10]; exact h5, h6, h7, h8, h9, h10⟩
theorem vx_L.narrow {C n d : String} {A B : Nat → Prop} {U : State} {H : Heap} (h : vx_L C n d A U H) (hAB : ∀ q, B q → A q) : vx_L C n d B U H := by
  obtain ⟨c, k, i, f, a, cell, h1, h2, h3, h4, h5, h6, h7, h8, h9, h10⟩ := h
  exact ⟨c, k, i, f, a, cell, h1, h2, h3, h4, h5, h6, h7, h8, h9, fun z => h10 (hAB _ z)⟩
theorem vx_L.word {C n d : String} {A : Nat → Prop} {s : State} {args : Array Value} (h : vx_L C n d A s s.heap) : (Cond.laysStatic C n d).before args s = true := by
  obtain ⟨c, k, i, f, a, cell, h1, h2, h3, h4, h5, h6, h7, h8, h9, -⟩ := h
  show (Cond.laysStatic C n d).holds args s none s [] = true
  exact Cond.laysStatic_of h1 h2 h3 h4 h5 h6 h7 h8 h9
/-- .. and what it holds: null or some reference -/
def vx_Zq (C n d : String) (A : Nat → Prop) (U : State) (H : Heap) : Prop := va_Zq C n d A U H ∧ vx_L C n d A U H
theorem vx_Zq.moved {C n d : String} {A : Nat → Prop} {u U : State} {H : Heap} (hvm : u.vm.Alike U.vm) (h : vx_Zq C n d A u H) : vx_Zq C n d A U H := ⟨va_Zq.moved hvm h.1, vx_L.moved hvm h.2⟩
theorem vx_Zq.kept {C n d : String} {A : Nat → Prop} {U : State} {H H1 : Heap} (h : vx_Zq C n d A U H) (hq : ∀ a : Nat, a < H.size → ¬ A a → H1[a]? = H[a]?) : vx_Zq C n d A U H1 := ⟨va_Zq.kept h.1 hq, vx_L.kept h.2 hq⟩
theorem vx_Zq.narrow {C n d : String} {A B : Nat → Prop} {U : State} {H : Heap} (h : vx_Zq C n d A U H) (hAB : ∀ q, B q → A q) : vx_Zq C n d B U H := ⟨va_Zq.narrow h.1 hAB, vx_L.narrow h.2 hAB⟩
theorem vx_Zqof {args : Array Value} {s : State} {C n d : String} {A : Nat → Prop} (hl : (Cond.laysStatic C n d).before args s = true) (hini : (Cond.initialized C).before args s = true) (h : (Cond.isRef (.static C n d)).before args s = true) (hA : ∀ a : Nat, a < s.heap.size → ¬ A a) : vx_Zq C n d A s s.heap := by
  refine ⟨va_Zqof hl hini h hA, ?_⟩
  obtain ⟨c, k, i, f, a, cell, h1, h2, h3, h4, h5, h6, h7, h8, h9⟩ := Cond.laysStatic_spec hl
  exact ⟨c, k, i, f, a, cell, h1, h2, h3, h4, h5, h6, h7, h8, h9, hA a (Array.getElem?_eq_some_iff.mp h5).1⟩
theorem vx_isRef {C n d : String} {v : Value} {A : Nat → Prop} {s : State} {args : Array Value} (h : va_Z C n d v A s s.heap) (hv : v.isRef = true) : (Cond.isRef (.static C n d)).before args s = true := by
  obtain ⟨cf, kf, fi, f, a, cell, h1, h2, h3, h4, h5, h6, h7, -⟩ := h
  have he : (Term.static C n d).eval args s none [] s = some v := by
    simp [Term.eval, State.fieldNamed?, h1, h2, h4, h5, h6, h7]
  simp only [Cond.before, Cond.holds, Cond.value, he]
  cases v <;> simp_all [Value.isRef]
theorem vx_isRefq {C n d : String} {A : Nat → Prop} {s : State} {args : Array Value} (h : va_Zq C n d A s s.heap) : (Cond.isRef (.static C n d)).before args s = true := by
  rcases h with h | ⟨t, h⟩
  · exact vx_isRef h rfl
  · exact vx_isRef h rfl
/-- the same frame, seen from here: as if the method were called anew in this heap -/
theorem vx_rebase {T : State} (X : Stand p l e R s m args below meth c T locs cells slots) {R' : Room} (hf : R'.frames ≤ R.frames) (hl : R'.locals ≤ R.locals) (hc : cells + R'.cells ≤ R.cells) (hs : slots + R'.slots ≤ R.slots) :
    Stand p l e R' ((T.setVm s.vm).setFrames (.invoking m args :: below)) m args below meth c T [] 0 0 := by
  have htop : (T.setVm s.vm).topJava?.isSome := X.here.top
  have hF : ((T.setVm s.vm).setFrames (.invoking m args :: below)).frames = .invoking m args :: below := State.frames_setFrames _ (State.cur_lt_of_top htop)
  obtain ⟨g₀, hg0⟩ := Option.isSome_iff_exists.mp htop
  obtain ⟨r, hr⟩ := State.topJava?_eq_some.mp hg0
  have hl9 : e.platform.stackLimits (T.setVm s.vm).me = e.platform.stackLimits s.me := X.limits
  have hb9 : (T.setVm s.vm).me.stackBytes = s.me.stackBytes := X.bytes
  refine ⟨X.admits, X.cas, X.clock, hF, ?_, X.hears, X.method, X.code, X.here, X.tail, X.warmed, ?_, ?_, ?_⟩
  · have h := X.room
    have hU : ((T.setVm s.vm).setFrames (.invoking m args :: below)).localsInUse = s.localsInUse := by
      rw [State.localsInUse_invoking hF (meth := meth) (c := c) X.method X.code, State.localsInUse_invoking X.frames X.method X.code]
    simp only [State.hasRoom, Bool.and_eq_true, decide_eq_true_eq] at h ⊢
    obtain ⟨⟨⟨⟨h1, h2, h3, h4, h5, h6⟩, h7⟩, h8⟩, h9⟩ := h
    rw [X.frames, List.length_cons] at h2 h3
    have q1 := X.heapSize
    have q2 := X.used
    simp only [hF, hU, List.length_cons, State.stackLimits_setFrames, State.stackBytes_setFrames, hl9, hb9]
    refine ⟨⟨⟨⟨by omega, by omega, by omega, by omega, by omega, h6⟩, ?_⟩, ?_⟩, X.book⟩
    · show T.heap.size + R'.cells ≤ e.platform.maxCells
      omega
    · show T.slotsUsed + R'.slots ≤ e.platform.maxSlots
      omega
  · rw [State.stackLimits_setFrames]; rfl
  · rw [State.stackBytes_setFrames]; rfl
  · refine ⟨?_, Nat.le_refl _, Nat.le_refl _, ?_, ?_, fun a c9 h9 => ⟨c9, h9, rfl, rfl, fun _ _ => rfl⟩⟩
    · obtain ⟨t, ht, -⟩ := State.frames_cons hr
      show T.setVm s.vm = { ((T.setVm s.vm).setFrames (.invoking m args :: below)).setFrames (T.setVm s.vm).frames with heap := T.heap, slotsUsed := T.slotsUsed }
      rw [State.setFrames_setFrames, State.setFrames_self ht]
      rfl
    · show T.slotsUsed = T.slotsUsed + ((T.heap.toList.drop T.heap.size).map (·.slots.size)).sum
      rw [List.drop_eq_nil_of_le (Nat.le_of_eq Array.length_toList)]
      rfl
    · show ((T.heap.toList.drop T.heap.size).map (·.slots.size)).sum ≤ 0
      rw [List.drop_eq_nil_of_le (Nat.le_of_eq Array.length_toList)]
      exact Nat.le_refl _
/-- 'throw new E()': new; dup; invokespecial; athrow -/
theorem vx_throw0 {cc : ByteArray} {pc : Nat} (hexec : p.tables.exec = Jvm.exec) (hb : c.code = cc) (hl : l.stackTraces = false) {own cls : String} {names : List String} {ik ic mc ms : Nat} {A : Nat → Prop}
    (hown : s.vm.findClass own = some m.cls) (hcls : Bundle.fit cls = true) (hnames : ∀ n ∈ names, Bundle.fit n = true)
    (hk : (Cond.classLink own ik cls).before args s = true) (hini : (Cond.initialized cls).before args s = true) (hat : ∀ w ∈ vx_at0 own ic cls names, w.before args s = true)
    (hgood : ∀ w ∈ Cond.classLink own ik cls :: Cond.initialized cls :: vx_at0 own ic cls names, vx_ot w = true)
    (hU : vx_Zq Bundle.tN "UNASSIGNED_STACK" Bundle.steD A s s.heap) (hN : vx_Zq Bundle.tN "SUPPRESSED_SENTINEL" Bundle.listD A s s.heap) (hS : va_S A s.heap H locs) (hsize : ls.size = c.maxLocals)
    (d0 : decode cc pc = .ok (.new ik, 3)) (d3 : decode cc (pc + 3) = .ok (.dup, 1)) (d4 : decode cc (pc + 4) = .ok (.invokespecial ic, 3)) (d7 : decode cc (pc + 7) = .ok (.athrow, 1))
    (hout : ∀ x ∈ c.exceptionTable.toList, covers x (pc + 7) = false)
    (hRframes : names.length + 3 < R.frames) (hRlocals : (rest.map fun v => v.category).sum + (13 * (names.length + 1) + 42) ≤ R.locals) (hRcells : cells + 1 ≤ R.cells) (hRslots : slots + 6 ≤ R.slots) (hlocks : meth.locks = false)
    (hx : ∀ t : State, s.vm.Alike t.vm → H.size ≤ t.heap.size → (∀ q : Nat, q < H.size → t.heap[q]? = H[q]?) → XC cls s t)
    (hf : ∀ z ∈ locs, free z.base) (hc : cells + 1 ≤ mc) (hs : slots + 6 ≤ ms) :
    W p l e R s m args below meth c H locs cells slots (vx_MQ below Qc XC args s mc ms free) (F0 m pc ls rest) := by
  intro T hT X
  have htr : e.platform.stackTraces = false := (show e.platform.stackTraces = l.stackTraces by rw [X.admits.platform]).trans hl
  have Y := vx_rebase X (R' := { frames := R.frames, locals := R.locals, cells := 1, slots := 6 }) (Nat.le_refl _) (Nat.le_refl _) hRcells hRslots
  obtain ⟨s', hA⟩ : ∃ z, z = (T.setVm s.vm).setFrames (.invoking m args :: below) := ⟨_, rfl⟩
  rw [← hA] at Y
  have hvm : s'.vm = s.vm := by rw [hA]; rfl
  have hhp : s'.heap = H := by rw [hA]; exact hT
  have hW0 : s.WarmedH s'.vm := by rw [hvm]; exact State.WarmedH.refl s
  have hat' : ∀ w ∈ vx_at0 own ic cls names, w.before args s' = true := fun w hw => vx_ot_at hW0 hvm.symm (hgood w (List.mem_cons_of_mem _ (List.mem_cons_of_mem _ hw))) (hat w hw)
  have hk' : (Cond.classLink own ik cls).before args s' = true := vx_ot_at hW0 hvm.symm (hgood _ List.mem_cons_self) hk
  have hini' : (Cond.initialized cls).before args s' = true := vx_ot_at hW0 hvm.symm (hgood _ (List.mem_cons_of_mem _ List.mem_cons_self)) hini
  have hU' : vx_Zq Bundle.tN "UNASSIGNED_STACK" Bundle.steD A s' s'.heap := by rw [hhp]; exact vx_Zq.moved hW0.alike (hU.kept hS.2.1)
  have hN' : vx_Zq Bundle.tN "SUPPRESSED_SENTINEL" Bundle.listD A s' s'.heap := by rw [hhp]; exact vx_Zq.moved hW0.alike (hN.kept hS.2.1)
  have h : ∀ w ∈ Bundle.ownAtoms0 own ic cls names, w.before args s' = true := vx_own hat' (vx_isRefq hU'.1) (vx_isRefq hN'.1) hU'.2.word hN'.2.word
  have hown' : s'.vm.findClass own = some m.cls := by rw [hvm]; exact hown
  have hins : (Cond.instantiable cls 6).before args s' = true := h _ (by simp [Bundle.ownAtoms0])
  obtain ⟨vm₁, cX, kX, hfX, hkX, -, -, X₁, st1⟩ := Y.newCold hexec (own := own) (C := cls) (index := ik) (n := 6) hown' hk' hins hini'
    (g := F0 m pc ls rest) rfl (by rw [hb]; exact d0) (Nat.le_refl _) (Nat.le_refl _)
  generalize hT1 : (T.setVm vm₁).pushCell { cls := cX, slots := kX.instanceTypes.map defaultValue, vm := .none } = T1 at X₁ st1
  have hcat : (Value.ref T.heap.size).category = 1 := rfl
  have hcellA : T1.heap[T.heap.size]? = some (freshCell cX kX) := by rw [← hT1]; exact State.heap_pushCell_size _ _
  have d3' : decode c.code (pc + 3) = .ok (.dup, 1) := by rw [hb]; exact d3
  obtain ⟨U, hsteps, hrun, hend, hW, hsame, ce, hce, hO⟩ := X₁.ctorThrow0 hexec htr (own := own) (cls := cls) (names := names) (ic := ic) hown' hcls hnames h (fun x hx => nomatch hx) hfX hkX hcellA (by rw [hhp, hT]; exact Nat.le_refl _)
    (g := { method := m, pc := pc + 4, locals := ls, stack := .ref T.heap.size :: .ref T.heap.size :: rest, locked := none }) rfl hsize rfl rfl (rest := rest) rfl
    (by rw [hb]; exact d4) (by rw [hb]; exact d7) hout hRframes (by simp only [List.map_cons, List.sum_cons, hcat]; omega) hlocks
  obtain ⟨f1, f2⟩ := vx_frame hsame
  rw [hhp] at f1 f2
  have hWs : s.WarmedH U.vm := State.WarmedH.trans hW0 hW
  have hcl : s.vm.findClass cls = some ce.cls := by
    have h9 := hO.cls
    rw [hvm] at h9
    exact h9
  have hall : s.sameButNew ({ U with vm := s.vm } : State) locs mc ms := by
    subst hA
    obtain ⟨e1, e2⟩ := hsame
    rw [State.setFrames_setFrames] at e1
    have h2 : (T.setVm s.vm).sameButNew ({ U with vm := s.vm } : State) [] (0 + 1) (0 + 6) := ⟨e1, e2⟩
    have h3 := X.same.trans h2
    rw [List.append_nil] at h3
    exact h3.mono hc hs
  refine ⟨U, ?_, .threw T.heap.size, hrun, hend, Or.inr ⟨T.heap.size, rfl, cls, ce, locs, hx U hWs.alike f1 (fun q hq => f2 q hq (fun z hz => nomatch hz)), hce, hO.vm, hcl, hWs, hall, hf⟩⟩
  refine st1 _ ?_
  show Steps p.tables e below (T1.setTop { method := m, pc := pc + 3, locals := ls, stack := .ref T.heap.size :: rest, locked := none }) _
  jvm_step X₁.here [X₁.here.top, hexec, d3', Value.category]
  exact hsteps
/-- 'throw new E("text")': new; dup; ldc; invokespecial; athrow -/
theorem vx_throwS {cc : ByteArray} {pc : Nat} (hexec : p.tables.exec = Jvm.exec) (hb : c.code = cc) (hl : l.stackTraces = false) {own cls text : String} {names : List String} {ik is ic mc ms sa : Nat} {A : Nat → Prop}
    (hown : s.vm.findClass own = some m.cls) (hcls : Bundle.fit cls = true) (hnames : ∀ n ∈ names, Bundle.fit n = true)
    (hk : (Cond.classLink own ik cls).before args s = true) (hini : (Cond.initialized cls).before args s = true) (hstr : vk_R own is text sa s) (hat : ∀ w ∈ vx_atS own ic cls names, w.before args s = true)
    (hgood : ∀ w ∈ Cond.classLink own ik cls :: Cond.initialized cls :: vx_atS own ic cls names, vx_ot w = true)
    (hU : vx_Zq Bundle.tN "UNASSIGNED_STACK" Bundle.steD A s s.heap) (hN : vx_Zq Bundle.tN "SUPPRESSED_SENTINEL" Bundle.listD A s s.heap) (hS : va_S A s.heap H locs) (hsize : ls.size = c.maxLocals)
    (d0 : decode cc pc = .ok (.new ik, 3)) (d3 : decode cc (pc + 3) = .ok (.dup, 1)) (d4 : decode cc (pc + 4) = .ok (.ldc is, 2)) (d6 : decode cc (pc + 6) = .ok (.invokespecial ic, 3)) (d9 : decode cc (pc + 9) = .ok (.athrow, 1))
    (hout : ∀ x ∈ c.exceptionTable.toList, covers x (pc + 9) = false)
    (hRframes : names.length + 3 < R.frames) (hRlocals : (rest.map fun v => v.category).sum + (13 * (names.length + 1) + 43) ≤ R.locals) (hRcells : cells + 1 ≤ R.cells) (hRslots : slots + 6 ≤ R.slots) (hlocks : meth.locks = false)
    (hx : ∀ t : State, s.vm.Alike t.vm → H.size ≤ t.heap.size → (∀ q : Nat, q < H.size → t.heap[q]? = H[q]?) → XC cls s t)
    (hf : ∀ z ∈ locs, free z.base) (hc : cells + 1 ≤ mc) (hs : slots + 6 ≤ ms) :
    W p l e R s m args below meth c H locs cells slots (vx_MQ below Qc XC args s mc ms free) (F0 m pc ls rest) := by
  intro T hT X
  have htr : e.platform.stackTraces = false := (show e.platform.stackTraces = l.stackTraces by rw [X.admits.platform]).trans hl
  have Y := vx_rebase X (R' := { frames := R.frames, locals := R.locals, cells := 1, slots := 6 }) (Nat.le_refl _) (Nat.le_refl _) hRcells hRslots
  obtain ⟨s', hA⟩ : ∃ z, z = (T.setVm s.vm).setFrames (.invoking m args :: below) := ⟨_, rfl⟩
  rw [← hA] at Y
  have hvm : s'.vm = s.vm := by rw [hA]; rfl
  have hhp : s'.heap = H := by rw [hA]; exact hT
  have hW0 : s.WarmedH s'.vm := by rw [hvm]; exact State.WarmedH.refl s
  have hat' : ∀ w ∈ vx_atS own ic cls names, w.before args s' = true := fun w hw => vx_ot_at hW0 hvm.symm (hgood w (List.mem_cons_of_mem _ (List.mem_cons_of_mem _ hw))) (hat w hw)
  have hk' : (Cond.classLink own ik cls).before args s' = true := vx_ot_at hW0 hvm.symm (hgood _ List.mem_cons_self) hk
  have hini' : (Cond.initialized cls).before args s' = true := vx_ot_at hW0 hvm.symm (hgood _ (List.mem_cons_of_mem _ List.mem_cons_self)) hini
  have hU' : vx_Zq Bundle.tN "UNASSIGNED_STACK" Bundle.steD A s' s'.heap := by rw [hhp]; exact vx_Zq.moved hW0.alike (hU.kept hS.2.1)
  have hN' : vx_Zq Bundle.tN "SUPPRESSED_SENTINEL" Bundle.listD A s' s'.heap := by rw [hhp]; exact vx_Zq.moved hW0.alike (hN.kept hS.2.1)
  have h : ∀ w ∈ Bundle.ownAtoms own ic cls names, w.before args s' = true := vx_own hat' (vx_isRefq hU'.1) (vx_isRefq hN'.1) hU'.2.word hN'.2.word
  have hown' : s'.vm.findClass own = some m.cls := by rw [hvm]; exact hown
  have hins : (Cond.instantiable cls 6).before args s' = true := h _ (by simp [Bundle.ownAtoms])
  obtain ⟨vm₁, cX, kX, hfX, hkX, -, -, X₁, st1⟩ := Y.newCold hexec (own := own) (C := cls) (index := ik) (n := 6) hown' hk' hins hini'
    (g := F0 m pc ls rest) rfl (by rw [hb]; exact d0) (Nat.le_refl _) (Nat.le_refl _)
  generalize hT1 : (T.setVm vm₁).pushCell { cls := cX, slots := kX.instanceTypes.map defaultValue, vm := .none } = T1 at X₁ st1
  have hcat : (Value.ref T.heap.size).category = 1 := rfl
  have hcellA : T1.heap[T.heap.size]? = some (freshCell cX kX) := by rw [← hT1]; exact State.heap_pushCell_size _ _
  have d3' : decode c.code (pc + 3) = .ok (.dup, 1) := by rw [hb]; exact d3
  have d4' : decode c.code (pc + 4) = .ok (.ldc is, 2) := by rw [hb]; exact d4
  have hstr' : vk_R own is text sa s' := vk_R.warm hW0 hstr
  obtain ⟨U, hsteps, hrun, hend, hW, hsame, ce, hce, hO⟩ := X₁.ctorThrowS hexec htr (own := own) (cls := cls) (names := names) (ic := ic) hown' hcls hnames h (fun x hx => nomatch hx) hfX hkX hcellA (by rw [hhp, hT]; exact Nat.le_refl _) (msg := .ref sa) rfl
    (g := { method := m, pc := pc + 6, locals := ls, stack := .ref sa :: .ref T.heap.size :: .ref T.heap.size :: rest, locked := none }) rfl hsize rfl rfl (rest := rest) rfl
    (by rw [hb]; exact d6) (by rw [hb]; exact d9) hout hRframes (by simp only [List.map_cons, List.sum_cons, hcat]; omega) hlocks
  obtain ⟨f1, f2⟩ := vx_frame hsame
  rw [hhp] at f1 f2
  have hWs : s.WarmedH U.vm := State.WarmedH.trans hW0 hW
  have hcl : s.vm.findClass cls = some ce.cls := by
    have h9 := hO.cls
    rw [hvm] at h9
    exact h9
  have hall : s.sameButNew ({ U with vm := s.vm } : State) locs mc ms := by
    subst hA
    obtain ⟨e1, e2⟩ := hsame
    rw [State.setFrames_setFrames] at e1
    have h2 : (T.setVm s.vm).sameButNew ({ U with vm := s.vm } : State) [] (0 + 1) (0 + 6) := ⟨e1, e2⟩
    have h3 := X.same.trans h2
    rw [List.append_nil] at h3
    exact h3.mono hc hs
  refine ⟨U, ?_, .threw T.heap.size, hrun, hend, Or.inr ⟨T.heap.size, rfl, cls, ce, locs, hx U hWs.alike f1 (fun q hq => f2 q hq (fun z hz => nomatch hz)), hce, hO.vm, hcl, hWs, hall, hf⟩⟩
  refine st1 _ ?_
  show Steps p.tables e below (T1.setTop { method := m, pc := pc + 3, locals := ls, stack := .ref T.heap.size :: rest, locked := none }) _
  jvm_step X₁.here [X₁.here.top, hexec, d3', Value.category]
  exact X₁.ldcString hexec (own := own) (text := text) (index := is) (a := sa) hown' hstr'.1 hstr'.2
    (g := { method := m, pc := pc + 4, locals := ls, stack := .ref T.heap.size :: .ref T.heap.size :: rest, locked := none }) rfl d4' _ hsteps
/-- 'throw new E("text")', the text by a wide index -/
theorem vx_throwSW {cc : ByteArray} {pc : Nat} (hexec : p.tables.exec = Jvm.exec) (hb : c.code = cc) (hl : l.stackTraces = false) {own cls text : String} {names : List String} {ik is ic mc ms sa : Nat} {A : Nat → Prop}
    (hown : s.vm.findClass own = some m.cls) (hcls : Bundle.fit cls = true) (hnames : ∀ n ∈ names, Bundle.fit n = true)
    (hk : (Cond.classLink own ik cls).before args s = true) (hini : (Cond.initialized cls).before args s = true) (hstr : vk_R own is text sa s) (hat : ∀ w ∈ vx_atS own ic cls names, w.before args s = true)
    (hgood : ∀ w ∈ Cond.classLink own ik cls :: Cond.initialized cls :: vx_atS own ic cls names, vx_ot w = true)
    (hU : vx_Zq Bundle.tN "UNASSIGNED_STACK" Bundle.steD A s s.heap) (hN : vx_Zq Bundle.tN "SUPPRESSED_SENTINEL" Bundle.listD A s s.heap) (hS : va_S A s.heap H locs) (hsize : ls.size = c.maxLocals)
    (d0 : decode cc pc = .ok (.new ik, 3)) (d3 : decode cc (pc + 3) = .ok (.dup, 1)) (d4 : decode cc (pc + 4) = .ok (.ldc_w is, 3)) (d7 : decode cc (pc + 7) = .ok (.invokespecial ic, 3)) (d10 : decode cc (pc + 10) = .ok (.athrow, 1))
    (hout : ∀ x ∈ c.exceptionTable.toList, covers x (pc + 10) = false)
    (hRframes : names.length + 3 < R.frames) (hRlocals : (rest.map fun v => v.category).sum + (13 * (names.length + 1) + 43) ≤ R.locals) (hRcells : cells + 1 ≤ R.cells) (hRslots : slots + 6 ≤ R.slots) (hlocks : meth.locks = false)
    (hx : ∀ t : State, s.vm.Alike t.vm → H.size ≤ t.heap.size → (∀ q : Nat, q < H.size → t.heap[q]? = H[q]?) → XC cls s t)
    (hf : ∀ z ∈ locs, free z.base) (hc : cells + 1 ≤ mc) (hs : slots + 6 ≤ ms) :
    W p l e R s m args below meth c H locs cells slots (vx_MQ below Qc XC args s mc ms free) (F0 m pc ls rest) := by
  intro T hT X
  have htr : e.platform.stackTraces = false := (show e.platform.stackTraces = l.stackTraces by rw [X.admits.platform]).trans hl
  have Y := vx_rebase X (R' := { frames := R.frames, locals := R.locals, cells := 1, slots := 6 }) (Nat.le_refl _) (Nat.le_refl _) hRcells hRslots
  obtain ⟨s', hA⟩ : ∃ z, z = (T.setVm s.vm).setFrames (.invoking m args :: below) := ⟨_, rfl⟩
  rw [← hA] at Y
  have hvm : s'.vm = s.vm := by rw [hA]; rfl
  have hhp : s'.heap = H := by rw [hA]; exact hT
  have hW0 : s.WarmedH s'.vm := by rw [hvm]; exact State.WarmedH.refl s
  have hat' : ∀ w ∈ vx_atS own ic cls names, w.before args s' = true := fun w hw => vx_ot_at hW0 hvm.symm (hgood w (List.mem_cons_of_mem _ (List.mem_cons_of_mem _ hw))) (hat w hw)
  have hk' : (Cond.classLink own ik cls).before args s' = true := vx_ot_at hW0 hvm.symm (hgood _ List.mem_cons_self) hk
  have hini' : (Cond.initialized cls).before args s' = true := vx_ot_at hW0 hvm.symm (hgood _ (List.mem_cons_of_mem _ List.mem_cons_self)) hini
  have hU' : vx_Zq Bundle.tN "UNASSIGNED_STACK" Bundle.steD A s' s'.heap := by rw [hhp]; exact vx_Zq.moved hW0.alike (hU.kept hS.2.1)
  have hN' : vx_Zq Bundle.tN "SUPPRESSED_SENTINEL" Bundle.listD A s' s'.heap := by rw [hhp]; exact vx_Zq.moved hW0.alike (hN.kept hS.2.1)
  have h : ∀ w ∈ Bundle.ownAtoms own ic cls names, w.before args s' = true := vx_own hat' (vx_isRefq hU'.1) (vx_isRefq hN'.1) hU'.2.word hN'.2.word
  have hown' : s'.vm.findClass own = some m.cls := by rw [hvm]; exact hown
  have hins : (Cond.instantiable cls 6).before args s' = true := h _ (by simp [Bundle.ownAtoms])
  obtain ⟨vm₁, cX, kX, hfX, hkX, -, -, X₁, st1⟩ := Y.newCold hexec (own := own) (C := cls) (index := ik) (n := 6) hown' hk' hins hini'
    (g := F0 m pc ls rest) rfl (by rw [hb]; exact d0) (Nat.le_refl _) (Nat.le_refl _)
  generalize hT1 : (T.setVm vm₁).pushCell { cls := cX, slots := kX.instanceTypes.map defaultValue, vm := .none } = T1 at X₁ st1
  have hcat : (Value.ref T.heap.size).category = 1 := rfl
  have hcellA : T1.heap[T.heap.size]? = some (freshCell cX kX) := by rw [← hT1]; exact State.heap_pushCell_size _ _
  have d3' : decode c.code (pc + 3) = .ok (.dup, 1) := by rw [hb]; exact d3
  have d4' : decode c.code (pc + 4) = .ok (.ldc_w is, 3) := by rw [hb]; exact d4
  have hstr' : vk_R own is text sa s' := vk_R.warm hW0 hstr
  obtain ⟨U, hsteps, hrun, hend, hW, hsame, ce, hce, hO⟩ := X₁.ctorThrowS hexec htr (own := own) (cls := cls) (names := names) (ic := ic) hown' hcls hnames h (fun x hx => nomatch hx) hfX hkX hcellA (by rw [hhp, hT]; exact Nat.le_refl _) (msg := .ref sa) rfl
    (g := { method := m, pc := pc + 7, locals := ls, stack := .ref sa :: .ref T.heap.size :: .ref T.heap.size :: rest, locked := none }) rfl hsize rfl rfl (rest := rest) rfl
    (by rw [hb]; exact d7) (by rw [hb]; exact d10) hout hRframes (by simp only [List.map_cons, List.sum_cons, hcat]; omega) hlocks
  obtain ⟨f1, f2⟩ := vx_frame hsame
  rw [hhp] at f1 f2
  have hWs : s.WarmedH U.vm := State.WarmedH.trans hW0 hW
  have hcl : s.vm.findClass cls = some ce.cls := by
    have h9 := hO.cls
    rw [hvm] at h9
    exact h9
  have hall : s.sameButNew ({ U with vm := s.vm } : State) locs mc ms := by
    subst hA
    obtain ⟨e1, e2⟩ := hsame
    rw [State.setFrames_setFrames] at e1
    have h2 : (T.setVm s.vm).sameButNew ({ U with vm := s.vm } : State) [] (0 + 1) (0 + 6) := ⟨e1, e2⟩
    have h3 := X.same.trans h2
    rw [List.append_nil] at h3
    exact h3.mono hc hs
  refine ⟨U, ?_, .threw T.heap.size, hrun, hend, Or.inr ⟨T.heap.size, rfl, cls, ce, locs, hx U hWs.alike f1 (fun q hq => f2 q hq (fun z hz => nomatch hz)), hce, hO.vm, hcl, hWs, hall, hf⟩⟩
  refine st1 _ ?_
  show Steps p.tables e below (T1.setTop { method := m, pc := pc + 3, locals := ls, stack := .ref T.heap.size :: rest, locked := none }) _
  jvm_step X₁.here [X₁.here.top, hexec, d3', Value.category]
  exact X₁.ldcStringW hexec (own := own) (text := text) (index := is) (a := sa) hown' hstr'.1 hstr'.2
    (g := { method := m, pc := pc + 4, locals := ls, stack := .ref T.heap.size :: .ref T.heap.size :: rest, locked := none }) rfl d4' _ hsteps
end Ends
section Bodies
variable {l : Launch}
theorem vx_ofW {y : MethodName} {ws ws' : List Cond} {rm : Room} {Pc : Array Value → State → Prop} {Qc : Array Value → State → Outcome → State → Prop} {XC : String → State → State → Prop} {mc ms : Nat} {free : Addr → Prop} {cc : ByteArray} {maxL : Nat} {ret : Option FieldType}
    (hy : plainName y.cls = true) (hw : ws = Cond.code y cc maxL ret :: ws')
    (body : ∀ p e s m args below meth c s₁, BodyLoose p l y (headSpec ws rm) cc maxL ret e s m args below meth c s₁ → c.maxLocals = maxL → (∀ x ∈ c.exceptionTable.toList, False) → Pc args s →
      W p l e (headSpec ws rm).room s m args below meth c s.heap [] 0 0 (vx_MQ below Qc XC args s mc ms free) (entryFrame m args maxL)) : vx_Met l y ws rm Pc Qc XC mc ms free := by
  refine MetFree.of_bodyS (code := cc) (maxLocals := maxL) (ret := ret) hy ?_ ?_
  · intro args s m h hn
    obtain ⟨meth, c, h1, h2, h3, h4, h5, h6, -, -⟩ := Cond.code_spec hn (atoms_spec (ws := ws) h _ (by rw [hw]; exact List.mem_cons_self))
    exact ⟨meth, c, h1, h2, h3, h4, h5, h6⟩
  · intro p e s m args below meth c s₁ B hml hP _
    have hh0 : s₁.heap = s.heap := by rw [B.state]; rfl
    have ht : ∀ x ∈ c.exceptionTable.toList, False := by
      obtain ⟨meth9, c9, h1, h2, -, -, -, -, h7, -⟩ := Cond.code_spec B.named (atoms_spec (ws := ws) B.pre _ (by rw [hw]; exact List.mem_cons_self))
      cases Option.some.inj (h1.symm.trans B.method)
      cases Option.some.inj (h2.symm.trans (Stand.of_body B).code)
      intro x hx
      rw [Array.isEmpty_iff.mp h7] at hx
      cases hx
    obtain ⟨t, a1, o, b1, b2, b3⟩ := body p e s m args below meth c s₁ B hml ht hP s₁ hh0 (Stand.of_body B)
    exact ⟨t, o, a1, b1, b2, b3⟩
/-- the table of a body with handlers -/
theorem vx_table {p : Program} {x y : MethodName} {S : Spec} {cc bytes : ByteArray} {maxL maxL' : Nat} {ret ret' : Option FieldType} {e : Env} {s s₁ : State} {m : MethodId} {args : Array Value} {below : List Frame} {meth : Method} {c : Code} {hh : List (Nat × Nat × Nat × Nat)}
    (B : BodyLoose p l y S cc maxL ret e s m args below meth c s₁) (h : (Cond.codeWith y bytes maxL' ret' hh).before args s = true) : c.exceptionTable.toList = tableOf hh := by
  obtain ⟨m9, meth9, c9, hn9, h1, h2, -, -, h6, -⟩ := Cond.codeWith_spec h
  cases Option.some.inj (hn9.symm.trans B.named)
  cases Option.some.inj (h1.symm.trans B.method)
  cases Option.some.inj (h2.symm.trans (Stand.of_body B).code)
  rw [← h6, table_eq]
end Bodies
end VXA
/-! ===== END ===== -/
/-! ===== BEGIN a static call of a method with an exception table ===== -/
section VXS
variable {p : Program} {l : Launch} {e : Env} {R : Room} {s : State} {m : MethodId} {args : Array Value} {below : List Frame} {meth : Method} {c : Code} {T : State} {H : Heap} {locs : List Loc} {cells slots : Nat}
abbrev vx_CSW (R : Room) (s : State) (args : Array Value) (own : String) (index : Nat) (y : MethodName) (bytes : ByteArray) (maxL : Nat) (ret : Option FieldType) (hh : List (Nat × Nat × Nat × Nat)) (ws : List Cond) (rm : Room) (mc ms n : Nat) : Prop :=
  (rm.cells = mc ∧ rm.slots = ms ∧ rm.frames + 1 ≤ R.frames ∧ 8 + (maxL + 11) + rm.locals ≤ R.locals ∧ (∀ w ∈ ws, ∀ (a' : Array Value) (U : State), s.WarmedH U.vm → w.before a' U = true) ∧ Cond.codeWith y bytes maxL ret hh ∈ ws) ∧
  (Cond.codeWith y bytes maxL ret hh).before args s = true ∧ (Cond.initialized y.cls).before args s = true ∧ (y.cls ≠ "java/lang/invoke/MethodHandle" ∧ y.cls ≠ "java/lang/invoke/VarHandle") ∧
  (∀ sig, parseMethodDescriptor y.desc = some sig → n = sig.parameters.length) ∧ (Cond.methodLink own index y).before args s = true ∧ (Cond.static y).before args s = true
theorem vx_cwSW {own : String} {index maxL mc ms : Nat} {y : MethodName} {bytes : ByteArray} {ret : Option FieldType} {hh : List (Nat × Nat × Nat × Nat)} {Ts ws ws' : List Cond} {rm : Room} (n : Nat) (ht : ∀ w ∈ Ts, w.before args s = true) (hT : GoodIn Ts (va_wsS own index y ws)) (hw : ws = Cond.codeWith y bytes maxL ret hh :: ws') (hrc : rm.cells = mc) (hrs : rm.slots = ms)
    (hd : y.cls ≠ "java/lang/invoke/MethodHandle" ∧ y.cls ≠ "java/lang/invoke/VarHandle" ∧ (parseMethodDescriptor y.desc).map (fun d => d.parameters.length) = some n) (hR : rm.frames + 1 ≤ R.frames ∧ 8 + (maxL + 11) + rm.locals ≤ R.locals) :
    vx_CSW R s args own index y bytes maxL ret hh ws rm mc ms n := by
  have ok : ∀ w ∈ va_wsS own index y ws, w.before args s = true := fun w h => ht w (hT w h).1
  have hG : GoodIn Ts ws := fun w h => hT w (by unfold va_wsS; exact List.mem_append_right _ h)
  have hc : Cond.codeWith y bytes maxL ret hh ∈ ws := by rw [hw]; exact List.mem_cons_self
  refine ⟨⟨hrc, hrs, hR.1, hR.2, pay_in ht hG, hc⟩, ht _ (hG _ hc).1, ok _ (by simp [va_wsS]), ⟨hd.1, hd.2.1⟩, fun sig h => ?_, ok _ (by simp [va_wsS]), ok _ (by simp [va_wsS])⟩
  have h2 := hd.2.2
  rw [h] at h2
  exact (Option.some.inj h2).symm
theorem vx_callSW (X : Stand p l e R s m args below meth c T locs cells slots) (hexec : p.tables.exec = Jvm.exec) {own : String} {index : Nat} {y : MethodName} {bytes : ByteArray} {maxL : Nat} {ret : Option FieldType} {hh : List (Nat × Nat × Nat × Nat)}
    (hown : s.vm.findClass own = some m.cls) (hlink : (Cond.methodLink own index y).before args s = true) (hstat : (Cond.static y).before args s = true) (hinit : (Cond.initialized y.cls).before args s = true)
    (hcode : (Cond.codeWith y bytes maxL ret hh).before args s = true) (hy : y.cls ≠ "java/lang/invoke/MethodHandle" ∧ y.cls ≠ "java/lang/invoke/VarHandle")
    {W9 : Nat} {Pre : Pt → Array Value → Prop} {Post : Pt → Array Value → Option Value → Pt → Prop} (hK : Back l R p e below s args y 3 W9 Pre Post)
    {g : JFrame} (hg : g.method = m) (hsize : g.locals.size = c.maxLocals) {argsL rest : List Value} (hlen : ∀ sig, parseMethodDescriptor y.desc = some sig → argsL.length = sig.parameters.length)
    (hstack : g.stack = argsL.reverse ++ rest) (hW : 2 * g.monitorRoom + (rest.map fun v => v.category).sum ≤ W9) (hdg : decode c.code g.pc = .ok (.invokestatic index, 3))
    (hpre : ∀ vm₁, s.WarmedH vm₁ → Pre ⟨T.setVm vm₁, locs, cells, slots⟩ argsL.toArray) :
    ∃ (v : Option Value) (vm₁ : Vm) (B : Pt), s.WarmedH vm₁ ∧ Stand p l e R s m args below meth c B.U B.locs B.cells B.slots ∧ Post ⟨T.setVm vm₁, locs, cells, slots⟩ argsL.toArray v B ∧
      ∀ target, Steps p.tables e below (B.U.setTop { g with pc := g.pc + 3, stack := v.toList ++ rest }) target → Steps p.tables e below (T.setTop g) target := by
  obtain ⟨mk, methM, cM, hnamed, hmethM, -, -, -, -, -, -, hsigM⟩ := Cond.codeWith_spec hcode
  have hstatic : methM.isStatic = true := Cond.static_spec hnamed hmethM hstat
  obtain ⟨kP, hkP, -⟩ := className_of_methodNamed hnamed
  have hinitP : kP.init = .initialized := Cond.initialized_spec (findClass_of_methodNamed hnamed) hkP hinit
  obtain ⟨vm₁, X₁, hstep₁⟩ := X.invokestatic hexec hown hlink hnamed hmethM hstatic hkP hinitP hy (g := g) hg (argsL := argsL) (rest := rest) (hlen _ hsigM) hstack hdg
  obtain ⟨v, B, X', hpost, hsteps⟩ := hK m meth c ⟨T.setVm vm₁, locs, cells, slots⟩ { g with stack := rest } (.invokestatic index) mk argsL.toArray X₁ hg hsize hdg hW (X₁.named hnamed) (hpre vm₁ X₁.warmed)
  exact ⟨v, vm₁, B, X₁.warmed, X', hpost, fun target h => hstep₁ _ fun acts => by rw [doInvoke_state]; exact hsteps.trans h⟩
theorem vx_runSW {y : MethodName} {bytes cc : ByteArray} {maxL nL mc ms n index : Nat} {ret : Option FieldType} {hh : List (Nat × Nat × Nat × Nat)} {ws : List Cond} {rm : Room} {Pc : Array Value → State → Prop} {Qc : Array Value → State → Outcome → State → Prop} {free : Addr → Prop} {Ts : List Cond} {own : String} {As rest : List Value} {g : JFrame}
    (S : CallFix p m c cc nL s args Ts own) (hM : Met l y ws rm Pc Qc mc ms free) (cw : vx_CSW R s args own index y bytes maxL ret hh ws rm mc ms n) (hp : PreS s H Pc As)
    (hg : g.method = m) (hn : As.length = n) (hsize : g.locals.size = nL) (hstack : g.stack = As.reverse ++ rest) (hW : 2 * g.monitorRoom + (rest.map fun v => v.category).sum ≤ 8) (hdg : decode cc g.pc = .ok (.invokestatic index, 3)) (hf : cells + mc ≤ R.cells ∧ slots + ms ≤ R.slots) :
    va_Run p l e R s m args below meth c H locs cells slots mc ms g rest (Qc As.toArray) (free) := by
  obtain ⟨⟨hrc, hrs, hfr, hlo, hws, hcw⟩, hcode, hini, hy, hlen, hl, hstt⟩ := cw
  have hK : Back l R p e below s args y 3 8 (PreOf R mc ms Pc) (PostOf Qc mc ms free) := va_backW (hh := hh) (bytes := bytes) (maxL := maxL) (ret := ret) hM hp.1 hrc hrs hfr hlo hws hcw (fun a' U hW => word_at hW (Or.inl (by first | rfl | simp [Cond.onTables, Cond.keeps, Cond.steady])) hini)
  obtain ⟨hx, hb, hml, ho, -⟩ := S
  intro T hT X
  obtain ⟨v, vm₁, ⟨U', l2, c2, s2⟩, hW₁, X', ⟨g', mk, t, L, e1, e2, hq, h1, hL, h2, h3⟩, st⟩ := vx_callSW X hx (hh := hh) (bytes := bytes) (maxL := maxL) (ret := ret) ho hl hstt hini hcode hy hK hg (hsize.trans hml.symm) (argsL := As) (rest := rest) (fun sig h => hn.trans (hlen sig h)) hstack hW (by rw [hb]; exact hdg)
    (fun vm₁ hW₁ => ⟨hf.1, hf.2, hp.2 (T.setVm vm₁) hT hW₁⟩)
  dsimp only [Pt.U, Pt.locs, Pt.cells, Pt.slots] at X' e1 e2 h1 h2 h3 st
  subst h1; subst h2; subst h3
  exact ⟨v, (T.setVm vm₁).calling g' mk As.toArray, t, U', L, hT, X', hL, e1, e2, hq, st⟩
/-- not caught here, past rows that name other classes: it goes on to the caller -/
theorem vx_outP {p : Program} {l : Launch} {e : Env} {R : Room} {s : State} {m : MethodId} {args : Array Value} {below : List Frame} {meth : Method} {c : Code} {H : Heap} {locs : List Loc} {cells slots : Nat} {free : Addr → Prop} {ls : Array Slot} {rest : List Value} {Qc : Array Value → State → Outcome → State → Prop} {XC : String → State → State → Prop}
    {pc : Nat} {own E : String} {ce : Cell} {q : Addr} {mc ms : Nat} (hown : s.vm.findClass own = some m.cls) (hlocks : meth.locks = false)
    (hpass : ∀ z ∈ c.exceptionTable.toList, covers z pc = false ∨ (z.catchType ≠ 0 ∧ ∃ nm : String, (Cond.classLink own z.catchType nm).before args s = true ∧ va_Nc E nm s)) (hcell : H[q]? = some ce) (hv : ce.vm = .none) (hcl : s.vm.findClass E = some ce.cls)
    (hx : ∀ t : State, t.heap = H → s.vm.Alike t.vm → XC E s t) (hf : ∀ z ∈ locs, free z.base) (hc : cells ≤ mc) (hs : slots ≤ ms) :
    vx_W p l e R s m args below meth c H locs cells slots (vx_MQ below Qc XC args s mc ms free) (F0 m pc ls rest) q := by
  intro T hT X
  have hpl : e.platform.magicAccessors = ({} : Platform).magicAccessors := by rw [X.admits.platform]
  obtain ⟨vm', hW', X', st⟩ := X.outThrough hlocks q (g := F0 m pc ls rest) rfl rfl rfl (cell := ce) (by rw [hT]; exact hcell) (by rw [hv]; rfl)
    (by obtain ⟨k9, h9, -⟩ := Vm.findClass_spec hcl; exact ⟨k9, h9⟩) (fun z hz => by
      rcases hpass z hz with h | ⟨hz0, nm, hl1, hn1⟩
      · exact Or.inl h
      · obtain ⟨c6, hc6, hcl6⟩ := Cond.classLink_spec hown hl1 e.platform hpl
        obtain ⟨a8, b8, h1, h2, h3⟩ := hn1
        cases Option.some.inj (h1.symm.trans hcl)
        cases Option.some.inj (h2.symm.trans hc6)
        exact Or.inr ⟨hz0, _, hcl6, h3⟩)
  obtain ⟨g₀, hfr⟩ := X'.frames_eq
  have hcell9 : ((T.setVm vm').setFrames (.throwing q :: below)).heap[q]? = some ce := by
    show T.heap[q]? = some ce
    rw [hT]; exact hcell
  have hend : Ended ((T.setVm vm').setFrames (.throwing q :: below)) below (.threw q) := State.frames_setFrames _ (State.cur_lt_of_frames hfr)
  refine ⟨(T.setVm vm').setFrames (.throwing q :: below), ?_, .threw q, X'.here.running, hend, Or.inr ⟨q, rfl, E, ce, locs, hx _ hT (X'.ends _).1.alike, hcell9, hv, hcl, (X'.ends _).1, (X'.ends _).2.mono hc hs, hf⟩⟩
  rw [X.pushThrowing_eq]
  exact st
/-- a thing of a world lies in the heap -/
theorem vx_lt {D : va_G} {cl : List vw_C} {ws : va_W} {H1 : Heap} (h : va_P D cl ws H1) {k : Nat} {q : Nat × va_E} (hk : ws[k]? = some q) : q.1 < H1.size := (h k q hk).lt
end VXS
/-! ===== END ===== -/
/-! ===== BEGIN methods with a table of their own: called by a name, returning or throwing ===== -/
section VXH
/-! vx_backW, vx_callVX, vx_callSX, vx_callVW, vx_runVW, vx_runVX, vx_runSX, vx_ofWH follow the same proofs as their sisters above (Free/Laws.lean, Shelf42/LK1.lean); vx_outP calls Shelf42/NT130.lean (outThrough). -/
section
variable {l : Launch} {R : Room} {p : Program} {e : Env} {below : List Frame} {s : State} {sargs : Array Value} {y : MethodName} {len W9 : Nat}
theorem vx_backW {ws : List Cond} {rm : Room} {Pc : Array Value → State → Prop} {Qc : Array Value → State → Outcome → State → Prop} {XC : String → State → State → Prop} {mc ms : Nat} {free : Addr → Prop} {bytes : ByteArray} {maxL : Nat} {ret : Option FieldType} {hh : List (Nat × Nat × Nat × Nat)}
    (hM : vx_Met l y ws rm Pc Qc XC mc ms free) (hblind : FrameBlind Pc) (hrc : rm.cells = mc) (hrs : rm.slots = ms)
    (hframes : rm.frames + 1 ≤ R.frames) (hlocals : W9 + (maxL + 11) + rm.locals ≤ R.locals)
    (hws : ∀ w ∈ ws, ∀ a' U, s.WarmedH U.vm → w.before a' U = true) (hcode : Cond.codeWith y bytes maxL ret hh ∈ ws) (hinit : ∀ a' U, s.WarmedH U.vm → (Cond.initialized y.cls).before a' U = true) :
    vx_Back l R p e below s sargs y len W9 (PreOf R mc ms Pc) (PostOf Qc mc ms free) (vx_Post XC mc ms free) := by
  intro m meth c A g ig mk a X hg hsize hdg hW hn hp
  have h1 : (headSpec ws rm).pre.before a A.U = true := atoms_intro fun w hw => hws w hw _ _ X.warmed
  have h2 : (Cond.codeWith y bytes maxL ret hh).before a A.U = true := hws _ hcode _ _ X.warmed
  have h3 : (Cond.initialized y.cls).before a A.U = true := hinit _ _ X.warmed
  have h4 : A.cells + (headSpec ws rm).room.cells ≤ R.cells := by rw [show (headSpec ws rm).room.cells = mc from hrc]; exact hp.1
  have h5 : A.slots + (headSpec ws rm).room.slots ≤ R.slots := by rw [show (headSpec ws rm).room.slots = ms from hrs]; exact hp.2.1
  have hPc : Pc a (A.U.calling g mk a) := hblind _ _ _ _ hp.2.2
  obtain ⟨U, Ls, c0, s0⟩ := A
  dsimp only [Pt.U, Pt.locs, Pt.cells, Pt.slots] at h1 h2 h3 h4 h5 X hn hPc ⊢
  obtain ⟨m9, methY, cY, hn9, hmY, hcY, -, hlY, -⟩ := Cond.codeWith_spec h2
  cases Option.some.inj (hn9.symm.trans hn)
  obtain ⟨kY, hkY, -⟩ := className_of_methodNamed hn
  have hinitY : kY.init = .initialized := Cond.initialized_spec (findClass_of_methodNamed hn) hkY h3
  have h : At U g.method c below := by rw [hg]; exact X.here
  have hlocals9 : W9 + (maxL + 11) + (headSpec ws rm).room.locals ≤ R.locals := hlocals
  have happ : (headSpec ws rm).appliesLoose y e.platform (U.calling g mk a) = true :=
    Spec.appliesLoose_calling (g := g) h hdg hn hkY hinitY
      (X.room_calling (g := g) (R' := (headSpec ws rm).room) hsize hmY hcY hframes (by rw [hlY]; omega) h4 h5) h1
  obtain ⟨mid, hmid⟩ := h.above
  have hfr : (U.setTop g).frames = (.java g :: mid) ++ below := by rw [State.frames_setTop' g h.top, hmid]; rfl
  obtain ⟨o, s₂, hsteps, -, hend, hq⟩ := Steps.callFree hM p X.admits X.cas X.clock (acts := []) hfr happ hPc trivial
  have hq' : vx_Q Qc XC mc ms free a (U.calling g mk a) o s₂ := hq
  rw [State.frames_setTop' g h.top] at hend
  obtain ⟨g₀, hg0⟩ := Option.isSome_iff_exists.mp h.top
  obtain ⟨r, hr⟩ := State.topJava?_eq_some.mp hg0
  have hr' : (({ U with heap := s₂.heap, slotsUsed := s₂.slotsUsed } : State).setVm s₂.vm).frames = .java g₀ :: r := hr
  rcases hq' with ⟨hqc, L, hfe, hL⟩ | ⟨q, rfl, E, ce, L, hx, hce, hcv, hcl, hW₂, hsm, hL⟩
  · obtain ⟨⟨v, rfl⟩, hW₂, e2, q2, q3, q4, q5, q6⟩ := id hfe
    have e3 : s₂ = ({ (U.calling g mk a).setFrames s₂.frames with heap := s₂.heap, slotsUsed := s₂.slotsUsed } : State).setVm s₂.vm := by
      have : s₂ = ({ s₂ with vm := (U.calling g mk a).vm } : State).setVm s₂.vm := rfl
      rw [e2] at this
      exact this
    obtain ⟨c₂, i₂, len₂, hc₂, hd₂, hf₂⟩ := hend
    have hW' : U.WarmedH s₂.vm := hW₂
    have hcc : c₂ = c := by
      have h1 : s₂.code? g.method = U.code? g.method := by
        rw [State.code?_eq, State.code?_eq, hW'.alike.method?]
      exact Option.some.inj (hc₂.symm.trans (h1.trans h.code))
    subst hcc
    have hlen : len₂ = len := by rw [hdg] at hd₂; cases hd₂; rfl
    subst hlen
    have hs₂ : s₂ = (({ U with heap := s₂.heap, slotsUsed := s₂.slotsUsed } : State).setVm s₂.vm).setTop { g with pc := g.pc + len₂, stack := v.toList ++ g.stack } := by
      refine e3.trans ?_
      rw [hf₂, State.calling_eq h.top, State.setFrames_setFrames, State.setTop_of_frames _ hr', hr]
      rfl
    have hsame : U.sameButNew ({ U with heap := s₂.heap, slotsUsed := s₂.slotsUsed } : State) L mc ms := by
      refine ⟨?_, q2, q3, q4, q5, q6⟩
      obtain ⟨t, ht, -⟩ := State.frames_cons hr
      show ({ U with heap := s₂.heap, slotsUsed := s₂.slotsUsed } : State) = { U.setFrames U.frames with heap := s₂.heap, slotsUsed := s₂.slotsUsed }
      rw [State.setFrames_self ht]
    subst hg
    refine Or.inl ⟨v, ⟨(({ U with heap := s₂.heap, slotsUsed := s₂.slotsUsed } : State).setVm s₂.vm), Ls ++ L, c0 + mc, s0 + ms⟩,
      ⟨X.admits, X.cas, X.clock, X.frames, X.room, X.hears, X.method, X.code, (X.here.setHeapUsed s₂.heap s₂.slotsUsed).setVm hW'.alike, X.tail, State.WarmedH.trans X.warmed hW', X.limits, X.bytes, X.same.trans (hsame.setVm s.vm)⟩,
      ⟨g, mk, s₂, L, rfl, rfl, hqc, rfl, hL, rfl, rfl⟩, ?_⟩
    show Steps p.tables e below _ ((({ U with heap := s₂.heap, slotsUsed := s₂.slotsUsed } : State).setVm s₂.vm).setTop { g with pc := g.pc + len₂, stack := v.toList ++ g.stack })
    rw [← hs₂]
    exact hsteps
  · obtain ⟨e2, q2, q3, q4, q5, q6⟩ := id hsm
    have e3 : s₂ = ({ (U.calling g mk a).setFrames s₂.frames with heap := s₂.heap, slotsUsed := s₂.slotsUsed } : State).setVm s₂.vm := by
      have : s₂ = ({ s₂ with vm := (U.calling g mk a).vm } : State).setVm s₂.vm := rfl
      rw [e2] at this
      exact this
    have hf₂ : s₂.frames = .throwing q :: .java g :: U.frames.tail := hend
    have hW' : U.WarmedH s₂.vm := hW₂
    have hs₂ : s₂ = ((({ U with heap := s₂.heap, slotsUsed := s₂.slotsUsed } : State).setVm s₂.vm).setTop g).pushFrame (.throwing q) := by
      refine e3.trans ?_
      rw [hf₂, State.calling_eq h.top, State.setFrames_setFrames, State.pushFrame, State.frames_setTop _ hr', State.setTop_of_frames _ hr', State.setFrames_setFrames, hr]
      rfl
    have hsame : U.sameButNew ({ U with heap := s₂.heap, slotsUsed := s₂.slotsUsed } : State) L mc ms := by
      refine ⟨?_, q2, q3, q4, q5, q6⟩
      obtain ⟨t, ht, -⟩ := State.frames_cons hr
      show ({ U with heap := s₂.heap, slotsUsed := s₂.slotsUsed } : State) = { U.setFrames U.frames with heap := s₂.heap, slotsUsed := s₂.slotsUsed }
      rw [State.setFrames_self ht]
    subst hg
    refine Or.inr ⟨q, ⟨(({ U with heap := s₂.heap, slotsUsed := s₂.slotsUsed } : State).setVm s₂.vm), Ls ++ L, c0 + mc, s0 + ms⟩,
      ⟨X.admits, X.cas, X.clock, X.frames, X.room, X.hears, X.method, X.code, (X.here.setHeapUsed s₂.heap s₂.slotsUsed).setVm hW'.alike, X.tail, State.WarmedH.trans X.warmed hW', X.limits, X.bytes, X.same.trans (hsame.setVm s.vm)⟩,
      ⟨g, mk, s₂, L, E, ce, rfl, rfl, hx, hce, hcv, hcl, rfl, hL, rfl, rfl⟩, ?_⟩
    show Steps p.tables e below _ (((({ U with heap := s₂.heap, slotsUsed := s₂.slotsUsed } : State).setVm s₂.vm).setTop g).pushFrame (.throwing q))
    rw [← hs₂]
    exact hsteps
end
variable {p : Program} {l : Launch} {e : Env} {R : Room} {s : State} {m : MethodId} {args : Array Value} {below : List Frame} {meth : Method} {c : Code} {T : State} {H : Heap} {locs : List Loc} {cells slots : Nat}
theorem vx_callVX (X : Stand p l e R s m args below meth c T locs cells slots) (hexec : p.tables.exec = Jvm.exec) {own C : String} {index : Nat} {y : MethodName} {bytes : ByteArray} {maxL : Nat} {ret : Option FieldType} {hh : List (Nat × Nat × Nat × Nat)}
    (hown : s.vm.findClass own = some m.cls) (hlink : (Cond.methodLink own index y).before args s = true) (hinst : (Cond.instanceMethod y).before args s = true) (hsel : (Cond.selects C y y).before args s = true)
    (hcode : (Cond.codeWith y bytes maxL ret hh).before args s = true) (hy : y.cls ≠ "java/lang/invoke/MethodHandle" ∧ y.cls ≠ "java/lang/invoke/VarHandle")
    {W9 : Nat} {Pre : Pt → Array Value → Prop} {Post : Pt → Array Value → Option Value → Pt → Prop} {PostX : Pt → Array Value → Addr → Pt → Prop} (hK : vx_Back l R p e below s args y 3 W9 Pre Post PostX)
    {b : Addr} {cellB : Cell} (hcell : T.heap[b]? = some cellB) (hobj : cellB.vm.isStatics = false) (hcls : s.vm.findClass C = some cellB.cls)
    {g : JFrame} (hg : g.method = m) (hsize : g.locals.size = c.maxLocals) {argsL rest : List Value} (hlen : ∀ sig, parseMethodDescriptor y.desc = some sig → argsL.length = sig.parameters.length)
    (hstack : g.stack = argsL.reverse ++ .ref b :: rest) (hW : 2 * g.monitorRoom + (rest.map fun v => v.category).sum ≤ W9) (hdg : decode c.code g.pc = .ok (.invokevirtual index, 3))
    (hpre : ∀ vm₁, s.WarmedH vm₁ → Pre ⟨T.setVm vm₁, locs, cells, slots⟩ (Value.ref b :: argsL).toArray) :
    (∃ (v : Option Value) (vm₁ : Vm) (B : Pt), s.WarmedH vm₁ ∧ Stand p l e R s m args below meth c B.U B.locs B.cells B.slots ∧ Post ⟨T.setVm vm₁, locs, cells, slots⟩ (Value.ref b :: argsL).toArray v B ∧
      ∀ target, Steps p.tables e below (B.U.setTop { g with pc := g.pc + 3, stack := v.toList ++ rest }) target → Steps p.tables e below (T.setTop g) target) ∨
    (∃ (q : Addr) (vm₁ : Vm) (B : Pt), s.WarmedH vm₁ ∧ Stand p l e R s m args below meth c B.U B.locs B.cells B.slots ∧ PostX ⟨T.setVm vm₁, locs, cells, slots⟩ (Value.ref b :: argsL).toArray q B ∧
      Steps p.tables e below (T.setTop g) ((B.U.setTop { g with stack := rest }).pushFrame (.throwing q))) := by
  obtain ⟨mk, methM, hnamed, hmethM, hstM, habM⟩ := Cond.instanceMethod_spec hinst
  obtain ⟨m8, methM', cM, hn8, hmethM', -, -, -, -, -, -, hsigM⟩ := Cond.codeWith_spec hcode
  cases Option.some.inj (hn8.symm.trans hnamed)
  cases hmethM.symm.trans hmethM'
  obtain ⟨c2, r2, m2, q1, q2, q3, q4, kP, hkP, hkPi⟩ := Cond.selects_spec hsel
  cases hcls.symm.trans q1
  cases (State.methodFound?_of_named hnamed hy).symm.trans q2
  cases hnamed.symm.trans q3
  have hselP : selectMethod e.platform s.vm cellB.cls mk = .method mk := by rw [Launch.admits_selectMethod X.admits]; exact q4
  obtain ⟨vm₁, X₁, hstep₁⟩ := X.invokevirtual hexec hown hlink hnamed hmethM hstM hkP hkPi hy (a := b) (cell := cellB) hcell
    (fun z h => by rw [h] at hobj; cases hobj) hselP hmethM habM hkP hkPi (g := g) hg (argsL := argsL) (rest := rest) (hlen _ hsigM) hstack hdg
  rcases hK m meth c ⟨T.setVm vm₁, locs, cells, slots⟩ { g with stack := rest } (.invokevirtual index) mk (Value.ref b :: argsL).toArray X₁ hg hsize hdg hW (X₁.named hnamed) (hpre vm₁ X₁.warmed) with ⟨v, B, X', hpost, hsteps⟩ | ⟨q, B, X', hpost, hsteps⟩
  · exact Or.inl ⟨v, vm₁, B, X₁.warmed, X', hpost, fun target h => hstep₁ _ fun acts => by rw [doInvoke_state]; exact hsteps.trans h⟩
  · exact Or.inr ⟨q, vm₁, B, X₁.warmed, X', hpost, hstep₁ _ fun acts => by rw [doInvoke_state]; exact hsteps⟩
theorem vx_callSX (X : Stand p l e R s m args below meth c T locs cells slots) (hexec : p.tables.exec = Jvm.exec) {own : String} {index : Nat} {y : MethodName} {bytes : ByteArray} {maxL : Nat} {ret : Option FieldType} {hh : List (Nat × Nat × Nat × Nat)}
    (hown : s.vm.findClass own = some m.cls) (hlink : (Cond.methodLink own index y).before args s = true) (hstat : (Cond.static y).before args s = true) (hinit : (Cond.initialized y.cls).before args s = true)
    (hcode : (Cond.codeWith y bytes maxL ret hh).before args s = true) (hy : y.cls ≠ "java/lang/invoke/MethodHandle" ∧ y.cls ≠ "java/lang/invoke/VarHandle")
    {W9 : Nat} {Pre : Pt → Array Value → Prop} {Post : Pt → Array Value → Option Value → Pt → Prop} {PostX : Pt → Array Value → Addr → Pt → Prop} (hK : vx_Back l R p e below s args y 3 W9 Pre Post PostX)
    {g : JFrame} (hg : g.method = m) (hsize : g.locals.size = c.maxLocals) {argsL rest : List Value} (hlen : ∀ sig, parseMethodDescriptor y.desc = some sig → argsL.length = sig.parameters.length)
    (hstack : g.stack = argsL.reverse ++ rest) (hW : 2 * g.monitorRoom + (rest.map fun v => v.category).sum ≤ W9) (hdg : decode c.code g.pc = .ok (.invokestatic index, 3))
    (hpre : ∀ vm₁, s.WarmedH vm₁ → Pre ⟨T.setVm vm₁, locs, cells, slots⟩ argsL.toArray) :
    (∃ (v : Option Value) (vm₁ : Vm) (B : Pt), s.WarmedH vm₁ ∧ Stand p l e R s m args below meth c B.U B.locs B.cells B.slots ∧ Post ⟨T.setVm vm₁, locs, cells, slots⟩ argsL.toArray v B ∧
      ∀ target, Steps p.tables e below (B.U.setTop { g with pc := g.pc + 3, stack := v.toList ++ rest }) target → Steps p.tables e below (T.setTop g) target) ∨
    (∃ (q : Addr) (vm₁ : Vm) (B : Pt), s.WarmedH vm₁ ∧ Stand p l e R s m args below meth c B.U B.locs B.cells B.slots ∧ PostX ⟨T.setVm vm₁, locs, cells, slots⟩ argsL.toArray q B ∧
      Steps p.tables e below (T.setTop g) ((B.U.setTop { g with stack := rest }).pushFrame (.throwing q))) := by
  obtain ⟨mk, methM, cM, hnamed, hmethM, -, -, -, -, -, -, hsigM⟩ := Cond.codeWith_spec hcode
  have hstatic : methM.isStatic = true := Cond.static_spec hnamed hmethM hstat
  obtain ⟨kP, hkP, -⟩ := className_of_methodNamed hnamed
  have hinitP : kP.init = .initialized := Cond.initialized_spec (findClass_of_methodNamed hnamed) hkP hinit
  obtain ⟨vm₁, X₁, hstep₁⟩ := X.invokestatic hexec hown hlink hnamed hmethM hstatic hkP hinitP hy (g := g) hg (argsL := argsL) (rest := rest) (hlen _ hsigM) hstack hdg
  rcases hK m meth c ⟨T.setVm vm₁, locs, cells, slots⟩ { g with stack := rest } (.invokestatic index) mk argsL.toArray X₁ hg hsize hdg hW (X₁.named hnamed) (hpre vm₁ X₁.warmed) with ⟨v, B, X', hpost, hsteps⟩ | ⟨q, B, X', hpost, hsteps⟩
  · exact Or.inl ⟨v, vm₁, B, X₁.warmed, X', hpost, fun target h => hstep₁ _ fun acts => by rw [doInvoke_state]; exact hsteps.trans h⟩
  · exact Or.inr ⟨q, vm₁, B, X₁.warmed, X', hpost, hstep₁ _ fun acts => by rw [doInvoke_state]; exact hsteps⟩
theorem vx_callVW (X : Stand p l e R s m args below meth c T locs cells slots) (hexec : p.tables.exec = Jvm.exec) {own C : String} {index : Nat} {y : MethodName} {bytes : ByteArray} {maxL : Nat} {ret : Option FieldType} {hh : List (Nat × Nat × Nat × Nat)}
    (hown : s.vm.findClass own = some m.cls) (hlink : (Cond.methodLink own index y).before args s = true) (hinst : (Cond.instanceMethod y).before args s = true) (hsel : (Cond.selects C y y).before args s = true)
    (hcode : (Cond.codeWith y bytes maxL ret hh).before args s = true) (hy : y.cls ≠ "java/lang/invoke/MethodHandle" ∧ y.cls ≠ "java/lang/invoke/VarHandle")
    {W9 : Nat} {Pre : Pt → Array Value → Prop} {Post : Pt → Array Value → Option Value → Pt → Prop} (hK : Back l R p e below s args y 3 W9 Pre Post)
    {b : Addr} {cellB : Cell} (hcell : T.heap[b]? = some cellB) (hobj : cellB.vm.isStatics = false) (hcls : s.vm.findClass C = some cellB.cls)
    {g : JFrame} (hg : g.method = m) (hsize : g.locals.size = c.maxLocals) {argsL rest : List Value} (hlen : ∀ sig, parseMethodDescriptor y.desc = some sig → argsL.length = sig.parameters.length)
    (hstack : g.stack = argsL.reverse ++ .ref b :: rest) (hW : 2 * g.monitorRoom + (rest.map fun v => v.category).sum ≤ W9) (hdg : decode c.code g.pc = .ok (.invokevirtual index, 3))
    (hpre : ∀ vm₁, s.WarmedH vm₁ → Pre ⟨T.setVm vm₁, locs, cells, slots⟩ (Value.ref b :: argsL).toArray) :
    ∃ (v : Option Value) (vm₁ : Vm) (B : Pt), s.WarmedH vm₁ ∧ Stand p l e R s m args below meth c B.U B.locs B.cells B.slots ∧ Post ⟨T.setVm vm₁, locs, cells, slots⟩ (Value.ref b :: argsL).toArray v B ∧
      ∀ target, Steps p.tables e below (B.U.setTop { g with pc := g.pc + 3, stack := v.toList ++ rest }) target → Steps p.tables e below (T.setTop g) target := by
  obtain ⟨mk, methM, hnamed, hmethM, hstM, habM⟩ := Cond.instanceMethod_spec hinst
  obtain ⟨m8, methM', cM, hn8, hmethM', -, -, -, -, -, -, hsigM⟩ := Cond.codeWith_spec hcode
  cases Option.some.inj (hn8.symm.trans hnamed)
  cases hmethM.symm.trans hmethM'
  obtain ⟨c2, r2, m2, q1, q2, q3, q4, kP, hkP, hkPi⟩ := Cond.selects_spec hsel
  cases hcls.symm.trans q1
  cases (State.methodFound?_of_named hnamed hy).symm.trans q2
  cases hnamed.symm.trans q3
  have hselP : selectMethod e.platform s.vm cellB.cls mk = .method mk := by rw [Launch.admits_selectMethod X.admits]; exact q4
  obtain ⟨vm₁, X₁, hstep₁⟩ := X.invokevirtual hexec hown hlink hnamed hmethM hstM hkP hkPi hy (a := b) (cell := cellB) hcell
    (fun z h => by rw [h] at hobj; cases hobj) hselP hmethM habM hkP hkPi (g := g) hg (argsL := argsL) (rest := rest) (hlen _ hsigM) hstack hdg
  obtain ⟨v, B, X', hpost, hsteps⟩ := hK m meth c ⟨T.setVm vm₁, locs, cells, slots⟩ { g with stack := rest } (.invokevirtual index) mk (Value.ref b :: argsL).toArray X₁ hg hsize hdg hW (X₁.named hnamed) (hpre vm₁ X₁.warmed)
  exact ⟨v, vm₁, B, X₁.warmed, X', hpost, fun target h => hstep₁ _ fun acts => by rw [doInvoke_state]; exact hsteps.trans h⟩
abbrev vx_CVW (R : Room) (s : State) (args : Array Value) (own C : String) (index : Nat) (y : MethodName) (bytes : ByteArray) (maxL : Nat) (ret : Option FieldType) (hh : List (Nat × Nat × Nat × Nat)) (ws : List Cond) (rm : Room) (mc ms n : Nat) : Prop :=
  (rm.cells = mc ∧ rm.slots = ms ∧ rm.frames + 1 ≤ R.frames ∧ 8 + (maxL + 11) + rm.locals ≤ R.locals ∧ (∀ w ∈ ws, ∀ (a' : Array Value) (U : State), s.WarmedH U.vm → w.before a' U = true) ∧ Cond.codeWith y bytes maxL ret hh ∈ ws) ∧
  (Cond.codeWith y bytes maxL ret hh).before args s = true ∧ (Cond.initialized y.cls).before args s = true ∧ (y.cls ≠ "java/lang/invoke/MethodHandle" ∧ y.cls ≠ "java/lang/invoke/VarHandle") ∧
  (∀ sig, parseMethodDescriptor y.desc = some sig → n = sig.parameters.length) ∧ (Cond.methodLink own index y).before args s = true ∧ (Cond.instanceMethod y).before args s = true ∧ (Cond.selects C y y).before args s = true
theorem vx_cwVW {own C : String} {index maxL mc ms : Nat} {y : MethodName} {bytes : ByteArray} {ret : Option FieldType} {hh : List (Nat × Nat × Nat × Nat)} {Ts ws ws' : List Cond} {rm : Room} (n : Nat) (ht : ∀ w ∈ Ts, w.before args s = true) (hT : GoodIn Ts (wsV own index C y ws)) (hw : ws = Cond.codeWith y bytes maxL ret hh :: ws') (hrc : rm.cells = mc) (hrs : rm.slots = ms)
    (hd : y.cls = C ∧ y.cls ≠ "java/lang/invoke/MethodHandle" ∧ y.cls ≠ "java/lang/invoke/VarHandle" ∧ (parseMethodDescriptor y.desc).map (fun d => d.parameters.length) = some n) (hR : rm.frames + 1 ≤ R.frames ∧ 8 + (maxL + 11) + rm.locals ≤ R.locals) :
    vx_CVW R s args own C index y bytes maxL ret hh ws rm mc ms n := by
  obtain ⟨hC, hd⟩ := hd
  subst hC
  have ok : ∀ w ∈ wsV own index y.cls y ws, w.before args s = true := fun w h => ht w (hT w h).1
  have hG : GoodIn Ts ws := fun w h => hT w (by unfold wsV; exact List.mem_append_right _ h)
  have hc : Cond.codeWith y bytes maxL ret hh ∈ ws := by rw [hw]; exact List.mem_cons_self
  refine ⟨⟨hrc, hrs, hR.1, hR.2, pay_in ht hG, hc⟩, ht _ (hG _ hc).1, ok _ (by simp [wsV]), ⟨hd.1, hd.2.1⟩, fun sig h => ?_, ok _ (by simp [wsV]), ok _ (by simp [wsV]), ok _ (by simp [wsV])⟩
  have h2 := hd.2.2
  rw [h] at h2
  exact (Option.some.inj h2).symm
theorem vx_runVW {y : MethodName} {bytes cc : ByteArray} {maxL nL mc ms n index : Nat} {ret : Option FieldType} {hh : List (Nat × Nat × Nat × Nat)} {ws : List Cond} {rm : Room} {Pc : Array Value → State → Prop} {Qc : Array Value → State → Outcome → State → Prop} {free : Addr → Prop} {Ts : List Cond} {own C : String} {b : Addr} {As rest : List Value} {g : JFrame}
    (S : CallFix p m c cc nL s args Ts own) (hM : Met l y ws rm Pc Qc mc ms free) (cw : vx_CVW R s args own C index y bytes maxL ret hh ws rm mc ms n) (hp : PreV s H C b Pc As)
    (hg : g.method = m) (hn : As.length = n) (hsize : g.locals.size = nL) (hstack : g.stack = As.reverse ++ .ref b :: rest) (hW : 2 * g.monitorRoom + (rest.map fun v => v.category).sum ≤ 8) (hdg : decode cc g.pc = .ok (.invokevirtual index, 3)) (hf : cells + mc ≤ R.cells ∧ slots + ms ≤ R.slots) :
    va_Run p l e R s m args below meth c H locs cells slots mc ms g rest (Qc (Value.ref b :: As).toArray) free := by
  obtain ⟨⟨hrc, hrs, hfr, hlo, hws, hcw⟩, hcode, hini, hy, hlen, hl, hin, hse⟩ := cw
  have hK : Back l R p e below s args y 3 8 (PreOf R mc ms Pc) (PostOf Qc mc ms free) := va_backW (hh := hh) (bytes := bytes) (maxL := maxL) (ret := ret) hM hp.1 hrc hrs hfr hlo hws hcw (fun a' U hW => word_at hW (Or.inl (by first | rfl | simp [Cond.onTables, Cond.keeps, Cond.steady])) hini)
  obtain ⟨hx, hb, hml, ho, -⟩ := S
  obtain ⟨-, ⟨cellB, hcB, hoB, hclB⟩, hPc⟩ := hp
  intro T hT X
  obtain ⟨v, vm₁, ⟨U', l2, c2, s2⟩, hW₁, X', ⟨g', mk, t, L, e1, e2, hq, h1, hL, h2, h3⟩, st⟩ := vx_callVW X hx (C := C) (hh := hh) (bytes := bytes) (maxL := maxL) (ret := ret) ho hl hin hse hcode hy hK (by rw [hT]; exact hcB) hoB hclB hg (hsize.trans hml.symm) (argsL := As) (rest := rest) (fun sig h => hn.trans (hlen sig h)) hstack hW (by rw [hb]; exact hdg)
    (fun vm₁ hW₁ => ⟨hf.1, hf.2, hPc (T.setVm vm₁) hT hW₁⟩)
  dsimp only [Pt.U, Pt.locs, Pt.cells, Pt.slots] at X' e1 e2 h1 h2 h3 st
  subst h1; subst h2; subst h3
  exact ⟨v, (T.setVm vm₁).calling g' mk (Value.ref b :: As).toArray, t, U', L, hT, X', hL, e1, e2, hq, st⟩
section
variable {y : MethodName} {bytes cc : ByteArray} {maxL nL mc ms n index : Nat} {ret : Option FieldType} {ws : List Cond} {rm : Room} {Pc : Array Value → State → Prop} {Qc : Array Value → State → Outcome → State → Prop} {XC : String → State → State → Prop} {free : Addr → Prop} {Ts : List Cond} {own C : String} {b : Addr} {As rest : List Value} {g : JFrame}
theorem vx_runVX {hh : List (Nat × Nat × Nat × Nat)} (S : CallFix p m c cc nL s args Ts own) (hM : vx_Met l y ws rm Pc Qc XC mc ms free) (cw : vx_CVW R s args own C index y bytes maxL ret hh ws rm mc ms n) (hp : PreV s H C b Pc As)
    (hg : g.method = m) (hn : As.length = n) (hsize : g.locals.size = nL) (hstack : g.stack = As.reverse ++ .ref b :: rest) (hW : 2 * g.monitorRoom + (rest.map fun v => v.category).sum ≤ 8) (hdg : decode cc g.pc = .ok (.invokevirtual index, 3)) (hf : cells + mc ≤ R.cells ∧ slots + ms ≤ R.slots) :
    vx_Run p l e R s m args below meth c H locs cells slots mc ms g rest (Qc (Value.ref b :: As).toArray) XC free := by
  obtain ⟨⟨hrc, hrs, hfr, hlo, hws, hcw⟩, hcode, hini, hy, hlen, hl, hin, hse⟩ := cw
  have hK : vx_Back l R p e below s args y 3 8 (PreOf R mc ms Pc) (PostOf Qc mc ms free) (vx_Post XC mc ms free) := vx_backW (hh := hh) (bytes := bytes) (maxL := maxL) (ret := ret) hM hp.1 hrc hrs hfr hlo hws hcw (fun a' U hW => word_at hW (Or.inl (by first | rfl | simp [Cond.onTables, Cond.keeps, Cond.steady])) hini)
  obtain ⟨hx, hb, hml, ho, -⟩ := S
  obtain ⟨-, ⟨cellB, hcB, hoB, hclB⟩, hPc⟩ := hp
  intro T hT X
  rcases vx_callVX X hx (C := C) (hh := hh) (bytes := bytes) (maxL := maxL) (ret := ret) ho hl hin hse hcode hy hK (by rw [hT]; exact hcB) hoB hclB hg (hsize.trans hml.symm) (argsL := As) (rest := rest) (fun sig h => hn.trans (hlen sig h)) hstack hW (by rw [hb]; exact hdg)
    (fun vm₁ hW₁ => ⟨hf.1, hf.2, hPc (T.setVm vm₁) hT hW₁⟩) with ⟨v, vm₁, ⟨U', l2, c2, s2⟩, hW₁, X', ⟨g', mk, t, L, e1, e2, hq, h1, hL, h2, h3⟩, st⟩ | ⟨q, vm₁, ⟨U', l2, c2, s2⟩, hW₁, X', ⟨g', mk, t, L, E, ce, e1, e2, hq, hce, hcv, hcl, h1, hL, h2, h3⟩, st⟩
  · dsimp only [Pt.U, Pt.locs, Pt.cells, Pt.slots] at X' e1 e2 h1 h2 h3 st
    subst h1; subst h2; subst h3
    exact Or.inl ⟨v, (T.setVm vm₁).calling g' mk (Value.ref b :: As).toArray, t, U', L, hT, X', hL, e1, e2, hq, st⟩
  · dsimp only [Pt.U, Pt.locs, Pt.cells, Pt.slots] at X' e1 e2 h1 h2 h3 st hcl
    subst h1; subst h2; subst h3
    exact Or.inr ⟨q, (T.setVm vm₁).calling g' mk (Value.ref b :: As).toArray, t, U', L, E, ce, hT, X', hL, e1, e2, hq, hce, hcv, vx_cls hW₁ hcl, st⟩
theorem vx_runSX {hh : List (Nat × Nat × Nat × Nat)} (S : CallFix p m c cc nL s args Ts own) (hM : vx_Met l y ws rm Pc Qc XC mc ms free) (cw : vx_CSW R s args own index y bytes maxL ret hh ws rm mc ms n) (hp : PreS s H Pc As)
    (hg : g.method = m) (hn : As.length = n) (hsize : g.locals.size = nL) (hstack : g.stack = As.reverse ++ rest) (hW : 2 * g.monitorRoom + (rest.map fun v => v.category).sum ≤ 8) (hdg : decode cc g.pc = .ok (.invokestatic index, 3)) (hf : cells + mc ≤ R.cells ∧ slots + ms ≤ R.slots) :
    vx_Run p l e R s m args below meth c H locs cells slots mc ms g rest (Qc As.toArray) XC free := by
  obtain ⟨⟨hrc, hrs, hfr, hlo, hws, hcw⟩, hcode, hini, hy, hlen, hl, hstt⟩ := cw
  have hK : vx_Back l R p e below s args y 3 8 (PreOf R mc ms Pc) (PostOf Qc mc ms free) (vx_Post XC mc ms free) := vx_backW (hh := hh) (bytes := bytes) (maxL := maxL) (ret := ret) hM hp.1 hrc hrs hfr hlo hws hcw (fun a' U hW => word_at hW (Or.inl (by first | rfl | simp [Cond.onTables, Cond.keeps, Cond.steady])) hini)
  obtain ⟨hx, hb, hml, ho, -⟩ := S
  intro T hT X
  rcases vx_callSX X hx (hh := hh) (bytes := bytes) (maxL := maxL) (ret := ret) ho hl hstt hini hcode hy hK hg (hsize.trans hml.symm) (argsL := As) (rest := rest) (fun sig h => hn.trans (hlen sig h)) hstack hW (by rw [hb]; exact hdg)
    (fun vm₁ hW₁ => ⟨hf.1, hf.2, hp.2 (T.setVm vm₁) hT hW₁⟩) with ⟨v, vm₁, ⟨U', l2, c2, s2⟩, hW₁, X', ⟨g', mk, t, L, e1, e2, hq, h1, hL, h2, h3⟩, st⟩ | ⟨q, vm₁, ⟨U', l2, c2, s2⟩, hW₁, X', ⟨g', mk, t, L, E, ce, e1, e2, hq, hce, hcv, hcl, h1, hL, h2, h3⟩, st⟩
  · dsimp only [Pt.U, Pt.locs, Pt.cells, Pt.slots] at X' e1 e2 h1 h2 h3 st
    subst h1; subst h2; subst h3
    exact Or.inl ⟨v, (T.setVm vm₁).calling g' mk As.toArray, t, U', L, hT, X', hL, e1, e2, hq, st⟩
  · dsimp only [Pt.U, Pt.locs, Pt.cells, Pt.slots] at X' e1 e2 h1 h2 h3 st hcl
    subst h1; subst h2; subst h3
    exact Or.inr ⟨q, (T.setVm vm₁).calling g' mk As.toArray, t, U', L, E, ce, hT, X', hL, e1, e2, hq, hce, hcv, vx_cls hW₁ hcl, st⟩
end
end VXH
theorem vx_ofWH {l : Launch} {y : MethodName} {ws ws' : List Cond} {rm : Room} {Pc : Array Value → State → Prop} {Qc : Array Value → State → Outcome → State → Prop} {XC : String → State → State → Prop} {mc ms : Nat} {free : Addr → Prop} {cc : ByteArray} {maxL : Nat} {ret : Option FieldType} {hh : List (Nat × Nat × Nat × Nat)}
    (hy : plainName y.cls = true) (hw : ws = Cond.codeWith y cc maxL ret hh :: ws')
    (body : ∀ p e s m args below meth c s₁, BodyLoose p l y (headSpec ws rm) cc maxL ret e s m args below meth c s₁ → c.maxLocals = maxL → Pc args s →
      W p l e (headSpec ws rm).room s m args below meth c s.heap [] 0 0 (vx_MQ below Qc XC args s mc ms free) (entryFrame m args maxL)) : vx_Met l y ws rm Pc Qc XC mc ms free := by
  refine MetFree.of_bodyS (code := cc) (maxLocals := maxL) (ret := ret) hy ?_ ?_
  · intro args s m h hn
    obtain ⟨m9, meth, c, hn9, h1, h2, h3, h4, -, h5, h6, -⟩ := Cond.codeWith_spec (atoms_spec (ws := ws) h _ (by rw [hw]; exact List.mem_cons_self))
    cases hn.symm.trans hn9
    exact ⟨meth, c, h1, h2, h3, h4, h5, h6⟩
  · intro p e s m args below meth c s₁ B hml hP _
    have hh0 : s₁.heap = s.heap := by rw [B.state]; rfl
    obtain ⟨t, a1, o, b1, b2, b3⟩ := body p e s m args below meth c s₁ B hml hP s₁ hh0 (Stand.of_body B)
    exact ⟨t, o, a1, b1, b2, b3⟩
/-! ===== END ===== -/

/-! ===== BEGIN printed: names, fields, word lists, decode rows ===== -/
def RX0 : String := "SnoringDukes$WeakHeap"
def TX0 : u_T := fun k => match k with
  | 0 => ("SnoringDukes$WeakHeap", "duke", "[I", true)
  | 1 => ("SnoringDukes$WeakHeap", "loudness", "[I", true)
  | 2 => ("SnoringDukes$WeakHeap", "side", "[I", true)
  | 3 => ("SnoringDukes$WeakHeap", "size", "I", false)
  | 4 => ("SnoringDukes$WeakHeap", "compared", "I", false)
  | _ => ("SnoringDukes$WeakHeap", "changed", "I", false)
def tyX0 : Nat → FieldType := fun k => match k with
  | 0 => .array .int
  | 1 => .array .int
  | 2 => .array .int
  | 3 => .int
  | 4 => .int
  | _ => .int
abbrev wsX00 : List Cond := u_ws RX0 TX0 6
theorem nmX0 : ∀ a, a < 6 → ∀ b, b < 6 → a ≠ b → (TX0 a).2.1 ≠ (TX0 b).2.1 := by decide +kernel
theorem tyX0_ok : ∀ k, k < 6 → parseFieldDescriptor (TX0 k).2.2.1 = some (tyX0 k) := by decide +kernel
abbrev cX0_init : ByteArray := prog_2_method_1_code
def yX0_init : MethodName := ⟨RX0, "<init>", "()V"⟩
abbrev cX0_has : ByteArray := prog_2_method_2_code
def yX0_has : MethodName := ⟨RX0, "has", "(I)Z"⟩
abbrev cX0_dukeAt : ByteArray := prog_2_method_3_code
def yX0_dukeAt : MethodName := ⟨RX0, "dukeAt", "(I)I"⟩
abbrev cX0_loudnessAt : ByteArray := prog_2_method_4_code
def yX0_loudnessAt : MethodName := ⟨RX0, "loudnessAt", "(I)I"⟩
abbrev cX0_sideAt : ByteArray := prog_2_method_5_code
def yX0_sideAt : MethodName := ⟨RX0, "sideAt", "(I)I"⟩
abbrev cX0_find : ByteArray := prog_2_method_6_code
def yX0_find : MethodName := ⟨RX0, "find", "(I)I"⟩
abbrev cX0_left : ByteArray := prog_2_method_7_code
def yX0_left : MethodName := ⟨RX0, "left", "(I)I"⟩
abbrev cX0_elder : ByteArray := prog_2_method_8_code
def yX0_elder : MethodName := ⟨RX0, "elder", "(I)I"⟩
abbrev cX0_countFollowers : ByteArray := prog_2_method_9_code
def yX0_countFollowers : MethodName := ⟨RX0, "countFollowers", "(I)I"⟩
abbrev cX0_countFlipped : ByteArray := prog_2_method_10_code
def yX0_countFlipped : MethodName := ⟨RX0, "countFlipped", "()I"⟩
abbrev cX0_countBelow : ByteArray := prog_2_method_11_code
def yX0_countBelow : MethodName := ⟨RX0, "countBelow", "(I)I"⟩
abbrev cX0_lay : ByteArray := prog_2_method_12_code
def yX0_lay : MethodName := ⟨RX0, "lay", "(II)V"⟩
abbrev cX0_insert : ByteArray := prog_2_method_13_code
def yX0_insert : MethodName := ⟨RX0, "insert", "(II)V"⟩
abbrev cX0_joinAll : ByteArray := prog_2_method_14_code
def yX0_joinAll : MethodName := ⟨RX0, "joinAll", "()V"⟩
abbrev cX0_quieten : ByteArray := prog_2_method_15_code
def yX0_quieten : MethodName := ⟨RX0, "quieten", "(II)I"⟩
abbrev cX0_removeTop : ByteArray := prog_2_method_16_code
def yX0_removeTop : MethodName := ⟨RX0, "removeTop", "()I"⟩
abbrev cX0_removeTops : ByteArray := prog_2_method_17_code
def yX0_removeTops : MethodName := ⟨RX0, "removeTops", "(I)V"⟩
abbrev cX0_copyFrom : ByteArray := prog_2_method_18_code
def yX0_copyFrom : MethodName := ⟨RX0, "copyFrom", "(LSnoringDukes$WeakHeap;)V"⟩
abbrev cX0_rise : ByteArray := prog_2_method_19_code
def yX0_rise : MethodName := ⟨RX0, "rise", "(I)I"⟩
abbrev cX0_joinTop : ByteArray := prog_2_method_20_code
def yX0_joinTop : MethodName := ⟨RX0, "joinTop", "()V"⟩
abbrev cX0_join : ByteArray := prog_2_method_21_code
def yX0_join : MethodName := ⟨RX0, "join", "(II)Z"⟩
abbrev cX0_exchange : ByteArray := prog_2_method_22_code
def yX0_exchange : MethodName := ⟨RX0, "exchange", "(II)V"⟩
def RX1 : String := "SnoringDukes"
def TX1 : u_T := fun k => match k with
  | 0 => ("SnoringDukes", "heap", "LSnoringDukes$WeakHeap;", true)
  | 1 => ("SnoringDukes", "trial", "LSnoringDukes$WeakHeap;", true)
  | _ => ("SnoringDukes", "numbered", "I", false)
def tyX1 : Nat → FieldType := fun k => match k with
  | 0 => .object "SnoringDukes$WeakHeap"
  | 1 => .object "SnoringDukes$WeakHeap"
  | _ => .int
abbrev wsX10 : List Cond := u_ws RX1 TX1 3
theorem nmX1 : ∀ a, a < 3 → ∀ b, b < 3 → a ≠ b → (TX1 a).2.1 ≠ (TX1 b).2.1 := by decide +kernel
theorem tyX1_ok : ∀ k, k < 3 → parseFieldDescriptor (TX1 k).2.2.1 = some (tyX1 k) := by decide +kernel
abbrev cX1_init : ByteArray := prog_1_method_1_code
def yX1_init : MethodName := ⟨RX1, "<init>", "()V"⟩
abbrev cX1_come : ByteArray := prog_1_method_2_code
def yX1_come : MethodName := ⟨RX1, "come", "(I)I"⟩
abbrev cX1_coach : ByteArray := prog_1_method_3_code
def yX1_coach : MethodName := ⟨RX1, "coach", "(III)I"⟩
abbrev cX1_leave : ByteArray := prog_1_method_4_code
def yX1_leave : MethodName := ⟨RX1, "leave", "()I"⟩
abbrev cX1_hush : ByteArray := prog_1_method_5_code
def yX1_hush : MethodName := ⟨RX1, "hush", "(II)I"⟩
abbrev cX1_fetch : ByteArray := prog_1_method_6_code
def yX1_fetch : MethodName := ⟨RX1, "fetch", "(I)I"⟩
abbrev cX1_dukes : ByteArray := prog_1_method_7_code
def yX1_dukes : MethodName := ⟨RX1, "dukes", "()I"⟩
abbrev cX1_quietest : ByteArray := prog_1_method_8_code
def yX1_quietest : MethodName := ⟨RX1, "quietest", "()I"⟩
abbrev cX1_berthOf : ByteArray := prog_1_method_9_code
def yX1_berthOf : MethodName := ⟨RX1, "berthOf", "(I)I"⟩
abbrev cX1_dukeIn : ByteArray := prog_1_method_10_code
def yX1_dukeIn : MethodName := ⟨RX1, "dukeIn", "(I)I"⟩
abbrev cX1_loudnessIn : ByteArray := prog_1_method_11_code
def yX1_loudnessIn : MethodName := ⟨RX1, "loudnessIn", "(I)I"⟩
abbrev cX1_sideOf : ByteArray := prog_1_method_12_code
def yX1_sideOf : MethodName := ⟨RX1, "sideOf", "(I)I"⟩
abbrev cX1_elderOf : ByteArray := prog_1_method_13_code
def yX1_elderOf : MethodName := ⟨RX1, "elderOf", "(I)I"⟩
abbrev cX1_followersOf : ByteArray := prog_1_method_14_code
def yX1_followersOf : MethodName := ⟨RX1, "followersOf", "(I)I"⟩
abbrev cX1_flipped : ByteArray := prog_1_method_15_code
def yX1_flipped : MethodName := ⟨RX1, "flipped", "()I"⟩
abbrev cX1_comparisons : ByteArray := prog_1_method_16_code
def yX1_comparisons : MethodName := ⟨RX1, "comparisons", "()I"⟩
abbrev cX1_changes : ByteArray := prog_1_method_17_code
def yX1_changes : MethodName := ⟨RX1, "changes", "()I"⟩
abbrev cX1_comparisonsToEmpty : ByteArray := prog_1_method_18_code
def yX1_comparisonsToEmpty : MethodName := ⟨RX1, "comparisonsToEmpty", "()I"⟩
abbrev cX1_leavesAt : ByteArray := prog_1_method_19_code
def yX1_leavesAt : MethodName := ⟨RX1, "leavesAt", "(I)I"⟩
abbrev cX1_quieterThan : ByteArray := prog_1_method_20_code
def yX1_quieterThan : MethodName := ⟨RX1, "quieterThan", "(I)I"⟩
abbrev cX1_isUpToLoudest : ByteArray := prog_1_method_21_code
def yX1_isUpToLoudest : MethodName := ⟨RX1, "isUpToLoudest", "(I)Z"⟩
abbrev cX1_hasRoomFor : ByteArray := prog_1_method_22_code
def yX1_hasRoomFor : MethodName := ⟨RX1, "hasRoomFor", "(I)Z"⟩
abbrev cX1_refuseUnlessBerth : ByteArray := prog_1_method_23_code
def yX1_refuseUnlessBerth : MethodName := ⟨RX1, "refuseUnlessBerth", "(I)V"⟩
def RX2 : String := "SnoringDukesModel"
def TX2 : u_T := fun k => match k with
  | 0 => ("SnoringDukesModel", "many", "I", false)
  | 1 => ("SnoringDukesModel", "came", "I", false)
  | 2 => ("SnoringDukesModel", "compared", "I", false)
  | 3 => ("SnoringDukesModel", "changed", "I", false)
  | 4 => ("SnoringDukesModel", "loud", "[I", true)
  | 5 => ("SnoringDukesModel", "lies", "[I", true)
  | 6 => ("SnoringDukesModel", "side", "[I", true)
  | 7 => ("SnoringDukesModel", "shadow", "[I", true)
  | 8 => ("SnoringDukesModel", "shade", "[I", true)
  | _ => ("SnoringDukesModel", "thrown", "I", false)
def tyX2 : Nat → FieldType := fun k => match k with
  | 0 => .int
  | 1 => .int
  | 2 => .int
  | 3 => .int
  | 4 => .array .int
  | 5 => .array .int
  | 6 => .array .int
  | 7 => .array .int
  | 8 => .array .int
  | _ => .int
abbrev wsX20 : List Cond := u_ws RX2 TX2 10
theorem nmX2 : ∀ a, a < 10 → ∀ b, b < 10 → a ≠ b → (TX2 a).2.1 ≠ (TX2 b).2.1 := by decide +kernel
theorem tyX2_ok : ∀ k, k < 10 → parseFieldDescriptor (TX2 k).2.2.1 = some (tyX2 k) := by decide +kernel
abbrev cX2_init : ByteArray := prog_4_method_1_code
def yX2_init : MethodName := ⟨RX2, "<init>", "()V"⟩
abbrev cX2_thrown : ByteArray := prog_4_method_2_code
def yX2_thrown : MethodName := ⟨RX2, "thrown", "()I"⟩
abbrev cX2_isOf : ByteArray := prog_4_method_3_code
def yX2_isOf : MethodName := ⟨RX2, "isOf", "(III)Z"⟩
abbrev cX2_find : ByteArray := prog_4_method_4_code
def yX2_find : MethodName := ⟨RX2, "find", "(I)I"⟩
abbrev cX2_left : ByteArray := prog_4_method_5_code
def yX2_left : MethodName := ⟨RX2, "left", "(I)I"⟩
abbrev cX2_elder : ByteArray := prog_4_method_6_code
def yX2_elder : MethodName := ⟨RX2, "elder", "(I)I"⟩
abbrev cX2_joins : ByteArray := prog_4_method_7_code
def yX2_joins : MethodName := ⟨RX2, "joins", "(IIZ)Z"⟩
abbrev cX2_rises : ByteArray := prog_4_method_8_code
def yX2_rises : MethodName := ⟨RX2, "rises", "(IZ)I"⟩
abbrev cX2_leaves : ByteArray := prog_4_method_9_code
def yX2_leaves : MethodName := ⟨RX2, "leaves", "()I"⟩
abbrev cX2_lays : ByteArray := prog_4_method_10_code
def yX2_lays : MethodName := ⟨RX2, "lays", "(I)V"⟩
abbrev cX2_come : ByteArray := prog_4_method_11_code
def yX2_come : MethodName := ⟨RX2, "come", "(I)I"⟩
abbrev cX2_coach : ByteArray := prog_4_method_12_code
def yX2_coach : MethodName := ⟨RX2, "coach", "(III)I"⟩
abbrev cX2_leave : ByteArray := prog_4_method_13_code
def yX2_leave : MethodName := ⟨RX2, "leave", "()I"⟩
abbrev cX2_hush : ByteArray := prog_4_method_14_code
def yX2_hush : MethodName := ⟨RX2, "hush", "(II)I"⟩
abbrev cX2_fetch : ByteArray := prog_4_method_15_code
def yX2_fetch : MethodName := ⟨RX2, "fetch", "(I)I"⟩
abbrev cX2_dukes : ByteArray := prog_4_method_16_code
def yX2_dukes : MethodName := ⟨RX2, "dukes", "()I"⟩
abbrev cX2_quietest : ByteArray := prog_4_method_17_code
def yX2_quietest : MethodName := ⟨RX2, "quietest", "()I"⟩
abbrev cX2_berthOf : ByteArray := prog_4_method_18_code
def yX2_berthOf : MethodName := ⟨RX2, "berthOf", "(I)I"⟩
abbrev cX2_isBerth : ByteArray := prog_4_method_19_code
def yX2_isBerth : MethodName := ⟨RX2, "isBerth", "(I)Z"⟩
abbrev cX2_dukeIn : ByteArray := prog_4_method_20_code
def yX2_dukeIn : MethodName := ⟨RX2, "dukeIn", "(I)I"⟩
abbrev cX2_loudnessIn : ByteArray := prog_4_method_21_code
def yX2_loudnessIn : MethodName := ⟨RX2, "loudnessIn", "(I)I"⟩
abbrev cX2_sideOf : ByteArray := prog_4_method_22_code
def yX2_sideOf : MethodName := ⟨RX2, "sideOf", "(I)I"⟩
abbrev cX2_elderOf : ByteArray := prog_4_method_23_code
def yX2_elderOf : MethodName := ⟨RX2, "elderOf", "(I)I"⟩
abbrev cX2_followersOf : ByteArray := prog_4_method_24_code
def yX2_followersOf : MethodName := ⟨RX2, "followersOf", "(I)I"⟩
abbrev cX2_flipped : ByteArray := prog_4_method_25_code
def yX2_flipped : MethodName := ⟨RX2, "flipped", "()I"⟩
abbrev cX2_comparisons : ByteArray := prog_4_method_26_code
def yX2_comparisons : MethodName := ⟨RX2, "comparisons", "()I"⟩
abbrev cX2_changes : ByteArray := prog_4_method_27_code
def yX2_changes : MethodName := ⟨RX2, "changes", "()I"⟩
abbrev cX2_thought : ByteArray := prog_4_method_28_code
def yX2_thought : MethodName := ⟨RX2, "thought", "(IZ)I"⟩
abbrev cX2_comparisonsToEmpty : ByteArray := prog_4_method_29_code
def yX2_comparisonsToEmpty : MethodName := ⟨RX2, "comparisonsToEmpty", "()I"⟩
abbrev cX2_leavesAt : ByteArray := prog_4_method_30_code
def yX2_leavesAt : MethodName := ⟨RX2, "leavesAt", "(I)I"⟩
abbrev cX2_quieterThan : ByteArray := prog_4_method_31_code
def yX2_quieterThan : MethodName := ⟨RX2, "quieterThan", "(I)I"⟩
def RJ13 : String := "java/lang/Long"
def TJ13 : u_T := fun k => match k with
  | _ => ("", "", "", false)
def tyJ13 : Nat → FieldType := fun k => match k with
  | _ => .int
abbrev wsJ130 : List Cond := u_ws RJ13 TJ13 0
theorem nmJ13 : ∀ a, a < 0 → ∀ b, b < 0 → a ≠ b → (TJ13 a).2.1 ≠ (TJ13 b).2.1 := by decide +kernel
theorem tyJ13_ok : ∀ k, k < 0 → parseFieldDescriptor (TJ13 k).2.2.1 = some (tyJ13 k) := by decide +kernel
abbrev cJ13_bitCount_95d88 : ByteArray := prog_9_method_50_code
def yJ13_bitCount_95d88 : MethodName := ⟨RJ13, "bitCount", "(J)I"⟩
def RJ0 : String := "java/lang/String"
def TJ0 : u_T := fun k => match k with
  | _ => ("", "", "", false)
def tyJ0 : Nat → FieldType := fun k => match k with
  | _ => .int
abbrev wsJ00 : List Cond := u_ws RJ0 TJ0 0
theorem nmJ0 : ∀ a, a < 0 → ∀ b, b < 0 → a ≠ b → (TJ0 a).2.1 ≠ (TJ0 b).2.1 := by decide +kernel
theorem tyJ0_ok : ∀ k, k < 0 → parseFieldDescriptor (TJ0 k).2.2.1 = some (tyJ0 k) := by decide +kernel
def RL : String := "SnoringDukesLaw"
abbrev cL_come : ByteArray := method_3_code
def yL_come : MethodName := ⟨RL, "come", "(LSnoringDukes;I[J)I"⟩
abbrev cL_coach : ByteArray := method_4_code
def yL_coach : MethodName := ⟨RL, "coach", "(LSnoringDukes;III[J)I"⟩
abbrev cL_leave : ByteArray := method_5_code
def yL_leave : MethodName := ⟨RL, "leave", "(LSnoringDukes;[J)I"⟩
abbrev cL_hush : ByteArray := method_6_code
def yL_hush : MethodName := ⟨RL, "hush", "(LSnoringDukes;II[J)I"⟩
abbrev cL_fetch : ByteArray := method_7_code
def yL_fetch : MethodName := ⟨RL, "fetch", "(LSnoringDukes;I[J)I"⟩
abbrev cL_dukeIn : ByteArray := method_8_code
def yL_dukeIn : MethodName := ⟨RL, "dukeIn", "(LSnoringDukes;I[J)I"⟩
abbrev cL_loudnessIn : ByteArray := method_9_code
def yL_loudnessIn : MethodName := ⟨RL, "loudnessIn", "(LSnoringDukes;I[J)I"⟩
abbrev cL_sideOf : ByteArray := method_10_code
def yL_sideOf : MethodName := ⟨RL, "sideOf", "(LSnoringDukes;I[J)I"⟩
abbrev cL_elderOf : ByteArray := method_11_code
def yL_elderOf : MethodName := ⟨RL, "elderOf", "(LSnoringDukes;I[J)I"⟩
abbrev cL_followersOf : ByteArray := method_12_code
def yL_followersOf : MethodName := ⟨RL, "followersOf", "(LSnoringDukes;I[J)I"⟩
abbrev cL_leavesAt : ByteArray := method_13_code
def yL_leavesAt : MethodName := ⟨RL, "leavesAt", "(LSnoringDukes;I[J)I"⟩
abbrev cL_quieterThan : ByteArray := method_14_code
def yL_quieterThan : MethodName := ⟨RL, "quieterThan", "(LSnoringDukes;I[J)I"⟩
abbrev cL_law : ByteArray := code
def yL_law : MethodName := ⟨RL, "law", "([I)Z"⟩
def wsX0_init : List Cond := .code yX0_init cX0_init 1 none :: ([.methodLink RX0 3 objectInit, .instanceMethod objectInit, .code objectInit ⟨#[0xb1]⟩ 1 none, .arrayClass .int, .fieldLink RX0 9 "SnoringDukes$WeakHeap" "duke" "[I", .fieldLink RX0 15 "SnoringDukes$WeakHeap" "loudness" "[I", .fieldLink RX0 18 "SnoringDukes$WeakHeap" "side" "[I", .fieldLink RX0 21 "SnoringDukes$WeakHeap" "size" "I", .fieldLink RX0 25 "SnoringDukes$WeakHeap" "compared" "I", .fieldLink RX0 28 "SnoringDukes$WeakHeap" "changed" "I"] ++ wsX00)
def wsX0_has : List Cond := .code yX0_has cX0_has 2 (some .boolean) :: ([.fieldLink RX0 21 "SnoringDukes$WeakHeap" "size" "I"] ++ wsX00)
def wsX0_dukeAt : List Cond := .code yX0_dukeAt cX0_dukeAt 2 (some .int) :: ([.fieldLink RX0 9 "SnoringDukes$WeakHeap" "duke" "[I", .methodLink RX0 31 yX0_has, .instanceMethod yX0_has, .selects RX0 yX0_has yX0_has, .initialized RX0, .code yX0_has cX0_has 2 (some .boolean), .fieldLink RX0 21 "SnoringDukes$WeakHeap" "size" "I"] ++ wsX00)
def wsX0_loudnessAt : List Cond := .code yX0_loudnessAt cX0_loudnessAt 2 (some .int) :: ([.fieldLink RX0 15 "SnoringDukes$WeakHeap" "loudness" "[I", .methodLink RX0 31 yX0_has, .instanceMethod yX0_has, .selects RX0 yX0_has yX0_has, .initialized RX0, .code yX0_has cX0_has 2 (some .boolean), .fieldLink RX0 21 "SnoringDukes$WeakHeap" "size" "I"] ++ wsX00)
def wsX0_sideAt : List Cond := .code yX0_sideAt cX0_sideAt 2 (some .int) :: ([.fieldLink RX0 18 "SnoringDukes$WeakHeap" "side" "[I", .methodLink RX0 31 yX0_has, .instanceMethod yX0_has, .selects RX0 yX0_has yX0_has, .initialized RX0, .code yX0_has cX0_has 2 (some .boolean), .fieldLink RX0 21 "SnoringDukes$WeakHeap" "size" "I"] ++ wsX00)
def wsX0_find : List Cond := .code yX0_find cX0_find 3 (some .int) :: ([.fieldLink RX0 21 "SnoringDukes$WeakHeap" "size" "I", .methodLink RX0 35 yX0_dukeAt, .instanceMethod yX0_dukeAt, .selects RX0 yX0_dukeAt yX0_dukeAt, .initialized RX0, .code yX0_dukeAt cX0_dukeAt 2 (some .int), .fieldLink RX0 9 "SnoringDukes$WeakHeap" "duke" "[I", .methodLink RX0 31 yX0_has, .instanceMethod yX0_has, .selects RX0 yX0_has yX0_has, .code yX0_has cX0_has 2 (some .boolean)] ++ wsX00)
def wsX0_left : List Cond := .code yX0_left cX0_left 2 (some .int) :: ([.methodLink RX0 39 yX0_sideAt, .instanceMethod yX0_sideAt, .selects RX0 yX0_sideAt yX0_sideAt, .initialized RX0, .code yX0_sideAt cX0_sideAt 2 (some .int), .fieldLink RX0 18 "SnoringDukes$WeakHeap" "side" "[I", .methodLink RX0 31 yX0_has, .instanceMethod yX0_has, .selects RX0 yX0_has yX0_has, .code yX0_has cX0_has 2 (some .boolean), .fieldLink RX0 21 "SnoringDukes$WeakHeap" "size" "I"] ++ wsX00)
def wsX0_elder : List Cond := .code yX0_elder cX0_elder 3 (some .int) :: ([.methodLink RX0 42 yX0_left, .instanceMethod yX0_left, .selects RX0 yX0_left yX0_left, .initialized RX0, .code yX0_left cX0_left 2 (some .int), .methodLink RX0 39 yX0_sideAt, .instanceMethod yX0_sideAt, .selects RX0 yX0_sideAt yX0_sideAt, .code yX0_sideAt cX0_sideAt 2 (some .int), .fieldLink RX0 18 "SnoringDukes$WeakHeap" "side" "[I", .methodLink RX0 31 yX0_has, .instanceMethod yX0_has, .selects RX0 yX0_has yX0_has, .code yX0_has cX0_has 2 (some .boolean), .fieldLink RX0 21 "SnoringDukes$WeakHeap" "size" "I"] ++ wsX00)
def wsX0_countFollowers : List Cond := .code yX0_countFollowers cX0_countFollowers 4 (some .int) :: ([.fieldLink RX0 21 "SnoringDukes$WeakHeap" "size" "I", .methodLink RX0 45 yX0_elder, .instanceMethod yX0_elder, .selects RX0 yX0_elder yX0_elder, .initialized RX0, .code yX0_elder cX0_elder 3 (some .int), .methodLink RX0 42 yX0_left, .instanceMethod yX0_left, .selects RX0 yX0_left yX0_left, .code yX0_left cX0_left 2 (some .int), .methodLink RX0 39 yX0_sideAt, .instanceMethod yX0_sideAt, .selects RX0 yX0_sideAt yX0_sideAt, .code yX0_sideAt cX0_sideAt 2 (some .int), .fieldLink RX0 18 "SnoringDukes$WeakHeap" "side" "[I", .methodLink RX0 31 yX0_has, .instanceMethod yX0_has, .selects RX0 yX0_has yX0_has, .code yX0_has cX0_has 2 (some .boolean)] ++ wsX00)
def wsX0_countFlipped : List Cond := .code yX0_countFlipped cX0_countFlipped 3 (some .int) :: ([.fieldLink RX0 21 "SnoringDukes$WeakHeap" "size" "I", .methodLink RX0 39 yX0_sideAt, .instanceMethod yX0_sideAt, .selects RX0 yX0_sideAt yX0_sideAt, .initialized RX0, .code yX0_sideAt cX0_sideAt 2 (some .int), .fieldLink RX0 18 "SnoringDukes$WeakHeap" "side" "[I", .methodLink RX0 31 yX0_has, .instanceMethod yX0_has, .selects RX0 yX0_has yX0_has, .code yX0_has cX0_has 2 (some .boolean)] ++ wsX00)
def wsJ13_bitCount_95d88 : List Cond := .code yJ13_bitCount_95d88 cJ13_bitCount_95d88 2 (some .int) :: ([.constantLong RJ13 314 (6148914691236517205), .constantLong RJ13 316 (3689348814741910323), .constantLong RJ13 318 (1085102592571150095)])
def wsX0_countBelow_r1 : List Cond := [Cond.fieldLink RX0 21 "SnoringDukes$WeakHeap" "size" "I", Cond.methodLink RX0 45 yX0_elder, Cond.instanceMethod yX0_elder, Cond.selects RX0 yX0_elder yX0_elder, Cond.initialized RX0, Cond.code yX0_elder cX0_elder 3 (some .int), Cond.methodLink RX0 42 yX0_left, Cond.instanceMethod yX0_left, Cond.selects RX0 yX0_left yX0_left, Cond.code yX0_left cX0_left 2 (some .int), Cond.methodLink RX0 39 yX0_sideAt, Cond.instanceMethod yX0_sideAt, Cond.selects RX0 yX0_sideAt yX0_sideAt, Cond.code yX0_sideAt cX0_sideAt 2 (some .int), Cond.fieldLink RX0 18 "SnoringDukes$WeakHeap" "side" "[I", Cond.methodLink RX0 31 yX0_has, Cond.instanceMethod yX0_has, Cond.selects RX0 yX0_has yX0_has, Cond.code yX0_has cX0_has 2 (some .boolean), Cond.methodLink RX0 48 yX0_loudnessAt, Cond.instanceMethod yX0_loudnessAt, Cond.selects RX0 yX0_loudnessAt yX0_loudnessAt, Cond.code yX0_loudnessAt cX0_loudnessAt 2 (some .int), Cond.fieldLink RX0 15 "SnoringDukes$WeakHeap" "loudness" "[I"]
def wsX0_countBelow_r2 : List Cond := [Cond.methodLink RX0 51 yJ13_bitCount_95d88, Cond.static yJ13_bitCount_95d88, Cond.initialized RJ13, Cond.code yJ13_bitCount_95d88 cJ13_bitCount_95d88 2 (some .int), Cond.constantLong RJ13 314 (6148914691236517205), Cond.constantLong RJ13 316 (3689348814741910323), Cond.constantLong RJ13 318 (1085102592571150095)]
def wsX0_countBelow : List Cond := .code yX0_countBelow cX0_countBelow 6 (some .int) :: ((wsX0_countBelow_r1 ++ wsX0_countBelow_r2) ++ wsX00)
def wsX0_lay : List Cond := .code yX0_lay cX0_lay 4 none :: ([.fieldLink RX0 21 "SnoringDukes$WeakHeap" "size" "I", .fieldLink RX0 9 "SnoringDukes$WeakHeap" "duke" "[I", .fieldLink RX0 15 "SnoringDukes$WeakHeap" "loudness" "[I", .fieldLink RX0 18 "SnoringDukes$WeakHeap" "side" "[I"] ++ wsX00)
def wsX0_exchange : List Cond := .code yX0_exchange cX0_exchange 5 none :: ([.fieldLink RX0 9 "SnoringDukes$WeakHeap" "duke" "[I", .fieldLink RX0 15 "SnoringDukes$WeakHeap" "loudness" "[I"] ++ wsX00)
def wsX0_join : List Cond := .code yX0_join cX0_join 3 (some .boolean) :: ([.fieldLink RX0 25 "SnoringDukes$WeakHeap" "compared" "I", .fieldLink RX0 15 "SnoringDukes$WeakHeap" "loudness" "[I", .fieldLink RX0 28 "SnoringDukes$WeakHeap" "changed" "I", .fieldLink RX0 18 "SnoringDukes$WeakHeap" "side" "[I", .methodLink RX0 31 yX0_has, .instanceMethod yX0_has, .selects RX0 yX0_has yX0_has, .initialized RX0, .code yX0_has cX0_has 2 (some .boolean), .fieldLink RX0 21 "SnoringDukes$WeakHeap" "size" "I", .methodLink RX0 75 yX0_exchange, .instanceMethod yX0_exchange, .selects RX0 yX0_exchange yX0_exchange, .code yX0_exchange cX0_exchange 5 none, .fieldLink RX0 9 "SnoringDukes$WeakHeap" "duke" "[I"] ++ wsX00)
def wsX0_rise_r1 : List Cond := [Cond.methodLink RX0 45 yX0_elder, Cond.instanceMethod yX0_elder, Cond.selects RX0 yX0_elder yX0_elder, Cond.initialized RX0, Cond.code yX0_elder cX0_elder 3 (some .int), Cond.methodLink RX0 42 yX0_left, Cond.instanceMethod yX0_left, Cond.selects RX0 yX0_left yX0_left, Cond.code yX0_left cX0_left 2 (some .int), Cond.methodLink RX0 39 yX0_sideAt, Cond.instanceMethod yX0_sideAt, Cond.selects RX0 yX0_sideAt yX0_sideAt, Cond.code yX0_sideAt cX0_sideAt 2 (some .int), Cond.fieldLink RX0 18 "SnoringDukes$WeakHeap" "side" "[I", Cond.methodLink RX0 31 yX0_has, Cond.instanceMethod yX0_has, Cond.selects RX0 yX0_has yX0_has, Cond.code yX0_has cX0_has 2 (some .boolean), Cond.fieldLink RX0 21 "SnoringDukes$WeakHeap" "size" "I", Cond.methodLink RX0 64 yX0_join, Cond.instanceMethod yX0_join, Cond.selects RX0 yX0_join yX0_join, Cond.code yX0_join cX0_join 3 (some .boolean), Cond.fieldLink RX0 25 "SnoringDukes$WeakHeap" "compared" "I"]
def wsX0_rise_r2 : List Cond := [Cond.fieldLink RX0 15 "SnoringDukes$WeakHeap" "loudness" "[I", Cond.fieldLink RX0 28 "SnoringDukes$WeakHeap" "changed" "I", Cond.methodLink RX0 75 yX0_exchange, Cond.instanceMethod yX0_exchange, Cond.selects RX0 yX0_exchange yX0_exchange, Cond.code yX0_exchange cX0_exchange 5 none, Cond.fieldLink RX0 9 "SnoringDukes$WeakHeap" "duke" "[I"]
def wsX0_rise : List Cond := .code yX0_rise cX0_rise 5 (some .int) :: ((wsX0_rise_r1 ++ wsX0_rise_r2) ++ wsX00)
def wsX0_insert_r1 : List Cond := [Cond.fieldLink RX0 21 "SnoringDukes$WeakHeap" "size" "I", Cond.fieldLink RX0 18 "SnoringDukes$WeakHeap" "side" "[I", Cond.methodLink RX0 57 yX0_lay, Cond.instanceMethod yX0_lay, Cond.selects RX0 yX0_lay yX0_lay, Cond.initialized RX0, Cond.code yX0_lay cX0_lay 4 none, Cond.fieldLink RX0 9 "SnoringDukes$WeakHeap" "duke" "[I", Cond.fieldLink RX0 15 "SnoringDukes$WeakHeap" "loudness" "[I", Cond.methodLink RX0 31 yX0_has, Cond.instanceMethod yX0_has, Cond.selects RX0 yX0_has yX0_has, Cond.code yX0_has cX0_has 2 (some .boolean), Cond.methodLink RX0 61 yX0_rise, Cond.instanceMethod yX0_rise, Cond.selects RX0 yX0_rise yX0_rise, Cond.code yX0_rise cX0_rise 5 (some .int), Cond.methodLink RX0 45 yX0_elder, Cond.instanceMethod yX0_elder, Cond.selects RX0 yX0_elder yX0_elder, Cond.code yX0_elder cX0_elder 3 (some .int), Cond.methodLink RX0 42 yX0_left, Cond.instanceMethod yX0_left, Cond.selects RX0 yX0_left yX0_left]
def wsX0_insert_r2 : List Cond := [Cond.code yX0_left cX0_left 2 (some .int), Cond.methodLink RX0 39 yX0_sideAt, Cond.instanceMethod yX0_sideAt, Cond.selects RX0 yX0_sideAt yX0_sideAt, Cond.code yX0_sideAt cX0_sideAt 2 (some .int), Cond.methodLink RX0 64 yX0_join, Cond.instanceMethod yX0_join, Cond.selects RX0 yX0_join yX0_join, Cond.code yX0_join cX0_join 3 (some .boolean), Cond.fieldLink RX0 25 "SnoringDukes$WeakHeap" "compared" "I", Cond.fieldLink RX0 28 "SnoringDukes$WeakHeap" "changed" "I", Cond.methodLink RX0 75 yX0_exchange, Cond.instanceMethod yX0_exchange, Cond.selects RX0 yX0_exchange yX0_exchange, Cond.code yX0_exchange cX0_exchange 5 none]
def wsX0_insert : List Cond := .code yX0_insert cX0_insert 4 none :: ((wsX0_insert_r1 ++ wsX0_insert_r2) ++ wsX00)
def wsX0_joinAll_r1 : List Cond := [Cond.fieldLink RX0 18 "SnoringDukes$WeakHeap" "side" "[I", Cond.fieldLink RX0 21 "SnoringDukes$WeakHeap" "size" "I", Cond.methodLink RX0 45 yX0_elder, Cond.instanceMethod yX0_elder, Cond.selects RX0 yX0_elder yX0_elder, Cond.initialized RX0, Cond.code yX0_elder cX0_elder 3 (some .int), Cond.methodLink RX0 42 yX0_left, Cond.instanceMethod yX0_left, Cond.selects RX0 yX0_left yX0_left, Cond.code yX0_left cX0_left 2 (some .int), Cond.methodLink RX0 39 yX0_sideAt, Cond.instanceMethod yX0_sideAt, Cond.selects RX0 yX0_sideAt yX0_sideAt, Cond.code yX0_sideAt cX0_sideAt 2 (some .int), Cond.methodLink RX0 31 yX0_has, Cond.instanceMethod yX0_has, Cond.selects RX0 yX0_has yX0_has, Cond.code yX0_has cX0_has 2 (some .boolean), Cond.methodLink RX0 64 yX0_join, Cond.instanceMethod yX0_join, Cond.selects RX0 yX0_join yX0_join, Cond.code yX0_join cX0_join 3 (some .boolean), Cond.fieldLink RX0 25 "SnoringDukes$WeakHeap" "compared" "I"]
def wsX0_joinAll_r2 : List Cond := [Cond.fieldLink RX0 15 "SnoringDukes$WeakHeap" "loudness" "[I", Cond.fieldLink RX0 28 "SnoringDukes$WeakHeap" "changed" "I", Cond.methodLink RX0 75 yX0_exchange, Cond.instanceMethod yX0_exchange, Cond.selects RX0 yX0_exchange yX0_exchange, Cond.code yX0_exchange cX0_exchange 5 none, Cond.fieldLink RX0 9 "SnoringDukes$WeakHeap" "duke" "[I"]
def wsX0_joinAll : List Cond := .code yX0_joinAll cX0_joinAll 2 none :: ((wsX0_joinAll_r1 ++ wsX0_joinAll_r2) ++ wsX00)
def wsX0_quieten_r1 : List Cond := [Cond.fieldLink RX0 15 "SnoringDukes$WeakHeap" "loudness" "[I", Cond.methodLink RX0 31 yX0_has, Cond.instanceMethod yX0_has, Cond.selects RX0 yX0_has yX0_has, Cond.initialized RX0, Cond.code yX0_has cX0_has 2 (some .boolean), Cond.fieldLink RX0 21 "SnoringDukes$WeakHeap" "size" "I", Cond.methodLink RX0 61 yX0_rise, Cond.instanceMethod yX0_rise, Cond.selects RX0 yX0_rise yX0_rise, Cond.code yX0_rise cX0_rise 5 (some .int), Cond.methodLink RX0 45 yX0_elder, Cond.instanceMethod yX0_elder, Cond.selects RX0 yX0_elder yX0_elder, Cond.code yX0_elder cX0_elder 3 (some .int), Cond.methodLink RX0 42 yX0_left, Cond.instanceMethod yX0_left, Cond.selects RX0 yX0_left yX0_left, Cond.code yX0_left cX0_left 2 (some .int), Cond.methodLink RX0 39 yX0_sideAt, Cond.instanceMethod yX0_sideAt, Cond.selects RX0 yX0_sideAt yX0_sideAt, Cond.code yX0_sideAt cX0_sideAt 2 (some .int), Cond.fieldLink RX0 18 "SnoringDukes$WeakHeap" "side" "[I"]
def wsX0_quieten_r2 : List Cond := [Cond.methodLink RX0 64 yX0_join, Cond.instanceMethod yX0_join, Cond.selects RX0 yX0_join yX0_join, Cond.code yX0_join cX0_join 3 (some .boolean), Cond.fieldLink RX0 25 "SnoringDukes$WeakHeap" "compared" "I", Cond.fieldLink RX0 28 "SnoringDukes$WeakHeap" "changed" "I", Cond.methodLink RX0 75 yX0_exchange, Cond.instanceMethod yX0_exchange, Cond.selects RX0 yX0_exchange yX0_exchange, Cond.code yX0_exchange cX0_exchange 5 none, Cond.fieldLink RX0 9 "SnoringDukes$WeakHeap" "duke" "[I"]
def wsX0_quieten : List Cond := .code yX0_quieten cX0_quieten 3 (some .int) :: ((wsX0_quieten_r1 ++ wsX0_quieten_r2) ++ wsX00)
def wsX0_joinTop_r1 : List Cond := [Cond.methodLink RX0 42 yX0_left, Cond.instanceMethod yX0_left, Cond.selects RX0 yX0_left yX0_left, Cond.initialized RX0, Cond.code yX0_left cX0_left 2 (some .int), Cond.methodLink RX0 39 yX0_sideAt, Cond.instanceMethod yX0_sideAt, Cond.selects RX0 yX0_sideAt yX0_sideAt, Cond.code yX0_sideAt cX0_sideAt 2 (some .int), Cond.fieldLink RX0 18 "SnoringDukes$WeakHeap" "side" "[I", Cond.methodLink RX0 31 yX0_has, Cond.instanceMethod yX0_has, Cond.selects RX0 yX0_has yX0_has, Cond.code yX0_has cX0_has 2 (some .boolean), Cond.fieldLink RX0 21 "SnoringDukes$WeakHeap" "size" "I", Cond.methodLink RX0 64 yX0_join, Cond.instanceMethod yX0_join, Cond.selects RX0 yX0_join yX0_join, Cond.code yX0_join cX0_join 3 (some .boolean), Cond.fieldLink RX0 25 "SnoringDukes$WeakHeap" "compared" "I", Cond.fieldLink RX0 15 "SnoringDukes$WeakHeap" "loudness" "[I", Cond.fieldLink RX0 28 "SnoringDukes$WeakHeap" "changed" "I", Cond.methodLink RX0 75 yX0_exchange, Cond.instanceMethod yX0_exchange]
def wsX0_joinTop_r2 : List Cond := [Cond.selects RX0 yX0_exchange yX0_exchange, Cond.code yX0_exchange cX0_exchange 5 none, Cond.fieldLink RX0 9 "SnoringDukes$WeakHeap" "duke" "[I"]
def wsX0_joinTop : List Cond := .code yX0_joinTop cX0_joinTop 3 none :: ((wsX0_joinTop_r1 ++ wsX0_joinTop_r2) ++ wsX00)
def wsX0_removeTop_r1 : List Cond := [Cond.fieldLink RX0 9 "SnoringDukes$WeakHeap" "duke" "[I", Cond.fieldLink RX0 21 "SnoringDukes$WeakHeap" "size" "I", Cond.fieldLink RX0 15 "SnoringDukes$WeakHeap" "loudness" "[I", Cond.methodLink RX0 31 yX0_has, Cond.instanceMethod yX0_has, Cond.selects RX0 yX0_has yX0_has, Cond.initialized RX0, Cond.code yX0_has cX0_has 2 (some .boolean), Cond.methodLink RX0 68 yX0_joinTop, Cond.instanceMethod yX0_joinTop, Cond.selects RX0 yX0_joinTop yX0_joinTop, Cond.code yX0_joinTop cX0_joinTop 3 none, Cond.methodLink RX0 42 yX0_left, Cond.instanceMethod yX0_left, Cond.selects RX0 yX0_left yX0_left, Cond.code yX0_left cX0_left 2 (some .int), Cond.methodLink RX0 39 yX0_sideAt, Cond.instanceMethod yX0_sideAt, Cond.selects RX0 yX0_sideAt yX0_sideAt, Cond.code yX0_sideAt cX0_sideAt 2 (some .int), Cond.fieldLink RX0 18 "SnoringDukes$WeakHeap" "side" "[I", Cond.methodLink RX0 64 yX0_join, Cond.instanceMethod yX0_join, Cond.selects RX0 yX0_join yX0_join]
def wsX0_removeTop_r2 : List Cond := [Cond.code yX0_join cX0_join 3 (some .boolean), Cond.fieldLink RX0 25 "SnoringDukes$WeakHeap" "compared" "I", Cond.fieldLink RX0 28 "SnoringDukes$WeakHeap" "changed" "I", Cond.methodLink RX0 75 yX0_exchange, Cond.instanceMethod yX0_exchange, Cond.selects RX0 yX0_exchange yX0_exchange, Cond.code yX0_exchange cX0_exchange 5 none]
def wsX0_removeTop : List Cond := .code yX0_removeTop cX0_removeTop 3 (some .int) :: ((wsX0_removeTop_r1 ++ wsX0_removeTop_r2) ++ wsX00)
def wsX0_removeTops_r1 : List Cond := [Cond.methodLink RX0 71 yX0_removeTop, Cond.instanceMethod yX0_removeTop, Cond.selects RX0 yX0_removeTop yX0_removeTop, Cond.initialized RX0, Cond.code yX0_removeTop cX0_removeTop 3 (some .int), Cond.fieldLink RX0 9 "SnoringDukes$WeakHeap" "duke" "[I", Cond.fieldLink RX0 21 "SnoringDukes$WeakHeap" "size" "I", Cond.fieldLink RX0 15 "SnoringDukes$WeakHeap" "loudness" "[I", Cond.methodLink RX0 31 yX0_has, Cond.instanceMethod yX0_has, Cond.selects RX0 yX0_has yX0_has, Cond.code yX0_has cX0_has 2 (some .boolean), Cond.methodLink RX0 68 yX0_joinTop, Cond.instanceMethod yX0_joinTop, Cond.selects RX0 yX0_joinTop yX0_joinTop, Cond.code yX0_joinTop cX0_joinTop 3 none, Cond.methodLink RX0 42 yX0_left, Cond.instanceMethod yX0_left, Cond.selects RX0 yX0_left yX0_left, Cond.code yX0_left cX0_left 2 (some .int), Cond.methodLink RX0 39 yX0_sideAt, Cond.instanceMethod yX0_sideAt, Cond.selects RX0 yX0_sideAt yX0_sideAt, Cond.code yX0_sideAt cX0_sideAt 2 (some .int)]
def wsX0_removeTops_r2 : List Cond := [Cond.fieldLink RX0 18 "SnoringDukes$WeakHeap" "side" "[I", Cond.methodLink RX0 64 yX0_join, Cond.instanceMethod yX0_join, Cond.selects RX0 yX0_join yX0_join, Cond.code yX0_join cX0_join 3 (some .boolean), Cond.fieldLink RX0 25 "SnoringDukes$WeakHeap" "compared" "I", Cond.fieldLink RX0 28 "SnoringDukes$WeakHeap" "changed" "I", Cond.methodLink RX0 75 yX0_exchange, Cond.instanceMethod yX0_exchange, Cond.selects RX0 yX0_exchange yX0_exchange, Cond.code yX0_exchange cX0_exchange 5 none]
def wsX0_removeTops : List Cond := .code yX0_removeTops cX0_removeTops 3 none :: ((wsX0_removeTops_r1 ++ wsX0_removeTops_r2) ++ wsX00)
def wsX0_copyFrom : List Cond := .code yX0_copyFrom cX0_copyFrom 3 none :: ([.fieldLink RX0 21 "SnoringDukes$WeakHeap" "size" "I", .fieldLink RX0 25 "SnoringDukes$WeakHeap" "compared" "I", .fieldLink RX0 28 "SnoringDukes$WeakHeap" "changed" "I", .fieldLink RX0 9 "SnoringDukes$WeakHeap" "duke" "[I", .fieldLink RX0 15 "SnoringDukes$WeakHeap" "loudness" "[I", .fieldLink RX0 18 "SnoringDukes$WeakHeap" "side" "[I"] ++ wsX00)
def wsX1_init : List Cond := .code yX1_init cX1_init 1 none :: ([.methodLink RX1 1 objectInit, .instanceMethod objectInit, .code objectInit ⟨#[0xb1]⟩ 1 none, .classLink RX1 7 RX0, .instantiable RX0 6, .initialized RX0, .fieldLink RX1 10 "SnoringDukes" "heap" "LSnoringDukes$WeakHeap;", .fieldLink RX1 16 "SnoringDukes" "trial" "LSnoringDukes$WeakHeap;", .fieldLink RX1 19 "SnoringDukes" "numbered" "I", .instanceMethod yX0_init, .code yX0_init cX0_init 1 none, .methodLink RX0 3 objectInit, .arrayClass .int, .fieldLink RX0 9 "SnoringDukes$WeakHeap" "duke" "[I", .fieldLink RX0 15 "SnoringDukes$WeakHeap" "loudness" "[I", .fieldLink RX0 18 "SnoringDukes$WeakHeap" "side" "[I", .fieldLink RX0 21 "SnoringDukes$WeakHeap" "size" "I", .fieldLink RX0 25 "SnoringDukes$WeakHeap" "compared" "I", .fieldLink RX0 28 "SnoringDukes$WeakHeap" "changed" "I"] ++ wsX00 ++ wsX10)
def wsX1_isUpToLoudest : List Cond := .code yX1_isUpToLoudest cX1_isUpToLoudest 1 (some .boolean) :: ([])
def wsX1_hasRoomFor : List Cond := .code yX1_hasRoomFor cX1_hasRoomFor 2 (some .boolean) :: ([.fieldLink RX1 10 "SnoringDukes" "heap" "LSnoringDukes$WeakHeap;", .fieldLink RX1 19 "SnoringDukes" "numbered" "I"] ++ wsX10 ++ wsX00)
def wsX1_come_r1 : List Cond := [Cond.classLink RX1 27 "java/lang/IllegalArgumentException", Cond.initialized "java/lang/IllegalArgumentException", Cond.classLink RX1 37 "java/lang/IllegalStateException", Cond.initialized "java/lang/IllegalStateException", Cond.fieldLink RX1 19 "SnoringDukes" "numbered" "I", Cond.fieldLink RX1 10 "SnoringDukes" "heap" "LSnoringDukes$WeakHeap;", Cond.methodLink RX1 23 yX1_isUpToLoudest, Cond.static yX1_isUpToLoudest, Cond.initialized RX1, Cond.code yX1_isUpToLoudest cX1_isUpToLoudest 1 (some .boolean), Cond.methodLink RX1 34 yX1_hasRoomFor, Cond.instanceMethod yX1_hasRoomFor, Cond.selects RX1 yX1_hasRoomFor yX1_hasRoomFor, Cond.code yX1_hasRoomFor cX1_hasRoomFor 2 (some .boolean), Cond.methodLink RX1 42 yX0_insert, Cond.instanceMethod yX0_insert, Cond.selects RX0 yX0_insert yX0_insert, Cond.initialized RX0, Cond.code yX0_insert cX0_insert 4 none, Cond.fieldLink RX0 21 "SnoringDukes$WeakHeap" "size" "I", Cond.fieldLink RX0 18 "SnoringDukes$WeakHeap" "side" "[I", Cond.methodLink RX0 57 yX0_lay, Cond.instanceMethod yX0_lay, Cond.selects RX0 yX0_lay yX0_lay]
def wsX1_come_r2 : List Cond := [Cond.code yX0_lay cX0_lay 4 none, Cond.fieldLink RX0 9 "SnoringDukes$WeakHeap" "duke" "[I", Cond.fieldLink RX0 15 "SnoringDukes$WeakHeap" "loudness" "[I", Cond.methodLink RX0 31 yX0_has, Cond.instanceMethod yX0_has, Cond.selects RX0 yX0_has yX0_has, Cond.code yX0_has cX0_has 2 (some .boolean), Cond.methodLink RX0 61 yX0_rise, Cond.instanceMethod yX0_rise, Cond.selects RX0 yX0_rise yX0_rise, Cond.code yX0_rise cX0_rise 5 (some .int), Cond.methodLink RX0 45 yX0_elder, Cond.instanceMethod yX0_elder, Cond.selects RX0 yX0_elder yX0_elder, Cond.code yX0_elder cX0_elder 3 (some .int), Cond.methodLink RX0 42 yX0_left, Cond.instanceMethod yX0_left, Cond.selects RX0 yX0_left yX0_left, Cond.code yX0_left cX0_left 2 (some .int), Cond.methodLink RX0 39 yX0_sideAt, Cond.instanceMethod yX0_sideAt, Cond.selects RX0 yX0_sideAt yX0_sideAt, Cond.code yX0_sideAt cX0_sideAt 2 (some .int), Cond.methodLink RX0 64 yX0_join]
def wsX1_come_r3 : List Cond := [Cond.instanceMethod yX0_join, Cond.selects RX0 yX0_join yX0_join, Cond.code yX0_join cX0_join 3 (some .boolean), Cond.fieldLink RX0 25 "SnoringDukes$WeakHeap" "compared" "I", Cond.fieldLink RX0 28 "SnoringDukes$WeakHeap" "changed" "I", Cond.methodLink RX0 75 yX0_exchange, Cond.instanceMethod yX0_exchange, Cond.selects RX0 yX0_exchange yX0_exchange, Cond.code yX0_exchange cX0_exchange 5 none]
def wsX1_come : List Cond := .code yX1_come cX1_come 3 (some .int) :: ((wsX1_come_r1 ++ (wsX1_come_r2 ++ wsX1_come_r3)) ++ wsX10 ++ wsX00 ++ (vx_atS RX1 31 "java/lang/IllegalArgumentException" ["java/lang/RuntimeException", "java/lang/Exception"]).filter goodWord ++ (vx_atS RX1 41 "java/lang/IllegalStateException" ["java/lang/RuntimeException", "java/lang/Exception"]).filter goodWord)
def wsX1_coach_r1 : List Cond := [Cond.classLink RX1 27 "java/lang/IllegalArgumentException", Cond.initialized "java/lang/IllegalArgumentException", Cond.classLink RX1 37 "java/lang/IllegalStateException", Cond.initialized "java/lang/IllegalStateException", Cond.fieldLink RX1 10 "SnoringDukes" "heap" "LSnoringDukes$WeakHeap;", Cond.fieldLink RX1 19 "SnoringDukes" "numbered" "I", Cond.methodLink RX1 23 yX1_isUpToLoudest, Cond.static yX1_isUpToLoudest, Cond.initialized RX1, Cond.code yX1_isUpToLoudest cX1_isUpToLoudest 1 (some .boolean), Cond.methodLink RX1 34 yX1_hasRoomFor, Cond.instanceMethod yX1_hasRoomFor, Cond.selects RX1 yX1_hasRoomFor yX1_hasRoomFor, Cond.code yX1_hasRoomFor cX1_hasRoomFor 2 (some .boolean), Cond.methodLink RX1 55 yX0_lay, Cond.instanceMethod yX0_lay, Cond.selects RX0 yX0_lay yX0_lay, Cond.initialized RX0, Cond.code yX0_lay cX0_lay 4 none, Cond.fieldLink RX0 21 "SnoringDukes$WeakHeap" "size" "I", Cond.fieldLink RX0 9 "SnoringDukes$WeakHeap" "duke" "[I", Cond.fieldLink RX0 15 "SnoringDukes$WeakHeap" "loudness" "[I", Cond.fieldLink RX0 18 "SnoringDukes$WeakHeap" "side" "[I", Cond.methodLink RX1 58 yX0_joinAll]
def wsX1_coach_r2 : List Cond := [Cond.instanceMethod yX0_joinAll, Cond.selects RX0 yX0_joinAll yX0_joinAll, Cond.code yX0_joinAll cX0_joinAll 2 none, Cond.methodLink RX0 45 yX0_elder, Cond.instanceMethod yX0_elder, Cond.selects RX0 yX0_elder yX0_elder, Cond.code yX0_elder cX0_elder 3 (some .int), Cond.methodLink RX0 42 yX0_left, Cond.instanceMethod yX0_left, Cond.selects RX0 yX0_left yX0_left, Cond.code yX0_left cX0_left 2 (some .int), Cond.methodLink RX0 39 yX0_sideAt, Cond.instanceMethod yX0_sideAt, Cond.selects RX0 yX0_sideAt yX0_sideAt, Cond.code yX0_sideAt cX0_sideAt 2 (some .int), Cond.methodLink RX0 31 yX0_has, Cond.instanceMethod yX0_has, Cond.selects RX0 yX0_has yX0_has, Cond.code yX0_has cX0_has 2 (some .boolean), Cond.methodLink RX0 64 yX0_join, Cond.instanceMethod yX0_join, Cond.selects RX0 yX0_join yX0_join, Cond.code yX0_join cX0_join 3 (some .boolean), Cond.fieldLink RX0 25 "SnoringDukes$WeakHeap" "compared" "I"]
def wsX1_coach_r3 : List Cond := [Cond.fieldLink RX0 28 "SnoringDukes$WeakHeap" "changed" "I", Cond.methodLink RX0 75 yX0_exchange, Cond.instanceMethod yX0_exchange, Cond.selects RX0 yX0_exchange yX0_exchange, Cond.code yX0_exchange cX0_exchange 5 none]
def wsX1_coach : List Cond := .code yX1_coach cX1_coach 6 (some .int) :: ((wsX1_coach_r1 ++ (wsX1_coach_r2 ++ wsX1_coach_r3)) ++ wsX10 ++ wsX00 ++ (vx_atS RX1 31 "java/lang/IllegalArgumentException" ["java/lang/RuntimeException", "java/lang/Exception"]).filter goodWord ++ (vx_atS RX1 41 "java/lang/IllegalStateException" ["java/lang/RuntimeException", "java/lang/Exception"]).filter goodWord)
def wsX1_leave_r1 : List Cond := [Cond.classLink RX1 37 "java/lang/IllegalStateException", Cond.initialized "java/lang/IllegalStateException", Cond.fieldLink RX1 10 "SnoringDukes" "heap" "LSnoringDukes$WeakHeap;", Cond.methodLink RX1 66 yX0_removeTop, Cond.instanceMethod yX0_removeTop, Cond.selects RX0 yX0_removeTop yX0_removeTop, Cond.initialized RX0, Cond.code yX0_removeTop cX0_removeTop 3 (some .int), Cond.fieldLink RX0 9 "SnoringDukes$WeakHeap" "duke" "[I", Cond.fieldLink RX0 21 "SnoringDukes$WeakHeap" "size" "I", Cond.fieldLink RX0 15 "SnoringDukes$WeakHeap" "loudness" "[I", Cond.methodLink RX0 31 yX0_has, Cond.instanceMethod yX0_has, Cond.selects RX0 yX0_has yX0_has, Cond.code yX0_has cX0_has 2 (some .boolean), Cond.methodLink RX0 68 yX0_joinTop, Cond.instanceMethod yX0_joinTop, Cond.selects RX0 yX0_joinTop yX0_joinTop, Cond.code yX0_joinTop cX0_joinTop 3 none, Cond.methodLink RX0 42 yX0_left, Cond.instanceMethod yX0_left, Cond.selects RX0 yX0_left yX0_left, Cond.code yX0_left cX0_left 2 (some .int), Cond.methodLink RX0 39 yX0_sideAt]
def wsX1_leave_r2 : List Cond := [Cond.instanceMethod yX0_sideAt, Cond.selects RX0 yX0_sideAt yX0_sideAt, Cond.code yX0_sideAt cX0_sideAt 2 (some .int), Cond.fieldLink RX0 18 "SnoringDukes$WeakHeap" "side" "[I", Cond.methodLink RX0 64 yX0_join, Cond.instanceMethod yX0_join, Cond.selects RX0 yX0_join yX0_join, Cond.code yX0_join cX0_join 3 (some .boolean), Cond.fieldLink RX0 25 "SnoringDukes$WeakHeap" "compared" "I", Cond.fieldLink RX0 28 "SnoringDukes$WeakHeap" "changed" "I", Cond.methodLink RX0 75 yX0_exchange, Cond.instanceMethod yX0_exchange, Cond.selects RX0 yX0_exchange yX0_exchange, Cond.code yX0_exchange cX0_exchange 5 none]
def wsX1_leave : List Cond := .code yX1_leave cX1_leave 1 (some .int) :: ((wsX1_leave_r1 ++ wsX1_leave_r2) ++ wsX10 ++ wsX00 ++ (vx_atS RX1 41 "java/lang/IllegalStateException" ["java/lang/RuntimeException", "java/lang/Exception"]).filter goodWord)
def wsX1_hush_r1 : List Cond := [Cond.classLink RX1 74 "java/lang/IndexOutOfBoundsException", Cond.initialized "java/lang/IndexOutOfBoundsException", Cond.classLink RX1 27 "java/lang/IllegalArgumentException", Cond.initialized "java/lang/IllegalArgumentException", Cond.fieldLink RX1 10 "SnoringDukes" "heap" "LSnoringDukes$WeakHeap;", Cond.methodLink RX1 70 yX0_find, Cond.instanceMethod yX0_find, Cond.selects RX0 yX0_find yX0_find, Cond.initialized RX0, Cond.code yX0_find cX0_find 3 (some .int), Cond.fieldLink RX0 21 "SnoringDukes$WeakHeap" "size" "I", Cond.methodLink RX0 35 yX0_dukeAt, Cond.instanceMethod yX0_dukeAt, Cond.selects RX0 yX0_dukeAt yX0_dukeAt, Cond.code yX0_dukeAt cX0_dukeAt 2 (some .int), Cond.fieldLink RX0 9 "SnoringDukes$WeakHeap" "duke" "[I", Cond.methodLink RX0 31 yX0_has, Cond.instanceMethod yX0_has, Cond.selects RX0 yX0_has yX0_has, Cond.code yX0_has cX0_has 2 (some .boolean), Cond.methodLink RX1 79 yX0_loudnessAt, Cond.instanceMethod yX0_loudnessAt, Cond.selects RX0 yX0_loudnessAt yX0_loudnessAt, Cond.code yX0_loudnessAt cX0_loudnessAt 2 (some .int)]
def wsX1_hush_r2 : List Cond := [Cond.fieldLink RX0 15 "SnoringDukes$WeakHeap" "loudness" "[I", Cond.methodLink RX1 84 yX0_quieten, Cond.instanceMethod yX0_quieten, Cond.selects RX0 yX0_quieten yX0_quieten, Cond.code yX0_quieten cX0_quieten 3 (some .int), Cond.methodLink RX0 61 yX0_rise, Cond.instanceMethod yX0_rise, Cond.selects RX0 yX0_rise yX0_rise, Cond.code yX0_rise cX0_rise 5 (some .int), Cond.methodLink RX0 45 yX0_elder, Cond.instanceMethod yX0_elder, Cond.selects RX0 yX0_elder yX0_elder, Cond.code yX0_elder cX0_elder 3 (some .int), Cond.methodLink RX0 42 yX0_left, Cond.instanceMethod yX0_left, Cond.selects RX0 yX0_left yX0_left, Cond.code yX0_left cX0_left 2 (some .int), Cond.methodLink RX0 39 yX0_sideAt, Cond.instanceMethod yX0_sideAt, Cond.selects RX0 yX0_sideAt yX0_sideAt, Cond.code yX0_sideAt cX0_sideAt 2 (some .int), Cond.fieldLink RX0 18 "SnoringDukes$WeakHeap" "side" "[I", Cond.methodLink RX0 64 yX0_join, Cond.instanceMethod yX0_join]
def wsX1_hush_r3 : List Cond := [Cond.selects RX0 yX0_join yX0_join, Cond.code yX0_join cX0_join 3 (some .boolean), Cond.fieldLink RX0 25 "SnoringDukes$WeakHeap" "compared" "I", Cond.fieldLink RX0 28 "SnoringDukes$WeakHeap" "changed" "I", Cond.methodLink RX0 75 yX0_exchange, Cond.instanceMethod yX0_exchange, Cond.selects RX0 yX0_exchange yX0_exchange, Cond.code yX0_exchange cX0_exchange 5 none]
def wsX1_hush : List Cond := .code yX1_hush cX1_hush 4 (some .int) :: ((wsX1_hush_r1 ++ (wsX1_hush_r2 ++ wsX1_hush_r3)) ++ wsX10 ++ wsX00 ++ (vx_atS RX1 78 "java/lang/IndexOutOfBoundsException" ["java/lang/RuntimeException", "java/lang/Exception"]).filter goodWord ++ (vx_atS RX1 31 "java/lang/IllegalArgumentException" ["java/lang/RuntimeException", "java/lang/Exception"]).filter goodWord)
def wsX1_fetch_r1 : List Cond := [Cond.classLink RX1 74 "java/lang/IndexOutOfBoundsException", Cond.initialized "java/lang/IndexOutOfBoundsException", Cond.fieldLink RX1 10 "SnoringDukes" "heap" "LSnoringDukes$WeakHeap;", Cond.methodLink RX1 70 yX0_find, Cond.instanceMethod yX0_find, Cond.selects RX0 yX0_find yX0_find, Cond.initialized RX0, Cond.code yX0_find cX0_find 3 (some .int), Cond.fieldLink RX0 21 "SnoringDukes$WeakHeap" "size" "I", Cond.methodLink RX0 35 yX0_dukeAt, Cond.instanceMethod yX0_dukeAt, Cond.selects RX0 yX0_dukeAt yX0_dukeAt, Cond.code yX0_dukeAt cX0_dukeAt 2 (some .int), Cond.fieldLink RX0 9 "SnoringDukes$WeakHeap" "duke" "[I", Cond.methodLink RX0 31 yX0_has, Cond.instanceMethod yX0_has, Cond.selects RX0 yX0_has yX0_has, Cond.code yX0_has cX0_has 2 (some .boolean), Cond.methodLink RX1 84 yX0_quieten, Cond.instanceMethod yX0_quieten, Cond.selects RX0 yX0_quieten yX0_quieten, Cond.code yX0_quieten cX0_quieten 3 (some .int), Cond.fieldLink RX0 15 "SnoringDukes$WeakHeap" "loudness" "[I", Cond.methodLink RX0 61 yX0_rise]
def wsX1_fetch_r2 : List Cond := [Cond.instanceMethod yX0_rise, Cond.selects RX0 yX0_rise yX0_rise, Cond.code yX0_rise cX0_rise 5 (some .int), Cond.methodLink RX0 45 yX0_elder, Cond.instanceMethod yX0_elder, Cond.selects RX0 yX0_elder yX0_elder, Cond.code yX0_elder cX0_elder 3 (some .int), Cond.methodLink RX0 42 yX0_left, Cond.instanceMethod yX0_left, Cond.selects RX0 yX0_left yX0_left, Cond.code yX0_left cX0_left 2 (some .int), Cond.methodLink RX0 39 yX0_sideAt, Cond.instanceMethod yX0_sideAt, Cond.selects RX0 yX0_sideAt yX0_sideAt, Cond.code yX0_sideAt cX0_sideAt 2 (some .int), Cond.fieldLink RX0 18 "SnoringDukes$WeakHeap" "side" "[I", Cond.methodLink RX0 64 yX0_join, Cond.instanceMethod yX0_join, Cond.selects RX0 yX0_join yX0_join, Cond.code yX0_join cX0_join 3 (some .boolean), Cond.fieldLink RX0 25 "SnoringDukes$WeakHeap" "compared" "I", Cond.fieldLink RX0 28 "SnoringDukes$WeakHeap" "changed" "I", Cond.methodLink RX0 75 yX0_exchange, Cond.instanceMethod yX0_exchange]
def wsX1_fetch_r3 : List Cond := [Cond.selects RX0 yX0_exchange yX0_exchange, Cond.code yX0_exchange cX0_exchange 5 none, Cond.methodLink RX1 66 yX0_removeTop, Cond.instanceMethod yX0_removeTop, Cond.selects RX0 yX0_removeTop yX0_removeTop, Cond.code yX0_removeTop cX0_removeTop 3 (some .int), Cond.methodLink RX0 68 yX0_joinTop, Cond.instanceMethod yX0_joinTop, Cond.selects RX0 yX0_joinTop yX0_joinTop, Cond.code yX0_joinTop cX0_joinTop 3 none]
def wsX1_fetch : List Cond := .code yX1_fetch cX1_fetch 4 (some .int) :: ((wsX1_fetch_r1 ++ (wsX1_fetch_r2 ++ wsX1_fetch_r3)) ++ wsX10 ++ wsX00 ++ (vx_atS RX1 78 "java/lang/IndexOutOfBoundsException" ["java/lang/RuntimeException", "java/lang/Exception"]).filter goodWord)
def wsX1_dukes : List Cond := .code yX1_dukes cX1_dukes 1 (some .int) :: ([.fieldLink RX1 10 "SnoringDukes" "heap" "LSnoringDukes$WeakHeap;"] ++ wsX10 ++ wsX00)
def wsX1_quietest : List Cond := .code yX1_quietest cX1_quietest 1 (some .int) :: ([.fieldLink RX1 10 "SnoringDukes" "heap" "LSnoringDukes$WeakHeap;", .methodLink RX1 88 yX0_dukeAt, .instanceMethod yX0_dukeAt, .selects RX0 yX0_dukeAt yX0_dukeAt, .initialized RX0, .code yX0_dukeAt cX0_dukeAt 2 (some .int), .fieldLink RX0 9 "SnoringDukes$WeakHeap" "duke" "[I", .methodLink RX0 31 yX0_has, .instanceMethod yX0_has, .selects RX0 yX0_has yX0_has, .code yX0_has cX0_has 2 (some .boolean), .fieldLink RX0 21 "SnoringDukes$WeakHeap" "size" "I"] ++ wsX10 ++ wsX00)
def wsX1_berthOf : List Cond := .code yX1_berthOf cX1_berthOf 2 (some .int) :: ([.fieldLink RX1 10 "SnoringDukes" "heap" "LSnoringDukes$WeakHeap;", .methodLink RX1 70 yX0_find, .instanceMethod yX0_find, .selects RX0 yX0_find yX0_find, .initialized RX0, .code yX0_find cX0_find 3 (some .int), .fieldLink RX0 21 "SnoringDukes$WeakHeap" "size" "I", .methodLink RX0 35 yX0_dukeAt, .instanceMethod yX0_dukeAt, .selects RX0 yX0_dukeAt yX0_dukeAt, .code yX0_dukeAt cX0_dukeAt 2 (some .int), .fieldLink RX0 9 "SnoringDukes$WeakHeap" "duke" "[I", .methodLink RX0 31 yX0_has, .instanceMethod yX0_has, .selects RX0 yX0_has yX0_has, .code yX0_has cX0_has 2 (some .boolean)] ++ wsX10 ++ wsX00)
def wsX1_refuseUnlessBerth : List Cond := .code yX1_refuseUnlessBerth cX1_refuseUnlessBerth 2 none :: ([.classLink RX1 74 "java/lang/IndexOutOfBoundsException", .initialized "java/lang/IndexOutOfBoundsException", .fieldLink RX1 10 "SnoringDukes" "heap" "LSnoringDukes$WeakHeap;", .methodLink RX1 117 yX0_has, .instanceMethod yX0_has, .selects RX0 yX0_has yX0_has, .initialized RX0, .code yX0_has cX0_has 2 (some .boolean), .fieldLink RX0 21 "SnoringDukes$WeakHeap" "size" "I"] ++ wsX10 ++ wsX00 ++ (vx_atS RX1 78 "java/lang/IndexOutOfBoundsException" ["java/lang/RuntimeException", "java/lang/Exception"]).filter goodWord)
def wsX1_dukeIn : List Cond := .code yX1_dukeIn cX1_dukeIn 2 (some .int) :: ([.fieldLink RX1 10 "SnoringDukes" "heap" "LSnoringDukes$WeakHeap;", .methodLink RX1 91 yX1_refuseUnlessBerth, .instanceMethod yX1_refuseUnlessBerth, .selects RX1 yX1_refuseUnlessBerth yX1_refuseUnlessBerth, .initialized RX1, .code yX1_refuseUnlessBerth cX1_refuseUnlessBerth 2 none, .classLink RX1 74 "java/lang/IndexOutOfBoundsException", .initialized "java/lang/IndexOutOfBoundsException", .methodLink RX1 117 yX0_has, .instanceMethod yX0_has, .selects RX0 yX0_has yX0_has, .initialized RX0, .code yX0_has cX0_has 2 (some .boolean), .fieldLink RX0 21 "SnoringDukes$WeakHeap" "size" "I", .methodLink RX1 88 yX0_dukeAt, .instanceMethod yX0_dukeAt, .selects RX0 yX0_dukeAt yX0_dukeAt, .code yX0_dukeAt cX0_dukeAt 2 (some .int), .fieldLink RX0 9 "SnoringDukes$WeakHeap" "duke" "[I", .methodLink RX0 31 yX0_has] ++ wsX10 ++ wsX00 ++ (vx_atS RX1 78 "java/lang/IndexOutOfBoundsException" ["java/lang/RuntimeException", "java/lang/Exception"]).filter goodWord)
def wsX1_loudnessIn : List Cond := .code yX1_loudnessIn cX1_loudnessIn 2 (some .int) :: ([.fieldLink RX1 10 "SnoringDukes" "heap" "LSnoringDukes$WeakHeap;", .methodLink RX1 91 yX1_refuseUnlessBerth, .instanceMethod yX1_refuseUnlessBerth, .selects RX1 yX1_refuseUnlessBerth yX1_refuseUnlessBerth, .initialized RX1, .code yX1_refuseUnlessBerth cX1_refuseUnlessBerth 2 none, .classLink RX1 74 "java/lang/IndexOutOfBoundsException", .initialized "java/lang/IndexOutOfBoundsException", .methodLink RX1 117 yX0_has, .instanceMethod yX0_has, .selects RX0 yX0_has yX0_has, .initialized RX0, .code yX0_has cX0_has 2 (some .boolean), .fieldLink RX0 21 "SnoringDukes$WeakHeap" "size" "I", .methodLink RX1 79 yX0_loudnessAt, .instanceMethod yX0_loudnessAt, .selects RX0 yX0_loudnessAt yX0_loudnessAt, .code yX0_loudnessAt cX0_loudnessAt 2 (some .int), .fieldLink RX0 15 "SnoringDukes$WeakHeap" "loudness" "[I", .methodLink RX0 31 yX0_has] ++ wsX10 ++ wsX00 ++ (vx_atS RX1 78 "java/lang/IndexOutOfBoundsException" ["java/lang/RuntimeException", "java/lang/Exception"]).filter goodWord)
def wsX1_sideOf : List Cond := .code yX1_sideOf cX1_sideOf 2 (some .int) :: ([.fieldLink RX1 10 "SnoringDukes" "heap" "LSnoringDukes$WeakHeap;", .methodLink RX1 91 yX1_refuseUnlessBerth, .instanceMethod yX1_refuseUnlessBerth, .selects RX1 yX1_refuseUnlessBerth yX1_refuseUnlessBerth, .initialized RX1, .code yX1_refuseUnlessBerth cX1_refuseUnlessBerth 2 none, .classLink RX1 74 "java/lang/IndexOutOfBoundsException", .initialized "java/lang/IndexOutOfBoundsException", .methodLink RX1 117 yX0_has, .instanceMethod yX0_has, .selects RX0 yX0_has yX0_has, .initialized RX0, .code yX0_has cX0_has 2 (some .boolean), .fieldLink RX0 21 "SnoringDukes$WeakHeap" "size" "I", .methodLink RX1 95 yX0_sideAt, .instanceMethod yX0_sideAt, .selects RX0 yX0_sideAt yX0_sideAt, .code yX0_sideAt cX0_sideAt 2 (some .int), .fieldLink RX0 18 "SnoringDukes$WeakHeap" "side" "[I", .methodLink RX0 31 yX0_has] ++ wsX10 ++ wsX00 ++ (vx_atS RX1 78 "java/lang/IndexOutOfBoundsException" ["java/lang/RuntimeException", "java/lang/Exception"]).filter goodWord)
def wsX1_elderOf_r1 : List Cond := [Cond.fieldLink RX1 10 "SnoringDukes" "heap" "LSnoringDukes$WeakHeap;", Cond.methodLink RX1 91 yX1_refuseUnlessBerth, Cond.instanceMethod yX1_refuseUnlessBerth, Cond.selects RX1 yX1_refuseUnlessBerth yX1_refuseUnlessBerth, Cond.initialized RX1, Cond.code yX1_refuseUnlessBerth cX1_refuseUnlessBerth 2 none, Cond.classLink RX1 74 "java/lang/IndexOutOfBoundsException", Cond.initialized "java/lang/IndexOutOfBoundsException", Cond.methodLink RX1 117 yX0_has, Cond.instanceMethod yX0_has, Cond.selects RX0 yX0_has yX0_has, Cond.initialized RX0, Cond.code yX0_has cX0_has 2 (some .boolean), Cond.fieldLink RX0 21 "SnoringDukes$WeakHeap" "size" "I", Cond.methodLink RX1 98 yX0_elder, Cond.instanceMethod yX0_elder, Cond.selects RX0 yX0_elder yX0_elder, Cond.code yX0_elder cX0_elder 3 (some .int), Cond.methodLink RX0 42 yX0_left, Cond.instanceMethod yX0_left, Cond.selects RX0 yX0_left yX0_left, Cond.code yX0_left cX0_left 2 (some .int), Cond.methodLink RX0 39 yX0_sideAt, Cond.instanceMethod yX0_sideAt]
def wsX1_elderOf_r2 : List Cond := [Cond.selects RX0 yX0_sideAt yX0_sideAt, Cond.code yX0_sideAt cX0_sideAt 2 (some .int), Cond.fieldLink RX0 18 "SnoringDukes$WeakHeap" "side" "[I", Cond.methodLink RX0 31 yX0_has]
def wsX1_elderOf : List Cond := .code yX1_elderOf cX1_elderOf 2 (some .int) :: ((wsX1_elderOf_r1 ++ wsX1_elderOf_r2) ++ wsX10 ++ wsX00 ++ (vx_atS RX1 78 "java/lang/IndexOutOfBoundsException" ["java/lang/RuntimeException", "java/lang/Exception"]).filter goodWord)
def wsX1_followersOf_r1 : List Cond := [Cond.fieldLink RX1 10 "SnoringDukes" "heap" "LSnoringDukes$WeakHeap;", Cond.methodLink RX1 91 yX1_refuseUnlessBerth, Cond.instanceMethod yX1_refuseUnlessBerth, Cond.selects RX1 yX1_refuseUnlessBerth yX1_refuseUnlessBerth, Cond.initialized RX1, Cond.code yX1_refuseUnlessBerth cX1_refuseUnlessBerth 2 none, Cond.classLink RX1 74 "java/lang/IndexOutOfBoundsException", Cond.initialized "java/lang/IndexOutOfBoundsException", Cond.methodLink RX1 117 yX0_has, Cond.instanceMethod yX0_has, Cond.selects RX0 yX0_has yX0_has, Cond.initialized RX0, Cond.code yX0_has cX0_has 2 (some .boolean), Cond.fieldLink RX0 21 "SnoringDukes$WeakHeap" "size" "I", Cond.methodLink RX1 101 yX0_countFollowers, Cond.instanceMethod yX0_countFollowers, Cond.selects RX0 yX0_countFollowers yX0_countFollowers, Cond.code yX0_countFollowers cX0_countFollowers 4 (some .int), Cond.methodLink RX0 45 yX0_elder, Cond.instanceMethod yX0_elder, Cond.selects RX0 yX0_elder yX0_elder, Cond.code yX0_elder cX0_elder 3 (some .int), Cond.methodLink RX0 42 yX0_left, Cond.instanceMethod yX0_left]
def wsX1_followersOf_r2 : List Cond := [Cond.selects RX0 yX0_left yX0_left, Cond.code yX0_left cX0_left 2 (some .int), Cond.methodLink RX0 39 yX0_sideAt, Cond.instanceMethod yX0_sideAt, Cond.selects RX0 yX0_sideAt yX0_sideAt, Cond.code yX0_sideAt cX0_sideAt 2 (some .int), Cond.fieldLink RX0 18 "SnoringDukes$WeakHeap" "side" "[I", Cond.methodLink RX0 31 yX0_has]
def wsX1_followersOf : List Cond := .code yX1_followersOf cX1_followersOf 2 (some .int) :: ((wsX1_followersOf_r1 ++ wsX1_followersOf_r2) ++ wsX10 ++ wsX00 ++ (vx_atS RX1 78 "java/lang/IndexOutOfBoundsException" ["java/lang/RuntimeException", "java/lang/Exception"]).filter goodWord)
def wsX1_flipped : List Cond := .code yX1_flipped cX1_flipped 1 (some .int) :: ([.fieldLink RX1 10 "SnoringDukes" "heap" "LSnoringDukes$WeakHeap;", .methodLink RX1 104 yX0_countFlipped, .instanceMethod yX0_countFlipped, .selects RX0 yX0_countFlipped yX0_countFlipped, .initialized RX0, .code yX0_countFlipped cX0_countFlipped 3 (some .int), .fieldLink RX0 21 "SnoringDukes$WeakHeap" "size" "I", .methodLink RX0 39 yX0_sideAt, .instanceMethod yX0_sideAt, .selects RX0 yX0_sideAt yX0_sideAt, .code yX0_sideAt cX0_sideAt 2 (some .int), .fieldLink RX0 18 "SnoringDukes$WeakHeap" "side" "[I", .methodLink RX0 31 yX0_has, .instanceMethod yX0_has, .selects RX0 yX0_has yX0_has, .code yX0_has cX0_has 2 (some .boolean)] ++ wsX10 ++ wsX00)
def wsX1_comparisons : List Cond := .code yX1_comparisons cX1_comparisons 1 (some .int) :: ([.fieldLink RX1 10 "SnoringDukes" "heap" "LSnoringDukes$WeakHeap;"] ++ wsX10 ++ wsX00)
def wsX1_changes : List Cond := .code yX1_changes cX1_changes 1 (some .int) :: ([.fieldLink RX1 10 "SnoringDukes" "heap" "LSnoringDukes$WeakHeap;"] ++ wsX10 ++ wsX00)
def wsX1_comparisonsToEmpty_r1 : List Cond := [Cond.fieldLink RX1 16 "SnoringDukes" "trial" "LSnoringDukes$WeakHeap;", Cond.fieldLink RX1 10 "SnoringDukes" "heap" "LSnoringDukes$WeakHeap;", Cond.methodLink RX1 110 yX0_copyFrom, Cond.instanceMethod yX0_copyFrom, Cond.selects RX0 yX0_copyFrom yX0_copyFrom, Cond.initialized RX0, Cond.code yX0_copyFrom cX0_copyFrom 3 none, Cond.fieldLink RX0 21 "SnoringDukes$WeakHeap" "size" "I", Cond.fieldLink RX0 25 "SnoringDukes$WeakHeap" "compared" "I", Cond.fieldLink RX0 28 "SnoringDukes$WeakHeap" "changed" "I", Cond.fieldLink RX0 9 "SnoringDukes$WeakHeap" "duke" "[I", Cond.fieldLink RX0 15 "SnoringDukes$WeakHeap" "loudness" "[I", Cond.fieldLink RX0 18 "SnoringDukes$WeakHeap" "side" "[I", Cond.methodLink RX1 114 yX0_removeTops, Cond.instanceMethod yX0_removeTops, Cond.selects RX0 yX0_removeTops yX0_removeTops, Cond.code yX0_removeTops cX0_removeTops 3 none, Cond.methodLink RX0 71 yX0_removeTop, Cond.instanceMethod yX0_removeTop, Cond.selects RX0 yX0_removeTop yX0_removeTop, Cond.code yX0_removeTop cX0_removeTop 3 (some .int), Cond.methodLink RX0 31 yX0_has, Cond.instanceMethod yX0_has, Cond.selects RX0 yX0_has yX0_has]
def wsX1_comparisonsToEmpty_r2 : List Cond := [Cond.code yX0_has cX0_has 2 (some .boolean), Cond.methodLink RX0 68 yX0_joinTop, Cond.instanceMethod yX0_joinTop, Cond.selects RX0 yX0_joinTop yX0_joinTop, Cond.code yX0_joinTop cX0_joinTop 3 none, Cond.methodLink RX0 42 yX0_left, Cond.instanceMethod yX0_left, Cond.selects RX0 yX0_left yX0_left, Cond.code yX0_left cX0_left 2 (some .int), Cond.methodLink RX0 39 yX0_sideAt, Cond.instanceMethod yX0_sideAt, Cond.selects RX0 yX0_sideAt yX0_sideAt, Cond.code yX0_sideAt cX0_sideAt 2 (some .int), Cond.methodLink RX0 64 yX0_join, Cond.instanceMethod yX0_join, Cond.selects RX0 yX0_join yX0_join, Cond.code yX0_join cX0_join 3 (some .boolean), Cond.methodLink RX0 75 yX0_exchange, Cond.instanceMethod yX0_exchange, Cond.selects RX0 yX0_exchange yX0_exchange, Cond.code yX0_exchange cX0_exchange 5 none]
def wsX1_comparisonsToEmpty : List Cond := .code yX1_comparisonsToEmpty cX1_comparisonsToEmpty 1 (some .int) :: ((wsX1_comparisonsToEmpty_r1 ++ wsX1_comparisonsToEmpty_r2) ++ wsX10 ++ wsX00)
def wsX1_leavesAt_r1 : List Cond := [Cond.classLink RX1 74 "java/lang/IndexOutOfBoundsException", Cond.initialized "java/lang/IndexOutOfBoundsException", Cond.fieldLink RX1 10 "SnoringDukes" "heap" "LSnoringDukes$WeakHeap;", Cond.fieldLink RX1 16 "SnoringDukes" "trial" "LSnoringDukes$WeakHeap;", Cond.methodLink RX1 117 yX0_has, Cond.instanceMethod yX0_has, Cond.selects RX0 yX0_has yX0_has, Cond.initialized RX0, Cond.code yX0_has cX0_has 2 (some .boolean), Cond.fieldLink RX0 21 "SnoringDukes$WeakHeap" "size" "I", Cond.methodLink RX1 110 yX0_copyFrom, Cond.instanceMethod yX0_copyFrom, Cond.selects RX0 yX0_copyFrom yX0_copyFrom, Cond.code yX0_copyFrom cX0_copyFrom 3 none, Cond.fieldLink RX0 25 "SnoringDukes$WeakHeap" "compared" "I", Cond.fieldLink RX0 28 "SnoringDukes$WeakHeap" "changed" "I", Cond.fieldLink RX0 9 "SnoringDukes$WeakHeap" "duke" "[I", Cond.fieldLink RX0 15 "SnoringDukes$WeakHeap" "loudness" "[I", Cond.fieldLink RX0 18 "SnoringDukes$WeakHeap" "side" "[I", Cond.methodLink RX1 114 yX0_removeTops, Cond.instanceMethod yX0_removeTops, Cond.selects RX0 yX0_removeTops yX0_removeTops, Cond.code yX0_removeTops cX0_removeTops 3 none, Cond.methodLink RX0 71 yX0_removeTop]
def wsX1_leavesAt_r2 : List Cond := [Cond.instanceMethod yX0_removeTop, Cond.selects RX0 yX0_removeTop yX0_removeTop, Cond.code yX0_removeTop cX0_removeTop 3 (some .int), Cond.methodLink RX0 31 yX0_has, Cond.methodLink RX0 68 yX0_joinTop, Cond.instanceMethod yX0_joinTop, Cond.selects RX0 yX0_joinTop yX0_joinTop, Cond.code yX0_joinTop cX0_joinTop 3 none, Cond.methodLink RX0 42 yX0_left, Cond.instanceMethod yX0_left, Cond.selects RX0 yX0_left yX0_left, Cond.code yX0_left cX0_left 2 (some .int), Cond.methodLink RX0 39 yX0_sideAt, Cond.instanceMethod yX0_sideAt, Cond.selects RX0 yX0_sideAt yX0_sideAt, Cond.code yX0_sideAt cX0_sideAt 2 (some .int), Cond.methodLink RX0 64 yX0_join, Cond.instanceMethod yX0_join, Cond.selects RX0 yX0_join yX0_join, Cond.code yX0_join cX0_join 3 (some .boolean), Cond.methodLink RX0 75 yX0_exchange, Cond.instanceMethod yX0_exchange, Cond.selects RX0 yX0_exchange yX0_exchange, Cond.code yX0_exchange cX0_exchange 5 none]
def wsX1_leavesAt_r3 : List Cond := [Cond.methodLink RX1 88 yX0_dukeAt, Cond.instanceMethod yX0_dukeAt, Cond.selects RX0 yX0_dukeAt yX0_dukeAt, Cond.code yX0_dukeAt cX0_dukeAt 2 (some .int)]
def wsX1_leavesAt : List Cond := .code yX1_leavesAt cX1_leavesAt 2 (some .int) :: ((wsX1_leavesAt_r1 ++ (wsX1_leavesAt_r2 ++ wsX1_leavesAt_r3)) ++ wsX10 ++ wsX00 ++ (vx_atS RX1 78 "java/lang/IndexOutOfBoundsException" ["java/lang/RuntimeException", "java/lang/Exception"]).filter goodWord)
def wsX1_quieterThan_r1 : List Cond := [Cond.classLink RX1 74 "java/lang/IndexOutOfBoundsException", Cond.initialized "java/lang/IndexOutOfBoundsException", Cond.fieldLink RX1 10 "SnoringDukes" "heap" "LSnoringDukes$WeakHeap;", Cond.methodLink RX1 70 yX0_find, Cond.instanceMethod yX0_find, Cond.selects RX0 yX0_find yX0_find, Cond.initialized RX0, Cond.code yX0_find cX0_find 3 (some .int), Cond.fieldLink RX0 21 "SnoringDukes$WeakHeap" "size" "I", Cond.methodLink RX0 35 yX0_dukeAt, Cond.instanceMethod yX0_dukeAt, Cond.selects RX0 yX0_dukeAt yX0_dukeAt, Cond.code yX0_dukeAt cX0_dukeAt 2 (some .int), Cond.fieldLink RX0 9 "SnoringDukes$WeakHeap" "duke" "[I", Cond.methodLink RX0 31 yX0_has, Cond.instanceMethod yX0_has, Cond.selects RX0 yX0_has yX0_has, Cond.code yX0_has cX0_has 2 (some .boolean), Cond.methodLink RX1 79 yX0_loudnessAt, Cond.instanceMethod yX0_loudnessAt, Cond.selects RX0 yX0_loudnessAt yX0_loudnessAt, Cond.code yX0_loudnessAt cX0_loudnessAt 2 (some .int), Cond.fieldLink RX0 15 "SnoringDukes$WeakHeap" "loudness" "[I", Cond.methodLink RX1 122 yX0_countBelow]
def wsX1_quieterThan_r2 : List Cond := [Cond.instanceMethod yX0_countBelow, Cond.selects RX0 yX0_countBelow yX0_countBelow, Cond.code yX0_countBelow cX0_countBelow 6 (some .int), Cond.methodLink RX0 45 yX0_elder, Cond.instanceMethod yX0_elder, Cond.selects RX0 yX0_elder yX0_elder, Cond.code yX0_elder cX0_elder 3 (some .int), Cond.methodLink RX0 42 yX0_left, Cond.instanceMethod yX0_left, Cond.selects RX0 yX0_left yX0_left, Cond.code yX0_left cX0_left 2 (some .int), Cond.methodLink RX0 39 yX0_sideAt, Cond.instanceMethod yX0_sideAt, Cond.selects RX0 yX0_sideAt yX0_sideAt, Cond.code yX0_sideAt cX0_sideAt 2 (some .int), Cond.fieldLink RX0 18 "SnoringDukes$WeakHeap" "side" "[I", Cond.methodLink RX0 48 yX0_loudnessAt, Cond.methodLink RX0 51 yJ13_bitCount_95d88, Cond.static yJ13_bitCount_95d88, Cond.initialized RJ13, Cond.code yJ13_bitCount_95d88 cJ13_bitCount_95d88 2 (some .int), Cond.constantLong RJ13 314 (6148914691236517205), Cond.constantLong RJ13 316 (3689348814741910323), Cond.constantLong RJ13 318 (1085102592571150095)]
def wsX1_quieterThan : List Cond := .code yX1_quieterThan cX1_quieterThan 3 (some .int) :: ((wsX1_quieterThan_r1 ++ wsX1_quieterThan_r2) ++ wsX10 ++ wsX00 ++ (vx_atS RX1 78 "java/lang/IndexOutOfBoundsException" ["java/lang/RuntimeException", "java/lang/Exception"]).filter goodWord)
def wsX2_init : List Cond := .code yX2_init cX2_init 1 none :: ([.methodLink RX2 1 objectInit, .instanceMethod objectInit, .code objectInit ⟨#[0xb1]⟩ 1 none, .arrayClass .int, .fieldLink RX2 7 "SnoringDukesModel" "loud" "[I", .fieldLink RX2 13 "SnoringDukesModel" "lies" "[I", .fieldLink RX2 16 "SnoringDukesModel" "side" "[I", .fieldLink RX2 19 "SnoringDukesModel" "shadow" "[I", .fieldLink RX2 22 "SnoringDukesModel" "shade" "[I"] ++ wsX20)
def wsX2_thrown : List Cond := .code yX2_thrown cX2_thrown 1 (some .int) :: ([.fieldLink RX2 25 "SnoringDukesModel" "thrown" "I"] ++ wsX20)
def wsX2_isOf : List Cond := .code yX2_isOf cX2_isOf 3 (some .boolean) :: ([])
def wsX2_find : List Cond := .code yX2_find cX2_find 3 (some .int) :: ([.fieldLink RX2 29 "SnoringDukesModel" "many" "I", .fieldLink RX2 13 "SnoringDukesModel" "lies" "[I"] ++ wsX20)
def wsX2_left : List Cond := .code yX2_left cX2_left 2 (some .int) :: ([.fieldLink RX2 16 "SnoringDukesModel" "side" "[I"] ++ wsX20)
def wsX2_elder : List Cond := .code yX2_elder cX2_elder 3 (some .int) :: ([.methodLink RX2 32 yX2_left, .instanceMethod yX2_left, .selects RX2 yX2_left yX2_left, .initialized RX2, .code yX2_left cX2_left 2 (some .int), .fieldLink RX2 16 "SnoringDukesModel" "side" "[I"] ++ wsX20)
def wsX2_joins : List Cond := .code yX2_joins cX2_joins 6 (some .boolean) :: ([.fieldLink RX2 36 "SnoringDukesModel" "compared" "I", .fieldLink RX2 7 "SnoringDukesModel" "loud" "[I", .fieldLink RX2 13 "SnoringDukesModel" "lies" "[I", .fieldLink RX2 16 "SnoringDukesModel" "side" "[I", .fieldLink RX2 39 "SnoringDukesModel" "changed" "I"] ++ wsX20)
def wsX2_rises : List Cond := .code yX2_rises cX2_rises 6 (some .int) :: ([.methodLink RX2 42 yX2_elder, .instanceMethod yX2_elder, .selects RX2 yX2_elder yX2_elder, .initialized RX2, .code yX2_elder cX2_elder 3 (some .int), .methodLink RX2 32 yX2_left, .instanceMethod yX2_left, .selects RX2 yX2_left yX2_left, .code yX2_left cX2_left 2 (some .int), .fieldLink RX2 16 "SnoringDukesModel" "side" "[I", .methodLink RX2 45 yX2_joins, .instanceMethod yX2_joins, .selects RX2 yX2_joins yX2_joins, .code yX2_joins cX2_joins 6 (some .boolean), .fieldLink RX2 36 "SnoringDukesModel" "compared" "I", .fieldLink RX2 7 "SnoringDukesModel" "loud" "[I", .fieldLink RX2 13 "SnoringDukesModel" "lies" "[I", .fieldLink RX2 39 "SnoringDukesModel" "changed" "I"] ++ wsX20)
def wsX2_leaves : List Cond := .code yX2_leaves cX2_leaves 4 (some .int) :: ([.fieldLink RX2 13 "SnoringDukesModel" "lies" "[I", .fieldLink RX2 29 "SnoringDukesModel" "many" "I", .methodLink RX2 32 yX2_left, .instanceMethod yX2_left, .selects RX2 yX2_left yX2_left, .initialized RX2, .code yX2_left cX2_left 2 (some .int), .fieldLink RX2 16 "SnoringDukesModel" "side" "[I", .methodLink RX2 45 yX2_joins, .instanceMethod yX2_joins, .selects RX2 yX2_joins yX2_joins, .code yX2_joins cX2_joins 6 (some .boolean), .fieldLink RX2 36 "SnoringDukesModel" "compared" "I", .fieldLink RX2 7 "SnoringDukesModel" "loud" "[I", .fieldLink RX2 39 "SnoringDukesModel" "changed" "I"] ++ wsX20)
def wsX2_lays : List Cond := .code yX2_lays cX2_lays 2 none :: ([.fieldLink RX2 7 "SnoringDukesModel" "loud" "[I", .fieldLink RX2 49 "SnoringDukesModel" "came" "I", .fieldLink RX2 13 "SnoringDukesModel" "lies" "[I", .fieldLink RX2 29 "SnoringDukesModel" "many" "I", .fieldLink RX2 16 "SnoringDukesModel" "side" "[I"] ++ wsX20)
def wsX2_come_r1 : List Cond := [Cond.fieldLink RX2 29 "SnoringDukesModel" "many" "I", Cond.fieldLink RX2 49 "SnoringDukesModel" "came" "I", Cond.fieldLink RX2 25 "SnoringDukesModel" "thrown" "I", Cond.fieldLink RX2 16 "SnoringDukesModel" "side" "[I", Cond.methodLink RX2 52 yX2_isOf, Cond.static yX2_isOf, Cond.initialized RX2, Cond.code yX2_isOf cX2_isOf 3 (some .boolean), Cond.methodLink RX2 56 yX2_lays, Cond.instanceMethod yX2_lays, Cond.selects RX2 yX2_lays yX2_lays, Cond.code yX2_lays cX2_lays 2 none, Cond.fieldLink RX2 7 "SnoringDukesModel" "loud" "[I", Cond.fieldLink RX2 13 "SnoringDukesModel" "lies" "[I", Cond.methodLink RX2 60 yX2_rises, Cond.instanceMethod yX2_rises, Cond.selects RX2 yX2_rises yX2_rises, Cond.code yX2_rises cX2_rises 6 (some .int), Cond.methodLink RX2 42 yX2_elder, Cond.instanceMethod yX2_elder, Cond.selects RX2 yX2_elder yX2_elder, Cond.code yX2_elder cX2_elder 3 (some .int), Cond.methodLink RX2 32 yX2_left, Cond.instanceMethod yX2_left]
def wsX2_come_r2 : List Cond := [Cond.selects RX2 yX2_left yX2_left, Cond.code yX2_left cX2_left 2 (some .int), Cond.methodLink RX2 45 yX2_joins, Cond.instanceMethod yX2_joins, Cond.selects RX2 yX2_joins yX2_joins, Cond.code yX2_joins cX2_joins 6 (some .boolean), Cond.fieldLink RX2 36 "SnoringDukesModel" "compared" "I", Cond.fieldLink RX2 39 "SnoringDukesModel" "changed" "I"]
def wsX2_come : List Cond := .code yX2_come cX2_come 4 (some .int) :: ((wsX2_come_r1 ++ wsX2_come_r2) ++ wsX20)
def wsX2_coach_r1 : List Cond := [Cond.fieldLink RX2 29 "SnoringDukesModel" "many" "I", Cond.fieldLink RX2 49 "SnoringDukesModel" "came" "I", Cond.fieldLink RX2 25 "SnoringDukesModel" "thrown" "I", Cond.fieldLink RX2 16 "SnoringDukesModel" "side" "[I", Cond.methodLink RX2 52 yX2_isOf, Cond.static yX2_isOf, Cond.initialized RX2, Cond.code yX2_isOf cX2_isOf 3 (some .boolean), Cond.methodLink RX2 56 yX2_lays, Cond.instanceMethod yX2_lays, Cond.selects RX2 yX2_lays yX2_lays, Cond.code yX2_lays cX2_lays 2 none, Cond.fieldLink RX2 7 "SnoringDukesModel" "loud" "[I", Cond.fieldLink RX2 13 "SnoringDukesModel" "lies" "[I", Cond.methodLink RX2 42 yX2_elder, Cond.instanceMethod yX2_elder, Cond.selects RX2 yX2_elder yX2_elder, Cond.code yX2_elder cX2_elder 3 (some .int), Cond.methodLink RX2 32 yX2_left, Cond.instanceMethod yX2_left, Cond.selects RX2 yX2_left yX2_left, Cond.code yX2_left cX2_left 2 (some .int), Cond.methodLink RX2 45 yX2_joins, Cond.instanceMethod yX2_joins]
def wsX2_coach_r2 : List Cond := [Cond.selects RX2 yX2_joins yX2_joins, Cond.code yX2_joins cX2_joins 6 (some .boolean), Cond.fieldLink RX2 36 "SnoringDukesModel" "compared" "I", Cond.fieldLink RX2 39 "SnoringDukesModel" "changed" "I"]
def wsX2_coach : List Cond := .code yX2_coach cX2_coach 7 (some .int) :: ((wsX2_coach_r1 ++ wsX2_coach_r2) ++ wsX20)
def wsX2_leave : List Cond := .code yX2_leave cX2_leave 1 (some .int) :: ([.fieldLink RX2 29 "SnoringDukesModel" "many" "I", .fieldLink RX2 25 "SnoringDukesModel" "thrown" "I", .methodLink RX2 64 yX2_leaves, .instanceMethod yX2_leaves, .selects RX2 yX2_leaves yX2_leaves, .initialized RX2, .code yX2_leaves cX2_leaves 4 (some .int), .fieldLink RX2 13 "SnoringDukesModel" "lies" "[I", .methodLink RX2 32 yX2_left, .instanceMethod yX2_left, .selects RX2 yX2_left yX2_left, .code yX2_left cX2_left 2 (some .int), .fieldLink RX2 16 "SnoringDukesModel" "side" "[I", .methodLink RX2 45 yX2_joins, .instanceMethod yX2_joins, .selects RX2 yX2_joins yX2_joins, .code yX2_joins cX2_joins 6 (some .boolean), .fieldLink RX2 36 "SnoringDukesModel" "compared" "I", .fieldLink RX2 7 "SnoringDukesModel" "loud" "[I", .fieldLink RX2 39 "SnoringDukesModel" "changed" "I"] ++ wsX20)
def wsX2_hush_r1 : List Cond := [Cond.fieldLink RX2 7 "SnoringDukesModel" "loud" "[I", Cond.fieldLink RX2 25 "SnoringDukesModel" "thrown" "I", Cond.methodLink RX2 68 yX2_find, Cond.instanceMethod yX2_find, Cond.selects RX2 yX2_find yX2_find, Cond.initialized RX2, Cond.code yX2_find cX2_find 3 (some .int), Cond.fieldLink RX2 29 "SnoringDukesModel" "many" "I", Cond.fieldLink RX2 13 "SnoringDukesModel" "lies" "[I", Cond.methodLink RX2 52 yX2_isOf, Cond.static yX2_isOf, Cond.code yX2_isOf cX2_isOf 3 (some .boolean), Cond.methodLink RX2 60 yX2_rises, Cond.instanceMethod yX2_rises, Cond.selects RX2 yX2_rises yX2_rises, Cond.code yX2_rises cX2_rises 6 (some .int), Cond.methodLink RX2 42 yX2_elder, Cond.instanceMethod yX2_elder, Cond.selects RX2 yX2_elder yX2_elder, Cond.code yX2_elder cX2_elder 3 (some .int), Cond.methodLink RX2 32 yX2_left, Cond.instanceMethod yX2_left, Cond.selects RX2 yX2_left yX2_left, Cond.code yX2_left cX2_left 2 (some .int)]
def wsX2_hush_r2 : List Cond := [Cond.fieldLink RX2 16 "SnoringDukesModel" "side" "[I", Cond.methodLink RX2 45 yX2_joins, Cond.instanceMethod yX2_joins, Cond.selects RX2 yX2_joins yX2_joins, Cond.code yX2_joins cX2_joins 6 (some .boolean), Cond.fieldLink RX2 36 "SnoringDukesModel" "compared" "I", Cond.fieldLink RX2 39 "SnoringDukesModel" "changed" "I"]
def wsX2_hush : List Cond := .code yX2_hush cX2_hush 4 (some .int) :: ((wsX2_hush_r1 ++ wsX2_hush_r2) ++ wsX20)
def wsX2_fetch_r1 : List Cond := [Cond.fieldLink RX2 25 "SnoringDukesModel" "thrown" "I", Cond.fieldLink RX2 36 "SnoringDukesModel" "compared" "I", Cond.methodLink RX2 68 yX2_find, Cond.instanceMethod yX2_find, Cond.selects RX2 yX2_find yX2_find, Cond.initialized RX2, Cond.code yX2_find cX2_find 3 (some .int), Cond.fieldLink RX2 29 "SnoringDukesModel" "many" "I", Cond.fieldLink RX2 13 "SnoringDukesModel" "lies" "[I", Cond.methodLink RX2 60 yX2_rises, Cond.instanceMethod yX2_rises, Cond.selects RX2 yX2_rises yX2_rises, Cond.code yX2_rises cX2_rises 6 (some .int), Cond.methodLink RX2 42 yX2_elder, Cond.instanceMethod yX2_elder, Cond.selects RX2 yX2_elder yX2_elder, Cond.code yX2_elder cX2_elder 3 (some .int), Cond.methodLink RX2 32 yX2_left, Cond.instanceMethod yX2_left, Cond.selects RX2 yX2_left yX2_left, Cond.code yX2_left cX2_left 2 (some .int), Cond.fieldLink RX2 16 "SnoringDukesModel" "side" "[I", Cond.methodLink RX2 45 yX2_joins, Cond.instanceMethod yX2_joins]
def wsX2_fetch_r2 : List Cond := [Cond.selects RX2 yX2_joins yX2_joins, Cond.code yX2_joins cX2_joins 6 (some .boolean), Cond.fieldLink RX2 7 "SnoringDukesModel" "loud" "[I", Cond.fieldLink RX2 39 "SnoringDukesModel" "changed" "I", Cond.methodLink RX2 64 yX2_leaves, Cond.instanceMethod yX2_leaves, Cond.selects RX2 yX2_leaves yX2_leaves, Cond.code yX2_leaves cX2_leaves 4 (some .int)]
def wsX2_fetch : List Cond := .code yX2_fetch cX2_fetch 6 (some .int) :: ((wsX2_fetch_r1 ++ wsX2_fetch_r2) ++ wsX20)
def wsX2_dukes : List Cond := .code yX2_dukes cX2_dukes 1 (some .int) :: ([.fieldLink RX2 25 "SnoringDukesModel" "thrown" "I", .fieldLink RX2 29 "SnoringDukesModel" "many" "I"] ++ wsX20)
def wsX2_quietest : List Cond := .code yX2_quietest cX2_quietest 1 (some .int) :: ([.fieldLink RX2 25 "SnoringDukesModel" "thrown" "I", .fieldLink RX2 29 "SnoringDukesModel" "many" "I", .fieldLink RX2 13 "SnoringDukesModel" "lies" "[I"] ++ wsX20)
def wsX2_berthOf : List Cond := .code yX2_berthOf cX2_berthOf 2 (some .int) :: ([.fieldLink RX2 25 "SnoringDukesModel" "thrown" "I", .methodLink RX2 68 yX2_find, .instanceMethod yX2_find, .selects RX2 yX2_find yX2_find, .initialized RX2, .code yX2_find cX2_find 3 (some .int), .fieldLink RX2 29 "SnoringDukesModel" "many" "I", .fieldLink RX2 13 "SnoringDukesModel" "lies" "[I"] ++ wsX20)
def wsX2_isBerth : List Cond := .code yX2_isBerth cX2_isBerth 2 (some .boolean) :: ([.fieldLink RX2 29 "SnoringDukesModel" "many" "I", .fieldLink RX2 25 "SnoringDukesModel" "thrown" "I", .methodLink RX2 52 yX2_isOf, .static yX2_isOf, .initialized RX2, .code yX2_isOf cX2_isOf 3 (some .boolean)] ++ wsX20)
def wsX2_dukeIn : List Cond := .code yX2_dukeIn cX2_dukeIn 2 (some .int) :: ([.fieldLink RX2 13 "SnoringDukesModel" "lies" "[I", .methodLink RX2 71 yX2_isBerth, .instanceMethod yX2_isBerth, .selects RX2 yX2_isBerth yX2_isBerth, .initialized RX2, .code yX2_isBerth cX2_isBerth 2 (some .boolean), .fieldLink RX2 29 "SnoringDukesModel" "many" "I", .fieldLink RX2 25 "SnoringDukesModel" "thrown" "I", .methodLink RX2 52 yX2_isOf, .static yX2_isOf, .code yX2_isOf cX2_isOf 3 (some .boolean)] ++ wsX20)
def wsX2_loudnessIn : List Cond := .code yX2_loudnessIn cX2_loudnessIn 2 (some .int) :: ([.fieldLink RX2 7 "SnoringDukesModel" "loud" "[I", .fieldLink RX2 13 "SnoringDukesModel" "lies" "[I", .methodLink RX2 71 yX2_isBerth, .instanceMethod yX2_isBerth, .selects RX2 yX2_isBerth yX2_isBerth, .initialized RX2, .code yX2_isBerth cX2_isBerth 2 (some .boolean), .fieldLink RX2 29 "SnoringDukesModel" "many" "I", .fieldLink RX2 25 "SnoringDukesModel" "thrown" "I", .methodLink RX2 52 yX2_isOf, .static yX2_isOf, .code yX2_isOf cX2_isOf 3 (some .boolean)] ++ wsX20)
def wsX2_sideOf : List Cond := .code yX2_sideOf cX2_sideOf 2 (some .int) :: ([.fieldLink RX2 16 "SnoringDukesModel" "side" "[I", .methodLink RX2 71 yX2_isBerth, .instanceMethod yX2_isBerth, .selects RX2 yX2_isBerth yX2_isBerth, .initialized RX2, .code yX2_isBerth cX2_isBerth 2 (some .boolean), .fieldLink RX2 29 "SnoringDukesModel" "many" "I", .fieldLink RX2 25 "SnoringDukesModel" "thrown" "I", .methodLink RX2 52 yX2_isOf, .static yX2_isOf, .code yX2_isOf cX2_isOf 3 (some .boolean)] ++ wsX20)
def wsX2_elderOf : List Cond := .code yX2_elderOf cX2_elderOf 2 (some .int) :: ([.methodLink RX2 71 yX2_isBerth, .instanceMethod yX2_isBerth, .selects RX2 yX2_isBerth yX2_isBerth, .initialized RX2, .code yX2_isBerth cX2_isBerth 2 (some .boolean), .fieldLink RX2 29 "SnoringDukesModel" "many" "I", .fieldLink RX2 25 "SnoringDukesModel" "thrown" "I", .methodLink RX2 52 yX2_isOf, .static yX2_isOf, .code yX2_isOf cX2_isOf 3 (some .boolean), .methodLink RX2 42 yX2_elder, .instanceMethod yX2_elder, .selects RX2 yX2_elder yX2_elder, .code yX2_elder cX2_elder 3 (some .int), .methodLink RX2 32 yX2_left, .instanceMethod yX2_left, .selects RX2 yX2_left yX2_left, .code yX2_left cX2_left 2 (some .int), .fieldLink RX2 16 "SnoringDukesModel" "side" "[I"] ++ wsX20)
def wsX2_followersOf : List Cond := .code yX2_followersOf cX2_followersOf 5 (some .int) :: ([.fieldLink RX2 29 "SnoringDukesModel" "many" "I", .methodLink RX2 71 yX2_isBerth, .instanceMethod yX2_isBerth, .selects RX2 yX2_isBerth yX2_isBerth, .initialized RX2, .code yX2_isBerth cX2_isBerth 2 (some .boolean), .fieldLink RX2 25 "SnoringDukesModel" "thrown" "I", .methodLink RX2 52 yX2_isOf, .static yX2_isOf, .code yX2_isOf cX2_isOf 3 (some .boolean), .methodLink RX2 42 yX2_elder, .instanceMethod yX2_elder, .selects RX2 yX2_elder yX2_elder, .code yX2_elder cX2_elder 3 (some .int), .methodLink RX2 32 yX2_left, .instanceMethod yX2_left, .selects RX2 yX2_left yX2_left, .code yX2_left cX2_left 2 (some .int), .fieldLink RX2 16 "SnoringDukesModel" "side" "[I"] ++ wsX20)
def wsX2_flipped : List Cond := .code yX2_flipped cX2_flipped 3 (some .int) :: ([.fieldLink RX2 25 "SnoringDukesModel" "thrown" "I", .fieldLink RX2 29 "SnoringDukesModel" "many" "I", .fieldLink RX2 16 "SnoringDukesModel" "side" "[I"] ++ wsX20)
def wsX2_comparisons : List Cond := .code yX2_comparisons cX2_comparisons 1 (some .int) :: ([.fieldLink RX2 25 "SnoringDukesModel" "thrown" "I", .fieldLink RX2 36 "SnoringDukesModel" "compared" "I"] ++ wsX20)
def wsX2_changes : List Cond := .code yX2_changes cX2_changes 1 (some .int) :: ([.fieldLink RX2 25 "SnoringDukesModel" "thrown" "I", .fieldLink RX2 39 "SnoringDukesModel" "changed" "I"] ++ wsX20)
def wsX2_thought : List Cond := .code yX2_thought cX2_thought 9 (some .int) :: ([.fieldLink RX2 29 "SnoringDukesModel" "many" "I", .fieldLink RX2 36 "SnoringDukesModel" "compared" "I", .fieldLink RX2 39 "SnoringDukesModel" "changed" "I", .fieldLink RX2 19 "SnoringDukesModel" "shadow" "[I", .fieldLink RX2 13 "SnoringDukesModel" "lies" "[I", .fieldLink RX2 22 "SnoringDukesModel" "shade" "[I", .fieldLink RX2 16 "SnoringDukesModel" "side" "[I", .methodLink RX2 64 yX2_leaves, .instanceMethod yX2_leaves, .selects RX2 yX2_leaves yX2_leaves, .initialized RX2, .code yX2_leaves cX2_leaves 4 (some .int), .methodLink RX2 32 yX2_left, .instanceMethod yX2_left, .selects RX2 yX2_left yX2_left, .code yX2_left cX2_left 2 (some .int), .methodLink RX2 45 yX2_joins, .instanceMethod yX2_joins, .selects RX2 yX2_joins yX2_joins, .code yX2_joins cX2_joins 6 (some .boolean), .fieldLink RX2 7 "SnoringDukesModel" "loud" "[I"] ++ wsX20)
def wsX2_comparisonsToEmpty_r1 : List Cond := [Cond.fieldLink RX2 25 "SnoringDukesModel" "thrown" "I", Cond.fieldLink RX2 29 "SnoringDukesModel" "many" "I", Cond.methodLink RX2 75 yX2_thought, Cond.instanceMethod yX2_thought, Cond.selects RX2 yX2_thought yX2_thought, Cond.initialized RX2, Cond.code yX2_thought cX2_thought 9 (some .int), Cond.fieldLink RX2 36 "SnoringDukesModel" "compared" "I", Cond.fieldLink RX2 39 "SnoringDukesModel" "changed" "I", Cond.fieldLink RX2 19 "SnoringDukesModel" "shadow" "[I", Cond.fieldLink RX2 13 "SnoringDukesModel" "lies" "[I", Cond.fieldLink RX2 22 "SnoringDukesModel" "shade" "[I", Cond.fieldLink RX2 16 "SnoringDukesModel" "side" "[I", Cond.methodLink RX2 64 yX2_leaves, Cond.instanceMethod yX2_leaves, Cond.selects RX2 yX2_leaves yX2_leaves, Cond.code yX2_leaves cX2_leaves 4 (some .int), Cond.methodLink RX2 32 yX2_left, Cond.instanceMethod yX2_left, Cond.selects RX2 yX2_left yX2_left, Cond.code yX2_left cX2_left 2 (some .int), Cond.methodLink RX2 45 yX2_joins, Cond.instanceMethod yX2_joins, Cond.selects RX2 yX2_joins yX2_joins]
def wsX2_comparisonsToEmpty_r2 : List Cond := [Cond.code yX2_joins cX2_joins 6 (some .boolean), Cond.fieldLink RX2 7 "SnoringDukesModel" "loud" "[I"]
def wsX2_comparisonsToEmpty : List Cond := .code yX2_comparisonsToEmpty cX2_comparisonsToEmpty 1 (some .int) :: ((wsX2_comparisonsToEmpty_r1 ++ wsX2_comparisonsToEmpty_r2) ++ wsX20)
def wsX2_leavesAt_r1 : List Cond := [Cond.methodLink RX2 71 yX2_isBerth, Cond.instanceMethod yX2_isBerth, Cond.selects RX2 yX2_isBerth yX2_isBerth, Cond.initialized RX2, Cond.code yX2_isBerth cX2_isBerth 2 (some .boolean), Cond.fieldLink RX2 29 "SnoringDukesModel" "many" "I", Cond.fieldLink RX2 25 "SnoringDukesModel" "thrown" "I", Cond.methodLink RX2 52 yX2_isOf, Cond.static yX2_isOf, Cond.code yX2_isOf cX2_isOf 3 (some .boolean), Cond.methodLink RX2 75 yX2_thought, Cond.instanceMethod yX2_thought, Cond.selects RX2 yX2_thought yX2_thought, Cond.code yX2_thought cX2_thought 9 (some .int), Cond.fieldLink RX2 36 "SnoringDukesModel" "compared" "I", Cond.fieldLink RX2 39 "SnoringDukesModel" "changed" "I", Cond.fieldLink RX2 19 "SnoringDukesModel" "shadow" "[I", Cond.fieldLink RX2 13 "SnoringDukesModel" "lies" "[I", Cond.fieldLink RX2 22 "SnoringDukesModel" "shade" "[I", Cond.fieldLink RX2 16 "SnoringDukesModel" "side" "[I", Cond.methodLink RX2 64 yX2_leaves, Cond.instanceMethod yX2_leaves, Cond.selects RX2 yX2_leaves yX2_leaves, Cond.code yX2_leaves cX2_leaves 4 (some .int)]
def wsX2_leavesAt_r2 : List Cond := [Cond.methodLink RX2 32 yX2_left, Cond.instanceMethod yX2_left, Cond.selects RX2 yX2_left yX2_left, Cond.code yX2_left cX2_left 2 (some .int), Cond.methodLink RX2 45 yX2_joins, Cond.instanceMethod yX2_joins, Cond.selects RX2 yX2_joins yX2_joins, Cond.code yX2_joins cX2_joins 6 (some .boolean), Cond.fieldLink RX2 7 "SnoringDukesModel" "loud" "[I"]
def wsX2_leavesAt : List Cond := .code yX2_leavesAt cX2_leavesAt 2 (some .int) :: ((wsX2_leavesAt_r1 ++ wsX2_leavesAt_r2) ++ wsX20)
def wsX2_quieterThan : List Cond := .code yX2_quieterThan cX2_quieterThan 5 (some .int) :: ([.fieldLink RX2 25 "SnoringDukesModel" "thrown" "I", .fieldLink RX2 29 "SnoringDukesModel" "many" "I", .fieldLink RX2 7 "SnoringDukesModel" "loud" "[I", .fieldLink RX2 13 "SnoringDukesModel" "lies" "[I", .methodLink RX2 68 yX2_find, .instanceMethod yX2_find, .selects RX2 yX2_find yX2_find, .initialized RX2, .code yX2_find cX2_find 3 (some .int)] ++ wsX20)
def wsL_come_r1 : List Cond := [Cond.classLink RL 13 "java/lang/IllegalArgumentException", Cond.classLink RL 15 "java/lang/IllegalStateException", Cond.methodLink RL 7 yX1_come, Cond.instanceMethod yX1_come, Cond.selects RX1 yX1_come yX1_come, Cond.initialized RX1, Cond.code yX1_come cX1_come 3 (some .int), Cond.classLink RX1 27 "java/lang/IllegalArgumentException", Cond.initialized "java/lang/IllegalArgumentException", Cond.classLink RX1 37 "java/lang/IllegalStateException", Cond.initialized "java/lang/IllegalStateException", Cond.fieldLink RX1 19 "SnoringDukes" "numbered" "I", Cond.fieldLink RX1 10 "SnoringDukes" "heap" "LSnoringDukes$WeakHeap;", Cond.methodLink RX1 23 yX1_isUpToLoudest, Cond.static yX1_isUpToLoudest, Cond.code yX1_isUpToLoudest cX1_isUpToLoudest 1 (some .boolean), Cond.methodLink RX1 34 yX1_hasRoomFor, Cond.instanceMethod yX1_hasRoomFor, Cond.selects RX1 yX1_hasRoomFor yX1_hasRoomFor, Cond.code yX1_hasRoomFor cX1_hasRoomFor 2 (some .boolean), Cond.methodLink RX1 42 yX0_insert, Cond.instanceMethod yX0_insert, Cond.selects RX0 yX0_insert yX0_insert, Cond.initialized RX0]
def wsL_come_r2 : List Cond := [Cond.code yX0_insert cX0_insert 4 none, Cond.fieldLink RX0 21 "SnoringDukes$WeakHeap" "size" "I", Cond.fieldLink RX0 18 "SnoringDukes$WeakHeap" "side" "[I", Cond.methodLink RX0 57 yX0_lay, Cond.instanceMethod yX0_lay, Cond.selects RX0 yX0_lay yX0_lay, Cond.code yX0_lay cX0_lay 4 none, Cond.fieldLink RX0 9 "SnoringDukes$WeakHeap" "duke" "[I", Cond.fieldLink RX0 15 "SnoringDukes$WeakHeap" "loudness" "[I", Cond.methodLink RX0 31 yX0_has, Cond.instanceMethod yX0_has, Cond.selects RX0 yX0_has yX0_has, Cond.code yX0_has cX0_has 2 (some .boolean), Cond.methodLink RX0 61 yX0_rise, Cond.instanceMethod yX0_rise, Cond.selects RX0 yX0_rise yX0_rise, Cond.code yX0_rise cX0_rise 5 (some .int), Cond.methodLink RX0 45 yX0_elder, Cond.instanceMethod yX0_elder, Cond.selects RX0 yX0_elder yX0_elder, Cond.code yX0_elder cX0_elder 3 (some .int), Cond.methodLink RX0 42 yX0_left, Cond.instanceMethod yX0_left, Cond.selects RX0 yX0_left yX0_left]
def wsL_come_r3 : List Cond := [Cond.code yX0_left cX0_left 2 (some .int), Cond.methodLink RX0 39 yX0_sideAt, Cond.instanceMethod yX0_sideAt, Cond.selects RX0 yX0_sideAt yX0_sideAt, Cond.code yX0_sideAt cX0_sideAt 2 (some .int), Cond.methodLink RX0 64 yX0_join, Cond.instanceMethod yX0_join, Cond.selects RX0 yX0_join yX0_join, Cond.code yX0_join cX0_join 3 (some .boolean), Cond.fieldLink RX0 25 "SnoringDukes$WeakHeap" "compared" "I", Cond.fieldLink RX0 28 "SnoringDukes$WeakHeap" "changed" "I", Cond.methodLink RX0 75 yX0_exchange, Cond.instanceMethod yX0_exchange, Cond.selects RX0 yX0_exchange yX0_exchange, Cond.code yX0_exchange cX0_exchange 5 none]
def wsL_come : List Cond := .codeWith yL_come cL_come 4 (some .int) [(0, 9, 12, 13), (0, 9, 15, 15)] :: ((wsL_come_r1 ++ (wsL_come_r2 ++ wsL_come_r3)) ++ wsX10 ++ wsX00 ++ (vx_atS RX1 31 "java/lang/IllegalArgumentException" ["java/lang/RuntimeException", "java/lang/Exception"]).filter goodWord ++ (vx_atS RX1 41 "java/lang/IllegalStateException" ["java/lang/RuntimeException", "java/lang/Exception"]).filter goodWord)
def wsL_coach_r1 : List Cond := [Cond.classLink RL 13 "java/lang/IllegalArgumentException", Cond.classLink RL 15 "java/lang/IllegalStateException", Cond.methodLink RL 17 yX1_coach, Cond.instanceMethod yX1_coach, Cond.selects RX1 yX1_coach yX1_coach, Cond.initialized RX1, Cond.code yX1_coach cX1_coach 6 (some .int), Cond.classLink RX1 27 "java/lang/IllegalArgumentException", Cond.initialized "java/lang/IllegalArgumentException", Cond.classLink RX1 37 "java/lang/IllegalStateException", Cond.initialized "java/lang/IllegalStateException", Cond.fieldLink RX1 10 "SnoringDukes" "heap" "LSnoringDukes$WeakHeap;", Cond.fieldLink RX1 19 "SnoringDukes" "numbered" "I", Cond.methodLink RX1 23 yX1_isUpToLoudest, Cond.static yX1_isUpToLoudest, Cond.code yX1_isUpToLoudest cX1_isUpToLoudest 1 (some .boolean), Cond.methodLink RX1 34 yX1_hasRoomFor, Cond.instanceMethod yX1_hasRoomFor, Cond.selects RX1 yX1_hasRoomFor yX1_hasRoomFor, Cond.code yX1_hasRoomFor cX1_hasRoomFor 2 (some .boolean), Cond.methodLink RX1 55 yX0_lay, Cond.instanceMethod yX0_lay, Cond.selects RX0 yX0_lay yX0_lay, Cond.initialized RX0]
def wsL_coach_r2 : List Cond := [Cond.code yX0_lay cX0_lay 4 none, Cond.fieldLink RX0 21 "SnoringDukes$WeakHeap" "size" "I", Cond.fieldLink RX0 9 "SnoringDukes$WeakHeap" "duke" "[I", Cond.fieldLink RX0 15 "SnoringDukes$WeakHeap" "loudness" "[I", Cond.fieldLink RX0 18 "SnoringDukes$WeakHeap" "side" "[I", Cond.methodLink RX1 58 yX0_joinAll, Cond.instanceMethod yX0_joinAll, Cond.selects RX0 yX0_joinAll yX0_joinAll, Cond.code yX0_joinAll cX0_joinAll 2 none, Cond.methodLink RX0 45 yX0_elder, Cond.instanceMethod yX0_elder, Cond.selects RX0 yX0_elder yX0_elder, Cond.code yX0_elder cX0_elder 3 (some .int), Cond.methodLink RX0 42 yX0_left, Cond.instanceMethod yX0_left, Cond.selects RX0 yX0_left yX0_left, Cond.code yX0_left cX0_left 2 (some .int), Cond.methodLink RX0 39 yX0_sideAt, Cond.instanceMethod yX0_sideAt, Cond.selects RX0 yX0_sideAt yX0_sideAt, Cond.code yX0_sideAt cX0_sideAt 2 (some .int), Cond.methodLink RX0 31 yX0_has, Cond.instanceMethod yX0_has, Cond.selects RX0 yX0_has yX0_has]
def wsL_coach_r3 : List Cond := [Cond.code yX0_has cX0_has 2 (some .boolean), Cond.methodLink RX0 64 yX0_join, Cond.instanceMethod yX0_join, Cond.selects RX0 yX0_join yX0_join, Cond.code yX0_join cX0_join 3 (some .boolean), Cond.fieldLink RX0 25 "SnoringDukes$WeakHeap" "compared" "I", Cond.fieldLink RX0 28 "SnoringDukes$WeakHeap" "changed" "I", Cond.methodLink RX0 75 yX0_exchange, Cond.instanceMethod yX0_exchange, Cond.selects RX0 yX0_exchange yX0_exchange, Cond.code yX0_exchange cX0_exchange 5 none]
def wsL_coach : List Cond := .codeWith yL_coach cL_coach 6 (some .int) [(0, 12, 15, 13), (0, 12, 19, 15)] :: ((wsL_coach_r1 ++ (wsL_coach_r2 ++ wsL_coach_r3)) ++ wsX10 ++ wsX00 ++ (vx_atS RX1 31 "java/lang/IllegalArgumentException" ["java/lang/RuntimeException", "java/lang/Exception"]).filter goodWord ++ (vx_atS RX1 41 "java/lang/IllegalStateException" ["java/lang/RuntimeException", "java/lang/Exception"]).filter goodWord)
def wsL_leave_r1 : List Cond := [Cond.classLink RL 15 "java/lang/IllegalStateException", Cond.methodLink RL 21 yX1_leave, Cond.instanceMethod yX1_leave, Cond.selects RX1 yX1_leave yX1_leave, Cond.initialized RX1, Cond.code yX1_leave cX1_leave 1 (some .int), Cond.classLink RX1 37 "java/lang/IllegalStateException", Cond.initialized "java/lang/IllegalStateException", Cond.fieldLink RX1 10 "SnoringDukes" "heap" "LSnoringDukes$WeakHeap;", Cond.methodLink RX1 66 yX0_removeTop, Cond.instanceMethod yX0_removeTop, Cond.selects RX0 yX0_removeTop yX0_removeTop, Cond.initialized RX0, Cond.code yX0_removeTop cX0_removeTop 3 (some .int), Cond.fieldLink RX0 9 "SnoringDukes$WeakHeap" "duke" "[I", Cond.fieldLink RX0 21 "SnoringDukes$WeakHeap" "size" "I", Cond.fieldLink RX0 15 "SnoringDukes$WeakHeap" "loudness" "[I", Cond.methodLink RX0 31 yX0_has, Cond.instanceMethod yX0_has, Cond.selects RX0 yX0_has yX0_has, Cond.code yX0_has cX0_has 2 (some .boolean), Cond.methodLink RX0 68 yX0_joinTop, Cond.instanceMethod yX0_joinTop, Cond.selects RX0 yX0_joinTop yX0_joinTop]
def wsL_leave_r2 : List Cond := [Cond.code yX0_joinTop cX0_joinTop 3 none, Cond.methodLink RX0 42 yX0_left, Cond.instanceMethod yX0_left, Cond.selects RX0 yX0_left yX0_left, Cond.code yX0_left cX0_left 2 (some .int), Cond.methodLink RX0 39 yX0_sideAt, Cond.instanceMethod yX0_sideAt, Cond.selects RX0 yX0_sideAt yX0_sideAt, Cond.code yX0_sideAt cX0_sideAt 2 (some .int), Cond.fieldLink RX0 18 "SnoringDukes$WeakHeap" "side" "[I", Cond.methodLink RX0 64 yX0_join, Cond.instanceMethod yX0_join, Cond.selects RX0 yX0_join yX0_join, Cond.code yX0_join cX0_join 3 (some .boolean), Cond.fieldLink RX0 25 "SnoringDukes$WeakHeap" "compared" "I", Cond.fieldLink RX0 28 "SnoringDukes$WeakHeap" "changed" "I", Cond.methodLink RX0 75 yX0_exchange, Cond.instanceMethod yX0_exchange, Cond.selects RX0 yX0_exchange yX0_exchange, Cond.code yX0_exchange cX0_exchange 5 none]
def wsL_leave : List Cond := .codeWith yL_leave cL_leave 3 (some .int) [(0, 8, 11, 15)] :: ((wsL_leave_r1 ++ wsL_leave_r2) ++ wsX10 ++ wsX00 ++ (vx_atS RX1 41 "java/lang/IllegalStateException" ["java/lang/RuntimeException", "java/lang/Exception"]).filter goodWord)
def wsL_hush_r1 : List Cond := [Cond.classLink RL 29 "java/lang/IndexOutOfBoundsException", Cond.classLink RL 13 "java/lang/IllegalArgumentException", Cond.methodLink RL 25 yX1_hush, Cond.instanceMethod yX1_hush, Cond.selects RX1 yX1_hush yX1_hush, Cond.initialized RX1, Cond.code yX1_hush cX1_hush 4 (some .int), Cond.classLink RX1 74 "java/lang/IndexOutOfBoundsException", Cond.initialized "java/lang/IndexOutOfBoundsException", Cond.classLink RX1 27 "java/lang/IllegalArgumentException", Cond.initialized "java/lang/IllegalArgumentException", Cond.fieldLink RX1 10 "SnoringDukes" "heap" "LSnoringDukes$WeakHeap;", Cond.methodLink RX1 70 yX0_find, Cond.instanceMethod yX0_find, Cond.selects RX0 yX0_find yX0_find, Cond.initialized RX0, Cond.code yX0_find cX0_find 3 (some .int), Cond.fieldLink RX0 21 "SnoringDukes$WeakHeap" "size" "I", Cond.methodLink RX0 35 yX0_dukeAt, Cond.instanceMethod yX0_dukeAt, Cond.selects RX0 yX0_dukeAt yX0_dukeAt, Cond.code yX0_dukeAt cX0_dukeAt 2 (some .int), Cond.fieldLink RX0 9 "SnoringDukes$WeakHeap" "duke" "[I", Cond.methodLink RX0 31 yX0_has]
def wsL_hush_r2 : List Cond := [Cond.instanceMethod yX0_has, Cond.selects RX0 yX0_has yX0_has, Cond.code yX0_has cX0_has 2 (some .boolean), Cond.methodLink RX1 79 yX0_loudnessAt, Cond.instanceMethod yX0_loudnessAt, Cond.selects RX0 yX0_loudnessAt yX0_loudnessAt, Cond.code yX0_loudnessAt cX0_loudnessAt 2 (some .int), Cond.fieldLink RX0 15 "SnoringDukes$WeakHeap" "loudness" "[I", Cond.methodLink RX1 84 yX0_quieten, Cond.instanceMethod yX0_quieten, Cond.selects RX0 yX0_quieten yX0_quieten, Cond.code yX0_quieten cX0_quieten 3 (some .int), Cond.methodLink RX0 61 yX0_rise, Cond.instanceMethod yX0_rise, Cond.selects RX0 yX0_rise yX0_rise, Cond.code yX0_rise cX0_rise 5 (some .int), Cond.methodLink RX0 45 yX0_elder, Cond.instanceMethod yX0_elder, Cond.selects RX0 yX0_elder yX0_elder, Cond.code yX0_elder cX0_elder 3 (some .int), Cond.methodLink RX0 42 yX0_left, Cond.instanceMethod yX0_left, Cond.selects RX0 yX0_left yX0_left, Cond.code yX0_left cX0_left 2 (some .int)]
def wsL_hush_r3 : List Cond := [Cond.methodLink RX0 39 yX0_sideAt, Cond.instanceMethod yX0_sideAt, Cond.selects RX0 yX0_sideAt yX0_sideAt, Cond.code yX0_sideAt cX0_sideAt 2 (some .int), Cond.fieldLink RX0 18 "SnoringDukes$WeakHeap" "side" "[I", Cond.methodLink RX0 64 yX0_join, Cond.instanceMethod yX0_join, Cond.selects RX0 yX0_join yX0_join, Cond.code yX0_join cX0_join 3 (some .boolean), Cond.fieldLink RX0 25 "SnoringDukes$WeakHeap" "compared" "I", Cond.fieldLink RX0 28 "SnoringDukes$WeakHeap" "changed" "I", Cond.methodLink RX0 75 yX0_exchange, Cond.instanceMethod yX0_exchange, Cond.selects RX0 yX0_exchange yX0_exchange, Cond.code yX0_exchange cX0_exchange 5 none]
def wsL_hush : List Cond := .codeWith yL_hush cL_hush 5 (some .int) [(0, 10, 13, 29), (0, 10, 17, 13)] :: ((wsL_hush_r1 ++ (wsL_hush_r2 ++ wsL_hush_r3)) ++ wsX10 ++ wsX00 ++ (vx_atS RX1 78 "java/lang/IndexOutOfBoundsException" ["java/lang/RuntimeException", "java/lang/Exception"]).filter goodWord ++ (vx_atS RX1 31 "java/lang/IllegalArgumentException" ["java/lang/RuntimeException", "java/lang/Exception"]).filter goodWord)
def wsL_fetch_r1 : List Cond := [Cond.classLink RL 29 "java/lang/IndexOutOfBoundsException", Cond.methodLink RL 31 yX1_fetch, Cond.instanceMethod yX1_fetch, Cond.selects RX1 yX1_fetch yX1_fetch, Cond.initialized RX1, Cond.code yX1_fetch cX1_fetch 4 (some .int), Cond.classLink RX1 74 "java/lang/IndexOutOfBoundsException", Cond.initialized "java/lang/IndexOutOfBoundsException", Cond.fieldLink RX1 10 "SnoringDukes" "heap" "LSnoringDukes$WeakHeap;", Cond.methodLink RX1 70 yX0_find, Cond.instanceMethod yX0_find, Cond.selects RX0 yX0_find yX0_find, Cond.initialized RX0, Cond.code yX0_find cX0_find 3 (some .int), Cond.fieldLink RX0 21 "SnoringDukes$WeakHeap" "size" "I", Cond.methodLink RX0 35 yX0_dukeAt, Cond.instanceMethod yX0_dukeAt, Cond.selects RX0 yX0_dukeAt yX0_dukeAt, Cond.code yX0_dukeAt cX0_dukeAt 2 (some .int), Cond.fieldLink RX0 9 "SnoringDukes$WeakHeap" "duke" "[I", Cond.methodLink RX0 31 yX0_has, Cond.instanceMethod yX0_has, Cond.selects RX0 yX0_has yX0_has, Cond.code yX0_has cX0_has 2 (some .boolean)]
def wsL_fetch_r2 : List Cond := [Cond.methodLink RX1 84 yX0_quieten, Cond.instanceMethod yX0_quieten, Cond.selects RX0 yX0_quieten yX0_quieten, Cond.code yX0_quieten cX0_quieten 3 (some .int), Cond.fieldLink RX0 15 "SnoringDukes$WeakHeap" "loudness" "[I", Cond.methodLink RX0 61 yX0_rise, Cond.instanceMethod yX0_rise, Cond.selects RX0 yX0_rise yX0_rise, Cond.code yX0_rise cX0_rise 5 (some .int), Cond.methodLink RX0 45 yX0_elder, Cond.instanceMethod yX0_elder, Cond.selects RX0 yX0_elder yX0_elder, Cond.code yX0_elder cX0_elder 3 (some .int), Cond.methodLink RX0 42 yX0_left, Cond.instanceMethod yX0_left, Cond.selects RX0 yX0_left yX0_left, Cond.code yX0_left cX0_left 2 (some .int), Cond.methodLink RX0 39 yX0_sideAt, Cond.instanceMethod yX0_sideAt, Cond.selects RX0 yX0_sideAt yX0_sideAt, Cond.code yX0_sideAt cX0_sideAt 2 (some .int), Cond.fieldLink RX0 18 "SnoringDukes$WeakHeap" "side" "[I", Cond.methodLink RX0 64 yX0_join, Cond.instanceMethod yX0_join]
def wsL_fetch_r3 : List Cond := [Cond.selects RX0 yX0_join yX0_join, Cond.code yX0_join cX0_join 3 (some .boolean), Cond.fieldLink RX0 25 "SnoringDukes$WeakHeap" "compared" "I", Cond.fieldLink RX0 28 "SnoringDukes$WeakHeap" "changed" "I", Cond.methodLink RX0 75 yX0_exchange, Cond.instanceMethod yX0_exchange, Cond.selects RX0 yX0_exchange yX0_exchange, Cond.code yX0_exchange cX0_exchange 5 none, Cond.methodLink RX1 66 yX0_removeTop, Cond.instanceMethod yX0_removeTop, Cond.selects RX0 yX0_removeTop yX0_removeTop, Cond.code yX0_removeTop cX0_removeTop 3 (some .int), Cond.methodLink RX0 68 yX0_joinTop, Cond.instanceMethod yX0_joinTop, Cond.selects RX0 yX0_joinTop yX0_joinTop, Cond.code yX0_joinTop cX0_joinTop 3 none]
def wsL_fetch : List Cond := .codeWith yL_fetch cL_fetch 4 (some .int) [(0, 9, 12, 29)] :: ((wsL_fetch_r1 ++ (wsL_fetch_r2 ++ wsL_fetch_r3)) ++ wsX10 ++ wsX00 ++ (vx_atS RX1 78 "java/lang/IndexOutOfBoundsException" ["java/lang/RuntimeException", "java/lang/Exception"]).filter goodWord)
def wsL_dukeIn_r1 : List Cond := [Cond.classLink RL 29 "java/lang/IndexOutOfBoundsException", Cond.methodLink RL 34 yX1_dukeIn, Cond.instanceMethod yX1_dukeIn, Cond.selects RX1 yX1_dukeIn yX1_dukeIn, Cond.initialized RX1, Cond.code yX1_dukeIn cX1_dukeIn 2 (some .int), Cond.fieldLink RX1 10 "SnoringDukes" "heap" "LSnoringDukes$WeakHeap;", Cond.methodLink RX1 91 yX1_refuseUnlessBerth, Cond.instanceMethod yX1_refuseUnlessBerth, Cond.selects RX1 yX1_refuseUnlessBerth yX1_refuseUnlessBerth, Cond.code yX1_refuseUnlessBerth cX1_refuseUnlessBerth 2 none, Cond.classLink RX1 74 "java/lang/IndexOutOfBoundsException", Cond.initialized "java/lang/IndexOutOfBoundsException", Cond.methodLink RX1 117 yX0_has, Cond.instanceMethod yX0_has, Cond.selects RX0 yX0_has yX0_has, Cond.initialized RX0, Cond.code yX0_has cX0_has 2 (some .boolean), Cond.fieldLink RX0 21 "SnoringDukes$WeakHeap" "size" "I", Cond.methodLink RX1 88 yX0_dukeAt, Cond.instanceMethod yX0_dukeAt, Cond.selects RX0 yX0_dukeAt yX0_dukeAt, Cond.code yX0_dukeAt cX0_dukeAt 2 (some .int), Cond.fieldLink RX0 9 "SnoringDukes$WeakHeap" "duke" "[I"]
def wsL_dukeIn_r2 : List Cond := [Cond.methodLink RX0 31 yX0_has]
def wsL_dukeIn : List Cond := .codeWith yL_dukeIn cL_dukeIn 4 (some .int) [(0, 9, 12, 29)] :: ((wsL_dukeIn_r1 ++ wsL_dukeIn_r2) ++ wsX10 ++ wsX00 ++ (vx_atS RX1 78 "java/lang/IndexOutOfBoundsException" ["java/lang/RuntimeException", "java/lang/Exception"]).filter goodWord)
def wsL_loudnessIn_r1 : List Cond := [Cond.classLink RL 29 "java/lang/IndexOutOfBoundsException", Cond.methodLink RL 37 yX1_loudnessIn, Cond.instanceMethod yX1_loudnessIn, Cond.selects RX1 yX1_loudnessIn yX1_loudnessIn, Cond.initialized RX1, Cond.code yX1_loudnessIn cX1_loudnessIn 2 (some .int), Cond.fieldLink RX1 10 "SnoringDukes" "heap" "LSnoringDukes$WeakHeap;", Cond.methodLink RX1 91 yX1_refuseUnlessBerth, Cond.instanceMethod yX1_refuseUnlessBerth, Cond.selects RX1 yX1_refuseUnlessBerth yX1_refuseUnlessBerth, Cond.code yX1_refuseUnlessBerth cX1_refuseUnlessBerth 2 none, Cond.classLink RX1 74 "java/lang/IndexOutOfBoundsException", Cond.initialized "java/lang/IndexOutOfBoundsException", Cond.methodLink RX1 117 yX0_has, Cond.instanceMethod yX0_has, Cond.selects RX0 yX0_has yX0_has, Cond.initialized RX0, Cond.code yX0_has cX0_has 2 (some .boolean), Cond.fieldLink RX0 21 "SnoringDukes$WeakHeap" "size" "I", Cond.methodLink RX1 79 yX0_loudnessAt, Cond.instanceMethod yX0_loudnessAt, Cond.selects RX0 yX0_loudnessAt yX0_loudnessAt, Cond.code yX0_loudnessAt cX0_loudnessAt 2 (some .int), Cond.fieldLink RX0 15 "SnoringDukes$WeakHeap" "loudness" "[I"]
def wsL_loudnessIn_r2 : List Cond := [Cond.methodLink RX0 31 yX0_has]
def wsL_loudnessIn : List Cond := .codeWith yL_loudnessIn cL_loudnessIn 4 (some .int) [(0, 9, 12, 29)] :: ((wsL_loudnessIn_r1 ++ wsL_loudnessIn_r2) ++ wsX10 ++ wsX00 ++ (vx_atS RX1 78 "java/lang/IndexOutOfBoundsException" ["java/lang/RuntimeException", "java/lang/Exception"]).filter goodWord)
def wsL_sideOf_r1 : List Cond := [Cond.classLink RL 29 "java/lang/IndexOutOfBoundsException", Cond.methodLink RL 40 yX1_sideOf, Cond.instanceMethod yX1_sideOf, Cond.selects RX1 yX1_sideOf yX1_sideOf, Cond.initialized RX1, Cond.code yX1_sideOf cX1_sideOf 2 (some .int), Cond.fieldLink RX1 10 "SnoringDukes" "heap" "LSnoringDukes$WeakHeap;", Cond.methodLink RX1 91 yX1_refuseUnlessBerth, Cond.instanceMethod yX1_refuseUnlessBerth, Cond.selects RX1 yX1_refuseUnlessBerth yX1_refuseUnlessBerth, Cond.code yX1_refuseUnlessBerth cX1_refuseUnlessBerth 2 none, Cond.classLink RX1 74 "java/lang/IndexOutOfBoundsException", Cond.initialized "java/lang/IndexOutOfBoundsException", Cond.methodLink RX1 117 yX0_has, Cond.instanceMethod yX0_has, Cond.selects RX0 yX0_has yX0_has, Cond.initialized RX0, Cond.code yX0_has cX0_has 2 (some .boolean), Cond.fieldLink RX0 21 "SnoringDukes$WeakHeap" "size" "I", Cond.methodLink RX1 95 yX0_sideAt, Cond.instanceMethod yX0_sideAt, Cond.selects RX0 yX0_sideAt yX0_sideAt, Cond.code yX0_sideAt cX0_sideAt 2 (some .int), Cond.fieldLink RX0 18 "SnoringDukes$WeakHeap" "side" "[I"]
def wsL_sideOf_r2 : List Cond := [Cond.methodLink RX0 31 yX0_has]
def wsL_sideOf : List Cond := .codeWith yL_sideOf cL_sideOf 4 (some .int) [(0, 9, 12, 29)] :: ((wsL_sideOf_r1 ++ wsL_sideOf_r2) ++ wsX10 ++ wsX00 ++ (vx_atS RX1 78 "java/lang/IndexOutOfBoundsException" ["java/lang/RuntimeException", "java/lang/Exception"]).filter goodWord)
def wsL_elderOf_r1 : List Cond := [Cond.classLink RL 29 "java/lang/IndexOutOfBoundsException", Cond.methodLink RL 43 yX1_elderOf, Cond.instanceMethod yX1_elderOf, Cond.selects RX1 yX1_elderOf yX1_elderOf, Cond.initialized RX1, Cond.code yX1_elderOf cX1_elderOf 2 (some .int), Cond.fieldLink RX1 10 "SnoringDukes" "heap" "LSnoringDukes$WeakHeap;", Cond.methodLink RX1 91 yX1_refuseUnlessBerth, Cond.instanceMethod yX1_refuseUnlessBerth, Cond.selects RX1 yX1_refuseUnlessBerth yX1_refuseUnlessBerth, Cond.code yX1_refuseUnlessBerth cX1_refuseUnlessBerth 2 none, Cond.classLink RX1 74 "java/lang/IndexOutOfBoundsException", Cond.initialized "java/lang/IndexOutOfBoundsException", Cond.methodLink RX1 117 yX0_has, Cond.instanceMethod yX0_has, Cond.selects RX0 yX0_has yX0_has, Cond.initialized RX0, Cond.code yX0_has cX0_has 2 (some .boolean), Cond.fieldLink RX0 21 "SnoringDukes$WeakHeap" "size" "I", Cond.methodLink RX1 98 yX0_elder, Cond.instanceMethod yX0_elder, Cond.selects RX0 yX0_elder yX0_elder, Cond.code yX0_elder cX0_elder 3 (some .int), Cond.methodLink RX0 42 yX0_left]
def wsL_elderOf_r2 : List Cond := [Cond.instanceMethod yX0_left, Cond.selects RX0 yX0_left yX0_left, Cond.code yX0_left cX0_left 2 (some .int), Cond.methodLink RX0 39 yX0_sideAt, Cond.instanceMethod yX0_sideAt, Cond.selects RX0 yX0_sideAt yX0_sideAt, Cond.code yX0_sideAt cX0_sideAt 2 (some .int), Cond.fieldLink RX0 18 "SnoringDukes$WeakHeap" "side" "[I", Cond.methodLink RX0 31 yX0_has]
def wsL_elderOf : List Cond := .codeWith yL_elderOf cL_elderOf 4 (some .int) [(0, 9, 12, 29)] :: ((wsL_elderOf_r1 ++ wsL_elderOf_r2) ++ wsX10 ++ wsX00 ++ (vx_atS RX1 78 "java/lang/IndexOutOfBoundsException" ["java/lang/RuntimeException", "java/lang/Exception"]).filter goodWord)
def wsL_followersOf_r1 : List Cond := [Cond.classLink RL 29 "java/lang/IndexOutOfBoundsException", Cond.methodLink RL 46 yX1_followersOf, Cond.instanceMethod yX1_followersOf, Cond.selects RX1 yX1_followersOf yX1_followersOf, Cond.initialized RX1, Cond.code yX1_followersOf cX1_followersOf 2 (some .int), Cond.fieldLink RX1 10 "SnoringDukes" "heap" "LSnoringDukes$WeakHeap;", Cond.methodLink RX1 91 yX1_refuseUnlessBerth, Cond.instanceMethod yX1_refuseUnlessBerth, Cond.selects RX1 yX1_refuseUnlessBerth yX1_refuseUnlessBerth, Cond.code yX1_refuseUnlessBerth cX1_refuseUnlessBerth 2 none, Cond.classLink RX1 74 "java/lang/IndexOutOfBoundsException", Cond.initialized "java/lang/IndexOutOfBoundsException", Cond.methodLink RX1 117 yX0_has, Cond.instanceMethod yX0_has, Cond.selects RX0 yX0_has yX0_has, Cond.initialized RX0, Cond.code yX0_has cX0_has 2 (some .boolean), Cond.fieldLink RX0 21 "SnoringDukes$WeakHeap" "size" "I", Cond.methodLink RX1 101 yX0_countFollowers, Cond.instanceMethod yX0_countFollowers, Cond.selects RX0 yX0_countFollowers yX0_countFollowers, Cond.code yX0_countFollowers cX0_countFollowers 4 (some .int), Cond.methodLink RX0 45 yX0_elder]
def wsL_followersOf_r2 : List Cond := [Cond.instanceMethod yX0_elder, Cond.selects RX0 yX0_elder yX0_elder, Cond.code yX0_elder cX0_elder 3 (some .int), Cond.methodLink RX0 42 yX0_left, Cond.instanceMethod yX0_left, Cond.selects RX0 yX0_left yX0_left, Cond.code yX0_left cX0_left 2 (some .int), Cond.methodLink RX0 39 yX0_sideAt, Cond.instanceMethod yX0_sideAt, Cond.selects RX0 yX0_sideAt yX0_sideAt, Cond.code yX0_sideAt cX0_sideAt 2 (some .int), Cond.fieldLink RX0 18 "SnoringDukes$WeakHeap" "side" "[I", Cond.methodLink RX0 31 yX0_has]
def wsL_followersOf : List Cond := .codeWith yL_followersOf cL_followersOf 4 (some .int) [(0, 9, 12, 29)] :: ((wsL_followersOf_r1 ++ wsL_followersOf_r2) ++ wsX10 ++ wsX00 ++ (vx_atS RX1 78 "java/lang/IndexOutOfBoundsException" ["java/lang/RuntimeException", "java/lang/Exception"]).filter goodWord)
def wsL_leavesAt_r1 : List Cond := [Cond.classLink RL 29 "java/lang/IndexOutOfBoundsException", Cond.methodLink RL 49 yX1_leavesAt, Cond.instanceMethod yX1_leavesAt, Cond.selects RX1 yX1_leavesAt yX1_leavesAt, Cond.initialized RX1, Cond.code yX1_leavesAt cX1_leavesAt 2 (some .int), Cond.classLink RX1 74 "java/lang/IndexOutOfBoundsException", Cond.initialized "java/lang/IndexOutOfBoundsException", Cond.fieldLink RX1 10 "SnoringDukes" "heap" "LSnoringDukes$WeakHeap;", Cond.fieldLink RX1 16 "SnoringDukes" "trial" "LSnoringDukes$WeakHeap;", Cond.methodLink RX1 117 yX0_has, Cond.instanceMethod yX0_has, Cond.selects RX0 yX0_has yX0_has, Cond.initialized RX0, Cond.code yX0_has cX0_has 2 (some .boolean), Cond.fieldLink RX0 21 "SnoringDukes$WeakHeap" "size" "I", Cond.methodLink RX1 110 yX0_copyFrom, Cond.instanceMethod yX0_copyFrom, Cond.selects RX0 yX0_copyFrom yX0_copyFrom, Cond.code yX0_copyFrom cX0_copyFrom 3 none, Cond.fieldLink RX0 25 "SnoringDukes$WeakHeap" "compared" "I", Cond.fieldLink RX0 28 "SnoringDukes$WeakHeap" "changed" "I", Cond.fieldLink RX0 9 "SnoringDukes$WeakHeap" "duke" "[I", Cond.fieldLink RX0 15 "SnoringDukes$WeakHeap" "loudness" "[I"]
def wsL_leavesAt_r2 : List Cond := [Cond.fieldLink RX0 18 "SnoringDukes$WeakHeap" "side" "[I", Cond.methodLink RX1 114 yX0_removeTops, Cond.instanceMethod yX0_removeTops, Cond.selects RX0 yX0_removeTops yX0_removeTops, Cond.code yX0_removeTops cX0_removeTops 3 none, Cond.methodLink RX0 71 yX0_removeTop, Cond.instanceMethod yX0_removeTop, Cond.selects RX0 yX0_removeTop yX0_removeTop, Cond.code yX0_removeTop cX0_removeTop 3 (some .int), Cond.methodLink RX0 31 yX0_has, Cond.methodLink RX0 68 yX0_joinTop, Cond.instanceMethod yX0_joinTop, Cond.selects RX0 yX0_joinTop yX0_joinTop, Cond.code yX0_joinTop cX0_joinTop 3 none, Cond.methodLink RX0 42 yX0_left, Cond.instanceMethod yX0_left, Cond.selects RX0 yX0_left yX0_left, Cond.code yX0_left cX0_left 2 (some .int), Cond.methodLink RX0 39 yX0_sideAt, Cond.instanceMethod yX0_sideAt, Cond.selects RX0 yX0_sideAt yX0_sideAt, Cond.code yX0_sideAt cX0_sideAt 2 (some .int), Cond.methodLink RX0 64 yX0_join, Cond.instanceMethod yX0_join]
def wsL_leavesAt_r3 : List Cond := [Cond.selects RX0 yX0_join yX0_join, Cond.code yX0_join cX0_join 3 (some .boolean), Cond.methodLink RX0 75 yX0_exchange, Cond.instanceMethod yX0_exchange, Cond.selects RX0 yX0_exchange yX0_exchange, Cond.code yX0_exchange cX0_exchange 5 none, Cond.methodLink RX1 88 yX0_dukeAt, Cond.instanceMethod yX0_dukeAt, Cond.selects RX0 yX0_dukeAt yX0_dukeAt, Cond.code yX0_dukeAt cX0_dukeAt 2 (some .int)]
def wsL_leavesAt : List Cond := .codeWith yL_leavesAt cL_leavesAt 4 (some .int) [(0, 9, 12, 29)] :: ((wsL_leavesAt_r1 ++ (wsL_leavesAt_r2 ++ wsL_leavesAt_r3)) ++ wsX10 ++ wsX00 ++ (vx_atS RX1 78 "java/lang/IndexOutOfBoundsException" ["java/lang/RuntimeException", "java/lang/Exception"]).filter goodWord)
def wsL_quieterThan_r1 : List Cond := [Cond.classLink RL 29 "java/lang/IndexOutOfBoundsException", Cond.methodLink RL 52 yX1_quieterThan, Cond.instanceMethod yX1_quieterThan, Cond.selects RX1 yX1_quieterThan yX1_quieterThan, Cond.initialized RX1, Cond.code yX1_quieterThan cX1_quieterThan 3 (some .int), Cond.classLink RX1 74 "java/lang/IndexOutOfBoundsException", Cond.initialized "java/lang/IndexOutOfBoundsException", Cond.fieldLink RX1 10 "SnoringDukes" "heap" "LSnoringDukes$WeakHeap;", Cond.methodLink RX1 70 yX0_find, Cond.instanceMethod yX0_find, Cond.selects RX0 yX0_find yX0_find, Cond.initialized RX0, Cond.code yX0_find cX0_find 3 (some .int), Cond.fieldLink RX0 21 "SnoringDukes$WeakHeap" "size" "I", Cond.methodLink RX0 35 yX0_dukeAt, Cond.instanceMethod yX0_dukeAt, Cond.selects RX0 yX0_dukeAt yX0_dukeAt, Cond.code yX0_dukeAt cX0_dukeAt 2 (some .int), Cond.fieldLink RX0 9 "SnoringDukes$WeakHeap" "duke" "[I", Cond.methodLink RX0 31 yX0_has, Cond.instanceMethod yX0_has, Cond.selects RX0 yX0_has yX0_has, Cond.code yX0_has cX0_has 2 (some .boolean)]
def wsL_quieterThan_r2 : List Cond := [Cond.methodLink RX1 79 yX0_loudnessAt, Cond.instanceMethod yX0_loudnessAt, Cond.selects RX0 yX0_loudnessAt yX0_loudnessAt, Cond.code yX0_loudnessAt cX0_loudnessAt 2 (some .int), Cond.fieldLink RX0 15 "SnoringDukes$WeakHeap" "loudness" "[I", Cond.methodLink RX1 122 yX0_countBelow, Cond.instanceMethod yX0_countBelow, Cond.selects RX0 yX0_countBelow yX0_countBelow, Cond.code yX0_countBelow cX0_countBelow 6 (some .int), Cond.methodLink RX0 45 yX0_elder, Cond.instanceMethod yX0_elder, Cond.selects RX0 yX0_elder yX0_elder, Cond.code yX0_elder cX0_elder 3 (some .int), Cond.methodLink RX0 42 yX0_left, Cond.instanceMethod yX0_left, Cond.selects RX0 yX0_left yX0_left, Cond.code yX0_left cX0_left 2 (some .int), Cond.methodLink RX0 39 yX0_sideAt, Cond.instanceMethod yX0_sideAt, Cond.selects RX0 yX0_sideAt yX0_sideAt, Cond.code yX0_sideAt cX0_sideAt 2 (some .int), Cond.fieldLink RX0 18 "SnoringDukes$WeakHeap" "side" "[I", Cond.methodLink RX0 48 yX0_loudnessAt, Cond.methodLink RX0 51 yJ13_bitCount_95d88]
def wsL_quieterThan_r3 : List Cond := [Cond.static yJ13_bitCount_95d88, Cond.initialized RJ13, Cond.code yJ13_bitCount_95d88 cJ13_bitCount_95d88 2 (some .int), Cond.constantLong RJ13 314 (6148914691236517205), Cond.constantLong RJ13 316 (3689348814741910323), Cond.constantLong RJ13 318 (1085102592571150095)]
def wsL_quieterThan : List Cond := .codeWith yL_quieterThan cL_quieterThan 4 (some .int) [(0, 9, 12, 29)] :: ((wsL_quieterThan_r1 ++ (wsL_quieterThan_r2 ++ wsL_quieterThan_r3)) ++ wsX10 ++ wsX00 ++ (vx_atS RX1 78 "java/lang/IndexOutOfBoundsException" ["java/lang/RuntimeException", "java/lang/Exception"]).filter goodWord)
def wsL_law0_r1 : List Cond := [Cond.classLink RL 8 RX1, Cond.instantiable RX1 3, Cond.initialized RX1, Cond.classLink RL 56 RX2, Cond.instantiable RX2 10, Cond.initialized RX2, Cond.arrayClass .long, Cond.methodLink RL 55 yX1_init, Cond.instanceMethod yX1_init, Cond.code yX1_init cX1_init 1 none, Cond.methodLink RX1 1 objectInit, Cond.instanceMethod objectInit, Cond.code objectInit ⟨#[0xb1]⟩ 1 none, Cond.classLink RX1 7 RX0, Cond.instantiable RX0 6, Cond.initialized RX0, Cond.fieldLink RX1 10 "SnoringDukes" "heap" "LSnoringDukes$WeakHeap;", Cond.fieldLink RX1 16 "SnoringDukes" "trial" "LSnoringDukes$WeakHeap;", Cond.fieldLink RX1 19 "SnoringDukes" "numbered" "I", Cond.instanceMethod yX0_init, Cond.code yX0_init cX0_init 1 none, Cond.methodLink RX0 3 objectInit, Cond.arrayClass .int, Cond.fieldLink RX0 9 "SnoringDukes$WeakHeap" "duke" "[I"]
def wsL_law0_r2 : List Cond := [Cond.fieldLink RX0 15 "SnoringDukes$WeakHeap" "loudness" "[I", Cond.fieldLink RX0 18 "SnoringDukes$WeakHeap" "side" "[I", Cond.fieldLink RX0 21 "SnoringDukes$WeakHeap" "size" "I", Cond.fieldLink RX0 25 "SnoringDukes$WeakHeap" "compared" "I", Cond.fieldLink RX0 28 "SnoringDukes$WeakHeap" "changed" "I", Cond.methodLink RL 58 yX2_init, Cond.instanceMethod yX2_init, Cond.code yX2_init cX2_init 1 none, Cond.methodLink RX2 1 objectInit, Cond.fieldLink RX2 7 "SnoringDukesModel" "loud" "[I", Cond.fieldLink RX2 13 "SnoringDukesModel" "lies" "[I", Cond.fieldLink RX2 16 "SnoringDukesModel" "side" "[I", Cond.fieldLink RX2 19 "SnoringDukesModel" "shadow" "[I", Cond.fieldLink RX2 22 "SnoringDukesModel" "shade" "[I", Cond.methodLink RL 59 yL_come, Cond.static yL_come, Cond.initialized RL, Cond.codeWith yL_come cL_come 4 (some .int) [(0, 9, 12, 13), (0, 9, 15, 15)], Cond.classLink RL 13 "java/lang/IllegalArgumentException", Cond.classLink RL 15 "java/lang/IllegalStateException", Cond.methodLink RL 7 yX1_come, Cond.instanceMethod yX1_come, Cond.selects RX1 yX1_come yX1_come, Cond.code yX1_come cX1_come 3 (some .int)]
def wsL_law0_r3 : List Cond := [Cond.classLink RX1 27 "java/lang/IllegalArgumentException", Cond.initialized "java/lang/IllegalArgumentException", Cond.classLink RX1 37 "java/lang/IllegalStateException", Cond.initialized "java/lang/IllegalStateException", Cond.methodLink RX1 23 yX1_isUpToLoudest, Cond.static yX1_isUpToLoudest, Cond.code yX1_isUpToLoudest cX1_isUpToLoudest 1 (some .boolean), Cond.methodLink RX1 34 yX1_hasRoomFor, Cond.instanceMethod yX1_hasRoomFor, Cond.selects RX1 yX1_hasRoomFor yX1_hasRoomFor, Cond.code yX1_hasRoomFor cX1_hasRoomFor 2 (some .boolean), Cond.methodLink RX1 42 yX0_insert, Cond.instanceMethod yX0_insert, Cond.selects RX0 yX0_insert yX0_insert, Cond.code yX0_insert cX0_insert 4 none, Cond.methodLink RX0 57 yX0_lay, Cond.instanceMethod yX0_lay, Cond.selects RX0 yX0_lay yX0_lay, Cond.code yX0_lay cX0_lay 4 none, Cond.methodLink RX0 31 yX0_has, Cond.instanceMethod yX0_has, Cond.selects RX0 yX0_has yX0_has, Cond.code yX0_has cX0_has 2 (some .boolean), Cond.methodLink RX0 61 yX0_rise]
def wsL_law0_r4 : List Cond := [Cond.instanceMethod yX0_rise, Cond.selects RX0 yX0_rise yX0_rise, Cond.code yX0_rise cX0_rise 5 (some .int), Cond.methodLink RX0 45 yX0_elder, Cond.instanceMethod yX0_elder, Cond.selects RX0 yX0_elder yX0_elder, Cond.code yX0_elder cX0_elder 3 (some .int), Cond.methodLink RX0 42 yX0_left, Cond.instanceMethod yX0_left, Cond.selects RX0 yX0_left yX0_left, Cond.code yX0_left cX0_left 2 (some .int), Cond.methodLink RX0 39 yX0_sideAt, Cond.instanceMethod yX0_sideAt, Cond.selects RX0 yX0_sideAt yX0_sideAt, Cond.code yX0_sideAt cX0_sideAt 2 (some .int), Cond.methodLink RX0 64 yX0_join, Cond.instanceMethod yX0_join, Cond.selects RX0 yX0_join yX0_join, Cond.code yX0_join cX0_join 3 (some .boolean), Cond.methodLink RX0 75 yX0_exchange, Cond.instanceMethod yX0_exchange, Cond.selects RX0 yX0_exchange yX0_exchange, Cond.code yX0_exchange cX0_exchange 5 none, Cond.methodLink RL 64 yX2_come]
def wsL_law0_r5 : List Cond := [Cond.instanceMethod yX2_come, Cond.selects RX2 yX2_come yX2_come, Cond.code yX2_come cX2_come 4 (some .int), Cond.fieldLink RX2 29 "SnoringDukesModel" "many" "I", Cond.fieldLink RX2 49 "SnoringDukesModel" "came" "I", Cond.fieldLink RX2 25 "SnoringDukesModel" "thrown" "I", Cond.methodLink RX2 52 yX2_isOf, Cond.static yX2_isOf, Cond.code yX2_isOf cX2_isOf 3 (some .boolean), Cond.methodLink RX2 56 yX2_lays, Cond.instanceMethod yX2_lays, Cond.selects RX2 yX2_lays yX2_lays, Cond.code yX2_lays cX2_lays 2 none, Cond.methodLink RX2 60 yX2_rises, Cond.instanceMethod yX2_rises, Cond.selects RX2 yX2_rises yX2_rises, Cond.code yX2_rises cX2_rises 6 (some .int), Cond.methodLink RX2 42 yX2_elder, Cond.instanceMethod yX2_elder, Cond.selects RX2 yX2_elder yX2_elder, Cond.code yX2_elder cX2_elder 3 (some .int), Cond.methodLink RX2 32 yX2_left, Cond.instanceMethod yX2_left, Cond.selects RX2 yX2_left yX2_left]
def wsL_law0_r6 : List Cond := [Cond.code yX2_left cX2_left 2 (some .int), Cond.methodLink RX2 45 yX2_joins, Cond.instanceMethod yX2_joins, Cond.selects RX2 yX2_joins yX2_joins, Cond.code yX2_joins cX2_joins 6 (some .boolean), Cond.fieldLink RX2 36 "SnoringDukesModel" "compared" "I", Cond.fieldLink RX2 39 "SnoringDukesModel" "changed" "I", Cond.methodLink RL 65 yX2_thrown, Cond.instanceMethod yX2_thrown, Cond.selects RX2 yX2_thrown yX2_thrown, Cond.code yX2_thrown cX2_thrown 1 (some .int), Cond.methodLink RL 68 yL_coach, Cond.static yL_coach, Cond.codeWith yL_coach cL_coach 6 (some .int) [(0, 12, 15, 13), (0, 12, 19, 15)], Cond.methodLink RL 17 yX1_coach, Cond.instanceMethod yX1_coach, Cond.selects RX1 yX1_coach yX1_coach, Cond.code yX1_coach cX1_coach 6 (some .int), Cond.methodLink RX1 55 yX0_lay, Cond.methodLink RX1 58 yX0_joinAll, Cond.instanceMethod yX0_joinAll, Cond.selects RX0 yX0_joinAll yX0_joinAll, Cond.code yX0_joinAll cX0_joinAll 2 none, Cond.methodLink RL 71 yX2_coach]
def wsL_law0_r7 : List Cond := [Cond.instanceMethod yX2_coach, Cond.selects RX2 yX2_coach yX2_coach, Cond.code yX2_coach cX2_coach 7 (some .int), Cond.methodLink RL 72 yL_leave, Cond.static yL_leave, Cond.codeWith yL_leave cL_leave 3 (some .int) [(0, 8, 11, 15)], Cond.methodLink RL 21 yX1_leave, Cond.instanceMethod yX1_leave, Cond.selects RX1 yX1_leave yX1_leave, Cond.code yX1_leave cX1_leave 1 (some .int), Cond.methodLink RX1 66 yX0_removeTop, Cond.instanceMethod yX0_removeTop, Cond.selects RX0 yX0_removeTop yX0_removeTop, Cond.code yX0_removeTop cX0_removeTop 3 (some .int), Cond.methodLink RX0 68 yX0_joinTop, Cond.instanceMethod yX0_joinTop, Cond.selects RX0 yX0_joinTop yX0_joinTop, Cond.code yX0_joinTop cX0_joinTop 3 none, Cond.methodLink RL 75 yX2_leave, Cond.instanceMethod yX2_leave, Cond.selects RX2 yX2_leave yX2_leave, Cond.code yX2_leave cX2_leave 1 (some .int), Cond.methodLink RX2 64 yX2_leaves, Cond.instanceMethod yX2_leaves]
def wsL_law0_r8 : List Cond := [Cond.selects RX2 yX2_leaves yX2_leaves, Cond.code yX2_leaves cX2_leaves 4 (some .int), Cond.methodLink RL 76 yL_hush, Cond.static yL_hush, Cond.codeWith yL_hush cL_hush 5 (some .int) [(0, 10, 13, 29), (0, 10, 17, 13)], Cond.classLink RL 29 "java/lang/IndexOutOfBoundsException", Cond.methodLink RL 25 yX1_hush, Cond.instanceMethod yX1_hush, Cond.selects RX1 yX1_hush yX1_hush, Cond.code yX1_hush cX1_hush 4 (some .int), Cond.classLink RX1 74 "java/lang/IndexOutOfBoundsException", Cond.initialized "java/lang/IndexOutOfBoundsException", Cond.methodLink RX1 70 yX0_find, Cond.instanceMethod yX0_find, Cond.selects RX0 yX0_find yX0_find, Cond.code yX0_find cX0_find 3 (some .int), Cond.methodLink RX0 35 yX0_dukeAt, Cond.instanceMethod yX0_dukeAt, Cond.selects RX0 yX0_dukeAt yX0_dukeAt, Cond.code yX0_dukeAt cX0_dukeAt 2 (some .int), Cond.methodLink RX1 79 yX0_loudnessAt, Cond.instanceMethod yX0_loudnessAt, Cond.selects RX0 yX0_loudnessAt yX0_loudnessAt, Cond.code yX0_loudnessAt cX0_loudnessAt 2 (some .int)]
def wsL_law0_r9 : List Cond := [Cond.methodLink RX1 84 yX0_quieten, Cond.instanceMethod yX0_quieten, Cond.selects RX0 yX0_quieten yX0_quieten, Cond.code yX0_quieten cX0_quieten 3 (some .int), Cond.methodLink RL 79 yX2_hush, Cond.instanceMethod yX2_hush, Cond.selects RX2 yX2_hush yX2_hush, Cond.code yX2_hush cX2_hush 4 (some .int), Cond.methodLink RX2 68 yX2_find, Cond.instanceMethod yX2_find, Cond.selects RX2 yX2_find yX2_find, Cond.code yX2_find cX2_find 3 (some .int), Cond.methodLink RL 80 yL_fetch, Cond.static yL_fetch, Cond.codeWith yL_fetch cL_fetch 4 (some .int) [(0, 9, 12, 29)], Cond.methodLink RL 31 yX1_fetch, Cond.instanceMethod yX1_fetch, Cond.selects RX1 yX1_fetch yX1_fetch, Cond.code yX1_fetch cX1_fetch 4 (some .int), Cond.methodLink RL 82 yX2_fetch, Cond.instanceMethod yX2_fetch, Cond.selects RX2 yX2_fetch yX2_fetch, Cond.code yX2_fetch cX2_fetch 6 (some .int), Cond.methodLink RL 83 yX1_dukes]
def wsL_law0_r10 : List Cond := [Cond.instanceMethod yX1_dukes, Cond.selects RX1 yX1_dukes yX1_dukes, Cond.code yX1_dukes cX1_dukes 1 (some .int), Cond.methodLink RL 86 yX2_dukes, Cond.instanceMethod yX2_dukes, Cond.selects RX2 yX2_dukes yX2_dukes, Cond.code yX2_dukes cX2_dukes 1 (some .int), Cond.methodLink RL 87 yX1_quietest, Cond.instanceMethod yX1_quietest, Cond.selects RX1 yX1_quietest yX1_quietest, Cond.code yX1_quietest cX1_quietest 1 (some .int), Cond.methodLink RX1 88 yX0_dukeAt, Cond.methodLink RL 90 yX2_quietest, Cond.instanceMethod yX2_quietest, Cond.selects RX2 yX2_quietest yX2_quietest, Cond.code yX2_quietest cX2_quietest 1 (some .int), Cond.methodLink RL 91 yX1_berthOf, Cond.instanceMethod yX1_berthOf, Cond.selects RX1 yX1_berthOf yX1_berthOf, Cond.code yX1_berthOf cX1_berthOf 2 (some .int), Cond.methodLink RL 94 yX2_berthOf, Cond.instanceMethod yX2_berthOf, Cond.selects RX2 yX2_berthOf yX2_berthOf, Cond.code yX2_berthOf cX2_berthOf 2 (some .int)]
def wsL_law0_r11 : List Cond := [Cond.methodLink RL 95 yL_dukeIn, Cond.static yL_dukeIn, Cond.codeWith yL_dukeIn cL_dukeIn 4 (some .int) [(0, 9, 12, 29)], Cond.methodLink RL 34 yX1_dukeIn, Cond.instanceMethod yX1_dukeIn, Cond.selects RX1 yX1_dukeIn yX1_dukeIn, Cond.code yX1_dukeIn cX1_dukeIn 2 (some .int), Cond.methodLink RX1 91 yX1_refuseUnlessBerth, Cond.instanceMethod yX1_refuseUnlessBerth, Cond.selects RX1 yX1_refuseUnlessBerth yX1_refuseUnlessBerth, Cond.code yX1_refuseUnlessBerth cX1_refuseUnlessBerth 2 none, Cond.methodLink RX1 117 yX0_has, Cond.methodLink RL 97 yX2_dukeIn, Cond.instanceMethod yX2_dukeIn, Cond.selects RX2 yX2_dukeIn yX2_dukeIn, Cond.code yX2_dukeIn cX2_dukeIn 2 (some .int), Cond.methodLink RX2 71 yX2_isBerth, Cond.instanceMethod yX2_isBerth, Cond.selects RX2 yX2_isBerth yX2_isBerth, Cond.code yX2_isBerth cX2_isBerth 2 (some .boolean), Cond.methodLink RL 98 yL_loudnessIn, Cond.static yL_loudnessIn, Cond.codeWith yL_loudnessIn cL_loudnessIn 4 (some .int) [(0, 9, 12, 29)], Cond.methodLink RL 37 yX1_loudnessIn]
def wsL_law0_r12 : List Cond := [Cond.instanceMethod yX1_loudnessIn, Cond.selects RX1 yX1_loudnessIn yX1_loudnessIn, Cond.code yX1_loudnessIn cX1_loudnessIn 2 (some .int), Cond.methodLink RL 100 yX2_loudnessIn, Cond.instanceMethod yX2_loudnessIn, Cond.selects RX2 yX2_loudnessIn yX2_loudnessIn, Cond.code yX2_loudnessIn cX2_loudnessIn 2 (some .int), Cond.methodLink RL 101 yL_sideOf, Cond.static yL_sideOf, Cond.codeWith yL_sideOf cL_sideOf 4 (some .int) [(0, 9, 12, 29)], Cond.methodLink RL 40 yX1_sideOf, Cond.instanceMethod yX1_sideOf, Cond.selects RX1 yX1_sideOf yX1_sideOf, Cond.code yX1_sideOf cX1_sideOf 2 (some .int), Cond.methodLink RX1 95 yX0_sideAt, Cond.methodLink RL 103 yX2_sideOf, Cond.instanceMethod yX2_sideOf, Cond.selects RX2 yX2_sideOf yX2_sideOf, Cond.code yX2_sideOf cX2_sideOf 2 (some .int), Cond.methodLink RL 104 yL_elderOf, Cond.static yL_elderOf, Cond.codeWith yL_elderOf cL_elderOf 4 (some .int) [(0, 9, 12, 29)], Cond.methodLink RL 43 yX1_elderOf, Cond.instanceMethod yX1_elderOf]
def wsL_law0_r13 : List Cond := [Cond.selects RX1 yX1_elderOf yX1_elderOf, Cond.code yX1_elderOf cX1_elderOf 2 (some .int), Cond.methodLink RX1 98 yX0_elder, Cond.methodLink RL 106 yX2_elderOf, Cond.instanceMethod yX2_elderOf, Cond.selects RX2 yX2_elderOf yX2_elderOf, Cond.code yX2_elderOf cX2_elderOf 2 (some .int), Cond.methodLink RL 107 yL_followersOf, Cond.static yL_followersOf, Cond.codeWith yL_followersOf cL_followersOf 4 (some .int) [(0, 9, 12, 29)], Cond.methodLink RL 46 yX1_followersOf, Cond.instanceMethod yX1_followersOf, Cond.selects RX1 yX1_followersOf yX1_followersOf, Cond.code yX1_followersOf cX1_followersOf 2 (some .int), Cond.methodLink RX1 101 yX0_countFollowers, Cond.instanceMethod yX0_countFollowers, Cond.selects RX0 yX0_countFollowers yX0_countFollowers, Cond.code yX0_countFollowers cX0_countFollowers 4 (some .int), Cond.methodLink RL 109 yX2_followersOf, Cond.instanceMethod yX2_followersOf, Cond.selects RX2 yX2_followersOf yX2_followersOf, Cond.code yX2_followersOf cX2_followersOf 5 (some .int), Cond.methodLink RL 110 yX1_flipped, Cond.instanceMethod yX1_flipped]
def wsL_law0_r14 : List Cond := [Cond.selects RX1 yX1_flipped yX1_flipped, Cond.code yX1_flipped cX1_flipped 1 (some .int), Cond.methodLink RX1 104 yX0_countFlipped, Cond.instanceMethod yX0_countFlipped, Cond.selects RX0 yX0_countFlipped yX0_countFlipped, Cond.code yX0_countFlipped cX0_countFlipped 3 (some .int), Cond.methodLink RL 113 yX2_flipped, Cond.instanceMethod yX2_flipped, Cond.selects RX2 yX2_flipped yX2_flipped, Cond.code yX2_flipped cX2_flipped 3 (some .int), Cond.methodLink RL 114 yX1_comparisons, Cond.instanceMethod yX1_comparisons, Cond.selects RX1 yX1_comparisons yX1_comparisons, Cond.code yX1_comparisons cX1_comparisons 1 (some .int), Cond.methodLink RL 117 yX2_comparisons, Cond.instanceMethod yX2_comparisons, Cond.selects RX2 yX2_comparisons yX2_comparisons, Cond.code yX2_comparisons cX2_comparisons 1 (some .int), Cond.methodLink RL 118 yX1_changes, Cond.instanceMethod yX1_changes, Cond.selects RX1 yX1_changes yX1_changes, Cond.code yX1_changes cX1_changes 1 (some .int), Cond.methodLink RL 121 yX2_changes, Cond.instanceMethod yX2_changes]
def wsL_law0_r15 : List Cond := [Cond.selects RX2 yX2_changes yX2_changes, Cond.code yX2_changes cX2_changes 1 (some .int), Cond.methodLink RL 122 yX1_comparisonsToEmpty, Cond.instanceMethod yX1_comparisonsToEmpty, Cond.selects RX1 yX1_comparisonsToEmpty yX1_comparisonsToEmpty, Cond.code yX1_comparisonsToEmpty cX1_comparisonsToEmpty 1 (some .int), Cond.methodLink RX1 110 yX0_copyFrom, Cond.instanceMethod yX0_copyFrom, Cond.selects RX0 yX0_copyFrom yX0_copyFrom, Cond.code yX0_copyFrom cX0_copyFrom 3 none, Cond.methodLink RX1 114 yX0_removeTops, Cond.instanceMethod yX0_removeTops, Cond.selects RX0 yX0_removeTops yX0_removeTops, Cond.code yX0_removeTops cX0_removeTops 3 none, Cond.methodLink RX0 71 yX0_removeTop, Cond.methodLink RL 125 yX2_comparisonsToEmpty, Cond.instanceMethod yX2_comparisonsToEmpty, Cond.selects RX2 yX2_comparisonsToEmpty yX2_comparisonsToEmpty, Cond.code yX2_comparisonsToEmpty cX2_comparisonsToEmpty 1 (some .int), Cond.methodLink RX2 75 yX2_thought, Cond.instanceMethod yX2_thought, Cond.selects RX2 yX2_thought yX2_thought, Cond.code yX2_thought cX2_thought 9 (some .int), Cond.methodLink RL 126 yL_leavesAt]
def wsL_law0_r16 : List Cond := [Cond.static yL_leavesAt, Cond.codeWith yL_leavesAt cL_leavesAt 4 (some .int) [(0, 9, 12, 29)], Cond.methodLink RL 49 yX1_leavesAt, Cond.instanceMethod yX1_leavesAt, Cond.selects RX1 yX1_leavesAt yX1_leavesAt, Cond.code yX1_leavesAt cX1_leavesAt 2 (some .int), Cond.methodLink RL 128 yX2_leavesAt, Cond.instanceMethod yX2_leavesAt, Cond.selects RX2 yX2_leavesAt yX2_leavesAt, Cond.code yX2_leavesAt cX2_leavesAt 2 (some .int), Cond.methodLink RL 129 yL_quieterThan, Cond.static yL_quieterThan, Cond.codeWith yL_quieterThan cL_quieterThan 4 (some .int) [(0, 9, 12, 29)], Cond.methodLink RL 52 yX1_quieterThan, Cond.instanceMethod yX1_quieterThan, Cond.selects RX1 yX1_quieterThan yX1_quieterThan, Cond.code yX1_quieterThan cX1_quieterThan 3 (some .int), Cond.methodLink RX1 122 yX0_countBelow, Cond.instanceMethod yX0_countBelow, Cond.selects RX0 yX0_countBelow yX0_countBelow, Cond.code yX0_countBelow cX0_countBelow 6 (some .int), Cond.methodLink RX0 48 yX0_loudnessAt, Cond.methodLink RX0 51 yJ13_bitCount_95d88, Cond.static yJ13_bitCount_95d88]
def wsL_law0_r17 : List Cond := [Cond.initialized RJ13, Cond.code yJ13_bitCount_95d88 cJ13_bitCount_95d88 2 (some .int), Cond.constantLong RJ13 314 (6148914691236517205), Cond.constantLong RJ13 316 (3689348814741910323), Cond.constantLong RJ13 318 (1085102592571150095), Cond.methodLink RL 131 yX2_quieterThan, Cond.instanceMethod yX2_quieterThan, Cond.selects RX2 yX2_quieterThan yX2_quieterThan, Cond.code yX2_quieterThan cX2_quieterThan 5 (some .int)]
def wsL_law0 : List Cond := (wsL_law0_r1 ++ (wsL_law0_r2 ++ (wsL_law0_r3 ++ (wsL_law0_r4 ++ (wsL_law0_r5 ++ (wsL_law0_r6 ++ (wsL_law0_r7 ++ (wsL_law0_r8 ++ (wsL_law0_r9 ++ (wsL_law0_r10 ++ (wsL_law0_r11 ++ (wsL_law0_r12 ++ (wsL_law0_r13 ++ (wsL_law0_r14 ++ (wsL_law0_r15 ++ (wsL_law0_r16 ++ wsL_law0_r17)))))))))))))))) ++ wsX10 ++ wsX20 ++ wsX00 ++ ([] : List Cond)
def wsL_law : List Cond := wsL_law0 ++ (vx_atS RX1 31 "java/lang/IllegalArgumentException" ["java/lang/RuntimeException", "java/lang/Exception"]).filter goodWord ++ (vx_atS RX1 41 "java/lang/IllegalStateException" ["java/lang/RuntimeException", "java/lang/Exception"]).filter goodWord ++ (vx_atS RX1 78 "java/lang/IndexOutOfBoundsException" ["java/lang/RuntimeException", "java/lang/Exception"]).filter goodWord
set_option maxRecDepth 20000 in
theorem wsL_law_in0 : ∀ w ∈ wsL_law0, w ∈ lw_tbl := fun w h => (goodIn_p wsL_law0 [31, 34, 39, 408, 159, 162, 234, 254, 258, 89, 262, 266, 142, 110, 146, 150, 448, 451, 455, 459, 463, 467, 471, 444, 273, 281, 475, 288, 134, 138, 479, 483, 298, 97, 85, 318, 323, 487, 491, 330, 495, 77, 499, 81, 503, 93, 507, 337, 341, 511, 515, 350, 519, 357, 523, 365, 527, 373, 377, 531, 102, 106, 535, 114, 539, 118, 543, 122, 126, 130, 547, 551, 384, 555, 392, 396, 400, 559] (by decide +kernel) (by decide +kernel) w h).1
theorem wsL_law_x0 : ∀ w ∈ (vx_atS RX1 31 "java/lang/IllegalArgumentException" ["java/lang/RuntimeException", "java/lang/Exception"]).filter goodWord, w ∈ lw_tbl := by decide +kernel
theorem wsL_law_x1 : ∀ w ∈ (vx_atS RX1 41 "java/lang/IllegalStateException" ["java/lang/RuntimeException", "java/lang/Exception"]).filter goodWord, w ∈ lw_tbl := by decide +kernel
theorem wsL_law_x2 : ∀ w ∈ (vx_atS RX1 78 "java/lang/IndexOutOfBoundsException" ["java/lang/RuntimeException", "java/lang/Exception"]).filter goodWord, w ∈ lw_tbl := by decide +kernel
theorem wsL_law_in : ∀ w ∈ wsL_law, w ∈ lw_tbl := fun w h => (List.mem_append.mp h).elim (fun h => (List.mem_append.mp h).elim (fun h => (List.mem_append.mp h).elim (fun h => wsL_law_in0 w h) (fun h => wsL_law_x0 w h)) (fun h => wsL_law_x1 w h)) (fun h => wsL_law_x2 w h)
theorem inlX0 : ∀ w ∈ wsX00, w ∈ wsL_law := fun _ h => List.mem_append_left _ (List.mem_append_left _ (List.mem_append_left _ (List.mem_append_left _ (List.mem_append_right _ h))))
theorem inX0 : ∀ w ∈ wsX00, w ∈ lw_tbl := fun w h => wsL_law_in w (inlX0 w h)
theorem inlX1 : ∀ w ∈ wsX10, w ∈ wsL_law := fun _ h => List.mem_append_left _ (List.mem_append_left _ (List.mem_append_left _ (List.mem_append_left _ (List.mem_append_left _ (List.mem_append_left _ (List.mem_append_right _ h))))))
theorem inX1 : ∀ w ∈ wsX10, w ∈ lw_tbl := fun w h => wsL_law_in w (inlX1 w h)
theorem inlX2 : ∀ w ∈ wsX20, w ∈ wsL_law := fun _ h => List.mem_append_left _ (List.mem_append_left _ (List.mem_append_left _ (List.mem_append_left _ (List.mem_append_left _ (List.mem_append_right _ h)))))
theorem inX2 : ∀ w ∈ wsX20, w ∈ lw_tbl := fun w h => wsL_law_in w (inlX2 w h)
theorem inJ13 : ∀ w ∈ wsJ130, w ∈ lw_tbl := by decide +kernel
theorem inJ0 : ∀ w ∈ wsJ00, w ∈ lw_tbl := by decide +kernel
theorem dX0_init_0 : decode cX0_init 0 = .ok (.aload_n 0, 1) := by decide +kernel
theorem dX0_init_1 : decode cX0_init 1 = .ok (.invokespecial 3, 3) := by decide +kernel
theorem dX0_init_4 : decode cX0_init 4 = .ok (.aload_n 0, 1) := by decide +kernel
theorem dX0_init_5 : decode cX0_init 5 = .ok (.bipush 63, 2) := by decide +kernel
theorem dX0_init_7 : decode cX0_init 7 = .ok (.newarray .int, 2) := by decide +kernel
theorem dX0_init_9 : decode cX0_init 9 = .ok (.putfield 9, 3) := by decide +kernel
theorem dX0_init_12 : decode cX0_init 12 = .ok (.aload_n 0, 1) := by decide +kernel
theorem dX0_init_13 : decode cX0_init 13 = .ok (.bipush 63, 2) := by decide +kernel
theorem dX0_init_15 : decode cX0_init 15 = .ok (.newarray .int, 2) := by decide +kernel
theorem dX0_init_17 : decode cX0_init 17 = .ok (.putfield 15, 3) := by decide +kernel
theorem dX0_init_20 : decode cX0_init 20 = .ok (.aload_n 0, 1) := by decide +kernel
theorem dX0_init_21 : decode cX0_init 21 = .ok (.bipush 63, 2) := by decide +kernel
theorem dX0_init_23 : decode cX0_init 23 = .ok (.newarray .int, 2) := by decide +kernel
theorem dX0_init_25 : decode cX0_init 25 = .ok (.putfield 18, 3) := by decide +kernel
theorem dX0_init_28 : decode cX0_init 28 = .ok (.aload_n 0, 1) := by decide +kernel
theorem dX0_init_29 : decode cX0_init 29 = .ok (.iconst 0, 1) := by decide +kernel
theorem dX0_init_30 : decode cX0_init 30 = .ok (.putfield 21, 3) := by decide +kernel
theorem dX0_init_33 : decode cX0_init 33 = .ok (.aload_n 0, 1) := by decide +kernel
theorem dX0_init_34 : decode cX0_init 34 = .ok (.iconst 0, 1) := by decide +kernel
theorem dX0_init_35 : decode cX0_init 35 = .ok (.putfield 25, 3) := by decide +kernel
theorem dX0_init_38 : decode cX0_init 38 = .ok (.aload_n 0, 1) := by decide +kernel
theorem dX0_init_39 : decode cX0_init 39 = .ok (.iconst 0, 1) := by decide +kernel
theorem dX0_init_40 : decode cX0_init 40 = .ok (.putfield 28, 3) := by decide +kernel
theorem dX0_init_43 : decode cX0_init 43 = .ok (.return_, 1) := by decide +kernel
theorem dX0_has_0 : decode cX0_has 0 = .ok (.iload_n 1, 1) := by decide +kernel
theorem dX0_has_1 : decode cX0_has 1 = .ok (.ifCond .lt 21, 3) := by decide +kernel
theorem dX0_has_4 : decode cX0_has 4 = .ok (.iload_n 1, 1) := by decide +kernel
theorem dX0_has_5 : decode cX0_has 5 = .ok (.aload_n 0, 1) := by decide +kernel
theorem dX0_has_6 : decode cX0_has 6 = .ok (.getfield 21, 3) := by decide +kernel
theorem dX0_has_9 : decode cX0_has 9 = .ok (.if_icmp .ge 13, 3) := by decide +kernel
theorem dX0_has_12 : decode cX0_has 12 = .ok (.iload_n 1, 1) := by decide +kernel
theorem dX0_has_13 : decode cX0_has 13 = .ok (.bipush 63, 2) := by decide +kernel
theorem dX0_has_15 : decode cX0_has 15 = .ok (.if_icmp .ge 7, 3) := by decide +kernel
theorem dX0_has_18 : decode cX0_has 18 = .ok (.iconst 1, 1) := by decide +kernel
theorem dX0_has_19 : decode cX0_has 19 = .ok (.goto 4, 3) := by decide +kernel
theorem dX0_has_22 : decode cX0_has 22 = .ok (.iconst 0, 1) := by decide +kernel
theorem dX0_has_23 : decode cX0_has 23 = .ok (.ireturn, 1) := by decide +kernel
set_option maxRecDepth 20000 in
theorem ggX0_dukeAt_X0_has : GoodIn wsX0_dukeAt wsX0_has := goodIn_r _ [6, 7, 8, 9, 10, 11, 12, 13] (by decide +kernel) (by decide +kernel)
set_option maxRecDepth 20000 in
theorem gX0_dukeAt_X0_has : GoodIn wsX0_dukeAt (wsV RX0 31 RX0 yX0_has wsX0_has) := goodIn_app (goodIn_of _ (by decide +kernel)) ggX0_dukeAt_X0_has
theorem dX0_dukeAt_0 : decode cX0_dukeAt 0 = .ok (.aload_n 0, 1) := by decide +kernel
theorem dX0_dukeAt_1 : decode cX0_dukeAt 1 = .ok (.iload_n 1, 1) := by decide +kernel
theorem dX0_dukeAt_2 : decode cX0_dukeAt 2 = .ok (.invokevirtual 31, 3) := by decide +kernel
theorem dX0_dukeAt_5 : decode cX0_dukeAt 5 = .ok (.ifCond .eq 12, 3) := by decide +kernel
theorem dX0_dukeAt_8 : decode cX0_dukeAt 8 = .ok (.aload_n 0, 1) := by decide +kernel
theorem dX0_dukeAt_9 : decode cX0_dukeAt 9 = .ok (.getfield 9, 3) := by decide +kernel
theorem dX0_dukeAt_12 : decode cX0_dukeAt 12 = .ok (.iload_n 1, 1) := by decide +kernel
theorem dX0_dukeAt_13 : decode cX0_dukeAt 13 = .ok (.iaload, 1) := by decide +kernel
theorem dX0_dukeAt_14 : decode cX0_dukeAt 14 = .ok (.goto 4, 3) := by decide +kernel
theorem dX0_dukeAt_17 : decode cX0_dukeAt 17 = .ok (.iconst (-1), 1) := by decide +kernel
theorem dX0_dukeAt_18 : decode cX0_dukeAt 18 = .ok (.ireturn, 1) := by decide +kernel
set_option maxRecDepth 20000 in
theorem ggX0_loudnessAt_X0_has : GoodIn wsX0_loudnessAt wsX0_has := goodIn_r _ [6, 7, 8, 9, 10, 11, 12, 13] (by decide +kernel) (by decide +kernel)
set_option maxRecDepth 20000 in
theorem gX0_loudnessAt_X0_has : GoodIn wsX0_loudnessAt (wsV RX0 31 RX0 yX0_has wsX0_has) := goodIn_app (goodIn_of _ (by decide +kernel)) ggX0_loudnessAt_X0_has
theorem dX0_loudnessAt_0 : decode cX0_loudnessAt 0 = .ok (.aload_n 0, 1) := by decide +kernel
theorem dX0_loudnessAt_1 : decode cX0_loudnessAt 1 = .ok (.iload_n 1, 1) := by decide +kernel
theorem dX0_loudnessAt_2 : decode cX0_loudnessAt 2 = .ok (.invokevirtual 31, 3) := by decide +kernel
theorem dX0_loudnessAt_5 : decode cX0_loudnessAt 5 = .ok (.ifCond .eq 12, 3) := by decide +kernel
theorem dX0_loudnessAt_8 : decode cX0_loudnessAt 8 = .ok (.aload_n 0, 1) := by decide +kernel
theorem dX0_loudnessAt_9 : decode cX0_loudnessAt 9 = .ok (.getfield 15, 3) := by decide +kernel
theorem dX0_loudnessAt_12 : decode cX0_loudnessAt 12 = .ok (.iload_n 1, 1) := by decide +kernel
theorem dX0_loudnessAt_13 : decode cX0_loudnessAt 13 = .ok (.iaload, 1) := by decide +kernel
theorem dX0_loudnessAt_14 : decode cX0_loudnessAt 14 = .ok (.goto 4, 3) := by decide +kernel
theorem dX0_loudnessAt_17 : decode cX0_loudnessAt 17 = .ok (.iconst (-1), 1) := by decide +kernel
theorem dX0_loudnessAt_18 : decode cX0_loudnessAt 18 = .ok (.ireturn, 1) := by decide +kernel
set_option maxRecDepth 20000 in
theorem ggX0_sideAt_X0_has : GoodIn wsX0_sideAt wsX0_has := goodIn_r _ [6, 7, 8, 9, 10, 11, 12, 13] (by decide +kernel) (by decide +kernel)
set_option maxRecDepth 20000 in
theorem gX0_sideAt_X0_has : GoodIn wsX0_sideAt (wsV RX0 31 RX0 yX0_has wsX0_has) := goodIn_app (goodIn_of _ (by decide +kernel)) ggX0_sideAt_X0_has
theorem dX0_sideAt_0 : decode cX0_sideAt 0 = .ok (.aload_n 0, 1) := by decide +kernel
theorem dX0_sideAt_1 : decode cX0_sideAt 1 = .ok (.iload_n 1, 1) := by decide +kernel
theorem dX0_sideAt_2 : decode cX0_sideAt 2 = .ok (.invokevirtual 31, 3) := by decide +kernel
theorem dX0_sideAt_5 : decode cX0_sideAt 5 = .ok (.ifCond .eq 12, 3) := by decide +kernel
theorem dX0_sideAt_8 : decode cX0_sideAt 8 = .ok (.aload_n 0, 1) := by decide +kernel
theorem dX0_sideAt_9 : decode cX0_sideAt 9 = .ok (.getfield 18, 3) := by decide +kernel
theorem dX0_sideAt_12 : decode cX0_sideAt 12 = .ok (.iload_n 1, 1) := by decide +kernel
theorem dX0_sideAt_13 : decode cX0_sideAt 13 = .ok (.iaload, 1) := by decide +kernel
theorem dX0_sideAt_14 : decode cX0_sideAt 14 = .ok (.goto 4, 3) := by decide +kernel
theorem dX0_sideAt_17 : decode cX0_sideAt 17 = .ok (.iconst 0, 1) := by decide +kernel
theorem dX0_sideAt_18 : decode cX0_sideAt 18 = .ok (.ireturn, 1) := by decide +kernel
set_option maxRecDepth 20000 in
theorem ggX0_find_X0_dukeAt : GoodIn wsX0_find wsX0_dukeAt := goodIn_r _ [6, 7, 8, 9, 10, 5, 11, 1, 12, 13, 14, 15, 16, 17] (by decide +kernel) (by decide +kernel)
set_option maxRecDepth 20000 in
theorem gX0_find_X0_dukeAt : GoodIn wsX0_find (wsV RX0 35 RX0 yX0_dukeAt wsX0_dukeAt) := goodIn_app (goodIn_of _ (by decide +kernel)) ggX0_find_X0_dukeAt
theorem dX0_find_0 : decode cX0_find 0 = .ok (.iconst 0, 1) := by decide +kernel
theorem dX0_find_1 : decode cX0_find 1 = .ok (.istore_n 2, 1) := by decide +kernel
theorem dX0_find_2 : decode cX0_find 2 = .ok (.iload_n 2, 1) := by decide +kernel
theorem dX0_find_3 : decode cX0_find 3 = .ok (.aload_n 0, 1) := by decide +kernel
theorem dX0_find_4 : decode cX0_find 4 = .ok (.getfield 21, 3) := by decide +kernel
theorem dX0_find_7 : decode cX0_find 7 = .ok (.if_icmp .ge 20, 3) := by decide +kernel
theorem dX0_find_10 : decode cX0_find 10 = .ok (.aload_n 0, 1) := by decide +kernel
theorem dX0_find_11 : decode cX0_find 11 = .ok (.iload_n 2, 1) := by decide +kernel
theorem dX0_find_12 : decode cX0_find 12 = .ok (.invokevirtual 35, 3) := by decide +kernel
theorem dX0_find_15 : decode cX0_find 15 = .ok (.iload_n 1, 1) := by decide +kernel
theorem dX0_find_16 : decode cX0_find 16 = .ok (.if_icmp .ne 5, 3) := by decide +kernel
theorem dX0_find_19 : decode cX0_find 19 = .ok (.iload_n 2, 1) := by decide +kernel
theorem dX0_find_20 : decode cX0_find 20 = .ok (.ireturn, 1) := by decide +kernel
theorem dX0_find_21 : decode cX0_find 21 = .ok (.iinc 2 1, 3) := by decide +kernel
theorem dX0_find_24 : decode cX0_find 24 = .ok (.goto (-22), 3) := by decide +kernel
theorem dX0_find_27 : decode cX0_find 27 = .ok (.iconst (-1), 1) := by decide +kernel
theorem dX0_find_28 : decode cX0_find 28 = .ok (.ireturn, 1) := by decide +kernel
set_option maxRecDepth 20000 in
theorem ggX0_left_X0_sideAt : GoodIn wsX0_left wsX0_sideAt := goodIn_r _ [5, 6, 7, 8, 9, 4, 10, 11, 12, 13, 14, 15, 16, 17] (by decide +kernel) (by decide +kernel)
set_option maxRecDepth 20000 in
theorem gX0_left_X0_sideAt : GoodIn wsX0_left (wsV RX0 39 RX0 yX0_sideAt wsX0_sideAt) := goodIn_app (goodIn_of _ (by decide +kernel)) ggX0_left_X0_sideAt
theorem dX0_left_0 : decode cX0_left 0 = .ok (.iconst 2, 1) := by decide +kernel
theorem dX0_left_1 : decode cX0_left 1 = .ok (.iload_n 1, 1) := by decide +kernel
theorem dX0_left_2 : decode cX0_left 2 = .ok (.imul, 1) := by decide +kernel
theorem dX0_left_3 : decode cX0_left 3 = .ok (.aload_n 0, 1) := by decide +kernel
theorem dX0_left_4 : decode cX0_left 4 = .ok (.iload_n 1, 1) := by decide +kernel
theorem dX0_left_5 : decode cX0_left 5 = .ok (.invokevirtual 39, 3) := by decide +kernel
theorem dX0_left_8 : decode cX0_left 8 = .ok (.iadd, 1) := by decide +kernel
theorem dX0_left_9 : decode cX0_left 9 = .ok (.ireturn, 1) := by decide +kernel
set_option maxRecDepth 20000 in
theorem ggX0_elder_X0_left : GoodIn wsX0_elder wsX0_left := goodIn_r _ [5, 6, 7, 8, 4, 9, 10, 11, 12, 13, 14, 15, 16, 17, 18, 19, 20, 21] (by decide +kernel) (by decide +kernel)
set_option maxRecDepth 20000 in
theorem gX0_elder_X0_left : GoodIn wsX0_elder (wsV RX0 42 RX0 yX0_left wsX0_left) := goodIn_app (goodIn_of _ (by decide +kernel)) ggX0_elder_X0_left
theorem dX0_elder_0 : decode cX0_elder 0 = .ok (.iload_n 1, 1) := by decide +kernel
theorem dX0_elder_1 : decode cX0_elder 1 = .ok (.istore_n 2, 1) := by decide +kernel
theorem dX0_elder_2 : decode cX0_elder 2 = .ok (.iload_n 2, 1) := by decide +kernel
theorem dX0_elder_3 : decode cX0_elder 3 = .ok (.iconst 1, 1) := by decide +kernel
theorem dX0_elder_4 : decode cX0_elder 4 = .ok (.if_icmp .le 21, 3) := by decide +kernel
theorem dX0_elder_7 : decode cX0_elder 7 = .ok (.iload_n 2, 1) := by decide +kernel
theorem dX0_elder_8 : decode cX0_elder 8 = .ok (.aload_n 0, 1) := by decide +kernel
theorem dX0_elder_9 : decode cX0_elder 9 = .ok (.iload_n 2, 1) := by decide +kernel
theorem dX0_elder_10 : decode cX0_elder 10 = .ok (.iconst 2, 1) := by decide +kernel
theorem dX0_elder_11 : decode cX0_elder 11 = .ok (.idiv, 1) := by decide +kernel
theorem dX0_elder_12 : decode cX0_elder 12 = .ok (.invokevirtual 42, 3) := by decide +kernel
theorem dX0_elder_15 : decode cX0_elder 15 = .ok (.if_icmp .ne 10, 3) := by decide +kernel
theorem dX0_elder_18 : decode cX0_elder 18 = .ok (.iload_n 2, 1) := by decide +kernel
theorem dX0_elder_19 : decode cX0_elder 19 = .ok (.iconst 2, 1) := by decide +kernel
theorem dX0_elder_20 : decode cX0_elder 20 = .ok (.idiv, 1) := by decide +kernel
theorem dX0_elder_21 : decode cX0_elder 21 = .ok (.istore_n 2, 1) := by decide +kernel
theorem dX0_elder_22 : decode cX0_elder 22 = .ok (.goto (-20), 3) := by decide +kernel
theorem dX0_elder_25 : decode cX0_elder 25 = .ok (.iload_n 2, 1) := by decide +kernel
theorem dX0_elder_26 : decode cX0_elder 26 = .ok (.iconst 2, 1) := by decide +kernel
theorem dX0_elder_27 : decode cX0_elder 27 = .ok (.idiv, 1) := by decide +kernel
theorem dX0_elder_28 : decode cX0_elder 28 = .ok (.ireturn, 1) := by decide +kernel
set_option maxRecDepth 20000 in
theorem ggX0_countFollowers_X0_elder : GoodIn wsX0_countFollowers wsX0_elder := goodIn_r _ [6, 7, 8, 9, 5, 10, 11, 12, 13, 14, 15, 16, 17, 18, 19, 1, 20, 21, 22, 23, 24, 25] (by decide +kernel) (by decide +kernel)
set_option maxRecDepth 20000 in
theorem gX0_countFollowers_X0_elder : GoodIn wsX0_countFollowers (wsV RX0 45 RX0 yX0_elder wsX0_elder) := goodIn_app (goodIn_of _ (by decide +kernel)) ggX0_countFollowers_X0_elder
theorem dX0_countFollowers_0 : decode cX0_countFollowers 0 = .ok (.iconst 0, 1) := by decide +kernel
theorem dX0_countFollowers_1 : decode cX0_countFollowers 1 = .ok (.istore_n 2, 1) := by decide +kernel
theorem dX0_countFollowers_2 : decode cX0_countFollowers 2 = .ok (.iconst 1, 1) := by decide +kernel
theorem dX0_countFollowers_3 : decode cX0_countFollowers 3 = .ok (.istore_n 3, 1) := by decide +kernel
theorem dX0_countFollowers_4 : decode cX0_countFollowers 4 = .ok (.iload_n 3, 1) := by decide +kernel
theorem dX0_countFollowers_5 : decode cX0_countFollowers 5 = .ok (.aload_n 0, 1) := by decide +kernel
theorem dX0_countFollowers_6 : decode cX0_countFollowers 6 = .ok (.getfield 21, 3) := by decide +kernel
theorem dX0_countFollowers_9 : decode cX0_countFollowers 9 = .ok (.if_icmp .ge 21, 3) := by decide +kernel
theorem dX0_countFollowers_12 : decode cX0_countFollowers 12 = .ok (.aload_n 0, 1) := by decide +kernel
theorem dX0_countFollowers_13 : decode cX0_countFollowers 13 = .ok (.iload_n 3, 1) := by decide +kernel
theorem dX0_countFollowers_14 : decode cX0_countFollowers 14 = .ok (.invokevirtual 45, 3) := by decide +kernel
theorem dX0_countFollowers_17 : decode cX0_countFollowers 17 = .ok (.iload_n 1, 1) := by decide +kernel
theorem dX0_countFollowers_18 : decode cX0_countFollowers 18 = .ok (.if_icmp .ne 6, 3) := by decide +kernel
theorem dX0_countFollowers_21 : decode cX0_countFollowers 21 = .ok (.iinc 2 1, 3) := by decide +kernel
theorem dX0_countFollowers_24 : decode cX0_countFollowers 24 = .ok (.iinc 3 1, 3) := by decide +kernel
theorem dX0_countFollowers_27 : decode cX0_countFollowers 27 = .ok (.goto (-23), 3) := by decide +kernel
theorem dX0_countFollowers_30 : decode cX0_countFollowers 30 = .ok (.iload_n 2, 1) := by decide +kernel
theorem dX0_countFollowers_31 : decode cX0_countFollowers 31 = .ok (.ireturn, 1) := by decide +kernel
set_option maxRecDepth 20000 in
theorem ggX0_countFlipped_X0_sideAt : GoodIn wsX0_countFlipped wsX0_sideAt := goodIn_r _ [6, 7, 8, 9, 10, 5, 11, 1, 12, 13, 14, 15, 16, 17] (by decide +kernel) (by decide +kernel)
set_option maxRecDepth 20000 in
theorem gX0_countFlipped_X0_sideAt : GoodIn wsX0_countFlipped (wsV RX0 39 RX0 yX0_sideAt wsX0_sideAt) := goodIn_app (goodIn_of _ (by decide +kernel)) ggX0_countFlipped_X0_sideAt
theorem dX0_countFlipped_0 : decode cX0_countFlipped 0 = .ok (.iconst 0, 1) := by decide +kernel
theorem dX0_countFlipped_1 : decode cX0_countFlipped 1 = .ok (.istore_n 1, 1) := by decide +kernel
theorem dX0_countFlipped_2 : decode cX0_countFlipped 2 = .ok (.iconst 0, 1) := by decide +kernel
theorem dX0_countFlipped_3 : decode cX0_countFlipped 3 = .ok (.istore_n 2, 1) := by decide +kernel
theorem dX0_countFlipped_4 : decode cX0_countFlipped 4 = .ok (.iload_n 2, 1) := by decide +kernel
theorem dX0_countFlipped_5 : decode cX0_countFlipped 5 = .ok (.aload_n 0, 1) := by decide +kernel
theorem dX0_countFlipped_6 : decode cX0_countFlipped 6 = .ok (.getfield 21, 3) := by decide +kernel
theorem dX0_countFlipped_9 : decode cX0_countFlipped 9 = .ok (.if_icmp .ge 17, 3) := by decide +kernel
theorem dX0_countFlipped_12 : decode cX0_countFlipped 12 = .ok (.iload_n 1, 1) := by decide +kernel
theorem dX0_countFlipped_13 : decode cX0_countFlipped 13 = .ok (.aload_n 0, 1) := by decide +kernel
theorem dX0_countFlipped_14 : decode cX0_countFlipped 14 = .ok (.iload_n 2, 1) := by decide +kernel
theorem dX0_countFlipped_15 : decode cX0_countFlipped 15 = .ok (.invokevirtual 39, 3) := by decide +kernel
theorem dX0_countFlipped_18 : decode cX0_countFlipped 18 = .ok (.iadd, 1) := by decide +kernel
theorem dX0_countFlipped_19 : decode cX0_countFlipped 19 = .ok (.istore_n 1, 1) := by decide +kernel
theorem dX0_countFlipped_20 : decode cX0_countFlipped 20 = .ok (.iinc 2 1, 3) := by decide +kernel
theorem dX0_countFlipped_23 : decode cX0_countFlipped 23 = .ok (.goto (-19), 3) := by decide +kernel
theorem dX0_countFlipped_26 : decode cX0_countFlipped 26 = .ok (.iload_n 1, 1) := by decide +kernel
theorem dX0_countFlipped_27 : decode cX0_countFlipped 27 = .ok (.ireturn, 1) := by decide +kernel
set_option maxRecDepth 20000 in
theorem ggX0_countBelow_X0_elder : GoodIn wsX0_countBelow wsX0_elder := goodIn_r _ [6, 7, 8, 9, 5, 10, 11, 12, 13, 14, 15, 16, 17, 18, 19, 1, 32, 33, 34, 35, 36, 37] (by decide +kernel) (by decide +kernel)
set_option maxRecDepth 20000 in
theorem gX0_countBelow_X0_elder : GoodIn wsX0_countBelow (wsV RX0 45 RX0 yX0_elder wsX0_elder) := goodIn_app (goodIn_of _ (by decide +kernel)) ggX0_countBelow_X0_elder
set_option maxRecDepth 20000 in
theorem ggX0_countBelow_X0_loudnessAt : GoodIn wsX0_countBelow wsX0_loudnessAt := goodIn_r _ [23, 24, 16, 17, 18, 5, 19, 1, 32, 33, 34, 35, 36, 37] (by decide +kernel) (by decide +kernel)
set_option maxRecDepth 20000 in
theorem gX0_countBelow_X0_loudnessAt : GoodIn wsX0_countBelow (wsV RX0 48 RX0 yX0_loudnessAt wsX0_loudnessAt) := goodIn_app (goodIn_of _ (by decide +kernel)) ggX0_countBelow_X0_loudnessAt
set_option maxRecDepth 20000 in
theorem ggX0_countBelow_J13_bitCount_95d88 : GoodIn wsX0_countBelow wsJ13_bitCount_95d88 := goodIn_r _ [28, 29, 30, 31] (by decide +kernel) (by decide +kernel)
set_option maxRecDepth 20000 in
theorem gX0_countBelow_J13_bitCount_95d88 : GoodIn wsX0_countBelow (va_wsS RX0 51 yJ13_bitCount_95d88 wsJ13_bitCount_95d88) := goodIn_app (goodIn_of _ (by decide +kernel)) ggX0_countBelow_J13_bitCount_95d88
theorem dX0_countBelow_0 : decode cX0_countBelow 0 = .ok (.lconst 0, 1) := by decide +kernel
theorem dX0_countBelow_1 : decode cX0_countBelow 1 = .ok (.lstore_n 2, 1) := by decide +kernel
theorem dX0_countBelow_2 : decode cX0_countBelow 2 = .ok (.iconst 0, 1) := by decide +kernel
theorem dX0_countBelow_3 : decode cX0_countBelow 3 = .ok (.istore 4, 2) := by decide +kernel
theorem dX0_countBelow_5 : decode cX0_countBelow 5 = .ok (.iload 4, 2) := by decide +kernel
theorem dX0_countBelow_7 : decode cX0_countBelow 7 = .ok (.aload_n 0, 1) := by decide +kernel
theorem dX0_countBelow_8 : decode cX0_countBelow 8 = .ok (.getfield 21, 3) := by decide +kernel
theorem dX0_countBelow_11 : decode cX0_countBelow 11 = .ok (.if_icmp .ge 58, 3) := by decide +kernel
theorem dX0_countBelow_14 : decode cX0_countBelow 14 = .ok (.iload 4, 2) := by decide +kernel
theorem dX0_countBelow_16 : decode cX0_countBelow 16 = .ok (.ifCond .eq 18, 3) := by decide +kernel
theorem dX0_countBelow_19 : decode cX0_countBelow 19 = .ok (.lload_n 2, 1) := by decide +kernel
theorem dX0_countBelow_20 : decode cX0_countBelow 20 = .ok (.aload_n 0, 1) := by decide +kernel
theorem dX0_countBelow_21 : decode cX0_countBelow 21 = .ok (.iload 4, 2) := by decide +kernel
theorem dX0_countBelow_23 : decode cX0_countBelow 23 = .ok (.invokevirtual 45, 3) := by decide +kernel
theorem dX0_countBelow_26 : decode cX0_countBelow 26 = .ok (.lushr, 1) := by decide +kernel
theorem dX0_countBelow_27 : decode cX0_countBelow 27 = .ok (.lconst 1, 1) := by decide +kernel
theorem dX0_countBelow_28 : decode cX0_countBelow 28 = .ok (.land, 1) := by decide +kernel
theorem dX0_countBelow_29 : decode cX0_countBelow 29 = .ok (.lconst 0, 1) := by decide +kernel
theorem dX0_countBelow_30 : decode cX0_countBelow 30 = .ok (.lcmp, 1) := by decide +kernel
theorem dX0_countBelow_31 : decode cX0_countBelow 31 = .ok (.ifCond .eq 7, 3) := by decide +kernel
theorem dX0_countBelow_34 : decode cX0_countBelow 34 = .ok (.iconst 1, 1) := by decide +kernel
theorem dX0_countBelow_35 : decode cX0_countBelow 35 = .ok (.goto 4, 3) := by decide +kernel
theorem dX0_countBelow_38 : decode cX0_countBelow 38 = .ok (.iconst 0, 1) := by decide +kernel
theorem dX0_countBelow_39 : decode cX0_countBelow 39 = .ok (.istore 5, 2) := by decide +kernel
theorem dX0_countBelow_41 : decode cX0_countBelow 41 = .ok (.iload 5, 2) := by decide +kernel
theorem dX0_countBelow_43 : decode cX0_countBelow 43 = .ok (.ifCond .eq 20, 3) := by decide +kernel
theorem dX0_countBelow_46 : decode cX0_countBelow 46 = .ok (.aload_n 0, 1) := by decide +kernel
theorem dX0_countBelow_47 : decode cX0_countBelow 47 = .ok (.iload 4, 2) := by decide +kernel
theorem dX0_countBelow_49 : decode cX0_countBelow 49 = .ok (.invokevirtual 48, 3) := by decide +kernel
theorem dX0_countBelow_52 : decode cX0_countBelow 52 = .ok (.iload_n 1, 1) := by decide +kernel
theorem dX0_countBelow_53 : decode cX0_countBelow 53 = .ok (.if_icmp .ge 10, 3) := by decide +kernel
theorem dX0_countBelow_56 : decode cX0_countBelow 56 = .ok (.lload_n 2, 1) := by decide +kernel
theorem dX0_countBelow_57 : decode cX0_countBelow 57 = .ok (.lconst 1, 1) := by decide +kernel
theorem dX0_countBelow_58 : decode cX0_countBelow 58 = .ok (.iload 4, 2) := by decide +kernel
theorem dX0_countBelow_60 : decode cX0_countBelow 60 = .ok (.lshl, 1) := by decide +kernel
theorem dX0_countBelow_61 : decode cX0_countBelow 61 = .ok (.lor, 1) := by decide +kernel
theorem dX0_countBelow_62 : decode cX0_countBelow 62 = .ok (.lstore_n 2, 1) := by decide +kernel
theorem dX0_countBelow_63 : decode cX0_countBelow 63 = .ok (.iinc 4 1, 3) := by decide +kernel
theorem dX0_countBelow_66 : decode cX0_countBelow 66 = .ok (.goto (-61), 3) := by decide +kernel
theorem dX0_countBelow_69 : decode cX0_countBelow 69 = .ok (.lload_n 2, 1) := by decide +kernel
theorem dX0_countBelow_70 : decode cX0_countBelow 70 = .ok (.invokestatic 51, 3) := by decide +kernel
theorem dX0_countBelow_73 : decode cX0_countBelow 73 = .ok (.ireturn, 1) := by decide +kernel
theorem dX0_lay_0 : decode cX0_lay 0 = .ok (.aload_n 0, 1) := by decide +kernel
theorem dX0_lay_1 : decode cX0_lay 1 = .ok (.getfield 21, 3) := by decide +kernel
theorem dX0_lay_4 : decode cX0_lay 4 = .ok (.istore_n 3, 1) := by decide +kernel
theorem dX0_lay_5 : decode cX0_lay 5 = .ok (.iload_n 3, 1) := by decide +kernel
theorem dX0_lay_6 : decode cX0_lay 6 = .ok (.ifCond .lt 9, 3) := by decide +kernel
theorem dX0_lay_9 : decode cX0_lay 9 = .ok (.iload_n 3, 1) := by decide +kernel
theorem dX0_lay_10 : decode cX0_lay 10 = .ok (.bipush 63, 2) := by decide +kernel
theorem dX0_lay_12 : decode cX0_lay 12 = .ok (.if_icmp .lt 4, 3) := by decide +kernel
theorem dX0_lay_15 : decode cX0_lay 15 = .ok (.return_, 1) := by decide +kernel
theorem dX0_lay_16 : decode cX0_lay 16 = .ok (.aload_n 0, 1) := by decide +kernel
theorem dX0_lay_17 : decode cX0_lay 17 = .ok (.getfield 9, 3) := by decide +kernel
theorem dX0_lay_20 : decode cX0_lay 20 = .ok (.iload_n 3, 1) := by decide +kernel
theorem dX0_lay_21 : decode cX0_lay 21 = .ok (.iload_n 1, 1) := by decide +kernel
theorem dX0_lay_22 : decode cX0_lay 22 = .ok (.iastore, 1) := by decide +kernel
theorem dX0_lay_23 : decode cX0_lay 23 = .ok (.aload_n 0, 1) := by decide +kernel
theorem dX0_lay_24 : decode cX0_lay 24 = .ok (.getfield 15, 3) := by decide +kernel
theorem dX0_lay_27 : decode cX0_lay 27 = .ok (.iload_n 3, 1) := by decide +kernel
theorem dX0_lay_28 : decode cX0_lay 28 = .ok (.iload_n 2, 1) := by decide +kernel
theorem dX0_lay_29 : decode cX0_lay 29 = .ok (.iastore, 1) := by decide +kernel
theorem dX0_lay_30 : decode cX0_lay 30 = .ok (.aload_n 0, 1) := by decide +kernel
theorem dX0_lay_31 : decode cX0_lay 31 = .ok (.getfield 18, 3) := by decide +kernel
theorem dX0_lay_34 : decode cX0_lay 34 = .ok (.iload_n 3, 1) := by decide +kernel
theorem dX0_lay_35 : decode cX0_lay 35 = .ok (.iconst 0, 1) := by decide +kernel
theorem dX0_lay_36 : decode cX0_lay 36 = .ok (.iastore, 1) := by decide +kernel
theorem dX0_lay_37 : decode cX0_lay 37 = .ok (.aload_n 0, 1) := by decide +kernel
theorem dX0_lay_38 : decode cX0_lay 38 = .ok (.iload_n 3, 1) := by decide +kernel
theorem dX0_lay_39 : decode cX0_lay 39 = .ok (.iconst 1, 1) := by decide +kernel
theorem dX0_lay_40 : decode cX0_lay 40 = .ok (.iadd, 1) := by decide +kernel
theorem dX0_lay_41 : decode cX0_lay 41 = .ok (.putfield 21, 3) := by decide +kernel
theorem dX0_lay_44 : decode cX0_lay 44 = .ok (.return_, 1) := by decide +kernel
set_option maxRecDepth 20000 in
theorem ggX0_insert_X0_lay : GoodIn wsX0_insert wsX0_lay := goodIn_r _ [7, 1, 8, 9, 2, 40, 41, 42, 43, 44, 45] (by decide +kernel) (by decide +kernel)
set_option maxRecDepth 20000 in
theorem gX0_insert_X0_lay : GoodIn wsX0_insert (wsV RX0 57 RX0 yX0_lay wsX0_lay) := goodIn_app (goodIn_of _ (by decide +kernel)) ggX0_insert_X0_lay
set_option maxRecDepth 20000 in
theorem ggX0_insert_X0_has : GoodIn wsX0_insert wsX0_has := goodIn_r _ [13, 1, 40, 41, 42, 43, 44, 45] (by decide +kernel) (by decide +kernel)
set_option maxRecDepth 20000 in
theorem gX0_insert_X0_has : GoodIn wsX0_insert (wsV RX0 31 RX0 yX0_has wsX0_has) := goodIn_app (goodIn_of _ (by decide +kernel)) ggX0_insert_X0_has
set_option maxRecDepth 20000 in
theorem ggX0_insert_X0_rise : GoodIn wsX0_insert wsX0_rise := goodIn_r _ [17, 18, 19, 20, 6, 21, 22, 23, 24, 25, 26, 27, 28, 29, 2, 10, 11, 12, 13, 1, 30, 31, 32, 33, 34, 9, 35, 36, 37, 38, 39, 8, 40, 41, 42, 43, 44, 45] (by decide +kernel) (by decide +kernel)
set_option maxRecDepth 20000 in
theorem gX0_insert_X0_rise : GoodIn wsX0_insert (wsV RX0 61 RX0 yX0_rise wsX0_rise) := goodIn_app (goodIn_of _ (by decide +kernel)) ggX0_insert_X0_rise
theorem dX0_insert_0 : decode cX0_insert 0 = .ok (.aload_n 0, 1) := by decide +kernel
theorem dX0_insert_1 : decode cX0_insert 1 = .ok (.getfield 21, 3) := by decide +kernel
theorem dX0_insert_4 : decode cX0_insert 4 = .ok (.istore_n 3, 1) := by decide +kernel
theorem dX0_insert_5 : decode cX0_insert 5 = .ok (.aload_n 0, 1) := by decide +kernel
theorem dX0_insert_6 : decode cX0_insert 6 = .ok (.iload_n 1, 1) := by decide +kernel
theorem dX0_insert_7 : decode cX0_insert 7 = .ok (.iload_n 2, 1) := by decide +kernel
theorem dX0_insert_8 : decode cX0_insert 8 = .ok (.invokevirtual 57, 3) := by decide +kernel
theorem dX0_insert_11 : decode cX0_insert 11 = .ok (.iload_n 3, 1) := by decide +kernel
theorem dX0_insert_12 : decode cX0_insert 12 = .ok (.iconst 2, 1) := by decide +kernel
theorem dX0_insert_13 : decode cX0_insert 13 = .ok (.irem, 1) := by decide +kernel
theorem dX0_insert_14 : decode cX0_insert 14 = .ok (.ifCond .ne 22, 3) := by decide +kernel
theorem dX0_insert_17 : decode cX0_insert 17 = .ok (.aload_n 0, 1) := by decide +kernel
theorem dX0_insert_18 : decode cX0_insert 18 = .ok (.iload_n 3, 1) := by decide +kernel
theorem dX0_insert_19 : decode cX0_insert 19 = .ok (.iconst 2, 1) := by decide +kernel
theorem dX0_insert_20 : decode cX0_insert 20 = .ok (.idiv, 1) := by decide +kernel
theorem dX0_insert_21 : decode cX0_insert 21 = .ok (.invokevirtual 31, 3) := by decide +kernel
theorem dX0_insert_24 : decode cX0_insert 24 = .ok (.ifCond .eq 12, 3) := by decide +kernel
theorem dX0_insert_27 : decode cX0_insert 27 = .ok (.aload_n 0, 1) := by decide +kernel
theorem dX0_insert_28 : decode cX0_insert 28 = .ok (.getfield 18, 3) := by decide +kernel
theorem dX0_insert_31 : decode cX0_insert 31 = .ok (.iload_n 3, 1) := by decide +kernel
theorem dX0_insert_32 : decode cX0_insert 32 = .ok (.iconst 2, 1) := by decide +kernel
theorem dX0_insert_33 : decode cX0_insert 33 = .ok (.idiv, 1) := by decide +kernel
theorem dX0_insert_34 : decode cX0_insert 34 = .ok (.iconst 0, 1) := by decide +kernel
theorem dX0_insert_35 : decode cX0_insert 35 = .ok (.iastore, 1) := by decide +kernel
theorem dX0_insert_36 : decode cX0_insert 36 = .ok (.aload_n 0, 1) := by decide +kernel
theorem dX0_insert_37 : decode cX0_insert 37 = .ok (.iload_n 3, 1) := by decide +kernel
theorem dX0_insert_38 : decode cX0_insert 38 = .ok (.invokevirtual 61, 3) := by decide +kernel
theorem dX0_insert_41 : decode cX0_insert 41 = .ok (.pop, 1) := by decide +kernel
theorem dX0_insert_42 : decode cX0_insert 42 = .ok (.return_, 1) := by decide +kernel
set_option maxRecDepth 20000 in
theorem ggX0_joinAll_X0_elder : GoodIn wsX0_joinAll wsX0_elder := goodIn_r _ [7, 8, 9, 10, 6, 11, 12, 13, 14, 15, 1, 16, 17, 18, 19, 2, 32, 33, 34, 35, 36, 37] (by decide +kernel) (by decide +kernel)
set_option maxRecDepth 20000 in
theorem gX0_joinAll_X0_elder : GoodIn wsX0_joinAll (wsV RX0 45 RX0 yX0_elder wsX0_elder) := goodIn_app (goodIn_of _ (by decide +kernel)) ggX0_joinAll_X0_elder
set_option maxRecDepth 20000 in
theorem ggX0_joinAll_X0_join : GoodIn wsX0_joinAll wsX0_join := goodIn_r _ [23, 24, 25, 26, 1, 16, 17, 18, 6, 19, 2, 27, 28, 29, 30, 31, 32, 33, 34, 35, 36, 37] (by decide +kernel) (by decide +kernel)
set_option maxRecDepth 20000 in
theorem gX0_joinAll_X0_join : GoodIn wsX0_joinAll (wsV RX0 64 RX0 yX0_join wsX0_join) := goodIn_app (goodIn_of _ (by decide +kernel)) ggX0_joinAll_X0_join
theorem dX0_joinAll_0 : decode cX0_joinAll 0 = .ok (.iconst 0, 1) := by decide +kernel
theorem dX0_joinAll_1 : decode cX0_joinAll 1 = .ok (.istore_n 1, 1) := by decide +kernel
theorem dX0_joinAll_2 : decode cX0_joinAll 2 = .ok (.iload_n 1, 1) := by decide +kernel
theorem dX0_joinAll_3 : decode cX0_joinAll 3 = .ok (.bipush 63, 2) := by decide +kernel
theorem dX0_joinAll_5 : decode cX0_joinAll 5 = .ok (.if_icmp .ge 16, 3) := by decide +kernel
theorem dX0_joinAll_8 : decode cX0_joinAll 8 = .ok (.aload_n 0, 1) := by decide +kernel
theorem dX0_joinAll_9 : decode cX0_joinAll 9 = .ok (.getfield 18, 3) := by decide +kernel
theorem dX0_joinAll_12 : decode cX0_joinAll 12 = .ok (.iload_n 1, 1) := by decide +kernel
theorem dX0_joinAll_13 : decode cX0_joinAll 13 = .ok (.iconst 0, 1) := by decide +kernel
theorem dX0_joinAll_14 : decode cX0_joinAll 14 = .ok (.iastore, 1) := by decide +kernel
theorem dX0_joinAll_15 : decode cX0_joinAll 15 = .ok (.iinc 1 1, 3) := by decide +kernel
theorem dX0_joinAll_18 : decode cX0_joinAll 18 = .ok (.goto (-16), 3) := by decide +kernel
theorem dX0_joinAll_21 : decode cX0_joinAll 21 = .ok (.aload_n 0, 1) := by decide +kernel
theorem dX0_joinAll_22 : decode cX0_joinAll 22 = .ok (.getfield 21, 3) := by decide +kernel
theorem dX0_joinAll_25 : decode cX0_joinAll 25 = .ok (.iconst 1, 1) := by decide +kernel
theorem dX0_joinAll_26 : decode cX0_joinAll 26 = .ok (.isub, 1) := by decide +kernel
theorem dX0_joinAll_27 : decode cX0_joinAll 27 = .ok (.istore_n 1, 1) := by decide +kernel
theorem dX0_joinAll_28 : decode cX0_joinAll 28 = .ok (.iload_n 1, 1) := by decide +kernel
theorem dX0_joinAll_29 : decode cX0_joinAll 29 = .ok (.ifCond .le 20, 3) := by decide +kernel
theorem dX0_joinAll_32 : decode cX0_joinAll 32 = .ok (.aload_n 0, 1) := by decide +kernel
theorem dX0_joinAll_33 : decode cX0_joinAll 33 = .ok (.aload_n 0, 1) := by decide +kernel
theorem dX0_joinAll_34 : decode cX0_joinAll 34 = .ok (.iload_n 1, 1) := by decide +kernel
theorem dX0_joinAll_35 : decode cX0_joinAll 35 = .ok (.invokevirtual 45, 3) := by decide +kernel
theorem dX0_joinAll_38 : decode cX0_joinAll 38 = .ok (.iload_n 1, 1) := by decide +kernel
theorem dX0_joinAll_39 : decode cX0_joinAll 39 = .ok (.invokevirtual 64, 3) := by decide +kernel
theorem dX0_joinAll_42 : decode cX0_joinAll 42 = .ok (.pop, 1) := by decide +kernel
theorem dX0_joinAll_43 : decode cX0_joinAll 43 = .ok (.iinc 1 (-1), 3) := by decide +kernel
theorem dX0_joinAll_46 : decode cX0_joinAll 46 = .ok (.goto (-18), 3) := by decide +kernel
theorem dX0_joinAll_49 : decode cX0_joinAll 49 = .ok (.return_, 1) := by decide +kernel
set_option maxRecDepth 20000 in
theorem ggX0_quieten_X0_has : GoodIn wsX0_quieten wsX0_has := goodIn_r _ [6, 7, 36, 37, 38, 39, 40, 41] (by decide +kernel) (by decide +kernel)
set_option maxRecDepth 20000 in
theorem gX0_quieten_X0_has : GoodIn wsX0_quieten (wsV RX0 31 RX0 yX0_has wsX0_has) := goodIn_app (goodIn_of _ (by decide +kernel)) ggX0_quieten_X0_has
set_option maxRecDepth 20000 in
theorem ggX0_quieten_X0_rise : GoodIn wsX0_quieten wsX0_rise := goodIn_r _ [11, 12, 13, 14, 5, 15, 16, 17, 18, 19, 20, 21, 22, 23, 24, 2, 3, 4, 6, 7, 25, 26, 27, 28, 29, 1, 30, 31, 32, 33, 34, 35, 36, 37, 38, 39, 40, 41] (by decide +kernel) (by decide +kernel)
set_option maxRecDepth 20000 in
theorem gX0_quieten_X0_rise : GoodIn wsX0_quieten (wsV RX0 61 RX0 yX0_rise wsX0_rise) := goodIn_app (goodIn_of _ (by decide +kernel)) ggX0_quieten_X0_rise
theorem dX0_quieten_0 : decode cX0_quieten 0 = .ok (.aload_n 0, 1) := by decide +kernel
theorem dX0_quieten_1 : decode cX0_quieten 1 = .ok (.iload_n 1, 1) := by decide +kernel
theorem dX0_quieten_2 : decode cX0_quieten 2 = .ok (.invokevirtual 31, 3) := by decide +kernel
theorem dX0_quieten_5 : decode cX0_quieten 5 = .ok (.ifCond .eq 10, 3) := by decide +kernel
theorem dX0_quieten_8 : decode cX0_quieten 8 = .ok (.aload_n 0, 1) := by decide +kernel
theorem dX0_quieten_9 : decode cX0_quieten 9 = .ok (.getfield 15, 3) := by decide +kernel
theorem dX0_quieten_12 : decode cX0_quieten 12 = .ok (.iload_n 1, 1) := by decide +kernel
theorem dX0_quieten_13 : decode cX0_quieten 13 = .ok (.iload_n 2, 1) := by decide +kernel
theorem dX0_quieten_14 : decode cX0_quieten 14 = .ok (.iastore, 1) := by decide +kernel
theorem dX0_quieten_15 : decode cX0_quieten 15 = .ok (.aload_n 0, 1) := by decide +kernel
theorem dX0_quieten_16 : decode cX0_quieten 16 = .ok (.iload_n 1, 1) := by decide +kernel
theorem dX0_quieten_17 : decode cX0_quieten 17 = .ok (.invokevirtual 61, 3) := by decide +kernel
theorem dX0_quieten_20 : decode cX0_quieten 20 = .ok (.ireturn, 1) := by decide +kernel
set_option maxRecDepth 20000 in
theorem ggX0_removeTop_X0_has : GoodIn wsX0_removeTop wsX0_has := goodIn_r _ [8, 2, 32, 33, 34, 35, 36, 37] (by decide +kernel) (by decide +kernel)
set_option maxRecDepth 20000 in
theorem gX0_removeTop_X0_has : GoodIn wsX0_removeTop (wsV RX0 31 RX0 yX0_has wsX0_has) := goodIn_app (goodIn_of _ (by decide +kernel)) ggX0_removeTop_X0_has
set_option maxRecDepth 20000 in
theorem ggX0_removeTop_X0_joinTop : GoodIn wsX0_removeTop wsX0_joinTop := goodIn_r _ [12, 13, 14, 15, 7, 16, 17, 18, 19, 20, 21, 4, 5, 6, 8, 2, 22, 23, 24, 25, 26, 3, 27, 28, 29, 30, 31, 1, 32, 33, 34, 35, 36, 37] (by decide +kernel) (by decide +kernel)
set_option maxRecDepth 20000 in
theorem gX0_removeTop_X0_joinTop : GoodIn wsX0_removeTop (wsV RX0 68 RX0 yX0_joinTop wsX0_joinTop) := goodIn_app (goodIn_of _ (by decide +kernel)) ggX0_removeTop_X0_joinTop
theorem dX0_removeTop_0 : decode cX0_removeTop 0 = .ok (.aload_n 0, 1) := by decide +kernel
theorem dX0_removeTop_1 : decode cX0_removeTop 1 = .ok (.iconst 0, 1) := by decide +kernel
theorem dX0_removeTop_2 : decode cX0_removeTop 2 = .ok (.invokevirtual 31, 3) := by decide +kernel
theorem dX0_removeTop_5 : decode cX0_removeTop 5 = .ok (.ifCond .ne 5, 3) := by decide +kernel
theorem dX0_removeTop_8 : decode cX0_removeTop 8 = .ok (.iconst (-1), 1) := by decide +kernel
theorem dX0_removeTop_9 : decode cX0_removeTop 9 = .ok (.ireturn, 1) := by decide +kernel
theorem dX0_removeTop_10 : decode cX0_removeTop 10 = .ok (.aload_n 0, 1) := by decide +kernel
theorem dX0_removeTop_11 : decode cX0_removeTop 11 = .ok (.getfield 9, 3) := by decide +kernel
theorem dX0_removeTop_14 : decode cX0_removeTop 14 = .ok (.iconst 0, 1) := by decide +kernel
theorem dX0_removeTop_15 : decode cX0_removeTop 15 = .ok (.iaload, 1) := by decide +kernel
theorem dX0_removeTop_16 : decode cX0_removeTop 16 = .ok (.istore_n 1, 1) := by decide +kernel
theorem dX0_removeTop_17 : decode cX0_removeTop 17 = .ok (.aload_n 0, 1) := by decide +kernel
theorem dX0_removeTop_18 : decode cX0_removeTop 18 = .ok (.getfield 21, 3) := by decide +kernel
theorem dX0_removeTop_21 : decode cX0_removeTop 21 = .ok (.iconst 1, 1) := by decide +kernel
theorem dX0_removeTop_22 : decode cX0_removeTop 22 = .ok (.isub, 1) := by decide +kernel
theorem dX0_removeTop_23 : decode cX0_removeTop 23 = .ok (.istore_n 2, 1) := by decide +kernel
theorem dX0_removeTop_24 : decode cX0_removeTop 24 = .ok (.aload_n 0, 1) := by decide +kernel
theorem dX0_removeTop_25 : decode cX0_removeTop 25 = .ok (.iload_n 2, 1) := by decide +kernel
theorem dX0_removeTop_26 : decode cX0_removeTop 26 = .ok (.invokevirtual 31, 3) := by decide +kernel
theorem dX0_removeTop_29 : decode cX0_removeTop 29 = .ok (.ifCond .eq 27, 3) := by decide +kernel
theorem dX0_removeTop_32 : decode cX0_removeTop 32 = .ok (.aload_n 0, 1) := by decide +kernel
theorem dX0_removeTop_33 : decode cX0_removeTop 33 = .ok (.getfield 9, 3) := by decide +kernel
theorem dX0_removeTop_36 : decode cX0_removeTop 36 = .ok (.iconst 0, 1) := by decide +kernel
theorem dX0_removeTop_37 : decode cX0_removeTop 37 = .ok (.aload_n 0, 1) := by decide +kernel
theorem dX0_removeTop_38 : decode cX0_removeTop 38 = .ok (.getfield 9, 3) := by decide +kernel
theorem dX0_removeTop_41 : decode cX0_removeTop 41 = .ok (.iload_n 2, 1) := by decide +kernel
theorem dX0_removeTop_42 : decode cX0_removeTop 42 = .ok (.iaload, 1) := by decide +kernel
theorem dX0_removeTop_43 : decode cX0_removeTop 43 = .ok (.iastore, 1) := by decide +kernel
theorem dX0_removeTop_44 : decode cX0_removeTop 44 = .ok (.aload_n 0, 1) := by decide +kernel
theorem dX0_removeTop_45 : decode cX0_removeTop 45 = .ok (.getfield 15, 3) := by decide +kernel
theorem dX0_removeTop_48 : decode cX0_removeTop 48 = .ok (.iconst 0, 1) := by decide +kernel
theorem dX0_removeTop_49 : decode cX0_removeTop 49 = .ok (.aload_n 0, 1) := by decide +kernel
theorem dX0_removeTop_50 : decode cX0_removeTop 50 = .ok (.getfield 15, 3) := by decide +kernel
theorem dX0_removeTop_53 : decode cX0_removeTop 53 = .ok (.iload_n 2, 1) := by decide +kernel
theorem dX0_removeTop_54 : decode cX0_removeTop 54 = .ok (.iaload, 1) := by decide +kernel
theorem dX0_removeTop_55 : decode cX0_removeTop 55 = .ok (.iastore, 1) := by decide +kernel
theorem dX0_removeTop_56 : decode cX0_removeTop 56 = .ok (.aload_n 0, 1) := by decide +kernel
theorem dX0_removeTop_57 : decode cX0_removeTop 57 = .ok (.iload_n 2, 1) := by decide +kernel
theorem dX0_removeTop_58 : decode cX0_removeTop 58 = .ok (.putfield 21, 3) := by decide +kernel
theorem dX0_removeTop_61 : decode cX0_removeTop 61 = .ok (.aload_n 0, 1) := by decide +kernel
theorem dX0_removeTop_62 : decode cX0_removeTop 62 = .ok (.getfield 21, 3) := by decide +kernel
theorem dX0_removeTop_65 : decode cX0_removeTop 65 = .ok (.iconst 1, 1) := by decide +kernel
theorem dX0_removeTop_66 : decode cX0_removeTop 66 = .ok (.if_icmp .le 7, 3) := by decide +kernel
theorem dX0_removeTop_69 : decode cX0_removeTop 69 = .ok (.aload_n 0, 1) := by decide +kernel
theorem dX0_removeTop_70 : decode cX0_removeTop 70 = .ok (.invokevirtual 68, 3) := by decide +kernel
theorem dX0_removeTop_73 : decode cX0_removeTop 73 = .ok (.iload_n 1, 1) := by decide +kernel
theorem dX0_removeTop_74 : decode cX0_removeTop 74 = .ok (.ireturn, 1) := by decide +kernel
set_option maxRecDepth 20000 in
theorem ggX0_removeTops_X0_removeTop : GoodIn wsX0_removeTops wsX0_removeTop := goodIn_r _ [5, 6, 7, 8, 9, 10, 11, 4, 12, 13, 14, 15, 16, 17, 18, 19, 20, 21, 22, 23, 24, 25, 26, 27, 28, 29, 30, 31, 32, 33, 34, 35, 36, 37, 38, 39, 40, 41] (by decide +kernel) (by decide +kernel)
set_option maxRecDepth 20000 in
theorem gX0_removeTops_X0_removeTop : GoodIn wsX0_removeTops (wsV RX0 71 RX0 yX0_removeTop wsX0_removeTop) := goodIn_app (goodIn_of _ (by decide +kernel)) ggX0_removeTops_X0_removeTop
theorem dX0_removeTops_0 : decode cX0_removeTops 0 = .ok (.iconst 0, 1) := by decide +kernel
theorem dX0_removeTops_1 : decode cX0_removeTops 1 = .ok (.istore_n 2, 1) := by decide +kernel
theorem dX0_removeTops_2 : decode cX0_removeTops 2 = .ok (.iload_n 2, 1) := by decide +kernel
theorem dX0_removeTops_3 : decode cX0_removeTops 3 = .ok (.iload_n 1, 1) := by decide +kernel
theorem dX0_removeTops_4 : decode cX0_removeTops 4 = .ok (.if_icmp .ge 14, 3) := by decide +kernel
theorem dX0_removeTops_7 : decode cX0_removeTops 7 = .ok (.aload_n 0, 1) := by decide +kernel
theorem dX0_removeTops_8 : decode cX0_removeTops 8 = .ok (.invokevirtual 71, 3) := by decide +kernel
theorem dX0_removeTops_11 : decode cX0_removeTops 11 = .ok (.pop, 1) := by decide +kernel
theorem dX0_removeTops_12 : decode cX0_removeTops 12 = .ok (.iinc 2 1, 3) := by decide +kernel
theorem dX0_removeTops_15 : decode cX0_removeTops 15 = .ok (.goto (-13), 3) := by decide +kernel
theorem dX0_removeTops_18 : decode cX0_removeTops 18 = .ok (.return_, 1) := by decide +kernel
theorem dX0_copyFrom_0 : decode cX0_copyFrom 0 = .ok (.aload_n 0, 1) := by decide +kernel
theorem dX0_copyFrom_1 : decode cX0_copyFrom 1 = .ok (.aload_n 1, 1) := by decide +kernel
theorem dX0_copyFrom_2 : decode cX0_copyFrom 2 = .ok (.getfield 21, 3) := by decide +kernel
theorem dX0_copyFrom_5 : decode cX0_copyFrom 5 = .ok (.putfield 21, 3) := by decide +kernel
theorem dX0_copyFrom_8 : decode cX0_copyFrom 8 = .ok (.aload_n 0, 1) := by decide +kernel
theorem dX0_copyFrom_9 : decode cX0_copyFrom 9 = .ok (.aload_n 1, 1) := by decide +kernel
theorem dX0_copyFrom_10 : decode cX0_copyFrom 10 = .ok (.getfield 25, 3) := by decide +kernel
theorem dX0_copyFrom_13 : decode cX0_copyFrom 13 = .ok (.putfield 25, 3) := by decide +kernel
theorem dX0_copyFrom_16 : decode cX0_copyFrom 16 = .ok (.aload_n 0, 1) := by decide +kernel
theorem dX0_copyFrom_17 : decode cX0_copyFrom 17 = .ok (.aload_n 1, 1) := by decide +kernel
theorem dX0_copyFrom_18 : decode cX0_copyFrom 18 = .ok (.getfield 28, 3) := by decide +kernel
theorem dX0_copyFrom_21 : decode cX0_copyFrom 21 = .ok (.putfield 28, 3) := by decide +kernel
theorem dX0_copyFrom_24 : decode cX0_copyFrom 24 = .ok (.iconst 0, 1) := by decide +kernel
theorem dX0_copyFrom_25 : decode cX0_copyFrom 25 = .ok (.istore_n 2, 1) := by decide +kernel
theorem dX0_copyFrom_26 : decode cX0_copyFrom 26 = .ok (.iload_n 2, 1) := by decide +kernel
theorem dX0_copyFrom_27 : decode cX0_copyFrom 27 = .ok (.bipush 63, 2) := by decide +kernel
theorem dX0_copyFrom_29 : decode cX0_copyFrom 29 = .ok (.if_icmp .ge 45, 3) := by decide +kernel
theorem dX0_copyFrom_32 : decode cX0_copyFrom 32 = .ok (.aload_n 0, 1) := by decide +kernel
theorem dX0_copyFrom_33 : decode cX0_copyFrom 33 = .ok (.getfield 9, 3) := by decide +kernel
theorem dX0_copyFrom_36 : decode cX0_copyFrom 36 = .ok (.iload_n 2, 1) := by decide +kernel
theorem dX0_copyFrom_37 : decode cX0_copyFrom 37 = .ok (.aload_n 1, 1) := by decide +kernel
theorem dX0_copyFrom_38 : decode cX0_copyFrom 38 = .ok (.getfield 9, 3) := by decide +kernel
theorem dX0_copyFrom_41 : decode cX0_copyFrom 41 = .ok (.iload_n 2, 1) := by decide +kernel
theorem dX0_copyFrom_42 : decode cX0_copyFrom 42 = .ok (.iaload, 1) := by decide +kernel
theorem dX0_copyFrom_43 : decode cX0_copyFrom 43 = .ok (.iastore, 1) := by decide +kernel
theorem dX0_copyFrom_44 : decode cX0_copyFrom 44 = .ok (.aload_n 0, 1) := by decide +kernel
theorem dX0_copyFrom_45 : decode cX0_copyFrom 45 = .ok (.getfield 15, 3) := by decide +kernel
theorem dX0_copyFrom_48 : decode cX0_copyFrom 48 = .ok (.iload_n 2, 1) := by decide +kernel
theorem dX0_copyFrom_49 : decode cX0_copyFrom 49 = .ok (.aload_n 1, 1) := by decide +kernel
theorem dX0_copyFrom_50 : decode cX0_copyFrom 50 = .ok (.getfield 15, 3) := by decide +kernel
theorem dX0_copyFrom_53 : decode cX0_copyFrom 53 = .ok (.iload_n 2, 1) := by decide +kernel
theorem dX0_copyFrom_54 : decode cX0_copyFrom 54 = .ok (.iaload, 1) := by decide +kernel
theorem dX0_copyFrom_55 : decode cX0_copyFrom 55 = .ok (.iastore, 1) := by decide +kernel
theorem dX0_copyFrom_56 : decode cX0_copyFrom 56 = .ok (.aload_n 0, 1) := by decide +kernel
theorem dX0_copyFrom_57 : decode cX0_copyFrom 57 = .ok (.getfield 18, 3) := by decide +kernel
theorem dX0_copyFrom_60 : decode cX0_copyFrom 60 = .ok (.iload_n 2, 1) := by decide +kernel
theorem dX0_copyFrom_61 : decode cX0_copyFrom 61 = .ok (.aload_n 1, 1) := by decide +kernel
theorem dX0_copyFrom_62 : decode cX0_copyFrom 62 = .ok (.getfield 18, 3) := by decide +kernel
theorem dX0_copyFrom_65 : decode cX0_copyFrom 65 = .ok (.iload_n 2, 1) := by decide +kernel
theorem dX0_copyFrom_66 : decode cX0_copyFrom 66 = .ok (.iaload, 1) := by decide +kernel
theorem dX0_copyFrom_67 : decode cX0_copyFrom 67 = .ok (.iastore, 1) := by decide +kernel
theorem dX0_copyFrom_68 : decode cX0_copyFrom 68 = .ok (.iinc 2 1, 3) := by decide +kernel
theorem dX0_copyFrom_71 : decode cX0_copyFrom 71 = .ok (.goto (-45), 3) := by decide +kernel
theorem dX0_copyFrom_74 : decode cX0_copyFrom 74 = .ok (.return_, 1) := by decide +kernel
set_option maxRecDepth 20000 in
theorem ggX0_rise_X0_elder : GoodIn wsX0_rise wsX0_elder := goodIn_r _ [5, 6, 7, 8, 4, 9, 10, 11, 12, 13, 14, 15, 16, 17, 18, 19, 32, 33, 34, 35, 36, 37] (by decide +kernel) (by decide +kernel)
set_option maxRecDepth 20000 in
theorem gX0_rise_X0_elder : GoodIn wsX0_rise (wsV RX0 45 RX0 yX0_elder wsX0_elder) := goodIn_app (goodIn_of _ (by decide +kernel)) ggX0_rise_X0_elder
set_option maxRecDepth 20000 in
theorem ggX0_rise_X0_join : GoodIn wsX0_rise wsX0_join := goodIn_r _ [23, 24, 25, 26, 14, 15, 16, 17, 4, 18, 19, 27, 28, 29, 30, 31, 32, 33, 34, 35, 36, 37] (by decide +kernel) (by decide +kernel)
set_option maxRecDepth 20000 in
theorem gX0_rise_X0_join : GoodIn wsX0_rise (wsV RX0 64 RX0 yX0_join wsX0_join) := goodIn_app (goodIn_of _ (by decide +kernel)) ggX0_rise_X0_join
theorem dX0_rise_0 : decode cX0_rise 0 = .ok (.iload_n 1, 1) := by decide +kernel
theorem dX0_rise_1 : decode cX0_rise 1 = .ok (.istore_n 2, 1) := by decide +kernel
theorem dX0_rise_2 : decode cX0_rise 2 = .ok (.iconst 0, 1) := by decide +kernel
theorem dX0_rise_3 : decode cX0_rise 3 = .ok (.istore_n 3, 1) := by decide +kernel
theorem dX0_rise_4 : decode cX0_rise 4 = .ok (.iload_n 3, 1) := by decide +kernel
theorem dX0_rise_5 : decode cX0_rise 5 = .ok (.bipush 63, 2) := by decide +kernel
theorem dX0_rise_7 : decode cX0_rise 7 = .ok (.if_icmp .ge 35, 3) := by decide +kernel
theorem dX0_rise_10 : decode cX0_rise 10 = .ok (.iload_n 2, 1) := by decide +kernel
theorem dX0_rise_11 : decode cX0_rise 11 = .ok (.ifCond .le 31, 3) := by decide +kernel
theorem dX0_rise_14 : decode cX0_rise 14 = .ok (.aload_n 0, 1) := by decide +kernel
theorem dX0_rise_15 : decode cX0_rise 15 = .ok (.iload_n 2, 1) := by decide +kernel
theorem dX0_rise_16 : decode cX0_rise 16 = .ok (.invokevirtual 45, 3) := by decide +kernel
theorem dX0_rise_19 : decode cX0_rise 19 = .ok (.istore 4, 2) := by decide +kernel
theorem dX0_rise_21 : decode cX0_rise 21 = .ok (.aload_n 0, 1) := by decide +kernel
theorem dX0_rise_22 : decode cX0_rise 22 = .ok (.iload 4, 2) := by decide +kernel
theorem dX0_rise_24 : decode cX0_rise 24 = .ok (.iload_n 2, 1) := by decide +kernel
theorem dX0_rise_25 : decode cX0_rise 25 = .ok (.invokevirtual 64, 3) := by decide +kernel
theorem dX0_rise_28 : decode cX0_rise 28 = .ok (.ifCond .ne 5, 3) := by decide +kernel
theorem dX0_rise_31 : decode cX0_rise 31 = .ok (.iload_n 2, 1) := by decide +kernel
theorem dX0_rise_32 : decode cX0_rise 32 = .ok (.ireturn, 1) := by decide +kernel
theorem dX0_rise_33 : decode cX0_rise 33 = .ok (.iload 4, 2) := by decide +kernel
theorem dX0_rise_35 : decode cX0_rise 35 = .ok (.istore_n 2, 1) := by decide +kernel
theorem dX0_rise_36 : decode cX0_rise 36 = .ok (.iinc 3 1, 3) := by decide +kernel
theorem dX0_rise_39 : decode cX0_rise 39 = .ok (.goto (-35), 3) := by decide +kernel
theorem dX0_rise_42 : decode cX0_rise 42 = .ok (.iload_n 2, 1) := by decide +kernel
theorem dX0_rise_43 : decode cX0_rise 43 = .ok (.ireturn, 1) := by decide +kernel
set_option maxRecDepth 20000 in
theorem ggX0_joinTop_X0_left : GoodIn wsX0_joinTop wsX0_left := goodIn_r _ [5, 6, 7, 8, 4, 9, 10, 11, 12, 13, 14, 15, 28, 29, 30, 31, 32, 33] (by decide +kernel) (by decide +kernel)
set_option maxRecDepth 20000 in
theorem gX0_joinTop_X0_left : GoodIn wsX0_joinTop (wsV RX0 42 RX0 yX0_left wsX0_left) := goodIn_app (goodIn_of _ (by decide +kernel)) ggX0_joinTop_X0_left
set_option maxRecDepth 20000 in
theorem ggX0_joinTop_X0_has : GoodIn wsX0_joinTop wsX0_has := goodIn_r _ [14, 15, 28, 29, 30, 31, 32, 33] (by decide +kernel) (by decide +kernel)
set_option maxRecDepth 20000 in
theorem gX0_joinTop_X0_has : GoodIn wsX0_joinTop (wsV RX0 31 RX0 yX0_has wsX0_has) := goodIn_app (goodIn_of _ (by decide +kernel)) ggX0_joinTop_X0_has
set_option maxRecDepth 20000 in
theorem ggX0_joinTop_X0_join : GoodIn wsX0_joinTop wsX0_join := goodIn_r _ [19, 20, 21, 22, 10, 11, 12, 13, 4, 14, 15, 23, 24, 25, 26, 27, 28, 29, 30, 31, 32, 33] (by decide +kernel) (by decide +kernel)
set_option maxRecDepth 20000 in
theorem gX0_joinTop_X0_join : GoodIn wsX0_joinTop (wsV RX0 64 RX0 yX0_join wsX0_join) := goodIn_app (goodIn_of _ (by decide +kernel)) ggX0_joinTop_X0_join
theorem dX0_joinTop_0 : decode cX0_joinTop 0 = .ok (.iconst 1, 1) := by decide +kernel
theorem dX0_joinTop_1 : decode cX0_joinTop 1 = .ok (.istore_n 1, 1) := by decide +kernel
theorem dX0_joinTop_2 : decode cX0_joinTop 2 = .ok (.iconst 0, 1) := by decide +kernel
theorem dX0_joinTop_3 : decode cX0_joinTop 3 = .ok (.istore_n 2, 1) := by decide +kernel
theorem dX0_joinTop_4 : decode cX0_joinTop 4 = .ok (.iload_n 2, 1) := by decide +kernel
theorem dX0_joinTop_5 : decode cX0_joinTop 5 = .ok (.bipush 63, 2) := by decide +kernel
theorem dX0_joinTop_7 : decode cX0_joinTop 7 = .ok (.if_icmp .ge 27, 3) := by decide +kernel
theorem dX0_joinTop_10 : decode cX0_joinTop 10 = .ok (.aload_n 0, 1) := by decide +kernel
theorem dX0_joinTop_11 : decode cX0_joinTop 11 = .ok (.aload_n 0, 1) := by decide +kernel
theorem dX0_joinTop_12 : decode cX0_joinTop 12 = .ok (.iload_n 1, 1) := by decide +kernel
theorem dX0_joinTop_13 : decode cX0_joinTop 13 = .ok (.invokevirtual 42, 3) := by decide +kernel
theorem dX0_joinTop_16 : decode cX0_joinTop 16 = .ok (.invokevirtual 31, 3) := by decide +kernel
theorem dX0_joinTop_19 : decode cX0_joinTop 19 = .ok (.ifCond .eq 15, 3) := by decide +kernel
theorem dX0_joinTop_22 : decode cX0_joinTop 22 = .ok (.aload_n 0, 1) := by decide +kernel
theorem dX0_joinTop_23 : decode cX0_joinTop 23 = .ok (.iload_n 1, 1) := by decide +kernel
theorem dX0_joinTop_24 : decode cX0_joinTop 24 = .ok (.invokevirtual 42, 3) := by decide +kernel
theorem dX0_joinTop_27 : decode cX0_joinTop 27 = .ok (.istore_n 1, 1) := by decide +kernel
theorem dX0_joinTop_28 : decode cX0_joinTop 28 = .ok (.iinc 2 1, 3) := by decide +kernel
theorem dX0_joinTop_31 : decode cX0_joinTop 31 = .ok (.goto (-27), 3) := by decide +kernel
theorem dX0_joinTop_34 : decode cX0_joinTop 34 = .ok (.iload_n 1, 1) := by decide +kernel
theorem dX0_joinTop_35 : decode cX0_joinTop 35 = .ok (.istore_n 2, 1) := by decide +kernel
theorem dX0_joinTop_36 : decode cX0_joinTop 36 = .ok (.iload_n 2, 1) := by decide +kernel
theorem dX0_joinTop_37 : decode cX0_joinTop 37 = .ok (.ifCond .le 17, 3) := by decide +kernel
theorem dX0_joinTop_40 : decode cX0_joinTop 40 = .ok (.aload_n 0, 1) := by decide +kernel
theorem dX0_joinTop_41 : decode cX0_joinTop 41 = .ok (.iconst 0, 1) := by decide +kernel
theorem dX0_joinTop_42 : decode cX0_joinTop 42 = .ok (.iload_n 2, 1) := by decide +kernel
theorem dX0_joinTop_43 : decode cX0_joinTop 43 = .ok (.invokevirtual 64, 3) := by decide +kernel
theorem dX0_joinTop_46 : decode cX0_joinTop 46 = .ok (.pop, 1) := by decide +kernel
theorem dX0_joinTop_47 : decode cX0_joinTop 47 = .ok (.iload_n 2, 1) := by decide +kernel
theorem dX0_joinTop_48 : decode cX0_joinTop 48 = .ok (.iconst 2, 1) := by decide +kernel
theorem dX0_joinTop_49 : decode cX0_joinTop 49 = .ok (.idiv, 1) := by decide +kernel
theorem dX0_joinTop_50 : decode cX0_joinTop 50 = .ok (.istore_n 2, 1) := by decide +kernel
theorem dX0_joinTop_51 : decode cX0_joinTop 51 = .ok (.goto (-15), 3) := by decide +kernel
theorem dX0_joinTop_54 : decode cX0_joinTop 54 = .ok (.return_, 1) := by decide +kernel
set_option maxRecDepth 20000 in
theorem ggX0_join_X0_has : GoodIn wsX0_join wsX0_has := goodIn_r _ [9, 10, 16, 17, 18, 19, 20, 21] (by decide +kernel) (by decide +kernel)
set_option maxRecDepth 20000 in
theorem gX0_join_X0_has : GoodIn wsX0_join (wsV RX0 31 RX0 yX0_has wsX0_has) := goodIn_app (goodIn_of _ (by decide +kernel)) ggX0_join_X0_has
set_option maxRecDepth 20000 in
theorem ggX0_join_X0_exchange : GoodIn wsX0_join wsX0_exchange := goodIn_r _ [14, 15, 2, 16, 17, 18, 19, 20, 21] (by decide +kernel) (by decide +kernel)
set_option maxRecDepth 20000 in
theorem gX0_join_X0_exchange : GoodIn wsX0_join (wsV RX0 75 RX0 yX0_exchange wsX0_exchange) := goodIn_app (goodIn_of _ (by decide +kernel)) ggX0_join_X0_exchange
theorem dX0_join_0 : decode cX0_join 0 = .ok (.aload_n 0, 1) := by decide +kernel
theorem dX0_join_1 : decode cX0_join 1 = .ok (.iload_n 1, 1) := by decide +kernel
theorem dX0_join_2 : decode cX0_join 2 = .ok (.invokevirtual 31, 3) := by decide +kernel
theorem dX0_join_5 : decode cX0_join 5 = .ok (.ifCond .eq 11, 3) := by decide +kernel
theorem dX0_join_8 : decode cX0_join 8 = .ok (.aload_n 0, 1) := by decide +kernel
theorem dX0_join_9 : decode cX0_join 9 = .ok (.iload_n 2, 1) := by decide +kernel
theorem dX0_join_10 : decode cX0_join 10 = .ok (.invokevirtual 31, 3) := by decide +kernel
theorem dX0_join_13 : decode cX0_join 13 = .ok (.ifCond .ne 5, 3) := by decide +kernel
theorem dX0_join_16 : decode cX0_join 16 = .ok (.iconst 0, 1) := by decide +kernel
theorem dX0_join_17 : decode cX0_join 17 = .ok (.ireturn, 1) := by decide +kernel
theorem dX0_join_18 : decode cX0_join 18 = .ok (.aload_n 0, 1) := by decide +kernel
theorem dX0_join_19 : decode cX0_join 19 = .ok (.dup, 1) := by decide +kernel
theorem dX0_join_20 : decode cX0_join 20 = .ok (.getfield 25, 3) := by decide +kernel
theorem dX0_join_23 : decode cX0_join 23 = .ok (.iconst 1, 1) := by decide +kernel
theorem dX0_join_24 : decode cX0_join 24 = .ok (.iadd, 1) := by decide +kernel
theorem dX0_join_25 : decode cX0_join 25 = .ok (.putfield 25, 3) := by decide +kernel
theorem dX0_join_28 : decode cX0_join 28 = .ok (.aload_n 0, 1) := by decide +kernel
theorem dX0_join_29 : decode cX0_join 29 = .ok (.getfield 15, 3) := by decide +kernel
theorem dX0_join_32 : decode cX0_join 32 = .ok (.iload_n 2, 1) := by decide +kernel
theorem dX0_join_33 : decode cX0_join 33 = .ok (.iaload, 1) := by decide +kernel
theorem dX0_join_34 : decode cX0_join 34 = .ok (.aload_n 0, 1) := by decide +kernel
theorem dX0_join_35 : decode cX0_join 35 = .ok (.getfield 15, 3) := by decide +kernel
theorem dX0_join_38 : decode cX0_join 38 = .ok (.iload_n 1, 1) := by decide +kernel
theorem dX0_join_39 : decode cX0_join 39 = .ok (.iaload, 1) := by decide +kernel
theorem dX0_join_40 : decode cX0_join 40 = .ok (.if_icmp .lt 5, 3) := by decide +kernel
theorem dX0_join_43 : decode cX0_join 43 = .ok (.iconst 0, 1) := by decide +kernel
theorem dX0_join_44 : decode cX0_join 44 = .ok (.ireturn, 1) := by decide +kernel
theorem dX0_join_45 : decode cX0_join 45 = .ok (.aload_n 0, 1) := by decide +kernel
theorem dX0_join_46 : decode cX0_join 46 = .ok (.dup, 1) := by decide +kernel
theorem dX0_join_47 : decode cX0_join 47 = .ok (.getfield 28, 3) := by decide +kernel
theorem dX0_join_50 : decode cX0_join 50 = .ok (.iconst 1, 1) := by decide +kernel
theorem dX0_join_51 : decode cX0_join 51 = .ok (.iadd, 1) := by decide +kernel
theorem dX0_join_52 : decode cX0_join 52 = .ok (.putfield 28, 3) := by decide +kernel
theorem dX0_join_55 : decode cX0_join 55 = .ok (.aload_n 0, 1) := by decide +kernel
theorem dX0_join_56 : decode cX0_join 56 = .ok (.iload_n 1, 1) := by decide +kernel
theorem dX0_join_57 : decode cX0_join 57 = .ok (.iload_n 2, 1) := by decide +kernel
theorem dX0_join_58 : decode cX0_join 58 = .ok (.invokevirtual 75, 3) := by decide +kernel
theorem dX0_join_61 : decode cX0_join 61 = .ok (.aload_n 0, 1) := by decide +kernel
theorem dX0_join_62 : decode cX0_join 62 = .ok (.getfield 18, 3) := by decide +kernel
theorem dX0_join_65 : decode cX0_join 65 = .ok (.iload_n 2, 1) := by decide +kernel
theorem dX0_join_66 : decode cX0_join 66 = .ok (.iconst 1, 1) := by decide +kernel
theorem dX0_join_67 : decode cX0_join 67 = .ok (.aload_n 0, 1) := by decide +kernel
theorem dX0_join_68 : decode cX0_join 68 = .ok (.getfield 18, 3) := by decide +kernel
theorem dX0_join_71 : decode cX0_join 71 = .ok (.iload_n 2, 1) := by decide +kernel
theorem dX0_join_72 : decode cX0_join 72 = .ok (.iaload, 1) := by decide +kernel
theorem dX0_join_73 : decode cX0_join 73 = .ok (.isub, 1) := by decide +kernel
theorem dX0_join_74 : decode cX0_join 74 = .ok (.iastore, 1) := by decide +kernel
theorem dX0_join_75 : decode cX0_join 75 = .ok (.iconst 1, 1) := by decide +kernel
theorem dX0_join_76 : decode cX0_join 76 = .ok (.ireturn, 1) := by decide +kernel
theorem dX0_exchange_0 : decode cX0_exchange 0 = .ok (.aload_n 0, 1) := by decide +kernel
theorem dX0_exchange_1 : decode cX0_exchange 1 = .ok (.getfield 9, 3) := by decide +kernel
theorem dX0_exchange_4 : decode cX0_exchange 4 = .ok (.iload_n 1, 1) := by decide +kernel
theorem dX0_exchange_5 : decode cX0_exchange 5 = .ok (.iaload, 1) := by decide +kernel
theorem dX0_exchange_6 : decode cX0_exchange 6 = .ok (.istore_n 3, 1) := by decide +kernel
theorem dX0_exchange_7 : decode cX0_exchange 7 = .ok (.aload_n 0, 1) := by decide +kernel
theorem dX0_exchange_8 : decode cX0_exchange 8 = .ok (.getfield 15, 3) := by decide +kernel
theorem dX0_exchange_11 : decode cX0_exchange 11 = .ok (.iload_n 1, 1) := by decide +kernel
theorem dX0_exchange_12 : decode cX0_exchange 12 = .ok (.iaload, 1) := by decide +kernel
theorem dX0_exchange_13 : decode cX0_exchange 13 = .ok (.istore 4, 2) := by decide +kernel
theorem dX0_exchange_15 : decode cX0_exchange 15 = .ok (.aload_n 0, 1) := by decide +kernel
theorem dX0_exchange_16 : decode cX0_exchange 16 = .ok (.getfield 9, 3) := by decide +kernel
theorem dX0_exchange_19 : decode cX0_exchange 19 = .ok (.iload_n 1, 1) := by decide +kernel
theorem dX0_exchange_20 : decode cX0_exchange 20 = .ok (.aload_n 0, 1) := by decide +kernel
theorem dX0_exchange_21 : decode cX0_exchange 21 = .ok (.getfield 9, 3) := by decide +kernel
theorem dX0_exchange_24 : decode cX0_exchange 24 = .ok (.iload_n 2, 1) := by decide +kernel
theorem dX0_exchange_25 : decode cX0_exchange 25 = .ok (.iaload, 1) := by decide +kernel
theorem dX0_exchange_26 : decode cX0_exchange 26 = .ok (.iastore, 1) := by decide +kernel
theorem dX0_exchange_27 : decode cX0_exchange 27 = .ok (.aload_n 0, 1) := by decide +kernel
theorem dX0_exchange_28 : decode cX0_exchange 28 = .ok (.getfield 15, 3) := by decide +kernel
theorem dX0_exchange_31 : decode cX0_exchange 31 = .ok (.iload_n 1, 1) := by decide +kernel
theorem dX0_exchange_32 : decode cX0_exchange 32 = .ok (.aload_n 0, 1) := by decide +kernel
theorem dX0_exchange_33 : decode cX0_exchange 33 = .ok (.getfield 15, 3) := by decide +kernel
theorem dX0_exchange_36 : decode cX0_exchange 36 = .ok (.iload_n 2, 1) := by decide +kernel
theorem dX0_exchange_37 : decode cX0_exchange 37 = .ok (.iaload, 1) := by decide +kernel
theorem dX0_exchange_38 : decode cX0_exchange 38 = .ok (.iastore, 1) := by decide +kernel
theorem dX0_exchange_39 : decode cX0_exchange 39 = .ok (.aload_n 0, 1) := by decide +kernel
theorem dX0_exchange_40 : decode cX0_exchange 40 = .ok (.getfield 9, 3) := by decide +kernel
theorem dX0_exchange_43 : decode cX0_exchange 43 = .ok (.iload_n 2, 1) := by decide +kernel
theorem dX0_exchange_44 : decode cX0_exchange 44 = .ok (.iload_n 3, 1) := by decide +kernel
theorem dX0_exchange_45 : decode cX0_exchange 45 = .ok (.iastore, 1) := by decide +kernel
theorem dX0_exchange_46 : decode cX0_exchange 46 = .ok (.aload_n 0, 1) := by decide +kernel
theorem dX0_exchange_47 : decode cX0_exchange 47 = .ok (.getfield 15, 3) := by decide +kernel
theorem dX0_exchange_50 : decode cX0_exchange 50 = .ok (.iload_n 2, 1) := by decide +kernel
theorem dX0_exchange_51 : decode cX0_exchange 51 = .ok (.iload 4, 2) := by decide +kernel
theorem dX0_exchange_53 : decode cX0_exchange 53 = .ok (.iastore, 1) := by decide +kernel
theorem dX0_exchange_54 : decode cX0_exchange 54 = .ok (.return_, 1) := by decide +kernel
set_option maxRecDepth 20000 in
theorem ggX1_init_X0_init : GoodIn wsX1_init wsX0_init := goodIn_r _ [11, 12, 2, 3, 13, 14, 15, 16, 17, 18, 19, 20, 21, 22, 23, 24, 25] (by decide +kernel) (by decide +kernel)
set_option maxRecDepth 20000 in
theorem gX1_init_X0_init_n9 : GoodIn wsX1_init (wsX0_init) := ggX1_init_X0_init
theorem dX1_init_0 : decode cX1_init 0 = .ok (.aload_n 0, 1) := by decide +kernel
theorem dX1_init_1 : decode cX1_init 1 = .ok (.invokespecial 1, 3) := by decide +kernel
theorem dX1_init_4 : decode cX1_init 4 = .ok (.aload_n 0, 1) := by decide +kernel
theorem dX1_init_5 : decode cX1_init 5 = .ok (.new 7, 3) := by decide +kernel
theorem dX1_init_8 : decode cX1_init 8 = .ok (.dup, 1) := by decide +kernel
theorem dX1_init_9 : decode cX1_init 9 = .ok (.invokespecial 9, 3) := by decide +kernel
theorem dX1_init_12 : decode cX1_init 12 = .ok (.putfield 10, 3) := by decide +kernel
theorem dX1_init_15 : decode cX1_init 15 = .ok (.aload_n 0, 1) := by decide +kernel
theorem dX1_init_16 : decode cX1_init 16 = .ok (.new 7, 3) := by decide +kernel
theorem dX1_init_19 : decode cX1_init 19 = .ok (.dup, 1) := by decide +kernel
theorem dX1_init_20 : decode cX1_init 20 = .ok (.invokespecial 9, 3) := by decide +kernel
theorem dX1_init_23 : decode cX1_init 23 = .ok (.putfield 16, 3) := by decide +kernel
theorem dX1_init_26 : decode cX1_init 26 = .ok (.aload_n 0, 1) := by decide +kernel
theorem dX1_init_27 : decode cX1_init 27 = .ok (.iconst 0, 1) := by decide +kernel
theorem dX1_init_28 : decode cX1_init 28 = .ok (.putfield 19, 3) := by decide +kernel
theorem dX1_init_31 : decode cX1_init 31 = .ok (.return_, 1) := by decide +kernel
set_option maxRecDepth 20000 in
theorem ggX1_come_X1_isUpToLoudest : GoodIn wsX1_come wsX1_isUpToLoudest := goodIn_r _ [10] (by decide +kernel) (by decide +kernel)
set_option maxRecDepth 20000 in
theorem gX1_come_X1_isUpToLoudest : GoodIn wsX1_come (va_wsS RX1 23 yX1_isUpToLoudest wsX1_isUpToLoudest) := goodIn_app (goodIn_of _ (by decide +kernel)) ggX1_come_X1_isUpToLoudest
set_option maxRecDepth 20000 in
theorem ggX1_come_X1_hasRoomFor : GoodIn wsX1_come wsX1_hasRoomFor := goodIn_r _ [14, 6, 5, 58, 59, 60, 61, 62, 63, 64, 65, 66] (by decide +kernel) (by decide +kernel)
set_option maxRecDepth 20000 in
theorem gX1_come_X1_hasRoomFor : GoodIn wsX1_come (wsV RX1 34 RX1 yX1_hasRoomFor wsX1_hasRoomFor) := goodIn_app (goodIn_of _ (by decide +kernel)) ggX1_come_X1_hasRoomFor
set_option maxRecDepth 20000 in
theorem ggX1_come_X0_insert : GoodIn wsX1_come wsX0_insert := goodIn_r _ [19, 20, 21, 22, 23, 24, 18, 25, 26, 27, 28, 29, 30, 31, 32, 33, 34, 35, 36, 37, 38, 39, 40, 41, 42, 43, 44, 45, 46, 47, 48, 49, 50, 51, 52, 53, 54, 55, 56, 57, 61, 62, 63, 64, 65, 66] (by decide +kernel) (by decide +kernel)
set_option maxRecDepth 20000 in
theorem gX1_come_X0_insert : GoodIn wsX1_come (wsV RX1 42 RX0 yX0_insert wsX0_insert) := goodIn_app (goodIn_of _ (by decide +kernel)) ggX1_come_X0_insert
theorem dX1_come_0 : decode cX1_come 0 = .ok (.iload_n 1, 1) := by decide +kernel
theorem dX1_come_1 : decode cX1_come 1 = .ok (.invokestatic 23, 3) := by decide +kernel
theorem dX1_come_4 : decode cX1_come 4 = .ok (.ifCond .ne 13, 3) := by decide +kernel
theorem dX1_come_7 : decode cX1_come 7 = .ok (.new 27, 3) := by decide +kernel
theorem dX1_come_10 : decode cX1_come 10 = .ok (.dup, 1) := by decide +kernel
theorem dX1_come_11 : decode cX1_come 11 = .ok (.ldc 29, 2) := by decide +kernel
theorem dX1_come_13 : decode cX1_come 13 = .ok (.invokespecial 31, 3) := by decide +kernel
theorem dX1_come_16 : decode cX1_come 16 = .ok (.athrow, 1) := by decide +kernel
theorem dX1_come_17 : decode cX1_come 17 = .ok (.aload_n 0, 1) := by decide +kernel
theorem dX1_come_18 : decode cX1_come 18 = .ok (.iconst 1, 1) := by decide +kernel
theorem dX1_come_19 : decode cX1_come 19 = .ok (.invokevirtual 34, 3) := by decide +kernel
theorem dX1_come_22 : decode cX1_come 22 = .ok (.ifCond .ne 13, 3) := by decide +kernel
theorem dX1_come_25 : decode cX1_come 25 = .ok (.new 37, 3) := by decide +kernel
theorem dX1_come_28 : decode cX1_come 28 = .ok (.dup, 1) := by decide +kernel
theorem dX1_come_29 : decode cX1_come 29 = .ok (.ldc 39, 2) := by decide +kernel
theorem dX1_come_31 : decode cX1_come 31 = .ok (.invokespecial 41, 3) := by decide +kernel
theorem dX1_come_34 : decode cX1_come 34 = .ok (.athrow, 1) := by decide +kernel
theorem dX1_come_35 : decode cX1_come 35 = .ok (.aload_n 0, 1) := by decide +kernel
theorem dX1_come_36 : decode cX1_come 36 = .ok (.getfield 19, 3) := by decide +kernel
theorem dX1_come_39 : decode cX1_come 39 = .ok (.istore_n 2, 1) := by decide +kernel
theorem dX1_come_40 : decode cX1_come 40 = .ok (.aload_n 0, 1) := by decide +kernel
theorem dX1_come_41 : decode cX1_come 41 = .ok (.dup, 1) := by decide +kernel
theorem dX1_come_42 : decode cX1_come 42 = .ok (.getfield 19, 3) := by decide +kernel
theorem dX1_come_45 : decode cX1_come 45 = .ok (.iconst 1, 1) := by decide +kernel
theorem dX1_come_46 : decode cX1_come 46 = .ok (.iadd, 1) := by decide +kernel
theorem dX1_come_47 : decode cX1_come 47 = .ok (.putfield 19, 3) := by decide +kernel
theorem dX1_come_50 : decode cX1_come 50 = .ok (.aload_n 0, 1) := by decide +kernel
theorem dX1_come_51 : decode cX1_come 51 = .ok (.getfield 10, 3) := by decide +kernel
theorem dX1_come_54 : decode cX1_come 54 = .ok (.iload_n 2, 1) := by decide +kernel
theorem dX1_come_55 : decode cX1_come 55 = .ok (.iload_n 1, 1) := by decide +kernel
theorem dX1_come_56 : decode cX1_come 56 = .ok (.invokevirtual 42, 3) := by decide +kernel
theorem dX1_come_59 : decode cX1_come 59 = .ok (.iload_n 2, 1) := by decide +kernel
theorem dX1_come_60 : decode cX1_come 60 = .ok (.ireturn, 1) := by decide +kernel
set_option maxRecDepth 20000 in
theorem ggX1_coach_X1_isUpToLoudest : GoodIn wsX1_coach wsX1_isUpToLoudest := goodIn_r _ [10] (by decide +kernel) (by decide +kernel)
set_option maxRecDepth 20000 in
theorem gX1_coach_X1_isUpToLoudest : GoodIn wsX1_coach (va_wsS RX1 23 yX1_isUpToLoudest wsX1_isUpToLoudest) := goodIn_app (goodIn_of _ (by decide +kernel)) ggX1_coach_X1_isUpToLoudest
set_option maxRecDepth 20000 in
theorem ggX1_coach_X1_hasRoomFor : GoodIn wsX1_coach wsX1_hasRoomFor := goodIn_r _ [14, 5, 6, 54, 55, 56, 57, 58, 59, 60, 61, 62] (by decide +kernel) (by decide +kernel)
set_option maxRecDepth 20000 in
theorem gX1_coach_X1_hasRoomFor : GoodIn wsX1_coach (wsV RX1 34 RX1 yX1_hasRoomFor wsX1_hasRoomFor) := goodIn_app (goodIn_of _ (by decide +kernel)) ggX1_coach_X1_hasRoomFor
set_option maxRecDepth 20000 in
theorem ggX1_coach_X0_lay : GoodIn wsX1_coach wsX0_lay := goodIn_r _ [19, 20, 21, 22, 23, 57, 58, 59, 60, 61, 62] (by decide +kernel) (by decide +kernel)
set_option maxRecDepth 20000 in
theorem gX1_coach_X0_lay : GoodIn wsX1_coach (wsV RX1 55 RX0 yX0_lay wsX0_lay) := goodIn_app (goodIn_of _ (by decide +kernel)) ggX1_coach_X0_lay
set_option maxRecDepth 20000 in
theorem ggX1_coach_X0_joinAll : GoodIn wsX1_coach wsX0_joinAll := goodIn_r _ [27, 23, 20, 28, 29, 30, 18, 31, 32, 33, 34, 35, 36, 37, 38, 39, 40, 41, 42, 43, 44, 45, 46, 47, 48, 22, 49, 50, 51, 52, 53, 21, 57, 58, 59, 60, 61, 62] (by decide +kernel) (by decide +kernel)
set_option maxRecDepth 20000 in
theorem gX1_coach_X0_joinAll : GoodIn wsX1_coach (wsV RX1 58 RX0 yX0_joinAll wsX0_joinAll) := goodIn_app (goodIn_of _ (by decide +kernel)) ggX1_coach_X0_joinAll
theorem dX1_coach_0 : decode cX1_coach 0 = .ok (.iload_n 1, 1) := by decide +kernel
theorem dX1_coach_1 : decode cX1_coach 1 = .ok (.iconst 1, 1) := by decide +kernel
theorem dX1_coach_2 : decode cX1_coach 2 = .ok (.if_icmp .lt 9, 3) := by decide +kernel
theorem dX1_coach_5 : decode cX1_coach 5 = .ok (.iload_n 1, 1) := by decide +kernel
theorem dX1_coach_6 : decode cX1_coach 6 = .ok (.bipush 20, 2) := by decide +kernel
theorem dX1_coach_8 : decode cX1_coach 8 = .ok (.if_icmp .le 13, 3) := by decide +kernel
theorem dX1_coach_11 : decode cX1_coach 11 = .ok (.new 27, 3) := by decide +kernel
theorem dX1_coach_14 : decode cX1_coach 14 = .ok (.dup, 1) := by decide +kernel
theorem dX1_coach_15 : decode cX1_coach 15 = .ok (.ldc 46, 2) := by decide +kernel
theorem dX1_coach_17 : decode cX1_coach 17 = .ok (.invokespecial 31, 3) := by decide +kernel
theorem dX1_coach_20 : decode cX1_coach 20 = .ok (.athrow, 1) := by decide +kernel
theorem dX1_coach_21 : decode cX1_coach 21 = .ok (.iload_n 2, 1) := by decide +kernel
theorem dX1_coach_22 : decode cX1_coach 22 = .ok (.invokestatic 23, 3) := by decide +kernel
theorem dX1_coach_25 : decode cX1_coach 25 = .ok (.ifCond .eq 10, 3) := by decide +kernel
theorem dX1_coach_28 : decode cX1_coach 28 = .ok (.iload_n 3, 1) := by decide +kernel
theorem dX1_coach_29 : decode cX1_coach 29 = .ok (.invokestatic 23, 3) := by decide +kernel
theorem dX1_coach_32 : decode cX1_coach 32 = .ok (.ifCond .ne 13, 3) := by decide +kernel
theorem dX1_coach_35 : decode cX1_coach 35 = .ok (.new 27, 3) := by decide +kernel
theorem dX1_coach_38 : decode cX1_coach 38 = .ok (.dup, 1) := by decide +kernel
theorem dX1_coach_39 : decode cX1_coach 39 = .ok (.ldc 48, 2) := by decide +kernel
theorem dX1_coach_41 : decode cX1_coach 41 = .ok (.invokespecial 31, 3) := by decide +kernel
theorem dX1_coach_44 : decode cX1_coach 44 = .ok (.athrow, 1) := by decide +kernel
theorem dX1_coach_45 : decode cX1_coach 45 = .ok (.aload_n 0, 1) := by decide +kernel
theorem dX1_coach_46 : decode cX1_coach 46 = .ok (.iload_n 1, 1) := by decide +kernel
theorem dX1_coach_47 : decode cX1_coach 47 = .ok (.invokevirtual 34, 3) := by decide +kernel
theorem dX1_coach_50 : decode cX1_coach 50 = .ok (.ifCond .ne 13, 3) := by decide +kernel
theorem dX1_coach_53 : decode cX1_coach 53 = .ok (.new 37, 3) := by decide +kernel
theorem dX1_coach_56 : decode cX1_coach 56 = .ok (.dup, 1) := by decide +kernel
theorem dX1_coach_57 : decode cX1_coach 57 = .ok (.ldc 50, 2) := by decide +kernel
theorem dX1_coach_59 : decode cX1_coach 59 = .ok (.invokespecial 41, 3) := by decide +kernel
theorem dX1_coach_62 : decode cX1_coach 62 = .ok (.athrow, 1) := by decide +kernel
theorem dX1_coach_63 : decode cX1_coach 63 = .ok (.aload_n 0, 1) := by decide +kernel
theorem dX1_coach_64 : decode cX1_coach 64 = .ok (.getfield 10, 3) := by decide +kernel
theorem dX1_coach_67 : decode cX1_coach 67 = .ok (.getfield 52, 3) := by decide +kernel
theorem dX1_coach_70 : decode cX1_coach 70 = .ok (.istore 4, 2) := by decide +kernel
theorem dX1_coach_72 : decode cX1_coach 72 = .ok (.iconst 0, 1) := by decide +kernel
theorem dX1_coach_73 : decode cX1_coach 73 = .ok (.istore 5, 2) := by decide +kernel
theorem dX1_coach_75 : decode cX1_coach 75 = .ok (.iload 5, 2) := by decide +kernel
theorem dX1_coach_77 : decode cX1_coach 77 = .ok (.iload_n 1, 1) := by decide +kernel
theorem dX1_coach_78 : decode cX1_coach 78 = .ok (.if_icmp .ge 40, 3) := by decide +kernel
theorem dX1_coach_81 : decode cX1_coach 81 = .ok (.aload_n 0, 1) := by decide +kernel
theorem dX1_coach_82 : decode cX1_coach 82 = .ok (.getfield 10, 3) := by decide +kernel
theorem dX1_coach_85 : decode cX1_coach 85 = .ok (.aload_n 0, 1) := by decide +kernel
theorem dX1_coach_86 : decode cX1_coach 86 = .ok (.getfield 19, 3) := by decide +kernel
theorem dX1_coach_89 : decode cX1_coach 89 = .ok (.iload_n 2, 1) := by decide +kernel
theorem dX1_coach_90 : decode cX1_coach 90 = .ok (.iload 5, 2) := by decide +kernel
theorem dX1_coach_92 : decode cX1_coach 92 = .ok (.iload_n 3, 1) := by decide +kernel
theorem dX1_coach_93 : decode cX1_coach 93 = .ok (.imul, 1) := by decide +kernel
theorem dX1_coach_94 : decode cX1_coach 94 = .ok (.iadd, 1) := by decide +kernel
theorem dX1_coach_95 : decode cX1_coach 95 = .ok (.sipush 1000, 3) := by decide +kernel
theorem dX1_coach_98 : decode cX1_coach 98 = .ok (.irem, 1) := by decide +kernel
theorem dX1_coach_99 : decode cX1_coach 99 = .ok (.invokevirtual 55, 3) := by decide +kernel
theorem dX1_coach_102 : decode cX1_coach 102 = .ok (.aload_n 0, 1) := by decide +kernel
theorem dX1_coach_103 : decode cX1_coach 103 = .ok (.dup, 1) := by decide +kernel
theorem dX1_coach_104 : decode cX1_coach 104 = .ok (.getfield 19, 3) := by decide +kernel
theorem dX1_coach_107 : decode cX1_coach 107 = .ok (.iconst 1, 1) := by decide +kernel
theorem dX1_coach_108 : decode cX1_coach 108 = .ok (.iadd, 1) := by decide +kernel
theorem dX1_coach_109 : decode cX1_coach 109 = .ok (.putfield 19, 3) := by decide +kernel
theorem dX1_coach_112 : decode cX1_coach 112 = .ok (.iinc 5 1, 3) := by decide +kernel
theorem dX1_coach_115 : decode cX1_coach 115 = .ok (.goto (-40), 3) := by decide +kernel
theorem dX1_coach_118 : decode cX1_coach 118 = .ok (.aload_n 0, 1) := by decide +kernel
theorem dX1_coach_119 : decode cX1_coach 119 = .ok (.getfield 10, 3) := by decide +kernel
theorem dX1_coach_122 : decode cX1_coach 122 = .ok (.invokevirtual 58, 3) := by decide +kernel
theorem dX1_coach_125 : decode cX1_coach 125 = .ok (.aload_n 0, 1) := by decide +kernel
theorem dX1_coach_126 : decode cX1_coach 126 = .ok (.getfield 10, 3) := by decide +kernel
theorem dX1_coach_129 : decode cX1_coach 129 = .ok (.getfield 52, 3) := by decide +kernel
theorem dX1_coach_132 : decode cX1_coach 132 = .ok (.iload 4, 2) := by decide +kernel
theorem dX1_coach_134 : decode cX1_coach 134 = .ok (.isub, 1) := by decide +kernel
theorem dX1_coach_135 : decode cX1_coach 135 = .ok (.ireturn, 1) := by decide +kernel
set_option maxRecDepth 20000 in
theorem ggX1_leave_X0_removeTop : GoodIn wsX1_leave wsX0_removeTop := goodIn_r _ [8, 9, 10, 11, 12, 13, 14, 7, 15, 16, 17, 18, 19, 20, 21, 22, 23, 24, 25, 26, 27, 28, 29, 30, 31, 32, 33, 34, 35, 36, 37, 38, 42, 43, 44, 45, 46, 47] (by decide +kernel) (by decide +kernel)
set_option maxRecDepth 20000 in
theorem gX1_leave_X0_removeTop : GoodIn wsX1_leave (wsV RX1 66 RX0 yX0_removeTop wsX0_removeTop) := goodIn_app (goodIn_of _ (by decide +kernel)) ggX1_leave_X0_removeTop
theorem dX1_leave_0 : decode cX1_leave 0 = .ok (.aload_n 0, 1) := by decide +kernel
theorem dX1_leave_1 : decode cX1_leave 1 = .ok (.getfield 10, 3) := by decide +kernel
theorem dX1_leave_4 : decode cX1_leave 4 = .ok (.getfield 61, 3) := by decide +kernel
theorem dX1_leave_7 : decode cX1_leave 7 = .ok (.ifCond .ne 13, 3) := by decide +kernel
theorem dX1_leave_10 : decode cX1_leave 10 = .ok (.new 37, 3) := by decide +kernel
theorem dX1_leave_13 : decode cX1_leave 13 = .ok (.dup, 1) := by decide +kernel
theorem dX1_leave_14 : decode cX1_leave 14 = .ok (.ldc 64, 2) := by decide +kernel
theorem dX1_leave_16 : decode cX1_leave 16 = .ok (.invokespecial 41, 3) := by decide +kernel
theorem dX1_leave_19 : decode cX1_leave 19 = .ok (.athrow, 1) := by decide +kernel
theorem dX1_leave_20 : decode cX1_leave 20 = .ok (.aload_n 0, 1) := by decide +kernel
theorem dX1_leave_21 : decode cX1_leave 21 = .ok (.getfield 10, 3) := by decide +kernel
theorem dX1_leave_24 : decode cX1_leave 24 = .ok (.invokevirtual 66, 3) := by decide +kernel
theorem dX1_leave_27 : decode cX1_leave 27 = .ok (.ireturn, 1) := by decide +kernel
set_option maxRecDepth 20000 in
theorem ggX1_hush_X0_find : GoodIn wsX1_hush wsX0_find := goodIn_r _ [10, 11, 12, 13, 14, 9, 15, 16, 17, 18, 19, 20, 60, 61, 62, 63, 64, 65] (by decide +kernel) (by decide +kernel)
set_option maxRecDepth 20000 in
theorem gX1_hush_X0_find : GoodIn wsX1_hush (wsV RX1 70 RX0 yX0_find wsX0_find) := goodIn_app (goodIn_of _ (by decide +kernel)) ggX1_hush_X0_find
set_option maxRecDepth 20000 in
theorem ggX1_hush_X0_loudnessAt : GoodIn wsX1_hush wsX0_loudnessAt := goodIn_r _ [24, 25, 17, 18, 19, 9, 20, 11, 60, 61, 62, 63, 64, 65] (by decide +kernel) (by decide +kernel)
set_option maxRecDepth 20000 in
theorem gX1_hush_X0_loudnessAt : GoodIn wsX1_hush (wsV RX1 79 RX0 yX0_loudnessAt wsX0_loudnessAt) := goodIn_app (goodIn_of _ (by decide +kernel)) ggX1_hush_X0_loudnessAt
set_option maxRecDepth 20000 in
theorem ggX1_hush_X0_quieten : GoodIn wsX1_hush wsX0_quieten := goodIn_r _ [29, 25, 17, 18, 19, 9, 20, 11, 30, 31, 32, 33, 34, 35, 36, 37, 38, 39, 40, 41, 42, 43, 44, 45, 46, 47, 48, 49, 50, 51, 52, 53, 54, 55, 56, 16, 60, 61, 62, 63, 64, 65] (by decide +kernel) (by decide +kernel)
set_option maxRecDepth 20000 in
theorem gX1_hush_X0_quieten : GoodIn wsX1_hush (wsV RX1 84 RX0 yX0_quieten wsX0_quieten) := goodIn_app (goodIn_of _ (by decide +kernel)) ggX1_hush_X0_quieten
theorem dX1_hush_0 : decode cX1_hush 0 = .ok (.aload_n 0, 1) := by decide +kernel
theorem dX1_hush_1 : decode cX1_hush 1 = .ok (.getfield 10, 3) := by decide +kernel
theorem dX1_hush_4 : decode cX1_hush 4 = .ok (.iload_n 1, 1) := by decide +kernel
theorem dX1_hush_5 : decode cX1_hush 5 = .ok (.invokevirtual 70, 3) := by decide +kernel
theorem dX1_hush_8 : decode cX1_hush 8 = .ok (.istore_n 3, 1) := by decide +kernel
theorem dX1_hush_9 : decode cX1_hush 9 = .ok (.iload_n 3, 1) := by decide +kernel
theorem dX1_hush_10 : decode cX1_hush 10 = .ok (.iconst (-1), 1) := by decide +kernel
theorem dX1_hush_11 : decode cX1_hush 11 = .ok (.if_icmp .ne 13, 3) := by decide +kernel
theorem dX1_hush_14 : decode cX1_hush 14 = .ok (.new 74, 3) := by decide +kernel
theorem dX1_hush_17 : decode cX1_hush 17 = .ok (.dup, 1) := by decide +kernel
theorem dX1_hush_18 : decode cX1_hush 18 = .ok (.ldc 76, 2) := by decide +kernel
theorem dX1_hush_20 : decode cX1_hush 20 = .ok (.invokespecial 78, 3) := by decide +kernel
theorem dX1_hush_23 : decode cX1_hush 23 = .ok (.athrow, 1) := by decide +kernel
theorem dX1_hush_24 : decode cX1_hush 24 = .ok (.iload_n 2, 1) := by decide +kernel
theorem dX1_hush_25 : decode cX1_hush 25 = .ok (.ifCond .lt 15, 3) := by decide +kernel
theorem dX1_hush_28 : decode cX1_hush 28 = .ok (.iload_n 2, 1) := by decide +kernel
theorem dX1_hush_29 : decode cX1_hush 29 = .ok (.aload_n 0, 1) := by decide +kernel
theorem dX1_hush_30 : decode cX1_hush 30 = .ok (.getfield 10, 3) := by decide +kernel
theorem dX1_hush_33 : decode cX1_hush 33 = .ok (.iload_n 3, 1) := by decide +kernel
theorem dX1_hush_34 : decode cX1_hush 34 = .ok (.invokevirtual 79, 3) := by decide +kernel
theorem dX1_hush_37 : decode cX1_hush 37 = .ok (.if_icmp .le 13, 3) := by decide +kernel
theorem dX1_hush_40 : decode cX1_hush 40 = .ok (.new 27, 3) := by decide +kernel
theorem dX1_hush_43 : decode cX1_hush 43 = .ok (.dup, 1) := by decide +kernel
theorem dX1_hush_44 : decode cX1_hush 44 = .ok (.ldc 82, 2) := by decide +kernel
theorem dX1_hush_46 : decode cX1_hush 46 = .ok (.invokespecial 31, 3) := by decide +kernel
theorem dX1_hush_49 : decode cX1_hush 49 = .ok (.athrow, 1) := by decide +kernel
theorem dX1_hush_50 : decode cX1_hush 50 = .ok (.aload_n 0, 1) := by decide +kernel
theorem dX1_hush_51 : decode cX1_hush 51 = .ok (.getfield 10, 3) := by decide +kernel
theorem dX1_hush_54 : decode cX1_hush 54 = .ok (.iload_n 3, 1) := by decide +kernel
theorem dX1_hush_55 : decode cX1_hush 55 = .ok (.iload_n 2, 1) := by decide +kernel
theorem dX1_hush_56 : decode cX1_hush 56 = .ok (.invokevirtual 84, 3) := by decide +kernel
theorem dX1_hush_59 : decode cX1_hush 59 = .ok (.ireturn, 1) := by decide +kernel
set_option maxRecDepth 20000 in
theorem ggX1_fetch_X0_find : GoodIn wsX1_fetch wsX0_find := goodIn_r _ [8, 9, 10, 11, 12, 7, 13, 14, 15, 16, 17, 18, 62, 63, 64, 65, 66, 67] (by decide +kernel) (by decide +kernel)
set_option maxRecDepth 20000 in
theorem gX1_fetch_X0_find : GoodIn wsX1_fetch (wsV RX1 70 RX0 yX0_find wsX0_find) := goodIn_app (goodIn_of _ (by decide +kernel)) ggX1_fetch_X0_find
set_option maxRecDepth 20000 in
theorem ggX1_fetch_X0_quieten : GoodIn wsX1_fetch wsX0_quieten := goodIn_r _ [22, 23, 15, 16, 17, 7, 18, 9, 24, 25, 26, 27, 28, 29, 30, 31, 32, 33, 34, 35, 36, 37, 38, 39, 40, 41, 42, 43, 44, 45, 46, 47, 48, 49, 50, 14, 62, 63, 64, 65, 66, 67] (by decide +kernel) (by decide +kernel)
set_option maxRecDepth 20000 in
theorem gX1_fetch_X0_quieten : GoodIn wsX1_fetch (wsV RX1 84 RX0 yX0_quieten wsX0_quieten) := goodIn_app (goodIn_of _ (by decide +kernel)) ggX1_fetch_X0_quieten
set_option maxRecDepth 20000 in
theorem ggX1_fetch_X0_removeTop : GoodIn wsX1_fetch wsX0_removeTop := goodIn_r _ [54, 14, 9, 23, 15, 16, 17, 7, 18, 55, 56, 57, 58, 32, 33, 34, 35, 36, 37, 38, 39, 40, 41, 42, 43, 44, 45, 46, 47, 48, 49, 50, 62, 63, 64, 65, 66, 67] (by decide +kernel) (by decide +kernel)
set_option maxRecDepth 20000 in
theorem gX1_fetch_X0_removeTop : GoodIn wsX1_fetch (wsV RX1 66 RX0 yX0_removeTop wsX0_removeTop) := goodIn_app (goodIn_of _ (by decide +kernel)) ggX1_fetch_X0_removeTop
theorem dX1_fetch_0 : decode cX1_fetch 0 = .ok (.aload_n 0, 1) := by decide +kernel
theorem dX1_fetch_1 : decode cX1_fetch 1 = .ok (.getfield 10, 3) := by decide +kernel
theorem dX1_fetch_4 : decode cX1_fetch 4 = .ok (.iload_n 1, 1) := by decide +kernel
theorem dX1_fetch_5 : decode cX1_fetch 5 = .ok (.invokevirtual 70, 3) := by decide +kernel
theorem dX1_fetch_8 : decode cX1_fetch 8 = .ok (.istore_n 2, 1) := by decide +kernel
theorem dX1_fetch_9 : decode cX1_fetch 9 = .ok (.iload_n 2, 1) := by decide +kernel
theorem dX1_fetch_10 : decode cX1_fetch 10 = .ok (.iconst (-1), 1) := by decide +kernel
theorem dX1_fetch_11 : decode cX1_fetch 11 = .ok (.if_icmp .ne 13, 3) := by decide +kernel
theorem dX1_fetch_14 : decode cX1_fetch 14 = .ok (.new 74, 3) := by decide +kernel
theorem dX1_fetch_17 : decode cX1_fetch 17 = .ok (.dup, 1) := by decide +kernel
theorem dX1_fetch_18 : decode cX1_fetch 18 = .ok (.ldc 76, 2) := by decide +kernel
theorem dX1_fetch_20 : decode cX1_fetch 20 = .ok (.invokespecial 78, 3) := by decide +kernel
theorem dX1_fetch_23 : decode cX1_fetch 23 = .ok (.athrow, 1) := by decide +kernel
theorem dX1_fetch_24 : decode cX1_fetch 24 = .ok (.aload_n 0, 1) := by decide +kernel
theorem dX1_fetch_25 : decode cX1_fetch 25 = .ok (.getfield 10, 3) := by decide +kernel
theorem dX1_fetch_28 : decode cX1_fetch 28 = .ok (.getfield 52, 3) := by decide +kernel
theorem dX1_fetch_31 : decode cX1_fetch 31 = .ok (.istore_n 3, 1) := by decide +kernel
theorem dX1_fetch_32 : decode cX1_fetch 32 = .ok (.aload_n 0, 1) := by decide +kernel
theorem dX1_fetch_33 : decode cX1_fetch 33 = .ok (.getfield 10, 3) := by decide +kernel
theorem dX1_fetch_36 : decode cX1_fetch 36 = .ok (.iload_n 2, 1) := by decide +kernel
theorem dX1_fetch_37 : decode cX1_fetch 37 = .ok (.iconst (-1), 1) := by decide +kernel
theorem dX1_fetch_38 : decode cX1_fetch 38 = .ok (.invokevirtual 84, 3) := by decide +kernel
theorem dX1_fetch_41 : decode cX1_fetch 41 = .ok (.pop, 1) := by decide +kernel
theorem dX1_fetch_42 : decode cX1_fetch 42 = .ok (.aload_n 0, 1) := by decide +kernel
theorem dX1_fetch_43 : decode cX1_fetch 43 = .ok (.getfield 10, 3) := by decide +kernel
theorem dX1_fetch_46 : decode cX1_fetch 46 = .ok (.invokevirtual 66, 3) := by decide +kernel
theorem dX1_fetch_49 : decode cX1_fetch 49 = .ok (.pop, 1) := by decide +kernel
theorem dX1_fetch_50 : decode cX1_fetch 50 = .ok (.aload_n 0, 1) := by decide +kernel
theorem dX1_fetch_51 : decode cX1_fetch 51 = .ok (.getfield 10, 3) := by decide +kernel
theorem dX1_fetch_54 : decode cX1_fetch 54 = .ok (.getfield 52, 3) := by decide +kernel
theorem dX1_fetch_57 : decode cX1_fetch 57 = .ok (.iload_n 3, 1) := by decide +kernel
theorem dX1_fetch_58 : decode cX1_fetch 58 = .ok (.isub, 1) := by decide +kernel
theorem dX1_fetch_59 : decode cX1_fetch 59 = .ok (.ireturn, 1) := by decide +kernel
theorem dX1_dukes_0 : decode cX1_dukes 0 = .ok (.aload_n 0, 1) := by decide +kernel
theorem dX1_dukes_1 : decode cX1_dukes 1 = .ok (.getfield 10, 3) := by decide +kernel
theorem dX1_dukes_4 : decode cX1_dukes 4 = .ok (.getfield 61, 3) := by decide +kernel
theorem dX1_dukes_7 : decode cX1_dukes 7 = .ok (.ireturn, 1) := by decide +kernel
set_option maxRecDepth 20000 in
theorem ggX1_quietest_X0_dukeAt : GoodIn wsX1_quietest wsX0_dukeAt := goodIn_r _ [6, 7, 8, 9, 10, 5, 11, 12, 16, 17, 18, 19, 20, 21] (by decide +kernel) (by decide +kernel)
set_option maxRecDepth 20000 in
theorem gX1_quietest_X0_dukeAt : GoodIn wsX1_quietest (wsV RX1 88 RX0 yX0_dukeAt wsX0_dukeAt) := goodIn_app (goodIn_of _ (by decide +kernel)) ggX1_quietest_X0_dukeAt
theorem dX1_quietest_0 : decode cX1_quietest 0 = .ok (.aload_n 0, 1) := by decide +kernel
theorem dX1_quietest_1 : decode cX1_quietest 1 = .ok (.getfield 10, 3) := by decide +kernel
theorem dX1_quietest_4 : decode cX1_quietest 4 = .ok (.iconst 0, 1) := by decide +kernel
theorem dX1_quietest_5 : decode cX1_quietest 5 = .ok (.invokevirtual 88, 3) := by decide +kernel
theorem dX1_quietest_8 : decode cX1_quietest 8 = .ok (.ireturn, 1) := by decide +kernel
set_option maxRecDepth 20000 in
theorem ggX1_berthOf_X0_find : GoodIn wsX1_berthOf wsX0_find := goodIn_r _ [6, 7, 8, 9, 10, 5, 11, 12, 13, 14, 15, 16, 20, 21, 22, 23, 24, 25] (by decide +kernel) (by decide +kernel)
set_option maxRecDepth 20000 in
theorem gX1_berthOf_X0_find : GoodIn wsX1_berthOf (wsV RX1 70 RX0 yX0_find wsX0_find) := goodIn_app (goodIn_of _ (by decide +kernel)) ggX1_berthOf_X0_find
theorem dX1_berthOf_0 : decode cX1_berthOf 0 = .ok (.aload_n 0, 1) := by decide +kernel
theorem dX1_berthOf_1 : decode cX1_berthOf 1 = .ok (.getfield 10, 3) := by decide +kernel
theorem dX1_berthOf_4 : decode cX1_berthOf 4 = .ok (.iload_n 1, 1) := by decide +kernel
theorem dX1_berthOf_5 : decode cX1_berthOf 5 = .ok (.invokevirtual 70, 3) := by decide +kernel
theorem dX1_berthOf_8 : decode cX1_berthOf 8 = .ok (.ireturn, 1) := by decide +kernel
set_option maxRecDepth 20000 in
theorem ggX1_dukeIn_X1_refuseUnlessBerth : GoodIn wsX1_dukeIn wsX1_refuseUnlessBerth := goodIn_ca (goodIn_r _ [6, 7, 8, 1, 9, 10, 11, 12, 13, 14, 21, 22, 23, 24, 25, 26, 27, 28, 29] (by decide +kernel) (by decide +kernel)) (goodIn_sub (fun _ h => List.mem_cons_of_mem _ (List.mem_append_right _ h)) (by decide +kernel))
set_option maxRecDepth 20000 in
theorem gX1_dukeIn_X1_refuseUnlessBerth : GoodIn wsX1_dukeIn (wsV RX1 91 RX1 yX1_refuseUnlessBerth wsX1_refuseUnlessBerth) := goodIn_app (goodIn_of _ (by decide +kernel)) ggX1_dukeIn_X1_refuseUnlessBerth
set_option maxRecDepth 20000 in
theorem ggX1_dukeIn_X0_dukeAt : GoodIn wsX1_dukeIn wsX0_dukeAt := goodIn_r _ [18, 19, 20, 10, 11, 12, 13, 14, 24, 25, 26, 27, 28, 29] (by decide +kernel) (by decide +kernel)
set_option maxRecDepth 20000 in
theorem gX1_dukeIn_X0_dukeAt : GoodIn wsX1_dukeIn (wsV RX1 88 RX0 yX0_dukeAt wsX0_dukeAt) := goodIn_app (goodIn_of _ (by decide +kernel)) ggX1_dukeIn_X0_dukeAt
theorem dX1_dukeIn_0 : decode cX1_dukeIn 0 = .ok (.aload_n 0, 1) := by decide +kernel
theorem dX1_dukeIn_1 : decode cX1_dukeIn 1 = .ok (.iload_n 1, 1) := by decide +kernel
theorem dX1_dukeIn_2 : decode cX1_dukeIn 2 = .ok (.invokevirtual 91, 3) := by decide +kernel
theorem dX1_dukeIn_5 : decode cX1_dukeIn 5 = .ok (.aload_n 0, 1) := by decide +kernel
theorem dX1_dukeIn_6 : decode cX1_dukeIn 6 = .ok (.getfield 10, 3) := by decide +kernel
theorem dX1_dukeIn_9 : decode cX1_dukeIn 9 = .ok (.iload_n 1, 1) := by decide +kernel
theorem dX1_dukeIn_10 : decode cX1_dukeIn 10 = .ok (.invokevirtual 88, 3) := by decide +kernel
theorem dX1_dukeIn_13 : decode cX1_dukeIn 13 = .ok (.ireturn, 1) := by decide +kernel
set_option maxRecDepth 20000 in
theorem ggX1_loudnessIn_X1_refuseUnlessBerth : GoodIn wsX1_loudnessIn wsX1_refuseUnlessBerth := goodIn_ca (goodIn_r _ [6, 7, 8, 1, 9, 10, 11, 12, 13, 14, 21, 22, 23, 24, 25, 26, 27, 28, 29] (by decide +kernel) (by decide +kernel)) (goodIn_sub (fun _ h => List.mem_cons_of_mem _ (List.mem_append_right _ h)) (by decide +kernel))
set_option maxRecDepth 20000 in
theorem gX1_loudnessIn_X1_refuseUnlessBerth : GoodIn wsX1_loudnessIn (wsV RX1 91 RX1 yX1_refuseUnlessBerth wsX1_refuseUnlessBerth) := goodIn_app (goodIn_of _ (by decide +kernel)) ggX1_loudnessIn_X1_refuseUnlessBerth
set_option maxRecDepth 20000 in
theorem ggX1_loudnessIn_X0_loudnessAt : GoodIn wsX1_loudnessIn wsX0_loudnessAt := goodIn_r _ [18, 19, 20, 10, 11, 12, 13, 14, 24, 25, 26, 27, 28, 29] (by decide +kernel) (by decide +kernel)
set_option maxRecDepth 20000 in
theorem gX1_loudnessIn_X0_loudnessAt : GoodIn wsX1_loudnessIn (wsV RX1 79 RX0 yX0_loudnessAt wsX0_loudnessAt) := goodIn_app (goodIn_of _ (by decide +kernel)) ggX1_loudnessIn_X0_loudnessAt
theorem dX1_loudnessIn_0 : decode cX1_loudnessIn 0 = .ok (.aload_n 0, 1) := by decide +kernel
theorem dX1_loudnessIn_1 : decode cX1_loudnessIn 1 = .ok (.iload_n 1, 1) := by decide +kernel
theorem dX1_loudnessIn_2 : decode cX1_loudnessIn 2 = .ok (.invokevirtual 91, 3) := by decide +kernel
theorem dX1_loudnessIn_5 : decode cX1_loudnessIn 5 = .ok (.aload_n 0, 1) := by decide +kernel
theorem dX1_loudnessIn_6 : decode cX1_loudnessIn 6 = .ok (.getfield 10, 3) := by decide +kernel
theorem dX1_loudnessIn_9 : decode cX1_loudnessIn 9 = .ok (.iload_n 1, 1) := by decide +kernel
theorem dX1_loudnessIn_10 : decode cX1_loudnessIn 10 = .ok (.invokevirtual 79, 3) := by decide +kernel
theorem dX1_loudnessIn_13 : decode cX1_loudnessIn 13 = .ok (.ireturn, 1) := by decide +kernel
set_option maxRecDepth 20000 in
theorem ggX1_sideOf_X1_refuseUnlessBerth : GoodIn wsX1_sideOf wsX1_refuseUnlessBerth := goodIn_ca (goodIn_r _ [6, 7, 8, 1, 9, 10, 11, 12, 13, 14, 21, 22, 23, 24, 25, 26, 27, 28, 29] (by decide +kernel) (by decide +kernel)) (goodIn_sub (fun _ h => List.mem_cons_of_mem _ (List.mem_append_right _ h)) (by decide +kernel))
set_option maxRecDepth 20000 in
theorem gX1_sideOf_X1_refuseUnlessBerth : GoodIn wsX1_sideOf (wsV RX1 91 RX1 yX1_refuseUnlessBerth wsX1_refuseUnlessBerth) := goodIn_app (goodIn_of _ (by decide +kernel)) ggX1_sideOf_X1_refuseUnlessBerth
set_option maxRecDepth 20000 in
theorem ggX1_sideOf_X0_sideAt : GoodIn wsX1_sideOf wsX0_sideAt := goodIn_r _ [18, 19, 20, 10, 11, 12, 13, 14, 24, 25, 26, 27, 28, 29] (by decide +kernel) (by decide +kernel)
set_option maxRecDepth 20000 in
theorem gX1_sideOf_X0_sideAt : GoodIn wsX1_sideOf (wsV RX1 95 RX0 yX0_sideAt wsX0_sideAt) := goodIn_app (goodIn_of _ (by decide +kernel)) ggX1_sideOf_X0_sideAt
theorem dX1_sideOf_0 : decode cX1_sideOf 0 = .ok (.aload_n 0, 1) := by decide +kernel
theorem dX1_sideOf_1 : decode cX1_sideOf 1 = .ok (.iload_n 1, 1) := by decide +kernel
theorem dX1_sideOf_2 : decode cX1_sideOf 2 = .ok (.invokevirtual 91, 3) := by decide +kernel
theorem dX1_sideOf_5 : decode cX1_sideOf 5 = .ok (.aload_n 0, 1) := by decide +kernel
theorem dX1_sideOf_6 : decode cX1_sideOf 6 = .ok (.getfield 10, 3) := by decide +kernel
theorem dX1_sideOf_9 : decode cX1_sideOf 9 = .ok (.iload_n 1, 1) := by decide +kernel
theorem dX1_sideOf_10 : decode cX1_sideOf 10 = .ok (.invokevirtual 95, 3) := by decide +kernel
theorem dX1_sideOf_13 : decode cX1_sideOf 13 = .ok (.ireturn, 1) := by decide +kernel
set_option maxRecDepth 20000 in
theorem ggX1_elderOf_X1_refuseUnlessBerth : GoodIn wsX1_elderOf wsX1_refuseUnlessBerth := goodIn_ca (goodIn_r _ [6, 7, 8, 1, 9, 10, 11, 12, 13, 14, 29, 30, 31, 32, 33, 34, 35, 36, 37] (by decide +kernel) (by decide +kernel)) (goodIn_sub (fun _ h => List.mem_cons_of_mem _ (List.mem_append_right _ h)) (by decide +kernel))
set_option maxRecDepth 20000 in
theorem gX1_elderOf_X1_refuseUnlessBerth : GoodIn wsX1_elderOf (wsV RX1 91 RX1 yX1_refuseUnlessBerth wsX1_refuseUnlessBerth) := goodIn_app (goodIn_of _ (by decide +kernel)) ggX1_elderOf_X1_refuseUnlessBerth
set_option maxRecDepth 20000 in
theorem ggX1_elderOf_X0_elder : GoodIn wsX1_elderOf wsX0_elder := goodIn_r _ [18, 19, 20, 21, 12, 22, 23, 24, 25, 26, 27, 28, 10, 11, 13, 14, 32, 33, 34, 35, 36, 37] (by decide +kernel) (by decide +kernel)
set_option maxRecDepth 20000 in
theorem gX1_elderOf_X0_elder : GoodIn wsX1_elderOf (wsV RX1 98 RX0 yX0_elder wsX0_elder) := goodIn_app (goodIn_of _ (by decide +kernel)) ggX1_elderOf_X0_elder
theorem dX1_elderOf_0 : decode cX1_elderOf 0 = .ok (.aload_n 0, 1) := by decide +kernel
theorem dX1_elderOf_1 : decode cX1_elderOf 1 = .ok (.iload_n 1, 1) := by decide +kernel
theorem dX1_elderOf_2 : decode cX1_elderOf 2 = .ok (.invokevirtual 91, 3) := by decide +kernel
theorem dX1_elderOf_5 : decode cX1_elderOf 5 = .ok (.iload_n 1, 1) := by decide +kernel
theorem dX1_elderOf_6 : decode cX1_elderOf 6 = .ok (.ifCond .ne 7, 3) := by decide +kernel
theorem dX1_elderOf_9 : decode cX1_elderOf 9 = .ok (.iconst (-1), 1) := by decide +kernel
theorem dX1_elderOf_10 : decode cX1_elderOf 10 = .ok (.goto 11, 3) := by decide +kernel
theorem dX1_elderOf_13 : decode cX1_elderOf 13 = .ok (.aload_n 0, 1) := by decide +kernel
theorem dX1_elderOf_14 : decode cX1_elderOf 14 = .ok (.getfield 10, 3) := by decide +kernel
theorem dX1_elderOf_17 : decode cX1_elderOf 17 = .ok (.iload_n 1, 1) := by decide +kernel
theorem dX1_elderOf_18 : decode cX1_elderOf 18 = .ok (.invokevirtual 98, 3) := by decide +kernel
theorem dX1_elderOf_21 : decode cX1_elderOf 21 = .ok (.ireturn, 1) := by decide +kernel
set_option maxRecDepth 20000 in
theorem ggX1_followersOf_X1_refuseUnlessBerth : GoodIn wsX1_followersOf wsX1_refuseUnlessBerth := goodIn_ca (goodIn_r _ [6, 7, 8, 1, 9, 10, 11, 12, 13, 14, 33, 34, 35, 36, 37, 38, 39, 40, 41] (by decide +kernel) (by decide +kernel)) (goodIn_sub (fun _ h => List.mem_cons_of_mem _ (List.mem_append_right _ h)) (by decide +kernel))
set_option maxRecDepth 20000 in
theorem gX1_followersOf_X1_refuseUnlessBerth : GoodIn wsX1_followersOf (wsV RX1 91 RX1 yX1_refuseUnlessBerth wsX1_refuseUnlessBerth) := goodIn_app (goodIn_of _ (by decide +kernel)) ggX1_followersOf_X1_refuseUnlessBerth
set_option maxRecDepth 20000 in
theorem ggX1_followersOf_X0_countFollowers : GoodIn wsX1_followersOf wsX0_countFollowers := goodIn_r _ [18, 14, 19, 20, 21, 12, 22, 23, 24, 25, 26, 27, 28, 29, 30, 31, 32, 10, 11, 13, 36, 37, 38, 39, 40, 41] (by decide +kernel) (by decide +kernel)
set_option maxRecDepth 20000 in
theorem gX1_followersOf_X0_countFollowers : GoodIn wsX1_followersOf (wsV RX1 101 RX0 yX0_countFollowers wsX0_countFollowers) := goodIn_app (goodIn_of _ (by decide +kernel)) ggX1_followersOf_X0_countFollowers
theorem dX1_followersOf_0 : decode cX1_followersOf 0 = .ok (.aload_n 0, 1) := by decide +kernel
theorem dX1_followersOf_1 : decode cX1_followersOf 1 = .ok (.iload_n 1, 1) := by decide +kernel
theorem dX1_followersOf_2 : decode cX1_followersOf 2 = .ok (.invokevirtual 91, 3) := by decide +kernel
theorem dX1_followersOf_5 : decode cX1_followersOf 5 = .ok (.aload_n 0, 1) := by decide +kernel
theorem dX1_followersOf_6 : decode cX1_followersOf 6 = .ok (.getfield 10, 3) := by decide +kernel
theorem dX1_followersOf_9 : decode cX1_followersOf 9 = .ok (.iload_n 1, 1) := by decide +kernel
theorem dX1_followersOf_10 : decode cX1_followersOf 10 = .ok (.invokevirtual 101, 3) := by decide +kernel
theorem dX1_followersOf_13 : decode cX1_followersOf 13 = .ok (.ireturn, 1) := by decide +kernel
set_option maxRecDepth 20000 in
theorem ggX1_flipped_X0_countFlipped : GoodIn wsX1_flipped wsX0_countFlipped := goodIn_r _ [6, 7, 8, 9, 10, 5, 11, 12, 13, 14, 15, 16, 20, 21, 22, 23, 24, 25] (by decide +kernel) (by decide +kernel)
set_option maxRecDepth 20000 in
theorem gX1_flipped_X0_countFlipped : GoodIn wsX1_flipped (wsV RX1 104 RX0 yX0_countFlipped wsX0_countFlipped) := goodIn_app (goodIn_of _ (by decide +kernel)) ggX1_flipped_X0_countFlipped
theorem dX1_flipped_0 : decode cX1_flipped 0 = .ok (.aload_n 0, 1) := by decide +kernel
theorem dX1_flipped_1 : decode cX1_flipped 1 = .ok (.getfield 10, 3) := by decide +kernel
theorem dX1_flipped_4 : decode cX1_flipped 4 = .ok (.invokevirtual 104, 3) := by decide +kernel
theorem dX1_flipped_7 : decode cX1_flipped 7 = .ok (.ireturn, 1) := by decide +kernel
theorem dX1_comparisons_0 : decode cX1_comparisons 0 = .ok (.aload_n 0, 1) := by decide +kernel
theorem dX1_comparisons_1 : decode cX1_comparisons 1 = .ok (.getfield 10, 3) := by decide +kernel
theorem dX1_comparisons_4 : decode cX1_comparisons 4 = .ok (.getfield 52, 3) := by decide +kernel
theorem dX1_comparisons_7 : decode cX1_comparisons 7 = .ok (.ireturn, 1) := by decide +kernel
theorem dX1_changes_0 : decode cX1_changes 0 = .ok (.aload_n 0, 1) := by decide +kernel
theorem dX1_changes_1 : decode cX1_changes 1 = .ok (.getfield 10, 3) := by decide +kernel
theorem dX1_changes_4 : decode cX1_changes 4 = .ok (.getfield 107, 3) := by decide +kernel
theorem dX1_changes_7 : decode cX1_changes 7 = .ok (.ireturn, 1) := by decide +kernel
set_option maxRecDepth 20000 in
theorem ggX1_comparisonsToEmpty_X0_copyFrom : GoodIn wsX1_comparisonsToEmpty wsX0_copyFrom := goodIn_r _ [7, 8, 9, 10, 11, 12, 13, 49, 50, 51, 52, 53, 54] (by decide +kernel) (by decide +kernel)
set_option maxRecDepth 20000 in
theorem gX1_comparisonsToEmpty_X0_copyFrom : GoodIn wsX1_comparisonsToEmpty (wsV RX1 110 RX0 yX0_copyFrom wsX0_copyFrom) := goodIn_app (goodIn_of _ (by decide +kernel)) ggX1_comparisonsToEmpty_X0_copyFrom
set_option maxRecDepth 20000 in
theorem ggX1_comparisonsToEmpty_X0_removeTops : GoodIn wsX1_comparisonsToEmpty wsX0_removeTops := goodIn_r _ [17, 18, 19, 20, 6, 21, 11, 8, 12, 22, 23, 24, 25, 26, 27, 28, 29, 30, 31, 32, 33, 34, 35, 36, 37, 13, 38, 39, 40, 41, 9, 10, 42, 43, 44, 45, 49, 50, 51, 52, 53, 54] (by decide +kernel) (by decide +kernel)
set_option maxRecDepth 20000 in
theorem gX1_comparisonsToEmpty_X0_removeTops : GoodIn wsX1_comparisonsToEmpty (wsV RX1 114 RX0 yX0_removeTops wsX0_removeTops) := goodIn_app (goodIn_of _ (by decide +kernel)) ggX1_comparisonsToEmpty_X0_removeTops
theorem dX1_comparisonsToEmpty_0 : decode cX1_comparisonsToEmpty 0 = .ok (.aload_n 0, 1) := by decide +kernel
theorem dX1_comparisonsToEmpty_1 : decode cX1_comparisonsToEmpty 1 = .ok (.getfield 16, 3) := by decide +kernel
theorem dX1_comparisonsToEmpty_4 : decode cX1_comparisonsToEmpty 4 = .ok (.aload_n 0, 1) := by decide +kernel
theorem dX1_comparisonsToEmpty_5 : decode cX1_comparisonsToEmpty 5 = .ok (.getfield 10, 3) := by decide +kernel
theorem dX1_comparisonsToEmpty_8 : decode cX1_comparisonsToEmpty 8 = .ok (.invokevirtual 110, 3) := by decide +kernel
theorem dX1_comparisonsToEmpty_11 : decode cX1_comparisonsToEmpty 11 = .ok (.aload_n 0, 1) := by decide +kernel
theorem dX1_comparisonsToEmpty_12 : decode cX1_comparisonsToEmpty 12 = .ok (.getfield 16, 3) := by decide +kernel
theorem dX1_comparisonsToEmpty_15 : decode cX1_comparisonsToEmpty 15 = .ok (.aload_n 0, 1) := by decide +kernel
theorem dX1_comparisonsToEmpty_16 : decode cX1_comparisonsToEmpty 16 = .ok (.getfield 10, 3) := by decide +kernel
theorem dX1_comparisonsToEmpty_19 : decode cX1_comparisonsToEmpty 19 = .ok (.getfield 61, 3) := by decide +kernel
theorem dX1_comparisonsToEmpty_22 : decode cX1_comparisonsToEmpty 22 = .ok (.invokevirtual 114, 3) := by decide +kernel
theorem dX1_comparisonsToEmpty_25 : decode cX1_comparisonsToEmpty 25 = .ok (.aload_n 0, 1) := by decide +kernel
theorem dX1_comparisonsToEmpty_26 : decode cX1_comparisonsToEmpty 26 = .ok (.getfield 16, 3) := by decide +kernel
theorem dX1_comparisonsToEmpty_29 : decode cX1_comparisonsToEmpty 29 = .ok (.getfield 52, 3) := by decide +kernel
theorem dX1_comparisonsToEmpty_32 : decode cX1_comparisonsToEmpty 32 = .ok (.aload_n 0, 1) := by decide +kernel
theorem dX1_comparisonsToEmpty_33 : decode cX1_comparisonsToEmpty 33 = .ok (.getfield 10, 3) := by decide +kernel
theorem dX1_comparisonsToEmpty_36 : decode cX1_comparisonsToEmpty 36 = .ok (.getfield 52, 3) := by decide +kernel
theorem dX1_comparisonsToEmpty_39 : decode cX1_comparisonsToEmpty 39 = .ok (.isub, 1) := by decide +kernel
theorem dX1_comparisonsToEmpty_40 : decode cX1_comparisonsToEmpty 40 = .ok (.ireturn, 1) := by decide +kernel
set_option maxRecDepth 20000 in
theorem ggX1_leavesAt_X0_has : GoodIn wsX1_leavesAt wsX0_has := goodIn_r _ [9, 10, 56, 57, 58, 59, 60, 61] (by decide +kernel) (by decide +kernel)
set_option maxRecDepth 20000 in
theorem gX1_leavesAt_X0_has : GoodIn wsX1_leavesAt (wsV RX1 117 RX0 yX0_has wsX0_has) := goodIn_app (goodIn_of _ (by decide +kernel)) ggX1_leavesAt_X0_has
set_option maxRecDepth 20000 in
theorem ggX1_leavesAt_X0_copyFrom : GoodIn wsX1_leavesAt wsX0_copyFrom := goodIn_r _ [14, 10, 15, 16, 17, 18, 19, 56, 57, 58, 59, 60, 61] (by decide +kernel) (by decide +kernel)
set_option maxRecDepth 20000 in
theorem gX1_leavesAt_X0_copyFrom : GoodIn wsX1_leavesAt (wsV RX1 110 RX0 yX0_copyFrom wsX0_copyFrom) := goodIn_app (goodIn_of _ (by decide +kernel)) ggX1_leavesAt_X0_copyFrom
set_option maxRecDepth 20000 in
theorem ggX1_leavesAt_X0_removeTops : GoodIn wsX1_leavesAt wsX0_removeTops := goodIn_r _ [23, 24, 25, 26, 8, 27, 17, 10, 18, 28, 6, 7, 9, 29, 30, 31, 32, 33, 34, 35, 36, 37, 38, 39, 40, 19, 41, 42, 43, 44, 15, 16, 45, 46, 47, 48, 56, 57, 58, 59, 60, 61] (by decide +kernel) (by decide +kernel)
set_option maxRecDepth 20000 in
theorem gX1_leavesAt_X0_removeTops : GoodIn wsX1_leavesAt (wsV RX1 114 RX0 yX0_removeTops wsX0_removeTops) := goodIn_app (goodIn_of _ (by decide +kernel)) ggX1_leavesAt_X0_removeTops
set_option maxRecDepth 20000 in
theorem ggX1_leavesAt_X0_dukeAt : GoodIn wsX1_leavesAt wsX0_dukeAt := goodIn_r _ [52, 17, 28, 6, 7, 8, 9, 10, 56, 57, 58, 59, 60, 61] (by decide +kernel) (by decide +kernel)
set_option maxRecDepth 20000 in
theorem gX1_leavesAt_X0_dukeAt : GoodIn wsX1_leavesAt (wsV RX1 88 RX0 yX0_dukeAt wsX0_dukeAt) := goodIn_app (goodIn_of _ (by decide +kernel)) ggX1_leavesAt_X0_dukeAt
theorem dX1_leavesAt_0 : decode cX1_leavesAt 0 = .ok (.aload_n 0, 1) := by decide +kernel
theorem dX1_leavesAt_1 : decode cX1_leavesAt 1 = .ok (.getfield 10, 3) := by decide +kernel
theorem dX1_leavesAt_4 : decode cX1_leavesAt 4 = .ok (.iload_n 1, 1) := by decide +kernel
theorem dX1_leavesAt_5 : decode cX1_leavesAt 5 = .ok (.invokevirtual 117, 3) := by decide +kernel
theorem dX1_leavesAt_8 : decode cX1_leavesAt 8 = .ok (.ifCond .ne 13, 3) := by decide +kernel
theorem dX1_leavesAt_11 : decode cX1_leavesAt 11 = .ok (.new 74, 3) := by decide +kernel
theorem dX1_leavesAt_14 : decode cX1_leavesAt 14 = .ok (.dup, 1) := by decide +kernel
theorem dX1_leavesAt_15 : decode cX1_leavesAt 15 = .ok (.ldc 120, 2) := by decide +kernel
theorem dX1_leavesAt_17 : decode cX1_leavesAt 17 = .ok (.invokespecial 78, 3) := by decide +kernel
theorem dX1_leavesAt_20 : decode cX1_leavesAt 20 = .ok (.athrow, 1) := by decide +kernel
theorem dX1_leavesAt_21 : decode cX1_leavesAt 21 = .ok (.aload_n 0, 1) := by decide +kernel
theorem dX1_leavesAt_22 : decode cX1_leavesAt 22 = .ok (.getfield 16, 3) := by decide +kernel
theorem dX1_leavesAt_25 : decode cX1_leavesAt 25 = .ok (.aload_n 0, 1) := by decide +kernel
theorem dX1_leavesAt_26 : decode cX1_leavesAt 26 = .ok (.getfield 10, 3) := by decide +kernel
theorem dX1_leavesAt_29 : decode cX1_leavesAt 29 = .ok (.invokevirtual 110, 3) := by decide +kernel
theorem dX1_leavesAt_32 : decode cX1_leavesAt 32 = .ok (.aload_n 0, 1) := by decide +kernel
theorem dX1_leavesAt_33 : decode cX1_leavesAt 33 = .ok (.getfield 16, 3) := by decide +kernel
theorem dX1_leavesAt_36 : decode cX1_leavesAt 36 = .ok (.iload_n 1, 1) := by decide +kernel
theorem dX1_leavesAt_37 : decode cX1_leavesAt 37 = .ok (.invokevirtual 114, 3) := by decide +kernel
theorem dX1_leavesAt_40 : decode cX1_leavesAt 40 = .ok (.aload_n 0, 1) := by decide +kernel
theorem dX1_leavesAt_41 : decode cX1_leavesAt 41 = .ok (.getfield 16, 3) := by decide +kernel
theorem dX1_leavesAt_44 : decode cX1_leavesAt 44 = .ok (.iconst 0, 1) := by decide +kernel
theorem dX1_leavesAt_45 : decode cX1_leavesAt 45 = .ok (.invokevirtual 88, 3) := by decide +kernel
theorem dX1_leavesAt_48 : decode cX1_leavesAt 48 = .ok (.ireturn, 1) := by decide +kernel
set_option maxRecDepth 20000 in
theorem ggX1_quieterThan_X0_find : GoodIn wsX1_quieterThan wsX0_find := goodIn_r _ [8, 9, 10, 11, 12, 7, 13, 14, 15, 16, 17, 18, 52, 53, 54, 55, 56, 57] (by decide +kernel) (by decide +kernel)
set_option maxRecDepth 20000 in
theorem gX1_quieterThan_X0_find : GoodIn wsX1_quieterThan (wsV RX1 70 RX0 yX0_find wsX0_find) := goodIn_app (goodIn_of _ (by decide +kernel)) ggX1_quieterThan_X0_find
set_option maxRecDepth 20000 in
theorem ggX1_quieterThan_X0_loudnessAt : GoodIn wsX1_quieterThan wsX0_loudnessAt := goodIn_r _ [22, 23, 15, 16, 17, 7, 18, 9, 52, 53, 54, 55, 56, 57] (by decide +kernel) (by decide +kernel)
set_option maxRecDepth 20000 in
theorem gX1_quieterThan_X0_loudnessAt : GoodIn wsX1_quieterThan (wsV RX1 79 RX0 yX0_loudnessAt wsX0_loudnessAt) := goodIn_app (goodIn_of _ (by decide +kernel)) ggX1_quieterThan_X0_loudnessAt
set_option maxRecDepth 20000 in
theorem ggX1_quieterThan_X0_countBelow : GoodIn wsX1_quieterThan wsX0_countBelow := goodIn_r _ [27, 9, 28, 29, 30, 7, 31, 32, 33, 34, 35, 36, 37, 38, 39, 40, 15, 16, 17, 18, 41, 20, 21, 22, 23, 42, 43, 44, 45, 46, 47, 48, 52, 53, 54, 55, 56, 57] (by decide +kernel) (by decide +kernel)
set_option maxRecDepth 20000 in
theorem gX1_quieterThan_X0_countBelow : GoodIn wsX1_quieterThan (wsV RX1 122 RX0 yX0_countBelow wsX0_countBelow) := goodIn_app (goodIn_of _ (by decide +kernel)) ggX1_quieterThan_X0_countBelow
theorem dX1_quieterThan_0 : decode cX1_quieterThan 0 = .ok (.aload_n 0, 1) := by decide +kernel
theorem dX1_quieterThan_1 : decode cX1_quieterThan 1 = .ok (.getfield 10, 3) := by decide +kernel
theorem dX1_quieterThan_4 : decode cX1_quieterThan 4 = .ok (.iload_n 1, 1) := by decide +kernel
theorem dX1_quieterThan_5 : decode cX1_quieterThan 5 = .ok (.invokevirtual 70, 3) := by decide +kernel
theorem dX1_quieterThan_8 : decode cX1_quieterThan 8 = .ok (.istore_n 2, 1) := by decide +kernel
theorem dX1_quieterThan_9 : decode cX1_quieterThan 9 = .ok (.iload_n 2, 1) := by decide +kernel
theorem dX1_quieterThan_10 : decode cX1_quieterThan 10 = .ok (.iconst (-1), 1) := by decide +kernel
theorem dX1_quieterThan_11 : decode cX1_quieterThan 11 = .ok (.if_icmp .ne 13, 3) := by decide +kernel
theorem dX1_quieterThan_14 : decode cX1_quieterThan 14 = .ok (.new 74, 3) := by decide +kernel
theorem dX1_quieterThan_17 : decode cX1_quieterThan 17 = .ok (.dup, 1) := by decide +kernel
theorem dX1_quieterThan_18 : decode cX1_quieterThan 18 = .ok (.ldc 76, 2) := by decide +kernel
theorem dX1_quieterThan_20 : decode cX1_quieterThan 20 = .ok (.invokespecial 78, 3) := by decide +kernel
theorem dX1_quieterThan_23 : decode cX1_quieterThan 23 = .ok (.athrow, 1) := by decide +kernel
theorem dX1_quieterThan_24 : decode cX1_quieterThan 24 = .ok (.aload_n 0, 1) := by decide +kernel
theorem dX1_quieterThan_25 : decode cX1_quieterThan 25 = .ok (.getfield 10, 3) := by decide +kernel
theorem dX1_quieterThan_28 : decode cX1_quieterThan 28 = .ok (.aload_n 0, 1) := by decide +kernel
theorem dX1_quieterThan_29 : decode cX1_quieterThan 29 = .ok (.getfield 10, 3) := by decide +kernel
theorem dX1_quieterThan_32 : decode cX1_quieterThan 32 = .ok (.iload_n 2, 1) := by decide +kernel
theorem dX1_quieterThan_33 : decode cX1_quieterThan 33 = .ok (.invokevirtual 79, 3) := by decide +kernel
theorem dX1_quieterThan_36 : decode cX1_quieterThan 36 = .ok (.invokevirtual 122, 3) := by decide +kernel
theorem dX1_quieterThan_39 : decode cX1_quieterThan 39 = .ok (.ireturn, 1) := by decide +kernel
theorem dX1_isUpToLoudest_0 : decode cX1_isUpToLoudest 0 = .ok (.iload_n 0, 1) := by decide +kernel
theorem dX1_isUpToLoudest_1 : decode cX1_isUpToLoudest 1 = .ok (.ifCond .lt 14, 3) := by decide +kernel
theorem dX1_isUpToLoudest_4 : decode cX1_isUpToLoudest 4 = .ok (.iload_n 0, 1) := by decide +kernel
theorem dX1_isUpToLoudest_5 : decode cX1_isUpToLoudest 5 = .ok (.sipush 999, 3) := by decide +kernel
theorem dX1_isUpToLoudest_8 : decode cX1_isUpToLoudest 8 = .ok (.if_icmp .gt 7, 3) := by decide +kernel
theorem dX1_isUpToLoudest_11 : decode cX1_isUpToLoudest 11 = .ok (.iconst 1, 1) := by decide +kernel
theorem dX1_isUpToLoudest_12 : decode cX1_isUpToLoudest 12 = .ok (.goto 4, 3) := by decide +kernel
theorem dX1_isUpToLoudest_15 : decode cX1_isUpToLoudest 15 = .ok (.iconst 0, 1) := by decide +kernel
theorem dX1_isUpToLoudest_16 : decode cX1_isUpToLoudest 16 = .ok (.ireturn, 1) := by decide +kernel
theorem dX1_hasRoomFor_0 : decode cX1_hasRoomFor 0 = .ok (.aload_n 0, 1) := by decide +kernel
theorem dX1_hasRoomFor_1 : decode cX1_hasRoomFor 1 = .ok (.getfield 10, 3) := by decide +kernel
theorem dX1_hasRoomFor_4 : decode cX1_hasRoomFor 4 = .ok (.getfield 61, 3) := by decide +kernel
theorem dX1_hasRoomFor_7 : decode cX1_hasRoomFor 7 = .ok (.iload_n 1, 1) := by decide +kernel
theorem dX1_hasRoomFor_8 : decode cX1_hasRoomFor 8 = .ok (.iadd, 1) := by decide +kernel
theorem dX1_hasRoomFor_9 : decode cX1_hasRoomFor 9 = .ok (.bipush 63, 2) := by decide +kernel
theorem dX1_hasRoomFor_11 : decode cX1_hasRoomFor 11 = .ok (.if_icmp .gt 19, 3) := by decide +kernel
theorem dX1_hasRoomFor_14 : decode cX1_hasRoomFor 14 = .ok (.aload_n 0, 1) := by decide +kernel
theorem dX1_hasRoomFor_15 : decode cX1_hasRoomFor 15 = .ok (.getfield 19, 3) := by decide +kernel
theorem dX1_hasRoomFor_18 : decode cX1_hasRoomFor 18 = .ok (.iload_n 1, 1) := by decide +kernel
theorem dX1_hasRoomFor_19 : decode cX1_hasRoomFor 19 = .ok (.iadd, 1) := by decide +kernel
theorem dX1_hasRoomFor_20 : decode cX1_hasRoomFor 20 = .ok (.sipush 500, 3) := by decide +kernel
theorem dX1_hasRoomFor_23 : decode cX1_hasRoomFor 23 = .ok (.if_icmp .gt 7, 3) := by decide +kernel
theorem dX1_hasRoomFor_26 : decode cX1_hasRoomFor 26 = .ok (.iconst 1, 1) := by decide +kernel
theorem dX1_hasRoomFor_27 : decode cX1_hasRoomFor 27 = .ok (.goto 4, 3) := by decide +kernel
theorem dX1_hasRoomFor_30 : decode cX1_hasRoomFor 30 = .ok (.iconst 0, 1) := by decide +kernel
theorem dX1_hasRoomFor_31 : decode cX1_hasRoomFor 31 = .ok (.ireturn, 1) := by decide +kernel
set_option maxRecDepth 20000 in
theorem ggX1_refuseUnlessBerth_X0_has : GoodIn wsX1_refuseUnlessBerth wsX0_has := goodIn_r _ [8, 9, 13, 14, 15, 16, 17, 18] (by decide +kernel) (by decide +kernel)
set_option maxRecDepth 20000 in
theorem gX1_refuseUnlessBerth_X0_has : GoodIn wsX1_refuseUnlessBerth (wsV RX1 117 RX0 yX0_has wsX0_has) := goodIn_app (goodIn_of _ (by decide +kernel)) ggX1_refuseUnlessBerth_X0_has
theorem dX1_refuseUnlessBerth_0 : decode cX1_refuseUnlessBerth 0 = .ok (.aload_n 0, 1) := by decide +kernel
theorem dX1_refuseUnlessBerth_1 : decode cX1_refuseUnlessBerth 1 = .ok (.getfield 10, 3) := by decide +kernel
theorem dX1_refuseUnlessBerth_4 : decode cX1_refuseUnlessBerth 4 = .ok (.iload_n 1, 1) := by decide +kernel
theorem dX1_refuseUnlessBerth_5 : decode cX1_refuseUnlessBerth 5 = .ok (.invokevirtual 117, 3) := by decide +kernel
theorem dX1_refuseUnlessBerth_8 : decode cX1_refuseUnlessBerth 8 = .ok (.ifCond .ne 13, 3) := by decide +kernel
theorem dX1_refuseUnlessBerth_11 : decode cX1_refuseUnlessBerth 11 = .ok (.new 74, 3) := by decide +kernel
theorem dX1_refuseUnlessBerth_14 : decode cX1_refuseUnlessBerth 14 = .ok (.dup, 1) := by decide +kernel
theorem dX1_refuseUnlessBerth_15 : decode cX1_refuseUnlessBerth 15 = .ok (.ldc 125, 2) := by decide +kernel
theorem dX1_refuseUnlessBerth_17 : decode cX1_refuseUnlessBerth 17 = .ok (.invokespecial 78, 3) := by decide +kernel
theorem dX1_refuseUnlessBerth_20 : decode cX1_refuseUnlessBerth 20 = .ok (.athrow, 1) := by decide +kernel
theorem dX1_refuseUnlessBerth_21 : decode cX1_refuseUnlessBerth 21 = .ok (.return_, 1) := by decide +kernel
theorem dX2_init_0 : decode cX2_init 0 = .ok (.aload_n 0, 1) := by decide +kernel
theorem dX2_init_1 : decode cX2_init 1 = .ok (.invokespecial 1, 3) := by decide +kernel
theorem dX2_init_4 : decode cX2_init 4 = .ok (.aload_n 0, 1) := by decide +kernel
theorem dX2_init_5 : decode cX2_init 5 = .ok (.sipush 500, 3) := by decide +kernel
theorem dX2_init_8 : decode cX2_init 8 = .ok (.newarray .int, 2) := by decide +kernel
theorem dX2_init_10 : decode cX2_init 10 = .ok (.putfield 7, 3) := by decide +kernel
theorem dX2_init_13 : decode cX2_init 13 = .ok (.aload_n 0, 1) := by decide +kernel
theorem dX2_init_14 : decode cX2_init 14 = .ok (.bipush 63, 2) := by decide +kernel
theorem dX2_init_16 : decode cX2_init 16 = .ok (.newarray .int, 2) := by decide +kernel
theorem dX2_init_18 : decode cX2_init 18 = .ok (.putfield 13, 3) := by decide +kernel
theorem dX2_init_21 : decode cX2_init 21 = .ok (.aload_n 0, 1) := by decide +kernel
theorem dX2_init_22 : decode cX2_init 22 = .ok (.bipush 63, 2) := by decide +kernel
theorem dX2_init_24 : decode cX2_init 24 = .ok (.newarray .int, 2) := by decide +kernel
theorem dX2_init_26 : decode cX2_init 26 = .ok (.putfield 16, 3) := by decide +kernel
theorem dX2_init_29 : decode cX2_init 29 = .ok (.aload_n 0, 1) := by decide +kernel
theorem dX2_init_30 : decode cX2_init 30 = .ok (.bipush 63, 2) := by decide +kernel
theorem dX2_init_32 : decode cX2_init 32 = .ok (.newarray .int, 2) := by decide +kernel
theorem dX2_init_34 : decode cX2_init 34 = .ok (.putfield 19, 3) := by decide +kernel
theorem dX2_init_37 : decode cX2_init 37 = .ok (.aload_n 0, 1) := by decide +kernel
theorem dX2_init_38 : decode cX2_init 38 = .ok (.bipush 63, 2) := by decide +kernel
theorem dX2_init_40 : decode cX2_init 40 = .ok (.newarray .int, 2) := by decide +kernel
theorem dX2_init_42 : decode cX2_init 42 = .ok (.putfield 22, 3) := by decide +kernel
theorem dX2_init_45 : decode cX2_init 45 = .ok (.return_, 1) := by decide +kernel
theorem dX2_thrown_0 : decode cX2_thrown 0 = .ok (.aload_n 0, 1) := by decide +kernel
theorem dX2_thrown_1 : decode cX2_thrown 1 = .ok (.getfield 25, 3) := by decide +kernel
theorem dX2_thrown_4 : decode cX2_thrown 4 = .ok (.ireturn, 1) := by decide +kernel
theorem dX2_isOf_0 : decode cX2_isOf 0 = .ok (.iload_n 0, 1) := by decide +kernel
theorem dX2_isOf_1 : decode cX2_isOf 1 = .ok (.iload_n 1, 1) := by decide +kernel
theorem dX2_isOf_2 : decode cX2_isOf 2 = .ok (.if_icmp .lt 12, 3) := by decide +kernel
theorem dX2_isOf_5 : decode cX2_isOf 5 = .ok (.iload_n 0, 1) := by decide +kernel
theorem dX2_isOf_6 : decode cX2_isOf 6 = .ok (.iload_n 2, 1) := by decide +kernel
theorem dX2_isOf_7 : decode cX2_isOf 7 = .ok (.if_icmp .gt 7, 3) := by decide +kernel
theorem dX2_isOf_10 : decode cX2_isOf 10 = .ok (.iconst 1, 1) := by decide +kernel
theorem dX2_isOf_11 : decode cX2_isOf 11 = .ok (.goto 4, 3) := by decide +kernel
theorem dX2_isOf_14 : decode cX2_isOf 14 = .ok (.iconst 0, 1) := by decide +kernel
theorem dX2_isOf_15 : decode cX2_isOf 15 = .ok (.ireturn, 1) := by decide +kernel
theorem dX2_find_0 : decode cX2_find 0 = .ok (.iconst 0, 1) := by decide +kernel
theorem dX2_find_1 : decode cX2_find 1 = .ok (.istore_n 2, 1) := by decide +kernel
theorem dX2_find_2 : decode cX2_find 2 = .ok (.iload_n 2, 1) := by decide +kernel
theorem dX2_find_3 : decode cX2_find 3 = .ok (.aload_n 0, 1) := by decide +kernel
theorem dX2_find_4 : decode cX2_find 4 = .ok (.getfield 29, 3) := by decide +kernel
theorem dX2_find_7 : decode cX2_find 7 = .ok (.if_icmp .ge 21, 3) := by decide +kernel
theorem dX2_find_10 : decode cX2_find 10 = .ok (.aload_n 0, 1) := by decide +kernel
theorem dX2_find_11 : decode cX2_find 11 = .ok (.getfield 13, 3) := by decide +kernel
theorem dX2_find_14 : decode cX2_find 14 = .ok (.iload_n 2, 1) := by decide +kernel
theorem dX2_find_15 : decode cX2_find 15 = .ok (.iaload, 1) := by decide +kernel
theorem dX2_find_16 : decode cX2_find 16 = .ok (.iload_n 1, 1) := by decide +kernel
theorem dX2_find_17 : decode cX2_find 17 = .ok (.if_icmp .ne 5, 3) := by decide +kernel
theorem dX2_find_20 : decode cX2_find 20 = .ok (.iload_n 2, 1) := by decide +kernel
theorem dX2_find_21 : decode cX2_find 21 = .ok (.ireturn, 1) := by decide +kernel
theorem dX2_find_22 : decode cX2_find 22 = .ok (.iinc 2 1, 3) := by decide +kernel
theorem dX2_find_25 : decode cX2_find 25 = .ok (.goto (-23), 3) := by decide +kernel
theorem dX2_find_28 : decode cX2_find 28 = .ok (.iconst (-1), 1) := by decide +kernel
theorem dX2_find_29 : decode cX2_find 29 = .ok (.ireturn, 1) := by decide +kernel
theorem dX2_left_0 : decode cX2_left 0 = .ok (.iconst 2, 1) := by decide +kernel
theorem dX2_left_1 : decode cX2_left 1 = .ok (.iload_n 1, 1) := by decide +kernel
theorem dX2_left_2 : decode cX2_left 2 = .ok (.imul, 1) := by decide +kernel
theorem dX2_left_3 : decode cX2_left 3 = .ok (.aload_n 0, 1) := by decide +kernel
theorem dX2_left_4 : decode cX2_left 4 = .ok (.getfield 16, 3) := by decide +kernel
theorem dX2_left_7 : decode cX2_left 7 = .ok (.iload_n 1, 1) := by decide +kernel
theorem dX2_left_8 : decode cX2_left 8 = .ok (.iaload, 1) := by decide +kernel
theorem dX2_left_9 : decode cX2_left 9 = .ok (.iadd, 1) := by decide +kernel
theorem dX2_left_10 : decode cX2_left 10 = .ok (.ireturn, 1) := by decide +kernel
set_option maxRecDepth 20000 in
theorem ggX2_elder_X2_left : GoodIn wsX2_elder wsX2_left := goodIn_r _ [5, 6, 7, 8, 9, 10, 11, 12, 13, 14, 15, 16] (by decide +kernel) (by decide +kernel)
set_option maxRecDepth 20000 in
theorem gX2_elder_X2_left : GoodIn wsX2_elder (wsV RX2 32 RX2 yX2_left wsX2_left) := goodIn_app (goodIn_of _ (by decide +kernel)) ggX2_elder_X2_left
theorem dX2_elder_0 : decode cX2_elder 0 = .ok (.iload_n 1, 1) := by decide +kernel
theorem dX2_elder_1 : decode cX2_elder 1 = .ok (.istore_n 2, 1) := by decide +kernel
theorem dX2_elder_2 : decode cX2_elder 2 = .ok (.iload_n 2, 1) := by decide +kernel
theorem dX2_elder_3 : decode cX2_elder 3 = .ok (.aload_n 0, 1) := by decide +kernel
theorem dX2_elder_4 : decode cX2_elder 4 = .ok (.iload_n 2, 1) := by decide +kernel
theorem dX2_elder_5 : decode cX2_elder 5 = .ok (.iconst 2, 1) := by decide +kernel
theorem dX2_elder_6 : decode cX2_elder 6 = .ok (.idiv, 1) := by decide +kernel
theorem dX2_elder_7 : decode cX2_elder 7 = .ok (.invokevirtual 32, 3) := by decide +kernel
theorem dX2_elder_10 : decode cX2_elder 10 = .ok (.if_icmp .ne 10, 3) := by decide +kernel
theorem dX2_elder_13 : decode cX2_elder 13 = .ok (.iload_n 2, 1) := by decide +kernel
theorem dX2_elder_14 : decode cX2_elder 14 = .ok (.iconst 2, 1) := by decide +kernel
theorem dX2_elder_15 : decode cX2_elder 15 = .ok (.idiv, 1) := by decide +kernel
theorem dX2_elder_16 : decode cX2_elder 16 = .ok (.istore_n 2, 1) := by decide +kernel
theorem dX2_elder_17 : decode cX2_elder 17 = .ok (.goto (-15), 3) := by decide +kernel
theorem dX2_elder_20 : decode cX2_elder 20 = .ok (.iload_n 2, 1) := by decide +kernel
theorem dX2_elder_21 : decode cX2_elder 21 = .ok (.iconst 2, 1) := by decide +kernel
theorem dX2_elder_22 : decode cX2_elder 22 = .ok (.idiv, 1) := by decide +kernel
theorem dX2_elder_23 : decode cX2_elder 23 = .ok (.ireturn, 1) := by decide +kernel
theorem dX2_joins_0 : decode cX2_joins 0 = .ok (.aload_n 0, 1) := by decide +kernel
theorem dX2_joins_1 : decode cX2_joins 1 = .ok (.dup, 1) := by decide +kernel
theorem dX2_joins_2 : decode cX2_joins 2 = .ok (.getfield 36, 3) := by decide +kernel
theorem dX2_joins_5 : decode cX2_joins 5 = .ok (.iconst 1, 1) := by decide +kernel
theorem dX2_joins_6 : decode cX2_joins 6 = .ok (.iadd, 1) := by decide +kernel
theorem dX2_joins_7 : decode cX2_joins 7 = .ok (.putfield 36, 3) := by decide +kernel
theorem dX2_joins_10 : decode cX2_joins 10 = .ok (.iload_n 3, 1) := by decide +kernel
theorem dX2_joins_11 : decode cX2_joins 11 = .ok (.ifCond .ne 28, 3) := by decide +kernel
theorem dX2_joins_14 : decode cX2_joins 14 = .ok (.aload_n 0, 1) := by decide +kernel
theorem dX2_joins_15 : decode cX2_joins 15 = .ok (.getfield 7, 3) := by decide +kernel
theorem dX2_joins_18 : decode cX2_joins 18 = .ok (.aload_n 0, 1) := by decide +kernel
theorem dX2_joins_19 : decode cX2_joins 19 = .ok (.getfield 13, 3) := by decide +kernel
theorem dX2_joins_22 : decode cX2_joins 22 = .ok (.iload_n 2, 1) := by decide +kernel
theorem dX2_joins_23 : decode cX2_joins 23 = .ok (.iaload, 1) := by decide +kernel
theorem dX2_joins_24 : decode cX2_joins 24 = .ok (.iaload, 1) := by decide +kernel
theorem dX2_joins_25 : decode cX2_joins 25 = .ok (.aload_n 0, 1) := by decide +kernel
theorem dX2_joins_26 : decode cX2_joins 26 = .ok (.getfield 7, 3) := by decide +kernel
theorem dX2_joins_29 : decode cX2_joins 29 = .ok (.aload_n 0, 1) := by decide +kernel
theorem dX2_joins_30 : decode cX2_joins 30 = .ok (.getfield 13, 3) := by decide +kernel
theorem dX2_joins_33 : decode cX2_joins 33 = .ok (.iload_n 1, 1) := by decide +kernel
theorem dX2_joins_34 : decode cX2_joins 34 = .ok (.iaload, 1) := by decide +kernel
theorem dX2_joins_35 : decode cX2_joins 35 = .ok (.iaload, 1) := by decide +kernel
theorem dX2_joins_36 : decode cX2_joins 36 = .ok (.if_icmp .ge 7, 3) := by decide +kernel
theorem dX2_joins_39 : decode cX2_joins 39 = .ok (.iconst 1, 1) := by decide +kernel
theorem dX2_joins_40 : decode cX2_joins 40 = .ok (.goto 4, 3) := by decide +kernel
theorem dX2_joins_43 : decode cX2_joins 43 = .ok (.iconst 0, 1) := by decide +kernel
theorem dX2_joins_44 : decode cX2_joins 44 = .ok (.istore 4, 2) := by decide +kernel
theorem dX2_joins_46 : decode cX2_joins 46 = .ok (.iload 4, 2) := by decide +kernel
theorem dX2_joins_48 : decode cX2_joins 48 = .ok (.ifCond .eq 55, 3) := by decide +kernel
theorem dX2_joins_51 : decode cX2_joins 51 = .ok (.aload_n 0, 1) := by decide +kernel
theorem dX2_joins_52 : decode cX2_joins 52 = .ok (.getfield 13, 3) := by decide +kernel
theorem dX2_joins_55 : decode cX2_joins 55 = .ok (.iload_n 2, 1) := by decide +kernel
theorem dX2_joins_56 : decode cX2_joins 56 = .ok (.iaload, 1) := by decide +kernel
theorem dX2_joins_57 : decode cX2_joins 57 = .ok (.istore 5, 2) := by decide +kernel
theorem dX2_joins_59 : decode cX2_joins 59 = .ok (.aload_n 0, 1) := by decide +kernel
theorem dX2_joins_60 : decode cX2_joins 60 = .ok (.getfield 13, 3) := by decide +kernel
theorem dX2_joins_63 : decode cX2_joins 63 = .ok (.iload_n 2, 1) := by decide +kernel
theorem dX2_joins_64 : decode cX2_joins 64 = .ok (.aload_n 0, 1) := by decide +kernel
theorem dX2_joins_65 : decode cX2_joins 65 = .ok (.getfield 13, 3) := by decide +kernel
theorem dX2_joins_68 : decode cX2_joins 68 = .ok (.iload_n 1, 1) := by decide +kernel
theorem dX2_joins_69 : decode cX2_joins 69 = .ok (.iaload, 1) := by decide +kernel
theorem dX2_joins_70 : decode cX2_joins 70 = .ok (.iastore, 1) := by decide +kernel
theorem dX2_joins_71 : decode cX2_joins 71 = .ok (.aload_n 0, 1) := by decide +kernel
theorem dX2_joins_72 : decode cX2_joins 72 = .ok (.getfield 13, 3) := by decide +kernel
theorem dX2_joins_75 : decode cX2_joins 75 = .ok (.iload_n 1, 1) := by decide +kernel
theorem dX2_joins_76 : decode cX2_joins 76 = .ok (.iload 5, 2) := by decide +kernel
theorem dX2_joins_78 : decode cX2_joins 78 = .ok (.iastore, 1) := by decide +kernel
theorem dX2_joins_79 : decode cX2_joins 79 = .ok (.aload_n 0, 1) := by decide +kernel
theorem dX2_joins_80 : decode cX2_joins 80 = .ok (.getfield 16, 3) := by decide +kernel
theorem dX2_joins_83 : decode cX2_joins 83 = .ok (.iload_n 2, 1) := by decide +kernel
theorem dX2_joins_84 : decode cX2_joins 84 = .ok (.iconst 1, 1) := by decide +kernel
theorem dX2_joins_85 : decode cX2_joins 85 = .ok (.aload_n 0, 1) := by decide +kernel
theorem dX2_joins_86 : decode cX2_joins 86 = .ok (.getfield 16, 3) := by decide +kernel
theorem dX2_joins_89 : decode cX2_joins 89 = .ok (.iload_n 2, 1) := by decide +kernel
theorem dX2_joins_90 : decode cX2_joins 90 = .ok (.iaload, 1) := by decide +kernel
theorem dX2_joins_91 : decode cX2_joins 91 = .ok (.isub, 1) := by decide +kernel
theorem dX2_joins_92 : decode cX2_joins 92 = .ok (.iastore, 1) := by decide +kernel
theorem dX2_joins_93 : decode cX2_joins 93 = .ok (.aload_n 0, 1) := by decide +kernel
theorem dX2_joins_94 : decode cX2_joins 94 = .ok (.dup, 1) := by decide +kernel
theorem dX2_joins_95 : decode cX2_joins 95 = .ok (.getfield 39, 3) := by decide +kernel
theorem dX2_joins_98 : decode cX2_joins 98 = .ok (.iconst 1, 1) := by decide +kernel
theorem dX2_joins_99 : decode cX2_joins 99 = .ok (.iadd, 1) := by decide +kernel
theorem dX2_joins_100 : decode cX2_joins 100 = .ok (.putfield 39, 3) := by decide +kernel
theorem dX2_joins_103 : decode cX2_joins 103 = .ok (.iload 4, 2) := by decide +kernel
theorem dX2_joins_105 : decode cX2_joins 105 = .ok (.ireturn, 1) := by decide +kernel
set_option maxRecDepth 20000 in
theorem ggX2_rises_X2_elder : GoodIn wsX2_rises wsX2_elder := goodIn_r _ [5, 6, 7, 8, 4, 9, 10, 19, 20, 21, 22, 23, 24, 25, 26, 27, 28] (by decide +kernel) (by decide +kernel)
set_option maxRecDepth 20000 in
theorem gX2_rises_X2_elder : GoodIn wsX2_rises (wsV RX2 42 RX2 yX2_elder wsX2_elder) := goodIn_app (goodIn_of _ (by decide +kernel)) ggX2_rises_X2_elder
set_option maxRecDepth 20000 in
theorem ggX2_rises_X2_joins : GoodIn wsX2_rises wsX2_joins := goodIn_r _ [14, 15, 16, 17, 10, 18, 19, 20, 21, 22, 23, 24, 25, 26, 27, 28] (by decide +kernel) (by decide +kernel)
set_option maxRecDepth 20000 in
theorem gX2_rises_X2_joins : GoodIn wsX2_rises (wsV RX2 45 RX2 yX2_joins wsX2_joins) := goodIn_app (goodIn_of _ (by decide +kernel)) ggX2_rises_X2_joins
theorem dX2_rises_0 : decode cX2_rises 0 = .ok (.iload_n 1, 1) := by decide +kernel
theorem dX2_rises_1 : decode cX2_rises 1 = .ok (.istore_n 3, 1) := by decide +kernel
theorem dX2_rises_2 : decode cX2_rises 2 = .ok (.iconst 1, 1) := by decide +kernel
theorem dX2_rises_3 : decode cX2_rises 3 = .ok (.istore 4, 2) := by decide +kernel
theorem dX2_rises_5 : decode cX2_rises 5 = .ok (.iload_n 3, 1) := by decide +kernel
theorem dX2_rises_6 : decode cX2_rises 6 = .ok (.ifCond .le 40, 3) := by decide +kernel
theorem dX2_rises_9 : decode cX2_rises 9 = .ok (.iload 4, 2) := by decide +kernel
theorem dX2_rises_11 : decode cX2_rises 11 = .ok (.ifCond .eq 35, 3) := by decide +kernel
theorem dX2_rises_14 : decode cX2_rises 14 = .ok (.aload_n 0, 1) := by decide +kernel
theorem dX2_rises_15 : decode cX2_rises 15 = .ok (.iload_n 3, 1) := by decide +kernel
theorem dX2_rises_16 : decode cX2_rises 16 = .ok (.invokevirtual 42, 3) := by decide +kernel
theorem dX2_rises_19 : decode cX2_rises 19 = .ok (.istore 5, 2) := by decide +kernel
theorem dX2_rises_21 : decode cX2_rises 21 = .ok (.aload_n 0, 1) := by decide +kernel
theorem dX2_rises_22 : decode cX2_rises 22 = .ok (.iload 5, 2) := by decide +kernel
theorem dX2_rises_24 : decode cX2_rises 24 = .ok (.iload_n 3, 1) := by decide +kernel
theorem dX2_rises_25 : decode cX2_rises 25 = .ok (.iload_n 2, 1) := by decide +kernel
theorem dX2_rises_26 : decode cX2_rises 26 = .ok (.invokevirtual 45, 3) := by decide +kernel
theorem dX2_rises_29 : decode cX2_rises 29 = .ok (.istore 4, 2) := by decide +kernel
theorem dX2_rises_31 : decode cX2_rises 31 = .ok (.iload 4, 2) := by decide +kernel
theorem dX2_rises_33 : decode cX2_rises 33 = .ok (.ifCond .eq 8, 3) := by decide +kernel
theorem dX2_rises_36 : decode cX2_rises 36 = .ok (.iload 5, 2) := by decide +kernel
theorem dX2_rises_38 : decode cX2_rises 38 = .ok (.goto 4, 3) := by decide +kernel
theorem dX2_rises_41 : decode cX2_rises 41 = .ok (.iload_n 3, 1) := by decide +kernel
theorem dX2_rises_42 : decode cX2_rises 42 = .ok (.istore_n 3, 1) := by decide +kernel
theorem dX2_rises_43 : decode cX2_rises 43 = .ok (.goto (-38), 3) := by decide +kernel
theorem dX2_rises_46 : decode cX2_rises 46 = .ok (.iload_n 3, 1) := by decide +kernel
theorem dX2_rises_47 : decode cX2_rises 47 = .ok (.ireturn, 1) := by decide +kernel
set_option maxRecDepth 20000 in
theorem ggX2_leaves_X2_left : GoodIn wsX2_leaves wsX2_left := goodIn_r _ [7, 8, 16, 17, 18, 19, 20, 21, 22, 23, 24, 25] (by decide +kernel) (by decide +kernel)
set_option maxRecDepth 20000 in
theorem gX2_leaves_X2_left : GoodIn wsX2_leaves (wsV RX2 32 RX2 yX2_left wsX2_left) := goodIn_app (goodIn_of _ (by decide +kernel)) ggX2_leaves_X2_left
set_option maxRecDepth 20000 in
theorem ggX2_leaves_X2_joins : GoodIn wsX2_leaves wsX2_joins := goodIn_r _ [12, 13, 14, 1, 8, 15, 16, 17, 18, 19, 20, 21, 22, 23, 24, 25] (by decide +kernel) (by decide +kernel)
set_option maxRecDepth 20000 in
theorem gX2_leaves_X2_joins : GoodIn wsX2_leaves (wsV RX2 45 RX2 yX2_joins wsX2_joins) := goodIn_app (goodIn_of _ (by decide +kernel)) ggX2_leaves_X2_joins
theorem dX2_leaves_0 : decode cX2_leaves 0 = .ok (.aload_n 0, 1) := by decide +kernel
theorem dX2_leaves_1 : decode cX2_leaves 1 = .ok (.getfield 13, 3) := by decide +kernel
theorem dX2_leaves_4 : decode cX2_leaves 4 = .ok (.iconst 0, 1) := by decide +kernel
theorem dX2_leaves_5 : decode cX2_leaves 5 = .ok (.iaload, 1) := by decide +kernel
theorem dX2_leaves_6 : decode cX2_leaves 6 = .ok (.istore_n 1, 1) := by decide +kernel
theorem dX2_leaves_7 : decode cX2_leaves 7 = .ok (.aload_n 0, 1) := by decide +kernel
theorem dX2_leaves_8 : decode cX2_leaves 8 = .ok (.dup, 1) := by decide +kernel
theorem dX2_leaves_9 : decode cX2_leaves 9 = .ok (.getfield 29, 3) := by decide +kernel
theorem dX2_leaves_12 : decode cX2_leaves 12 = .ok (.iconst 1, 1) := by decide +kernel
theorem dX2_leaves_13 : decode cX2_leaves 13 = .ok (.isub, 1) := by decide +kernel
theorem dX2_leaves_14 : decode cX2_leaves 14 = .ok (.putfield 29, 3) := by decide +kernel
theorem dX2_leaves_17 : decode cX2_leaves 17 = .ok (.aload_n 0, 1) := by decide +kernel
theorem dX2_leaves_18 : decode cX2_leaves 18 = .ok (.getfield 13, 3) := by decide +kernel
theorem dX2_leaves_21 : decode cX2_leaves 21 = .ok (.iconst 0, 1) := by decide +kernel
theorem dX2_leaves_22 : decode cX2_leaves 22 = .ok (.aload_n 0, 1) := by decide +kernel
theorem dX2_leaves_23 : decode cX2_leaves 23 = .ok (.getfield 13, 3) := by decide +kernel
theorem dX2_leaves_26 : decode cX2_leaves 26 = .ok (.aload_n 0, 1) := by decide +kernel
theorem dX2_leaves_27 : decode cX2_leaves 27 = .ok (.getfield 29, 3) := by decide +kernel
theorem dX2_leaves_30 : decode cX2_leaves 30 = .ok (.iaload, 1) := by decide +kernel
theorem dX2_leaves_31 : decode cX2_leaves 31 = .ok (.iastore, 1) := by decide +kernel
theorem dX2_leaves_32 : decode cX2_leaves 32 = .ok (.aload_n 0, 1) := by decide +kernel
theorem dX2_leaves_33 : decode cX2_leaves 33 = .ok (.getfield 29, 3) := by decide +kernel
theorem dX2_leaves_36 : decode cX2_leaves 36 = .ok (.iconst 1, 1) := by decide +kernel
theorem dX2_leaves_37 : decode cX2_leaves 37 = .ok (.if_icmp .le 45, 3) := by decide +kernel
theorem dX2_leaves_40 : decode cX2_leaves 40 = .ok (.iconst 1, 1) := by decide +kernel
theorem dX2_leaves_41 : decode cX2_leaves 41 = .ok (.istore_n 2, 1) := by decide +kernel
theorem dX2_leaves_42 : decode cX2_leaves 42 = .ok (.aload_n 0, 1) := by decide +kernel
theorem dX2_leaves_43 : decode cX2_leaves 43 = .ok (.iload_n 2, 1) := by decide +kernel
theorem dX2_leaves_44 : decode cX2_leaves 44 = .ok (.invokevirtual 32, 3) := by decide +kernel
theorem dX2_leaves_47 : decode cX2_leaves 47 = .ok (.aload_n 0, 1) := by decide +kernel
theorem dX2_leaves_48 : decode cX2_leaves 48 = .ok (.getfield 29, 3) := by decide +kernel
theorem dX2_leaves_51 : decode cX2_leaves 51 = .ok (.if_icmp .ge 12, 3) := by decide +kernel
theorem dX2_leaves_54 : decode cX2_leaves 54 = .ok (.aload_n 0, 1) := by decide +kernel
theorem dX2_leaves_55 : decode cX2_leaves 55 = .ok (.iload_n 2, 1) := by decide +kernel
theorem dX2_leaves_56 : decode cX2_leaves 56 = .ok (.invokevirtual 32, 3) := by decide +kernel
theorem dX2_leaves_59 : decode cX2_leaves 59 = .ok (.istore_n 2, 1) := by decide +kernel
theorem dX2_leaves_60 : decode cX2_leaves 60 = .ok (.goto (-18), 3) := by decide +kernel
theorem dX2_leaves_63 : decode cX2_leaves 63 = .ok (.iload_n 2, 1) := by decide +kernel
theorem dX2_leaves_64 : decode cX2_leaves 64 = .ok (.ifCond .le 18, 3) := by decide +kernel
theorem dX2_leaves_67 : decode cX2_leaves 67 = .ok (.aload_n 0, 1) := by decide +kernel
theorem dX2_leaves_68 : decode cX2_leaves 68 = .ok (.iconst 0, 1) := by decide +kernel
theorem dX2_leaves_69 : decode cX2_leaves 69 = .ok (.iload_n 2, 1) := by decide +kernel
theorem dX2_leaves_70 : decode cX2_leaves 70 = .ok (.iconst 0, 1) := by decide +kernel
theorem dX2_leaves_71 : decode cX2_leaves 71 = .ok (.invokevirtual 45, 3) := by decide +kernel
theorem dX2_leaves_74 : decode cX2_leaves 74 = .ok (.istore_n 3, 1) := by decide +kernel
theorem dX2_leaves_75 : decode cX2_leaves 75 = .ok (.iload_n 2, 1) := by decide +kernel
theorem dX2_leaves_76 : decode cX2_leaves 76 = .ok (.iconst 2, 1) := by decide +kernel
theorem dX2_leaves_77 : decode cX2_leaves 77 = .ok (.idiv, 1) := by decide +kernel
theorem dX2_leaves_78 : decode cX2_leaves 78 = .ok (.istore_n 2, 1) := by decide +kernel
theorem dX2_leaves_79 : decode cX2_leaves 79 = .ok (.goto (-16), 3) := by decide +kernel
theorem dX2_leaves_82 : decode cX2_leaves 82 = .ok (.iload_n 1, 1) := by decide +kernel
theorem dX2_leaves_83 : decode cX2_leaves 83 = .ok (.ireturn, 1) := by decide +kernel
theorem dX2_lays_0 : decode cX2_lays 0 = .ok (.aload_n 0, 1) := by decide +kernel
theorem dX2_lays_1 : decode cX2_lays 1 = .ok (.getfield 7, 3) := by decide +kernel
theorem dX2_lays_4 : decode cX2_lays 4 = .ok (.aload_n 0, 1) := by decide +kernel
theorem dX2_lays_5 : decode cX2_lays 5 = .ok (.getfield 49, 3) := by decide +kernel
theorem dX2_lays_8 : decode cX2_lays 8 = .ok (.iload_n 1, 1) := by decide +kernel
theorem dX2_lays_9 : decode cX2_lays 9 = .ok (.iastore, 1) := by decide +kernel
theorem dX2_lays_10 : decode cX2_lays 10 = .ok (.aload_n 0, 1) := by decide +kernel
theorem dX2_lays_11 : decode cX2_lays 11 = .ok (.getfield 13, 3) := by decide +kernel
theorem dX2_lays_14 : decode cX2_lays 14 = .ok (.aload_n 0, 1) := by decide +kernel
theorem dX2_lays_15 : decode cX2_lays 15 = .ok (.getfield 29, 3) := by decide +kernel
theorem dX2_lays_18 : decode cX2_lays 18 = .ok (.aload_n 0, 1) := by decide +kernel
theorem dX2_lays_19 : decode cX2_lays 19 = .ok (.getfield 49, 3) := by decide +kernel
theorem dX2_lays_22 : decode cX2_lays 22 = .ok (.iastore, 1) := by decide +kernel
theorem dX2_lays_23 : decode cX2_lays 23 = .ok (.aload_n 0, 1) := by decide +kernel
theorem dX2_lays_24 : decode cX2_lays 24 = .ok (.getfield 16, 3) := by decide +kernel
theorem dX2_lays_27 : decode cX2_lays 27 = .ok (.aload_n 0, 1) := by decide +kernel
theorem dX2_lays_28 : decode cX2_lays 28 = .ok (.getfield 29, 3) := by decide +kernel
theorem dX2_lays_31 : decode cX2_lays 31 = .ok (.iconst 0, 1) := by decide +kernel
theorem dX2_lays_32 : decode cX2_lays 32 = .ok (.iastore, 1) := by decide +kernel
theorem dX2_lays_33 : decode cX2_lays 33 = .ok (.aload_n 0, 1) := by decide +kernel
theorem dX2_lays_34 : decode cX2_lays 34 = .ok (.dup, 1) := by decide +kernel
theorem dX2_lays_35 : decode cX2_lays 35 = .ok (.getfield 49, 3) := by decide +kernel
theorem dX2_lays_38 : decode cX2_lays 38 = .ok (.iconst 1, 1) := by decide +kernel
theorem dX2_lays_39 : decode cX2_lays 39 = .ok (.iadd, 1) := by decide +kernel
theorem dX2_lays_40 : decode cX2_lays 40 = .ok (.putfield 49, 3) := by decide +kernel
theorem dX2_lays_43 : decode cX2_lays 43 = .ok (.aload_n 0, 1) := by decide +kernel
theorem dX2_lays_44 : decode cX2_lays 44 = .ok (.dup, 1) := by decide +kernel
theorem dX2_lays_45 : decode cX2_lays 45 = .ok (.getfield 29, 3) := by decide +kernel
theorem dX2_lays_48 : decode cX2_lays 48 = .ok (.iconst 1, 1) := by decide +kernel
theorem dX2_lays_49 : decode cX2_lays 49 = .ok (.iadd, 1) := by decide +kernel
theorem dX2_lays_50 : decode cX2_lays 50 = .ok (.putfield 29, 3) := by decide +kernel
theorem dX2_lays_53 : decode cX2_lays 53 = .ok (.return_, 1) := by decide +kernel
set_option maxRecDepth 20000 in
theorem ggX2_come_X2_isOf : GoodIn wsX2_come wsX2_isOf := goodIn_r _ [8] (by decide +kernel) (by decide +kernel)
set_option maxRecDepth 20000 in
theorem gX2_come_X2_isOf : GoodIn wsX2_come (va_wsS RX2 52 yX2_isOf wsX2_isOf) := goodIn_app (goodIn_of _ (by decide +kernel)) ggX2_come_X2_isOf
set_option maxRecDepth 20000 in
theorem ggX2_come_X2_lays : GoodIn wsX2_come wsX2_lays := goodIn_r _ [12, 13, 2, 14, 1, 4, 33, 34, 35, 36, 37, 38, 39, 40, 41, 42] (by decide +kernel) (by decide +kernel)
set_option maxRecDepth 20000 in
theorem gX2_come_X2_lays : GoodIn wsX2_come (wsV RX2 56 RX2 yX2_lays wsX2_lays) := goodIn_app (goodIn_of _ (by decide +kernel)) ggX2_come_X2_lays
set_option maxRecDepth 20000 in
theorem ggX2_come_X2_rises : GoodIn wsX2_come wsX2_rises := goodIn_r _ [18, 19, 20, 21, 7, 22, 23, 24, 25, 26, 4, 27, 28, 29, 30, 31, 13, 14, 32, 33, 34, 35, 36, 37, 38, 39, 40, 41, 42] (by decide +kernel) (by decide +kernel)
set_option maxRecDepth 20000 in
theorem gX2_come_X2_rises : GoodIn wsX2_come (wsV RX2 60 RX2 yX2_rises wsX2_rises) := goodIn_app (goodIn_of _ (by decide +kernel)) ggX2_come_X2_rises
theorem dX2_come_0 : decode cX2_come 0 = .ok (.aload_n 0, 1) := by decide +kernel
theorem dX2_come_1 : decode cX2_come 1 = .ok (.iload_n 1, 1) := by decide +kernel
theorem dX2_come_2 : decode cX2_come 2 = .ok (.iconst 0, 1) := by decide +kernel
theorem dX2_come_3 : decode cX2_come 3 = .ok (.sipush 999, 3) := by decide +kernel
theorem dX2_come_6 : decode cX2_come 6 = .ok (.invokestatic 52, 3) := by decide +kernel
theorem dX2_come_9 : decode cX2_come 9 = .ok (.ifCond .ne 7, 3) := by decide +kernel
theorem dX2_come_12 : decode cX2_come 12 = .ok (.iconst 1, 1) := by decide +kernel
theorem dX2_come_13 : decode cX2_come 13 = .ok (.goto 27, 3) := by decide +kernel
theorem dX2_come_16 : decode cX2_come 16 = .ok (.aload_n 0, 1) := by decide +kernel
theorem dX2_come_17 : decode cX2_come 17 = .ok (.getfield 29, 3) := by decide +kernel
theorem dX2_come_20 : decode cX2_come 20 = .ok (.bipush 63, 2) := by decide +kernel
theorem dX2_come_22 : decode cX2_come 22 = .ok (.if_icmp .eq 13, 3) := by decide +kernel
theorem dX2_come_25 : decode cX2_come 25 = .ok (.aload_n 0, 1) := by decide +kernel
theorem dX2_come_26 : decode cX2_come 26 = .ok (.getfield 49, 3) := by decide +kernel
theorem dX2_come_29 : decode cX2_come 29 = .ok (.sipush 500, 3) := by decide +kernel
theorem dX2_come_32 : decode cX2_come 32 = .ok (.if_icmp .ne 7, 3) := by decide +kernel
theorem dX2_come_35 : decode cX2_come 35 = .ok (.iconst 2, 1) := by decide +kernel
theorem dX2_come_36 : decode cX2_come 36 = .ok (.goto 4, 3) := by decide +kernel
theorem dX2_come_39 : decode cX2_come 39 = .ok (.iconst 0, 1) := by decide +kernel
theorem dX2_come_40 : decode cX2_come 40 = .ok (.putfield 25, 3) := by decide +kernel
theorem dX2_come_43 : decode cX2_come 43 = .ok (.aload_n 0, 1) := by decide +kernel
theorem dX2_come_44 : decode cX2_come 44 = .ok (.getfield 25, 3) := by decide +kernel
theorem dX2_come_47 : decode cX2_come 47 = .ok (.ifCond .le 5, 3) := by decide +kernel
theorem dX2_come_50 : decode cX2_come 50 = .ok (.iconst 0, 1) := by decide +kernel
theorem dX2_come_51 : decode cX2_come 51 = .ok (.ireturn, 1) := by decide +kernel
theorem dX2_come_52 : decode cX2_come 52 = .ok (.aload_n 0, 1) := by decide +kernel
theorem dX2_come_53 : decode cX2_come 53 = .ok (.iload_n 1, 1) := by decide +kernel
theorem dX2_come_54 : decode cX2_come 54 = .ok (.invokevirtual 56, 3) := by decide +kernel
theorem dX2_come_57 : decode cX2_come 57 = .ok (.aload_n 0, 1) := by decide +kernel
theorem dX2_come_58 : decode cX2_come 58 = .ok (.getfield 29, 3) := by decide +kernel
theorem dX2_come_61 : decode cX2_come 61 = .ok (.iconst 1, 1) := by decide +kernel
theorem dX2_come_62 : decode cX2_come 62 = .ok (.isub, 1) := by decide +kernel
theorem dX2_come_63 : decode cX2_come 63 = .ok (.istore_n 2, 1) := by decide +kernel
theorem dX2_come_64 : decode cX2_come 64 = .ok (.iload_n 2, 1) := by decide +kernel
theorem dX2_come_65 : decode cX2_come 65 = .ok (.iconst 2, 1) := by decide +kernel
theorem dX2_come_66 : decode cX2_come 66 = .ok (.irem, 1) := by decide +kernel
theorem dX2_come_67 : decode cX2_come 67 = .ok (.ifCond .ne 12, 3) := by decide +kernel
theorem dX2_come_70 : decode cX2_come 70 = .ok (.aload_n 0, 1) := by decide +kernel
theorem dX2_come_71 : decode cX2_come 71 = .ok (.getfield 16, 3) := by decide +kernel
theorem dX2_come_74 : decode cX2_come 74 = .ok (.iload_n 2, 1) := by decide +kernel
theorem dX2_come_75 : decode cX2_come 75 = .ok (.iconst 2, 1) := by decide +kernel
theorem dX2_come_76 : decode cX2_come 76 = .ok (.idiv, 1) := by decide +kernel
theorem dX2_come_77 : decode cX2_come 77 = .ok (.iconst 0, 1) := by decide +kernel
theorem dX2_come_78 : decode cX2_come 78 = .ok (.iastore, 1) := by decide +kernel
theorem dX2_come_79 : decode cX2_come 79 = .ok (.aload_n 0, 1) := by decide +kernel
theorem dX2_come_80 : decode cX2_come 80 = .ok (.iload_n 2, 1) := by decide +kernel
theorem dX2_come_81 : decode cX2_come 81 = .ok (.iconst 0, 1) := by decide +kernel
theorem dX2_come_82 : decode cX2_come 82 = .ok (.invokevirtual 60, 3) := by decide +kernel
theorem dX2_come_85 : decode cX2_come 85 = .ok (.istore_n 3, 1) := by decide +kernel
theorem dX2_come_86 : decode cX2_come 86 = .ok (.aload_n 0, 1) := by decide +kernel
theorem dX2_come_87 : decode cX2_come 87 = .ok (.getfield 49, 3) := by decide +kernel
theorem dX2_come_90 : decode cX2_come 90 = .ok (.iconst 1, 1) := by decide +kernel
theorem dX2_come_91 : decode cX2_come 91 = .ok (.isub, 1) := by decide +kernel
theorem dX2_come_92 : decode cX2_come 92 = .ok (.ireturn, 1) := by decide +kernel
set_option maxRecDepth 20000 in
theorem ggX2_coach_X2_isOf : GoodIn wsX2_coach wsX2_isOf := goodIn_r _ [8] (by decide +kernel) (by decide +kernel)
set_option maxRecDepth 20000 in
theorem gX2_coach_X2_isOf : GoodIn wsX2_coach (va_wsS RX2 52 yX2_isOf wsX2_isOf) := goodIn_app (goodIn_of _ (by decide +kernel)) ggX2_coach_X2_isOf
set_option maxRecDepth 20000 in
theorem ggX2_coach_X2_lays : GoodIn wsX2_coach wsX2_lays := goodIn_r _ [12, 13, 2, 14, 1, 4, 29, 30, 31, 32, 33, 34, 35, 36, 37, 38] (by decide +kernel) (by decide +kernel)
set_option maxRecDepth 20000 in
theorem gX2_coach_X2_lays : GoodIn wsX2_coach (wsV RX2 56 RX2 yX2_lays wsX2_lays) := goodIn_app (goodIn_of _ (by decide +kernel)) ggX2_coach_X2_lays
set_option maxRecDepth 20000 in
theorem ggX2_coach_X2_elder : GoodIn wsX2_coach wsX2_elder := goodIn_r _ [18, 19, 20, 21, 7, 22, 4, 29, 30, 31, 32, 33, 34, 35, 36, 37, 38] (by decide +kernel) (by decide +kernel)
set_option maxRecDepth 20000 in
theorem gX2_coach_X2_elder : GoodIn wsX2_coach (wsV RX2 42 RX2 yX2_elder wsX2_elder) := goodIn_app (goodIn_of _ (by decide +kernel)) ggX2_coach_X2_elder
set_option maxRecDepth 20000 in
theorem ggX2_coach_X2_joins : GoodIn wsX2_coach wsX2_joins := goodIn_r _ [26, 27, 13, 14, 4, 28, 29, 30, 31, 32, 33, 34, 35, 36, 37, 38] (by decide +kernel) (by decide +kernel)
set_option maxRecDepth 20000 in
theorem gX2_coach_X2_joins : GoodIn wsX2_coach (wsV RX2 45 RX2 yX2_joins wsX2_joins) := goodIn_app (goodIn_of _ (by decide +kernel)) ggX2_coach_X2_joins
theorem dX2_coach_0 : decode cX2_coach 0 = .ok (.iload_n 1, 1) := by decide +kernel
theorem dX2_coach_1 : decode cX2_coach 1 = .ok (.iconst 1, 1) := by decide +kernel
theorem dX2_coach_2 : decode cX2_coach 2 = .ok (.bipush 20, 2) := by decide +kernel
theorem dX2_coach_4 : decode cX2_coach 4 = .ok (.invokestatic 52, 3) := by decide +kernel
theorem dX2_coach_7 : decode cX2_coach 7 = .ok (.ifCond .eq 29, 3) := by decide +kernel
theorem dX2_coach_10 : decode cX2_coach 10 = .ok (.iload_n 2, 1) := by decide +kernel
theorem dX2_coach_11 : decode cX2_coach 11 = .ok (.iconst 0, 1) := by decide +kernel
theorem dX2_coach_12 : decode cX2_coach 12 = .ok (.sipush 999, 3) := by decide +kernel
theorem dX2_coach_15 : decode cX2_coach 15 = .ok (.invokestatic 52, 3) := by decide +kernel
theorem dX2_coach_18 : decode cX2_coach 18 = .ok (.ifCond .eq 18, 3) := by decide +kernel
theorem dX2_coach_21 : decode cX2_coach 21 = .ok (.iload_n 3, 1) := by decide +kernel
theorem dX2_coach_22 : decode cX2_coach 22 = .ok (.iconst 0, 1) := by decide +kernel
theorem dX2_coach_23 : decode cX2_coach 23 = .ok (.sipush 999, 3) := by decide +kernel
theorem dX2_coach_26 : decode cX2_coach 26 = .ok (.invokestatic 52, 3) := by decide +kernel
theorem dX2_coach_29 : decode cX2_coach 29 = .ok (.ifCond .eq 7, 3) := by decide +kernel
theorem dX2_coach_32 : decode cX2_coach 32 = .ok (.iconst 1, 1) := by decide +kernel
theorem dX2_coach_33 : decode cX2_coach 33 = .ok (.goto 4, 3) := by decide +kernel
theorem dX2_coach_36 : decode cX2_coach 36 = .ok (.iconst 0, 1) := by decide +kernel
theorem dX2_coach_37 : decode cX2_coach 37 = .ok (.istore 4, 2) := by decide +kernel
theorem dX2_coach_39 : decode cX2_coach 39 = .ok (.aload_n 0, 1) := by decide +kernel
theorem dX2_coach_40 : decode cX2_coach 40 = .ok (.iload 4, 2) := by decide +kernel
theorem dX2_coach_42 : decode cX2_coach 42 = .ok (.ifCond .ne 7, 3) := by decide +kernel
theorem dX2_coach_45 : decode cX2_coach 45 = .ok (.iconst 1, 1) := by decide +kernel
theorem dX2_coach_46 : decode cX2_coach 46 = .ok (.goto 31, 3) := by decide +kernel
theorem dX2_coach_49 : decode cX2_coach 49 = .ok (.aload_n 0, 1) := by decide +kernel
theorem dX2_coach_50 : decode cX2_coach 50 = .ok (.getfield 29, 3) := by decide +kernel
theorem dX2_coach_53 : decode cX2_coach 53 = .ok (.iload_n 1, 1) := by decide +kernel
theorem dX2_coach_54 : decode cX2_coach 54 = .ok (.iadd, 1) := by decide +kernel
theorem dX2_coach_55 : decode cX2_coach 55 = .ok (.bipush 63, 2) := by decide +kernel
theorem dX2_coach_57 : decode cX2_coach 57 = .ok (.if_icmp .gt 15, 3) := by decide +kernel
theorem dX2_coach_60 : decode cX2_coach 60 = .ok (.aload_n 0, 1) := by decide +kernel
theorem dX2_coach_61 : decode cX2_coach 61 = .ok (.getfield 49, 3) := by decide +kernel
theorem dX2_coach_64 : decode cX2_coach 64 = .ok (.iload_n 1, 1) := by decide +kernel
theorem dX2_coach_65 : decode cX2_coach 65 = .ok (.iadd, 1) := by decide +kernel
theorem dX2_coach_66 : decode cX2_coach 66 = .ok (.sipush 500, 3) := by decide +kernel
theorem dX2_coach_69 : decode cX2_coach 69 = .ok (.if_icmp .le 7, 3) := by decide +kernel
theorem dX2_coach_72 : decode cX2_coach 72 = .ok (.iconst 2, 1) := by decide +kernel
theorem dX2_coach_73 : decode cX2_coach 73 = .ok (.goto 4, 3) := by decide +kernel
theorem dX2_coach_76 : decode cX2_coach 76 = .ok (.iconst 0, 1) := by decide +kernel
theorem dX2_coach_77 : decode cX2_coach 77 = .ok (.putfield 25, 3) := by decide +kernel
theorem dX2_coach_80 : decode cX2_coach 80 = .ok (.aload_n 0, 1) := by decide +kernel
theorem dX2_coach_81 : decode cX2_coach 81 = .ok (.getfield 25, 3) := by decide +kernel
theorem dX2_coach_84 : decode cX2_coach 84 = .ok (.ifCond .le 5, 3) := by decide +kernel
theorem dX2_coach_87 : decode cX2_coach 87 = .ok (.iconst 0, 1) := by decide +kernel
theorem dX2_coach_88 : decode cX2_coach 88 = .ok (.ireturn, 1) := by decide +kernel
theorem dX2_coach_89 : decode cX2_coach 89 = .ok (.iconst 0, 1) := by decide +kernel
theorem dX2_coach_90 : decode cX2_coach 90 = .ok (.istore 5, 2) := by decide +kernel
theorem dX2_coach_92 : decode cX2_coach 92 = .ok (.iload 5, 2) := by decide +kernel
theorem dX2_coach_94 : decode cX2_coach 94 = .ok (.iload_n 1, 1) := by decide +kernel
theorem dX2_coach_95 : decode cX2_coach 95 = .ok (.if_icmp .ge 23, 3) := by decide +kernel
theorem dX2_coach_98 : decode cX2_coach 98 = .ok (.aload_n 0, 1) := by decide +kernel
theorem dX2_coach_99 : decode cX2_coach 99 = .ok (.iload_n 2, 1) := by decide +kernel
theorem dX2_coach_100 : decode cX2_coach 100 = .ok (.iload 5, 2) := by decide +kernel
theorem dX2_coach_102 : decode cX2_coach 102 = .ok (.iload_n 3, 1) := by decide +kernel
theorem dX2_coach_103 : decode cX2_coach 103 = .ok (.imul, 1) := by decide +kernel
theorem dX2_coach_104 : decode cX2_coach 104 = .ok (.iadd, 1) := by decide +kernel
theorem dX2_coach_105 : decode cX2_coach 105 = .ok (.sipush 1000, 3) := by decide +kernel
theorem dX2_coach_108 : decode cX2_coach 108 = .ok (.irem, 1) := by decide +kernel
theorem dX2_coach_109 : decode cX2_coach 109 = .ok (.invokevirtual 56, 3) := by decide +kernel
theorem dX2_coach_112 : decode cX2_coach 112 = .ok (.iinc 5 1, 3) := by decide +kernel
theorem dX2_coach_115 : decode cX2_coach 115 = .ok (.goto (-23), 3) := by decide +kernel
theorem dX2_coach_118 : decode cX2_coach 118 = .ok (.iconst 0, 1) := by decide +kernel
theorem dX2_coach_119 : decode cX2_coach 119 = .ok (.istore 5, 2) := by decide +kernel
theorem dX2_coach_121 : decode cX2_coach 121 = .ok (.iload 5, 2) := by decide +kernel
theorem dX2_coach_123 : decode cX2_coach 123 = .ok (.aload_n 0, 1) := by decide +kernel
theorem dX2_coach_124 : decode cX2_coach 124 = .ok (.getfield 29, 3) := by decide +kernel
theorem dX2_coach_127 : decode cX2_coach 127 = .ok (.if_icmp .ge 17, 3) := by decide +kernel
theorem dX2_coach_130 : decode cX2_coach 130 = .ok (.aload_n 0, 1) := by decide +kernel
theorem dX2_coach_131 : decode cX2_coach 131 = .ok (.getfield 16, 3) := by decide +kernel
theorem dX2_coach_134 : decode cX2_coach 134 = .ok (.iload 5, 2) := by decide +kernel
theorem dX2_coach_136 : decode cX2_coach 136 = .ok (.iconst 0, 1) := by decide +kernel
theorem dX2_coach_137 : decode cX2_coach 137 = .ok (.iastore, 1) := by decide +kernel
theorem dX2_coach_138 : decode cX2_coach 138 = .ok (.iinc 5 1, 3) := by decide +kernel
theorem dX2_coach_141 : decode cX2_coach 141 = .ok (.goto (-20), 3) := by decide +kernel
theorem dX2_coach_144 : decode cX2_coach 144 = .ok (.aload_n 0, 1) := by decide +kernel
theorem dX2_coach_145 : decode cX2_coach 145 = .ok (.getfield 29, 3) := by decide +kernel
theorem dX2_coach_148 : decode cX2_coach 148 = .ok (.iconst 1, 1) := by decide +kernel
theorem dX2_coach_149 : decode cX2_coach 149 = .ok (.isub, 1) := by decide +kernel
theorem dX2_coach_150 : decode cX2_coach 150 = .ok (.istore 5, 2) := by decide +kernel
theorem dX2_coach_152 : decode cX2_coach 152 = .ok (.iload 5, 2) := by decide +kernel
theorem dX2_coach_154 : decode cX2_coach 154 = .ok (.ifCond .le 24, 3) := by decide +kernel
theorem dX2_coach_157 : decode cX2_coach 157 = .ok (.aload_n 0, 1) := by decide +kernel
theorem dX2_coach_158 : decode cX2_coach 158 = .ok (.aload_n 0, 1) := by decide +kernel
theorem dX2_coach_159 : decode cX2_coach 159 = .ok (.iload 5, 2) := by decide +kernel
theorem dX2_coach_161 : decode cX2_coach 161 = .ok (.invokevirtual 42, 3) := by decide +kernel
theorem dX2_coach_164 : decode cX2_coach 164 = .ok (.iload 5, 2) := by decide +kernel
theorem dX2_coach_166 : decode cX2_coach 166 = .ok (.iconst 0, 1) := by decide +kernel
theorem dX2_coach_167 : decode cX2_coach 167 = .ok (.invokevirtual 45, 3) := by decide +kernel
theorem dX2_coach_170 : decode cX2_coach 170 = .ok (.istore 6, 2) := by decide +kernel
theorem dX2_coach_172 : decode cX2_coach 172 = .ok (.iinc 5 (-1), 3) := by decide +kernel
theorem dX2_coach_175 : decode cX2_coach 175 = .ok (.goto (-23), 3) := by decide +kernel
theorem dX2_coach_178 : decode cX2_coach 178 = .ok (.aload_n 0, 1) := by decide +kernel
theorem dX2_coach_179 : decode cX2_coach 179 = .ok (.getfield 29, 3) := by decide +kernel
theorem dX2_coach_182 : decode cX2_coach 182 = .ok (.iconst 1, 1) := by decide +kernel
theorem dX2_coach_183 : decode cX2_coach 183 = .ok (.isub, 1) := by decide +kernel
theorem dX2_coach_184 : decode cX2_coach 184 = .ok (.ireturn, 1) := by decide +kernel
set_option maxRecDepth 20000 in
theorem ggX2_leave_X2_leaves : GoodIn wsX2_leave wsX2_leaves := goodIn_r _ [7, 8, 1, 9, 10, 11, 6, 12, 13, 14, 15, 16, 17, 18, 19, 20, 21, 22, 23, 24, 25, 26, 27, 28, 29, 30] (by decide +kernel) (by decide +kernel)
set_option maxRecDepth 20000 in
theorem gX2_leave_X2_leaves : GoodIn wsX2_leave (wsV RX2 64 RX2 yX2_leaves wsX2_leaves) := goodIn_app (goodIn_of _ (by decide +kernel)) ggX2_leave_X2_leaves
theorem dX2_leave_0 : decode cX2_leave 0 = .ok (.aload_n 0, 1) := by decide +kernel
theorem dX2_leave_1 : decode cX2_leave 1 = .ok (.aload_n 0, 1) := by decide +kernel
theorem dX2_leave_2 : decode cX2_leave 2 = .ok (.getfield 29, 3) := by decide +kernel
theorem dX2_leave_5 : decode cX2_leave 5 = .ok (.ifCond .le 7, 3) := by decide +kernel
theorem dX2_leave_8 : decode cX2_leave 8 = .ok (.iconst 0, 1) := by decide +kernel
theorem dX2_leave_9 : decode cX2_leave 9 = .ok (.goto 4, 3) := by decide +kernel
theorem dX2_leave_12 : decode cX2_leave 12 = .ok (.iconst 1, 1) := by decide +kernel
theorem dX2_leave_13 : decode cX2_leave 13 = .ok (.putfield 25, 3) := by decide +kernel
theorem dX2_leave_16 : decode cX2_leave 16 = .ok (.aload_n 0, 1) := by decide +kernel
theorem dX2_leave_17 : decode cX2_leave 17 = .ok (.getfield 25, 3) := by decide +kernel
theorem dX2_leave_20 : decode cX2_leave 20 = .ok (.ifCond .ne 10, 3) := by decide +kernel
theorem dX2_leave_23 : decode cX2_leave 23 = .ok (.aload_n 0, 1) := by decide +kernel
theorem dX2_leave_24 : decode cX2_leave 24 = .ok (.invokevirtual 64, 3) := by decide +kernel
theorem dX2_leave_27 : decode cX2_leave 27 = .ok (.goto 4, 3) := by decide +kernel
theorem dX2_leave_30 : decode cX2_leave 30 = .ok (.iconst 0, 1) := by decide +kernel
theorem dX2_leave_31 : decode cX2_leave 31 = .ok (.ireturn, 1) := by decide +kernel
set_option maxRecDepth 20000 in
theorem ggX2_hush_X2_find : GoodIn wsX2_hush wsX2_find := goodIn_r _ [7, 8, 9, 32, 33, 34, 35, 36, 37, 38, 39, 40, 41] (by decide +kernel) (by decide +kernel)
set_option maxRecDepth 20000 in
theorem gX2_hush_X2_find : GoodIn wsX2_hush (wsV RX2 68 RX2 yX2_find wsX2_find) := goodIn_app (goodIn_of _ (by decide +kernel)) ggX2_hush_X2_find
set_option maxRecDepth 20000 in
theorem ggX2_hush_X2_isOf : GoodIn wsX2_hush wsX2_isOf := goodIn_r _ [12] (by decide +kernel) (by decide +kernel)
set_option maxRecDepth 20000 in
theorem gX2_hush_X2_isOf : GoodIn wsX2_hush (va_wsS RX2 52 yX2_isOf wsX2_isOf) := goodIn_app (goodIn_of _ (by decide +kernel)) ggX2_hush_X2_isOf
set_option maxRecDepth 20000 in
theorem ggX2_hush_X2_rises : GoodIn wsX2_hush wsX2_rises := goodIn_r _ [16, 17, 18, 19, 6, 20, 21, 22, 23, 24, 25, 26, 27, 28, 29, 30, 1, 9, 31, 32, 33, 34, 35, 36, 37, 38, 39, 40, 41] (by decide +kernel) (by decide +kernel)
set_option maxRecDepth 20000 in
theorem gX2_hush_X2_rises : GoodIn wsX2_hush (wsV RX2 60 RX2 yX2_rises wsX2_rises) := goodIn_app (goodIn_of _ (by decide +kernel)) ggX2_hush_X2_rises
theorem dX2_hush_0 : decode cX2_hush 0 = .ok (.aload_n 0, 1) := by decide +kernel
theorem dX2_hush_1 : decode cX2_hush 1 = .ok (.iload_n 1, 1) := by decide +kernel
theorem dX2_hush_2 : decode cX2_hush 2 = .ok (.invokevirtual 68, 3) := by decide +kernel
theorem dX2_hush_5 : decode cX2_hush 5 = .ok (.istore_n 3, 1) := by decide +kernel
theorem dX2_hush_6 : decode cX2_hush 6 = .ok (.aload_n 0, 1) := by decide +kernel
theorem dX2_hush_7 : decode cX2_hush 7 = .ok (.iload_n 3, 1) := by decide +kernel
theorem dX2_hush_8 : decode cX2_hush 8 = .ok (.ifCond .ge 7, 3) := by decide +kernel
theorem dX2_hush_11 : decode cX2_hush 11 = .ok (.iconst 1, 1) := by decide +kernel
theorem dX2_hush_12 : decode cX2_hush 12 = .ok (.goto 22, 3) := by decide +kernel
theorem dX2_hush_15 : decode cX2_hush 15 = .ok (.iload_n 2, 1) := by decide +kernel
theorem dX2_hush_16 : decode cX2_hush 16 = .ok (.iconst 0, 1) := by decide +kernel
theorem dX2_hush_17 : decode cX2_hush 17 = .ok (.aload_n 0, 1) := by decide +kernel
theorem dX2_hush_18 : decode cX2_hush 18 = .ok (.getfield 7, 3) := by decide +kernel
theorem dX2_hush_21 : decode cX2_hush 21 = .ok (.iload_n 1, 1) := by decide +kernel
theorem dX2_hush_22 : decode cX2_hush 22 = .ok (.iaload, 1) := by decide +kernel
theorem dX2_hush_23 : decode cX2_hush 23 = .ok (.invokestatic 52, 3) := by decide +kernel
theorem dX2_hush_26 : decode cX2_hush 26 = .ok (.ifCond .ne 7, 3) := by decide +kernel
theorem dX2_hush_29 : decode cX2_hush 29 = .ok (.iconst 2, 1) := by decide +kernel
theorem dX2_hush_30 : decode cX2_hush 30 = .ok (.goto 4, 3) := by decide +kernel
theorem dX2_hush_33 : decode cX2_hush 33 = .ok (.iconst 0, 1) := by decide +kernel
theorem dX2_hush_34 : decode cX2_hush 34 = .ok (.putfield 25, 3) := by decide +kernel
theorem dX2_hush_37 : decode cX2_hush 37 = .ok (.aload_n 0, 1) := by decide +kernel
theorem dX2_hush_38 : decode cX2_hush 38 = .ok (.getfield 25, 3) := by decide +kernel
theorem dX2_hush_41 : decode cX2_hush 41 = .ok (.ifCond .le 5, 3) := by decide +kernel
theorem dX2_hush_44 : decode cX2_hush 44 = .ok (.iconst 0, 1) := by decide +kernel
theorem dX2_hush_45 : decode cX2_hush 45 = .ok (.ireturn, 1) := by decide +kernel
theorem dX2_hush_46 : decode cX2_hush 46 = .ok (.aload_n 0, 1) := by decide +kernel
theorem dX2_hush_47 : decode cX2_hush 47 = .ok (.getfield 7, 3) := by decide +kernel
theorem dX2_hush_50 : decode cX2_hush 50 = .ok (.iload_n 1, 1) := by decide +kernel
theorem dX2_hush_51 : decode cX2_hush 51 = .ok (.iload_n 2, 1) := by decide +kernel
theorem dX2_hush_52 : decode cX2_hush 52 = .ok (.iastore, 1) := by decide +kernel
theorem dX2_hush_53 : decode cX2_hush 53 = .ok (.aload_n 0, 1) := by decide +kernel
theorem dX2_hush_54 : decode cX2_hush 54 = .ok (.iload_n 3, 1) := by decide +kernel
theorem dX2_hush_55 : decode cX2_hush 55 = .ok (.iconst 0, 1) := by decide +kernel
theorem dX2_hush_56 : decode cX2_hush 56 = .ok (.invokevirtual 60, 3) := by decide +kernel
theorem dX2_hush_59 : decode cX2_hush 59 = .ok (.ireturn, 1) := by decide +kernel
set_option maxRecDepth 20000 in
theorem ggX2_fetch_X2_find : GoodIn wsX2_fetch wsX2_find := goodIn_r _ [7, 8, 9, 33, 34, 35, 36, 37, 38, 39, 40, 41, 42] (by decide +kernel) (by decide +kernel)
set_option maxRecDepth 20000 in
theorem gX2_fetch_X2_find : GoodIn wsX2_fetch (wsV RX2 68 RX2 yX2_find wsX2_find) := goodIn_app (goodIn_of _ (by decide +kernel)) ggX2_fetch_X2_find
set_option maxRecDepth 20000 in
theorem ggX2_fetch_X2_rises : GoodIn wsX2_fetch wsX2_rises := goodIn_r _ [13, 14, 15, 16, 6, 17, 18, 19, 20, 21, 22, 23, 24, 25, 26, 2, 27, 9, 28, 33, 34, 35, 36, 37, 38, 39, 40, 41, 42] (by decide +kernel) (by decide +kernel)
set_option maxRecDepth 20000 in
theorem gX2_fetch_X2_rises : GoodIn wsX2_fetch (wsV RX2 60 RX2 yX2_rises wsX2_rises) := goodIn_app (goodIn_of _ (by decide +kernel)) ggX2_fetch_X2_rises
set_option maxRecDepth 20000 in
theorem ggX2_fetch_X2_leaves : GoodIn wsX2_fetch wsX2_leaves := goodIn_r _ [32, 9, 8, 18, 19, 20, 6, 21, 22, 23, 24, 25, 26, 2, 27, 28, 33, 34, 35, 36, 37, 38, 39, 40, 41, 42] (by decide +kernel) (by decide +kernel)
set_option maxRecDepth 20000 in
theorem gX2_fetch_X2_leaves : GoodIn wsX2_fetch (wsV RX2 64 RX2 yX2_leaves wsX2_leaves) := goodIn_app (goodIn_of _ (by decide +kernel)) ggX2_fetch_X2_leaves
theorem dX2_fetch_0 : decode cX2_fetch 0 = .ok (.aload_n 0, 1) := by decide +kernel
theorem dX2_fetch_1 : decode cX2_fetch 1 = .ok (.iload_n 1, 1) := by decide +kernel
theorem dX2_fetch_2 : decode cX2_fetch 2 = .ok (.invokevirtual 68, 3) := by decide +kernel
theorem dX2_fetch_5 : decode cX2_fetch 5 = .ok (.istore_n 2, 1) := by decide +kernel
theorem dX2_fetch_6 : decode cX2_fetch 6 = .ok (.aload_n 0, 1) := by decide +kernel
theorem dX2_fetch_7 : decode cX2_fetch 7 = .ok (.iload_n 2, 1) := by decide +kernel
theorem dX2_fetch_8 : decode cX2_fetch 8 = .ok (.ifCond .ge 7, 3) := by decide +kernel
theorem dX2_fetch_11 : decode cX2_fetch 11 = .ok (.iconst 1, 1) := by decide +kernel
theorem dX2_fetch_12 : decode cX2_fetch 12 = .ok (.goto 4, 3) := by decide +kernel
theorem dX2_fetch_15 : decode cX2_fetch 15 = .ok (.iconst 0, 1) := by decide +kernel
theorem dX2_fetch_16 : decode cX2_fetch 16 = .ok (.putfield 25, 3) := by decide +kernel
theorem dX2_fetch_19 : decode cX2_fetch 19 = .ok (.aload_n 0, 1) := by decide +kernel
theorem dX2_fetch_20 : decode cX2_fetch 20 = .ok (.getfield 25, 3) := by decide +kernel
theorem dX2_fetch_23 : decode cX2_fetch 23 = .ok (.ifCond .le 5, 3) := by decide +kernel
theorem dX2_fetch_26 : decode cX2_fetch 26 = .ok (.iconst 0, 1) := by decide +kernel
theorem dX2_fetch_27 : decode cX2_fetch 27 = .ok (.ireturn, 1) := by decide +kernel
theorem dX2_fetch_28 : decode cX2_fetch 28 = .ok (.aload_n 0, 1) := by decide +kernel
theorem dX2_fetch_29 : decode cX2_fetch 29 = .ok (.getfield 36, 3) := by decide +kernel
theorem dX2_fetch_32 : decode cX2_fetch 32 = .ok (.istore_n 3, 1) := by decide +kernel
theorem dX2_fetch_33 : decode cX2_fetch 33 = .ok (.aload_n 0, 1) := by decide +kernel
theorem dX2_fetch_34 : decode cX2_fetch 34 = .ok (.iload_n 2, 1) := by decide +kernel
theorem dX2_fetch_35 : decode cX2_fetch 35 = .ok (.iconst 1, 1) := by decide +kernel
theorem dX2_fetch_36 : decode cX2_fetch 36 = .ok (.invokevirtual 60, 3) := by decide +kernel
theorem dX2_fetch_39 : decode cX2_fetch 39 = .ok (.istore 4, 2) := by decide +kernel
theorem dX2_fetch_41 : decode cX2_fetch 41 = .ok (.aload_n 0, 1) := by decide +kernel
theorem dX2_fetch_42 : decode cX2_fetch 42 = .ok (.invokevirtual 64, 3) := by decide +kernel
theorem dX2_fetch_45 : decode cX2_fetch 45 = .ok (.istore 5, 2) := by decide +kernel
theorem dX2_fetch_47 : decode cX2_fetch 47 = .ok (.aload_n 0, 1) := by decide +kernel
theorem dX2_fetch_48 : decode cX2_fetch 48 = .ok (.getfield 36, 3) := by decide +kernel
theorem dX2_fetch_51 : decode cX2_fetch 51 = .ok (.iload_n 3, 1) := by decide +kernel
theorem dX2_fetch_52 : decode cX2_fetch 52 = .ok (.isub, 1) := by decide +kernel
theorem dX2_fetch_53 : decode cX2_fetch 53 = .ok (.ireturn, 1) := by decide +kernel
theorem dX2_dukes_0 : decode cX2_dukes 0 = .ok (.aload_n 0, 1) := by decide +kernel
theorem dX2_dukes_1 : decode cX2_dukes 1 = .ok (.iconst 0, 1) := by decide +kernel
theorem dX2_dukes_2 : decode cX2_dukes 2 = .ok (.putfield 25, 3) := by decide +kernel
theorem dX2_dukes_5 : decode cX2_dukes 5 = .ok (.aload_n 0, 1) := by decide +kernel
theorem dX2_dukes_6 : decode cX2_dukes 6 = .ok (.getfield 29, 3) := by decide +kernel
theorem dX2_dukes_9 : decode cX2_dukes 9 = .ok (.ireturn, 1) := by decide +kernel
theorem dX2_quietest_0 : decode cX2_quietest 0 = .ok (.aload_n 0, 1) := by decide +kernel
theorem dX2_quietest_1 : decode cX2_quietest 1 = .ok (.iconst 0, 1) := by decide +kernel
theorem dX2_quietest_2 : decode cX2_quietest 2 = .ok (.putfield 25, 3) := by decide +kernel
theorem dX2_quietest_5 : decode cX2_quietest 5 = .ok (.aload_n 0, 1) := by decide +kernel
theorem dX2_quietest_6 : decode cX2_quietest 6 = .ok (.getfield 29, 3) := by decide +kernel
theorem dX2_quietest_9 : decode cX2_quietest 9 = .ok (.ifCond .ne 7, 3) := by decide +kernel
theorem dX2_quietest_12 : decode cX2_quietest 12 = .ok (.iconst (-1), 1) := by decide +kernel
theorem dX2_quietest_13 : decode cX2_quietest 13 = .ok (.goto 9, 3) := by decide +kernel
theorem dX2_quietest_16 : decode cX2_quietest 16 = .ok (.aload_n 0, 1) := by decide +kernel
theorem dX2_quietest_17 : decode cX2_quietest 17 = .ok (.getfield 13, 3) := by decide +kernel
theorem dX2_quietest_20 : decode cX2_quietest 20 = .ok (.iconst 0, 1) := by decide +kernel
theorem dX2_quietest_21 : decode cX2_quietest 21 = .ok (.iaload, 1) := by decide +kernel
theorem dX2_quietest_22 : decode cX2_quietest 22 = .ok (.ireturn, 1) := by decide +kernel
set_option maxRecDepth 20000 in
theorem ggX2_berthOf_X2_find : GoodIn wsX2_berthOf wsX2_find := goodIn_r _ [6, 7, 8, 9, 10, 11, 12, 13, 14, 15, 16, 17, 18] (by decide +kernel) (by decide +kernel)
set_option maxRecDepth 20000 in
theorem gX2_berthOf_X2_find : GoodIn wsX2_berthOf (wsV RX2 68 RX2 yX2_find wsX2_find) := goodIn_app (goodIn_of _ (by decide +kernel)) ggX2_berthOf_X2_find
theorem dX2_berthOf_0 : decode cX2_berthOf 0 = .ok (.aload_n 0, 1) := by decide +kernel
theorem dX2_berthOf_1 : decode cX2_berthOf 1 = .ok (.iconst 0, 1) := by decide +kernel
theorem dX2_berthOf_2 : decode cX2_berthOf 2 = .ok (.putfield 25, 3) := by decide +kernel
theorem dX2_berthOf_5 : decode cX2_berthOf 5 = .ok (.aload_n 0, 1) := by decide +kernel
theorem dX2_berthOf_6 : decode cX2_berthOf 6 = .ok (.iload_n 1, 1) := by decide +kernel
theorem dX2_berthOf_7 : decode cX2_berthOf 7 = .ok (.invokevirtual 68, 3) := by decide +kernel
theorem dX2_berthOf_10 : decode cX2_berthOf 10 = .ok (.ireturn, 1) := by decide +kernel
set_option maxRecDepth 20000 in
theorem ggX2_isBerth_X2_isOf : GoodIn wsX2_isBerth wsX2_isOf := goodIn_r _ [6] (by decide +kernel) (by decide +kernel)
set_option maxRecDepth 20000 in
theorem gX2_isBerth_X2_isOf : GoodIn wsX2_isBerth (va_wsS RX2 52 yX2_isOf wsX2_isOf) := goodIn_app (goodIn_of _ (by decide +kernel)) ggX2_isBerth_X2_isOf
theorem dX2_isBerth_0 : decode cX2_isBerth 0 = .ok (.aload_n 0, 1) := by decide +kernel
theorem dX2_isBerth_1 : decode cX2_isBerth 1 = .ok (.iload_n 1, 1) := by decide +kernel
theorem dX2_isBerth_2 : decode cX2_isBerth 2 = .ok (.iconst 0, 1) := by decide +kernel
theorem dX2_isBerth_3 : decode cX2_isBerth 3 = .ok (.aload_n 0, 1) := by decide +kernel
theorem dX2_isBerth_4 : decode cX2_isBerth 4 = .ok (.getfield 29, 3) := by decide +kernel
theorem dX2_isBerth_7 : decode cX2_isBerth 7 = .ok (.iconst 1, 1) := by decide +kernel
theorem dX2_isBerth_8 : decode cX2_isBerth 8 = .ok (.isub, 1) := by decide +kernel
theorem dX2_isBerth_9 : decode cX2_isBerth 9 = .ok (.invokestatic 52, 3) := by decide +kernel
theorem dX2_isBerth_12 : decode cX2_isBerth 12 = .ok (.ifCond .eq 7, 3) := by decide +kernel
theorem dX2_isBerth_15 : decode cX2_isBerth 15 = .ok (.iconst 0, 1) := by decide +kernel
theorem dX2_isBerth_16 : decode cX2_isBerth 16 = .ok (.goto 4, 3) := by decide +kernel
theorem dX2_isBerth_19 : decode cX2_isBerth 19 = .ok (.iconst 1, 1) := by decide +kernel
theorem dX2_isBerth_20 : decode cX2_isBerth 20 = .ok (.putfield 25, 3) := by decide +kernel
theorem dX2_isBerth_23 : decode cX2_isBerth 23 = .ok (.aload_n 0, 1) := by decide +kernel
theorem dX2_isBerth_24 : decode cX2_isBerth 24 = .ok (.getfield 25, 3) := by decide +kernel
theorem dX2_isBerth_27 : decode cX2_isBerth 27 = .ok (.ifCond .ne 7, 3) := by decide +kernel
theorem dX2_isBerth_30 : decode cX2_isBerth 30 = .ok (.iconst 1, 1) := by decide +kernel
theorem dX2_isBerth_31 : decode cX2_isBerth 31 = .ok (.goto 4, 3) := by decide +kernel
theorem dX2_isBerth_34 : decode cX2_isBerth 34 = .ok (.iconst 0, 1) := by decide +kernel
theorem dX2_isBerth_35 : decode cX2_isBerth 35 = .ok (.ireturn, 1) := by decide +kernel
set_option maxRecDepth 20000 in
theorem ggX2_dukeIn_X2_isBerth : GoodIn wsX2_dukeIn wsX2_isBerth := goodIn_r _ [6, 7, 8, 9, 10, 5, 11, 12, 13, 14, 15, 16, 17, 18, 19, 20, 21] (by decide +kernel) (by decide +kernel)
set_option maxRecDepth 20000 in
theorem gX2_dukeIn_X2_isBerth : GoodIn wsX2_dukeIn (wsV RX2 71 RX2 yX2_isBerth wsX2_isBerth) := goodIn_app (goodIn_of _ (by decide +kernel)) ggX2_dukeIn_X2_isBerth
theorem dX2_dukeIn_0 : decode cX2_dukeIn 0 = .ok (.aload_n 0, 1) := by decide +kernel
theorem dX2_dukeIn_1 : decode cX2_dukeIn 1 = .ok (.iload_n 1, 1) := by decide +kernel
theorem dX2_dukeIn_2 : decode cX2_dukeIn 2 = .ok (.invokevirtual 71, 3) := by decide +kernel
theorem dX2_dukeIn_5 : decode cX2_dukeIn 5 = .ok (.ifCond .eq 12, 3) := by decide +kernel
theorem dX2_dukeIn_8 : decode cX2_dukeIn 8 = .ok (.aload_n 0, 1) := by decide +kernel
theorem dX2_dukeIn_9 : decode cX2_dukeIn 9 = .ok (.getfield 13, 3) := by decide +kernel
theorem dX2_dukeIn_12 : decode cX2_dukeIn 12 = .ok (.iload_n 1, 1) := by decide +kernel
theorem dX2_dukeIn_13 : decode cX2_dukeIn 13 = .ok (.iaload, 1) := by decide +kernel
theorem dX2_dukeIn_14 : decode cX2_dukeIn 14 = .ok (.goto 4, 3) := by decide +kernel
theorem dX2_dukeIn_17 : decode cX2_dukeIn 17 = .ok (.iconst 0, 1) := by decide +kernel
theorem dX2_dukeIn_18 : decode cX2_dukeIn 18 = .ok (.ireturn, 1) := by decide +kernel
set_option maxRecDepth 20000 in
theorem ggX2_loudnessIn_X2_isBerth : GoodIn wsX2_loudnessIn wsX2_isBerth := goodIn_r _ [7, 8, 9, 10, 11, 6, 12, 13, 14, 15, 16, 17, 18, 19, 20, 21, 22] (by decide +kernel) (by decide +kernel)
set_option maxRecDepth 20000 in
theorem gX2_loudnessIn_X2_isBerth : GoodIn wsX2_loudnessIn (wsV RX2 71 RX2 yX2_isBerth wsX2_isBerth) := goodIn_app (goodIn_of _ (by decide +kernel)) ggX2_loudnessIn_X2_isBerth
theorem dX2_loudnessIn_0 : decode cX2_loudnessIn 0 = .ok (.aload_n 0, 1) := by decide +kernel
theorem dX2_loudnessIn_1 : decode cX2_loudnessIn 1 = .ok (.iload_n 1, 1) := by decide +kernel
theorem dX2_loudnessIn_2 : decode cX2_loudnessIn 2 = .ok (.invokevirtual 71, 3) := by decide +kernel
theorem dX2_loudnessIn_5 : decode cX2_loudnessIn 5 = .ok (.ifCond .eq 17, 3) := by decide +kernel
theorem dX2_loudnessIn_8 : decode cX2_loudnessIn 8 = .ok (.aload_n 0, 1) := by decide +kernel
theorem dX2_loudnessIn_9 : decode cX2_loudnessIn 9 = .ok (.getfield 7, 3) := by decide +kernel
theorem dX2_loudnessIn_12 : decode cX2_loudnessIn 12 = .ok (.aload_n 0, 1) := by decide +kernel
theorem dX2_loudnessIn_13 : decode cX2_loudnessIn 13 = .ok (.getfield 13, 3) := by decide +kernel
theorem dX2_loudnessIn_16 : decode cX2_loudnessIn 16 = .ok (.iload_n 1, 1) := by decide +kernel
theorem dX2_loudnessIn_17 : decode cX2_loudnessIn 17 = .ok (.iaload, 1) := by decide +kernel
theorem dX2_loudnessIn_18 : decode cX2_loudnessIn 18 = .ok (.iaload, 1) := by decide +kernel
theorem dX2_loudnessIn_19 : decode cX2_loudnessIn 19 = .ok (.goto 4, 3) := by decide +kernel
theorem dX2_loudnessIn_22 : decode cX2_loudnessIn 22 = .ok (.iconst 0, 1) := by decide +kernel
theorem dX2_loudnessIn_23 : decode cX2_loudnessIn 23 = .ok (.ireturn, 1) := by decide +kernel
set_option maxRecDepth 20000 in
theorem ggX2_sideOf_X2_isBerth : GoodIn wsX2_sideOf wsX2_isBerth := goodIn_r _ [6, 7, 8, 9, 10, 5, 11, 12, 13, 14, 15, 16, 17, 18, 19, 20, 21] (by decide +kernel) (by decide +kernel)
set_option maxRecDepth 20000 in
theorem gX2_sideOf_X2_isBerth : GoodIn wsX2_sideOf (wsV RX2 71 RX2 yX2_isBerth wsX2_isBerth) := goodIn_app (goodIn_of _ (by decide +kernel)) ggX2_sideOf_X2_isBerth
theorem dX2_sideOf_0 : decode cX2_sideOf 0 = .ok (.aload_n 0, 1) := by decide +kernel
theorem dX2_sideOf_1 : decode cX2_sideOf 1 = .ok (.iload_n 1, 1) := by decide +kernel
theorem dX2_sideOf_2 : decode cX2_sideOf 2 = .ok (.invokevirtual 71, 3) := by decide +kernel
theorem dX2_sideOf_5 : decode cX2_sideOf 5 = .ok (.ifCond .eq 12, 3) := by decide +kernel
theorem dX2_sideOf_8 : decode cX2_sideOf 8 = .ok (.aload_n 0, 1) := by decide +kernel
theorem dX2_sideOf_9 : decode cX2_sideOf 9 = .ok (.getfield 16, 3) := by decide +kernel
theorem dX2_sideOf_12 : decode cX2_sideOf 12 = .ok (.iload_n 1, 1) := by decide +kernel
theorem dX2_sideOf_13 : decode cX2_sideOf 13 = .ok (.iaload, 1) := by decide +kernel
theorem dX2_sideOf_14 : decode cX2_sideOf 14 = .ok (.goto 4, 3) := by decide +kernel
theorem dX2_sideOf_17 : decode cX2_sideOf 17 = .ok (.iconst 0, 1) := by decide +kernel
theorem dX2_sideOf_18 : decode cX2_sideOf 18 = .ok (.ireturn, 1) := by decide +kernel
set_option maxRecDepth 20000 in
theorem ggX2_elderOf_X2_isBerth : GoodIn wsX2_elderOf wsX2_isBerth := goodIn_r _ [5, 6, 7, 8, 9, 4, 10, 20, 21, 22, 23, 24, 25, 26, 27, 28, 29] (by decide +kernel) (by decide +kernel)
set_option maxRecDepth 20000 in
theorem gX2_elderOf_X2_isBerth : GoodIn wsX2_elderOf (wsV RX2 71 RX2 yX2_isBerth wsX2_isBerth) := goodIn_app (goodIn_of _ (by decide +kernel)) ggX2_elderOf_X2_isBerth
set_option maxRecDepth 20000 in
theorem ggX2_elderOf_X2_elder : GoodIn wsX2_elderOf wsX2_elder := goodIn_r _ [14, 15, 16, 17, 4, 18, 19, 20, 21, 22, 23, 24, 25, 26, 27, 28, 29] (by decide +kernel) (by decide +kernel)
set_option maxRecDepth 20000 in
theorem gX2_elderOf_X2_elder : GoodIn wsX2_elderOf (wsV RX2 42 RX2 yX2_elder wsX2_elder) := goodIn_app (goodIn_of _ (by decide +kernel)) ggX2_elderOf_X2_elder
theorem dX2_elderOf_0 : decode cX2_elderOf 0 = .ok (.aload_n 0, 1) := by decide +kernel
theorem dX2_elderOf_1 : decode cX2_elderOf 1 = .ok (.iload_n 1, 1) := by decide +kernel
theorem dX2_elderOf_2 : decode cX2_elderOf 2 = .ok (.invokevirtual 71, 3) := by decide +kernel
theorem dX2_elderOf_5 : decode cX2_elderOf 5 = .ok (.ifCond .ne 7, 3) := by decide +kernel
theorem dX2_elderOf_8 : decode cX2_elderOf 8 = .ok (.iconst 0, 1) := by decide +kernel
theorem dX2_elderOf_9 : decode cX2_elderOf 9 = .ok (.goto 16, 3) := by decide +kernel
theorem dX2_elderOf_12 : decode cX2_elderOf 12 = .ok (.iload_n 1, 1) := by decide +kernel
theorem dX2_elderOf_13 : decode cX2_elderOf 13 = .ok (.ifCond .ne 7, 3) := by decide +kernel
theorem dX2_elderOf_16 : decode cX2_elderOf 16 = .ok (.iconst (-1), 1) := by decide +kernel
theorem dX2_elderOf_17 : decode cX2_elderOf 17 = .ok (.goto 8, 3) := by decide +kernel
theorem dX2_elderOf_20 : decode cX2_elderOf 20 = .ok (.aload_n 0, 1) := by decide +kernel
theorem dX2_elderOf_21 : decode cX2_elderOf 21 = .ok (.iload_n 1, 1) := by decide +kernel
theorem dX2_elderOf_22 : decode cX2_elderOf 22 = .ok (.invokevirtual 42, 3) := by decide +kernel
theorem dX2_elderOf_25 : decode cX2_elderOf 25 = .ok (.ireturn, 1) := by decide +kernel
set_option maxRecDepth 20000 in
theorem ggX2_followersOf_X2_isBerth : GoodIn wsX2_followersOf wsX2_isBerth := goodIn_r _ [6, 1, 7, 8, 9, 5, 10, 20, 21, 22, 23, 24, 25, 26, 27, 28, 29] (by decide +kernel) (by decide +kernel)
set_option maxRecDepth 20000 in
theorem gX2_followersOf_X2_isBerth : GoodIn wsX2_followersOf (wsV RX2 71 RX2 yX2_isBerth wsX2_isBerth) := goodIn_app (goodIn_of _ (by decide +kernel)) ggX2_followersOf_X2_isBerth
set_option maxRecDepth 20000 in
theorem ggX2_followersOf_X2_elder : GoodIn wsX2_followersOf wsX2_elder := goodIn_r _ [14, 15, 16, 17, 5, 18, 19, 20, 21, 22, 23, 24, 25, 26, 27, 28, 29] (by decide +kernel) (by decide +kernel)
set_option maxRecDepth 20000 in
theorem gX2_followersOf_X2_elder : GoodIn wsX2_followersOf (wsV RX2 42 RX2 yX2_elder wsX2_elder) := goodIn_app (goodIn_of _ (by decide +kernel)) ggX2_followersOf_X2_elder
theorem dX2_followersOf_0 : decode cX2_followersOf 0 = .ok (.iconst 0, 1) := by decide +kernel
theorem dX2_followersOf_1 : decode cX2_followersOf 1 = .ok (.istore_n 2, 1) := by decide +kernel
theorem dX2_followersOf_2 : decode cX2_followersOf 2 = .ok (.aload_n 0, 1) := by decide +kernel
theorem dX2_followersOf_3 : decode cX2_followersOf 3 = .ok (.iload_n 1, 1) := by decide +kernel
theorem dX2_followersOf_4 : decode cX2_followersOf 4 = .ok (.invokevirtual 71, 3) := by decide +kernel
theorem dX2_followersOf_7 : decode cX2_followersOf 7 = .ok (.istore_n 3, 1) := by decide +kernel
theorem dX2_followersOf_8 : decode cX2_followersOf 8 = .ok (.iconst 1, 1) := by decide +kernel
theorem dX2_followersOf_9 : decode cX2_followersOf 9 = .ok (.istore 4, 2) := by decide +kernel
theorem dX2_followersOf_11 : decode cX2_followersOf 11 = .ok (.iload 4, 2) := by decide +kernel
theorem dX2_followersOf_13 : decode cX2_followersOf 13 = .ok (.aload_n 0, 1) := by decide +kernel
theorem dX2_followersOf_14 : decode cX2_followersOf 14 = .ok (.getfield 29, 3) := by decide +kernel
theorem dX2_followersOf_17 : decode cX2_followersOf 17 = .ok (.if_icmp .ge 31, 3) := by decide +kernel
theorem dX2_followersOf_20 : decode cX2_followersOf 20 = .ok (.iload_n 3, 1) := by decide +kernel
theorem dX2_followersOf_21 : decode cX2_followersOf 21 = .ok (.ifCond .eq 27, 3) := by decide +kernel
theorem dX2_followersOf_24 : decode cX2_followersOf 24 = .ok (.iload_n 2, 1) := by decide +kernel
theorem dX2_followersOf_25 : decode cX2_followersOf 25 = .ok (.aload_n 0, 1) := by decide +kernel
theorem dX2_followersOf_26 : decode cX2_followersOf 26 = .ok (.iload 4, 2) := by decide +kernel
theorem dX2_followersOf_28 : decode cX2_followersOf 28 = .ok (.invokevirtual 42, 3) := by decide +kernel
theorem dX2_followersOf_31 : decode cX2_followersOf 31 = .ok (.iload_n 1, 1) := by decide +kernel
theorem dX2_followersOf_32 : decode cX2_followersOf 32 = .ok (.if_icmp .ne 7, 3) := by decide +kernel
theorem dX2_followersOf_35 : decode cX2_followersOf 35 = .ok (.iconst 1, 1) := by decide +kernel
theorem dX2_followersOf_36 : decode cX2_followersOf 36 = .ok (.goto 4, 3) := by decide +kernel
theorem dX2_followersOf_39 : decode cX2_followersOf 39 = .ok (.iconst 0, 1) := by decide +kernel
theorem dX2_followersOf_40 : decode cX2_followersOf 40 = .ok (.iadd, 1) := by decide +kernel
theorem dX2_followersOf_41 : decode cX2_followersOf 41 = .ok (.istore_n 2, 1) := by decide +kernel
theorem dX2_followersOf_42 : decode cX2_followersOf 42 = .ok (.iinc 4 1, 3) := by decide +kernel
theorem dX2_followersOf_45 : decode cX2_followersOf 45 = .ok (.goto (-34), 3) := by decide +kernel
theorem dX2_followersOf_48 : decode cX2_followersOf 48 = .ok (.iload_n 2, 1) := by decide +kernel
theorem dX2_followersOf_49 : decode cX2_followersOf 49 = .ok (.ireturn, 1) := by decide +kernel
theorem dX2_flipped_0 : decode cX2_flipped 0 = .ok (.aload_n 0, 1) := by decide +kernel
theorem dX2_flipped_1 : decode cX2_flipped 1 = .ok (.iconst 0, 1) := by decide +kernel
theorem dX2_flipped_2 : decode cX2_flipped 2 = .ok (.putfield 25, 3) := by decide +kernel
theorem dX2_flipped_5 : decode cX2_flipped 5 = .ok (.iconst 0, 1) := by decide +kernel
theorem dX2_flipped_6 : decode cX2_flipped 6 = .ok (.istore_n 1, 1) := by decide +kernel
theorem dX2_flipped_7 : decode cX2_flipped 7 = .ok (.iconst 0, 1) := by decide +kernel
theorem dX2_flipped_8 : decode cX2_flipped 8 = .ok (.istore_n 2, 1) := by decide +kernel
theorem dX2_flipped_9 : decode cX2_flipped 9 = .ok (.iload_n 2, 1) := by decide +kernel
theorem dX2_flipped_10 : decode cX2_flipped 10 = .ok (.aload_n 0, 1) := by decide +kernel
theorem dX2_flipped_11 : decode cX2_flipped 11 = .ok (.getfield 29, 3) := by decide +kernel
theorem dX2_flipped_14 : decode cX2_flipped 14 = .ok (.if_icmp .ge 18, 3) := by decide +kernel
theorem dX2_flipped_17 : decode cX2_flipped 17 = .ok (.iload_n 1, 1) := by decide +kernel
theorem dX2_flipped_18 : decode cX2_flipped 18 = .ok (.aload_n 0, 1) := by decide +kernel
theorem dX2_flipped_19 : decode cX2_flipped 19 = .ok (.getfield 16, 3) := by decide +kernel
theorem dX2_flipped_22 : decode cX2_flipped 22 = .ok (.iload_n 2, 1) := by decide +kernel
theorem dX2_flipped_23 : decode cX2_flipped 23 = .ok (.iaload, 1) := by decide +kernel
theorem dX2_flipped_24 : decode cX2_flipped 24 = .ok (.iadd, 1) := by decide +kernel
theorem dX2_flipped_25 : decode cX2_flipped 25 = .ok (.istore_n 1, 1) := by decide +kernel
theorem dX2_flipped_26 : decode cX2_flipped 26 = .ok (.iinc 2 1, 3) := by decide +kernel
theorem dX2_flipped_29 : decode cX2_flipped 29 = .ok (.goto (-20), 3) := by decide +kernel
theorem dX2_flipped_32 : decode cX2_flipped 32 = .ok (.iload_n 1, 1) := by decide +kernel
theorem dX2_flipped_33 : decode cX2_flipped 33 = .ok (.ireturn, 1) := by decide +kernel
theorem dX2_comparisons_0 : decode cX2_comparisons 0 = .ok (.aload_n 0, 1) := by decide +kernel
theorem dX2_comparisons_1 : decode cX2_comparisons 1 = .ok (.iconst 0, 1) := by decide +kernel
theorem dX2_comparisons_2 : decode cX2_comparisons 2 = .ok (.putfield 25, 3) := by decide +kernel
theorem dX2_comparisons_5 : decode cX2_comparisons 5 = .ok (.aload_n 0, 1) := by decide +kernel
theorem dX2_comparisons_6 : decode cX2_comparisons 6 = .ok (.getfield 36, 3) := by decide +kernel
theorem dX2_comparisons_9 : decode cX2_comparisons 9 = .ok (.ireturn, 1) := by decide +kernel
theorem dX2_changes_0 : decode cX2_changes 0 = .ok (.aload_n 0, 1) := by decide +kernel
theorem dX2_changes_1 : decode cX2_changes 1 = .ok (.iconst 0, 1) := by decide +kernel
theorem dX2_changes_2 : decode cX2_changes 2 = .ok (.putfield 25, 3) := by decide +kernel
theorem dX2_changes_5 : decode cX2_changes 5 = .ok (.aload_n 0, 1) := by decide +kernel
theorem dX2_changes_6 : decode cX2_changes 6 = .ok (.getfield 39, 3) := by decide +kernel
theorem dX2_changes_9 : decode cX2_changes 9 = .ok (.ireturn, 1) := by decide +kernel
set_option maxRecDepth 20000 in
theorem ggX2_thought_X2_leaves : GoodIn wsX2_thought wsX2_leaves := goodIn_r _ [12, 5, 1, 13, 14, 15, 11, 16, 7, 17, 18, 19, 20, 2, 21, 3, 22, 23, 24, 25, 26, 27, 28, 29, 30, 31] (by decide +kernel) (by decide +kernel)
set_option maxRecDepth 20000 in
theorem gX2_thought_X2_leaves : GoodIn wsX2_thought (wsV RX2 64 RX2 yX2_leaves wsX2_leaves) := goodIn_app (goodIn_of _ (by decide +kernel)) ggX2_thought_X2_leaves
theorem dX2_thought_0 : decode cX2_thought 0 = .ok (.aload_n 0, 1) := by decide +kernel
theorem dX2_thought_1 : decode cX2_thought 1 = .ok (.getfield 29, 3) := by decide +kernel
theorem dX2_thought_4 : decode cX2_thought 4 = .ok (.istore_n 3, 1) := by decide +kernel
theorem dX2_thought_5 : decode cX2_thought 5 = .ok (.aload_n 0, 1) := by decide +kernel
theorem dX2_thought_6 : decode cX2_thought 6 = .ok (.getfield 36, 3) := by decide +kernel
theorem dX2_thought_9 : decode cX2_thought 9 = .ok (.istore 4, 2) := by decide +kernel
theorem dX2_thought_11 : decode cX2_thought 11 = .ok (.aload_n 0, 1) := by decide +kernel
theorem dX2_thought_12 : decode cX2_thought 12 = .ok (.getfield 39, 3) := by decide +kernel
theorem dX2_thought_15 : decode cX2_thought 15 = .ok (.istore 5, 2) := by decide +kernel
theorem dX2_thought_17 : decode cX2_thought 17 = .ok (.iconst (-1), 1) := by decide +kernel
theorem dX2_thought_18 : decode cX2_thought 18 = .ok (.istore 6, 2) := by decide +kernel
theorem dX2_thought_20 : decode cX2_thought 20 = .ok (.iconst 0, 1) := by decide +kernel
theorem dX2_thought_21 : decode cX2_thought 21 = .ok (.istore 7, 2) := by decide +kernel
theorem dX2_thought_23 : decode cX2_thought 23 = .ok (.iload 7, 2) := by decide +kernel
theorem dX2_thought_25 : decode cX2_thought 25 = .ok (.iload_n 3, 1) := by decide +kernel
theorem dX2_thought_26 : decode cX2_thought 26 = .ok (.if_icmp .ge 37, 3) := by decide +kernel
theorem dX2_thought_29 : decode cX2_thought 29 = .ok (.aload_n 0, 1) := by decide +kernel
theorem dX2_thought_30 : decode cX2_thought 30 = .ok (.getfield 19, 3) := by decide +kernel
theorem dX2_thought_33 : decode cX2_thought 33 = .ok (.iload 7, 2) := by decide +kernel
theorem dX2_thought_35 : decode cX2_thought 35 = .ok (.aload_n 0, 1) := by decide +kernel
theorem dX2_thought_36 : decode cX2_thought 36 = .ok (.getfield 13, 3) := by decide +kernel
theorem dX2_thought_39 : decode cX2_thought 39 = .ok (.iload 7, 2) := by decide +kernel
theorem dX2_thought_41 : decode cX2_thought 41 = .ok (.iaload, 1) := by decide +kernel
theorem dX2_thought_42 : decode cX2_thought 42 = .ok (.iastore, 1) := by decide +kernel
theorem dX2_thought_43 : decode cX2_thought 43 = .ok (.aload_n 0, 1) := by decide +kernel
theorem dX2_thought_44 : decode cX2_thought 44 = .ok (.getfield 22, 3) := by decide +kernel
theorem dX2_thought_47 : decode cX2_thought 47 = .ok (.iload 7, 2) := by decide +kernel
theorem dX2_thought_49 : decode cX2_thought 49 = .ok (.aload_n 0, 1) := by decide +kernel
theorem dX2_thought_50 : decode cX2_thought 50 = .ok (.getfield 16, 3) := by decide +kernel
theorem dX2_thought_53 : decode cX2_thought 53 = .ok (.iload 7, 2) := by decide +kernel
theorem dX2_thought_55 : decode cX2_thought 55 = .ok (.iaload, 1) := by decide +kernel
theorem dX2_thought_56 : decode cX2_thought 56 = .ok (.iastore, 1) := by decide +kernel
theorem dX2_thought_57 : decode cX2_thought 57 = .ok (.iinc 7 1, 3) := by decide +kernel
theorem dX2_thought_60 : decode cX2_thought 60 = .ok (.goto (-37), 3) := by decide +kernel
theorem dX2_thought_63 : decode cX2_thought 63 = .ok (.iconst 0, 1) := by decide +kernel
theorem dX2_thought_64 : decode cX2_thought 64 = .ok (.istore 7, 2) := by decide +kernel
theorem dX2_thought_66 : decode cX2_thought 66 = .ok (.iload 7, 2) := by decide +kernel
theorem dX2_thought_68 : decode cX2_thought 68 = .ok (.iload_n 1, 1) := by decide +kernel
theorem dX2_thought_69 : decode cX2_thought 69 = .ok (.if_icmp .gt 15, 3) := by decide +kernel
theorem dX2_thought_72 : decode cX2_thought 72 = .ok (.aload_n 0, 1) := by decide +kernel
theorem dX2_thought_73 : decode cX2_thought 73 = .ok (.invokevirtual 64, 3) := by decide +kernel
theorem dX2_thought_76 : decode cX2_thought 76 = .ok (.istore 6, 2) := by decide +kernel
theorem dX2_thought_78 : decode cX2_thought 78 = .ok (.iinc 7 1, 3) := by decide +kernel
theorem dX2_thought_81 : decode cX2_thought 81 = .ok (.goto (-15), 3) := by decide +kernel
theorem dX2_thought_84 : decode cX2_thought 84 = .ok (.aload_n 0, 1) := by decide +kernel
theorem dX2_thought_85 : decode cX2_thought 85 = .ok (.getfield 36, 3) := by decide +kernel
theorem dX2_thought_88 : decode cX2_thought 88 = .ok (.iload 4, 2) := by decide +kernel
theorem dX2_thought_90 : decode cX2_thought 90 = .ok (.isub, 1) := by decide +kernel
theorem dX2_thought_91 : decode cX2_thought 91 = .ok (.istore 7, 2) := by decide +kernel
theorem dX2_thought_93 : decode cX2_thought 93 = .ok (.iconst 0, 1) := by decide +kernel
theorem dX2_thought_94 : decode cX2_thought 94 = .ok (.istore 8, 2) := by decide +kernel
theorem dX2_thought_96 : decode cX2_thought 96 = .ok (.iload 8, 2) := by decide +kernel
theorem dX2_thought_98 : decode cX2_thought 98 = .ok (.iload_n 3, 1) := by decide +kernel
theorem dX2_thought_99 : decode cX2_thought 99 = .ok (.if_icmp .ge 37, 3) := by decide +kernel
theorem dX2_thought_102 : decode cX2_thought 102 = .ok (.aload_n 0, 1) := by decide +kernel
theorem dX2_thought_103 : decode cX2_thought 103 = .ok (.getfield 13, 3) := by decide +kernel
theorem dX2_thought_106 : decode cX2_thought 106 = .ok (.iload 8, 2) := by decide +kernel
theorem dX2_thought_108 : decode cX2_thought 108 = .ok (.aload_n 0, 1) := by decide +kernel
theorem dX2_thought_109 : decode cX2_thought 109 = .ok (.getfield 19, 3) := by decide +kernel
theorem dX2_thought_112 : decode cX2_thought 112 = .ok (.iload 8, 2) := by decide +kernel
theorem dX2_thought_114 : decode cX2_thought 114 = .ok (.iaload, 1) := by decide +kernel
theorem dX2_thought_115 : decode cX2_thought 115 = .ok (.iastore, 1) := by decide +kernel
theorem dX2_thought_116 : decode cX2_thought 116 = .ok (.aload_n 0, 1) := by decide +kernel
theorem dX2_thought_117 : decode cX2_thought 117 = .ok (.getfield 16, 3) := by decide +kernel
theorem dX2_thought_120 : decode cX2_thought 120 = .ok (.iload 8, 2) := by decide +kernel
theorem dX2_thought_122 : decode cX2_thought 122 = .ok (.aload_n 0, 1) := by decide +kernel
theorem dX2_thought_123 : decode cX2_thought 123 = .ok (.getfield 22, 3) := by decide +kernel
theorem dX2_thought_126 : decode cX2_thought 126 = .ok (.iload 8, 2) := by decide +kernel
theorem dX2_thought_128 : decode cX2_thought 128 = .ok (.iaload, 1) := by decide +kernel
theorem dX2_thought_129 : decode cX2_thought 129 = .ok (.iastore, 1) := by decide +kernel
theorem dX2_thought_130 : decode cX2_thought 130 = .ok (.iinc 8 1, 3) := by decide +kernel
theorem dX2_thought_133 : decode cX2_thought 133 = .ok (.goto (-37), 3) := by decide +kernel
theorem dX2_thought_136 : decode cX2_thought 136 = .ok (.aload_n 0, 1) := by decide +kernel
theorem dX2_thought_137 : decode cX2_thought 137 = .ok (.iload_n 3, 1) := by decide +kernel
theorem dX2_thought_138 : decode cX2_thought 138 = .ok (.putfield 29, 3) := by decide +kernel
theorem dX2_thought_141 : decode cX2_thought 141 = .ok (.aload_n 0, 1) := by decide +kernel
theorem dX2_thought_142 : decode cX2_thought 142 = .ok (.iload 4, 2) := by decide +kernel
theorem dX2_thought_144 : decode cX2_thought 144 = .ok (.putfield 36, 3) := by decide +kernel
theorem dX2_thought_147 : decode cX2_thought 147 = .ok (.aload_n 0, 1) := by decide +kernel
theorem dX2_thought_148 : decode cX2_thought 148 = .ok (.iload 5, 2) := by decide +kernel
theorem dX2_thought_150 : decode cX2_thought 150 = .ok (.putfield 39, 3) := by decide +kernel
theorem dX2_thought_153 : decode cX2_thought 153 = .ok (.iload_n 2, 1) := by decide +kernel
theorem dX2_thought_154 : decode cX2_thought 154 = .ok (.ifCond .eq 8, 3) := by decide +kernel
theorem dX2_thought_157 : decode cX2_thought 157 = .ok (.iload 6, 2) := by decide +kernel
theorem dX2_thought_159 : decode cX2_thought 159 = .ok (.goto 5, 3) := by decide +kernel
theorem dX2_thought_162 : decode cX2_thought 162 = .ok (.iload 7, 2) := by decide +kernel
theorem dX2_thought_164 : decode cX2_thought 164 = .ok (.ireturn, 1) := by decide +kernel
set_option maxRecDepth 20000 in
theorem ggX2_comparisonsToEmpty_X2_thought : GoodIn wsX2_comparisonsToEmpty wsX2_thought := goodIn_r _ [7, 2, 8, 9, 10, 11, 12, 13, 14, 15, 16, 6, 17, 18, 19, 20, 21, 22, 23, 24, 25, 26, 27, 28, 29, 30, 31, 32, 33, 34, 35, 36] (by decide +kernel) (by decide +kernel)
set_option maxRecDepth 20000 in
theorem gX2_comparisonsToEmpty_X2_thought : GoodIn wsX2_comparisonsToEmpty (wsV RX2 75 RX2 yX2_thought wsX2_thought) := goodIn_app (goodIn_of _ (by decide +kernel)) ggX2_comparisonsToEmpty_X2_thought
theorem dX2_comparisonsToEmpty_0 : decode cX2_comparisonsToEmpty 0 = .ok (.aload_n 0, 1) := by decide +kernel
theorem dX2_comparisonsToEmpty_1 : decode cX2_comparisonsToEmpty 1 = .ok (.iconst 0, 1) := by decide +kernel
theorem dX2_comparisonsToEmpty_2 : decode cX2_comparisonsToEmpty 2 = .ok (.putfield 25, 3) := by decide +kernel
theorem dX2_comparisonsToEmpty_5 : decode cX2_comparisonsToEmpty 5 = .ok (.aload_n 0, 1) := by decide +kernel
theorem dX2_comparisonsToEmpty_6 : decode cX2_comparisonsToEmpty 6 = .ok (.aload_n 0, 1) := by decide +kernel
theorem dX2_comparisonsToEmpty_7 : decode cX2_comparisonsToEmpty 7 = .ok (.getfield 29, 3) := by decide +kernel
theorem dX2_comparisonsToEmpty_10 : decode cX2_comparisonsToEmpty 10 = .ok (.iconst 1, 1) := by decide +kernel
theorem dX2_comparisonsToEmpty_11 : decode cX2_comparisonsToEmpty 11 = .ok (.isub, 1) := by decide +kernel
theorem dX2_comparisonsToEmpty_12 : decode cX2_comparisonsToEmpty 12 = .ok (.iconst 0, 1) := by decide +kernel
theorem dX2_comparisonsToEmpty_13 : decode cX2_comparisonsToEmpty 13 = .ok (.invokevirtual 75, 3) := by decide +kernel
theorem dX2_comparisonsToEmpty_16 : decode cX2_comparisonsToEmpty 16 = .ok (.ireturn, 1) := by decide +kernel
set_option maxRecDepth 20000 in
theorem ggX2_leavesAt_X2_isBerth : GoodIn wsX2_leavesAt wsX2_isBerth := goodIn_r _ [5, 6, 7, 8, 9, 4, 10, 34, 35, 36, 37, 38, 39, 40, 41, 42, 43] (by decide +kernel) (by decide +kernel)
set_option maxRecDepth 20000 in
theorem gX2_leavesAt_X2_isBerth : GoodIn wsX2_leavesAt (wsV RX2 71 RX2 yX2_isBerth wsX2_isBerth) := goodIn_app (goodIn_of _ (by decide +kernel)) ggX2_leavesAt_X2_isBerth
set_option maxRecDepth 20000 in
theorem ggX2_leavesAt_X2_thought : GoodIn wsX2_leavesAt wsX2_thought := goodIn_r _ [14, 6, 15, 16, 17, 18, 19, 20, 21, 22, 23, 4, 24, 25, 26, 27, 28, 29, 30, 31, 32, 33, 34, 35, 36, 37, 38, 39, 40, 41, 42, 43] (by decide +kernel) (by decide +kernel)
set_option maxRecDepth 20000 in
theorem gX2_leavesAt_X2_thought : GoodIn wsX2_leavesAt (wsV RX2 75 RX2 yX2_thought wsX2_thought) := goodIn_app (goodIn_of _ (by decide +kernel)) ggX2_leavesAt_X2_thought
theorem dX2_leavesAt_0 : decode cX2_leavesAt 0 = .ok (.aload_n 0, 1) := by decide +kernel
theorem dX2_leavesAt_1 : decode cX2_leavesAt 1 = .ok (.iload_n 1, 1) := by decide +kernel
theorem dX2_leavesAt_2 : decode cX2_leavesAt 2 = .ok (.invokevirtual 71, 3) := by decide +kernel
theorem dX2_leavesAt_5 : decode cX2_leavesAt 5 = .ok (.ifCond .eq 12, 3) := by decide +kernel
theorem dX2_leavesAt_8 : decode cX2_leavesAt 8 = .ok (.aload_n 0, 1) := by decide +kernel
theorem dX2_leavesAt_9 : decode cX2_leavesAt 9 = .ok (.iload_n 1, 1) := by decide +kernel
theorem dX2_leavesAt_10 : decode cX2_leavesAt 10 = .ok (.iconst 1, 1) := by decide +kernel
theorem dX2_leavesAt_11 : decode cX2_leavesAt 11 = .ok (.invokevirtual 75, 3) := by decide +kernel
theorem dX2_leavesAt_14 : decode cX2_leavesAt 14 = .ok (.goto 4, 3) := by decide +kernel
theorem dX2_leavesAt_17 : decode cX2_leavesAt 17 = .ok (.iconst 0, 1) := by decide +kernel
theorem dX2_leavesAt_18 : decode cX2_leavesAt 18 = .ok (.ireturn, 1) := by decide +kernel
set_option maxRecDepth 20000 in
theorem ggX2_quieterThan_X2_find : GoodIn wsX2_quieterThan wsX2_find := goodIn_r _ [9, 2, 4, 10, 11, 12, 13, 14, 15, 16, 17, 18, 19] (by decide +kernel) (by decide +kernel)
set_option maxRecDepth 20000 in
theorem gX2_quieterThan_X2_find : GoodIn wsX2_quieterThan (wsV RX2 68 RX2 yX2_find wsX2_find) := goodIn_app (goodIn_of _ (by decide +kernel)) ggX2_quieterThan_X2_find
theorem dX2_quieterThan_0 : decode cX2_quieterThan 0 = .ok (.aload_n 0, 1) := by decide +kernel
theorem dX2_quieterThan_1 : decode cX2_quieterThan 1 = .ok (.iload_n 1, 1) := by decide +kernel
theorem dX2_quieterThan_2 : decode cX2_quieterThan 2 = .ok (.invokevirtual 68, 3) := by decide +kernel
theorem dX2_quieterThan_5 : decode cX2_quieterThan 5 = .ok (.istore_n 2, 1) := by decide +kernel
theorem dX2_quieterThan_6 : decode cX2_quieterThan 6 = .ok (.aload_n 0, 1) := by decide +kernel
theorem dX2_quieterThan_7 : decode cX2_quieterThan 7 = .ok (.iload_n 2, 1) := by decide +kernel
theorem dX2_quieterThan_8 : decode cX2_quieterThan 8 = .ok (.ifCond .ge 7, 3) := by decide +kernel
theorem dX2_quieterThan_11 : decode cX2_quieterThan 11 = .ok (.iconst 1, 1) := by decide +kernel
theorem dX2_quieterThan_12 : decode cX2_quieterThan 12 = .ok (.goto 4, 3) := by decide +kernel
theorem dX2_quieterThan_15 : decode cX2_quieterThan 15 = .ok (.iconst 0, 1) := by decide +kernel
theorem dX2_quieterThan_16 : decode cX2_quieterThan 16 = .ok (.putfield 25, 3) := by decide +kernel
theorem dX2_quieterThan_19 : decode cX2_quieterThan 19 = .ok (.iconst 0, 1) := by decide +kernel
theorem dX2_quieterThan_20 : decode cX2_quieterThan 20 = .ok (.istore_n 3, 1) := by decide +kernel
theorem dX2_quieterThan_21 : decode cX2_quieterThan 21 = .ok (.iconst 0, 1) := by decide +kernel
theorem dX2_quieterThan_22 : decode cX2_quieterThan 22 = .ok (.istore 4, 2) := by decide +kernel
theorem dX2_quieterThan_24 : decode cX2_quieterThan 24 = .ok (.iload 4, 2) := by decide +kernel
theorem dX2_quieterThan_26 : decode cX2_quieterThan 26 = .ok (.aload_n 0, 1) := by decide +kernel
theorem dX2_quieterThan_27 : decode cX2_quieterThan 27 = .ok (.getfield 29, 3) := by decide +kernel
theorem dX2_quieterThan_30 : decode cX2_quieterThan 30 = .ok (.if_icmp .ge 45, 3) := by decide +kernel
theorem dX2_quieterThan_33 : decode cX2_quieterThan 33 = .ok (.aload_n 0, 1) := by decide +kernel
theorem dX2_quieterThan_34 : decode cX2_quieterThan 34 = .ok (.getfield 25, 3) := by decide +kernel
theorem dX2_quieterThan_37 : decode cX2_quieterThan 37 = .ok (.ifCond .ne 38, 3) := by decide +kernel
theorem dX2_quieterThan_40 : decode cX2_quieterThan 40 = .ok (.iload_n 3, 1) := by decide +kernel
theorem dX2_quieterThan_41 : decode cX2_quieterThan 41 = .ok (.aload_n 0, 1) := by decide +kernel
theorem dX2_quieterThan_42 : decode cX2_quieterThan 42 = .ok (.getfield 7, 3) := by decide +kernel
theorem dX2_quieterThan_45 : decode cX2_quieterThan 45 = .ok (.aload_n 0, 1) := by decide +kernel
theorem dX2_quieterThan_46 : decode cX2_quieterThan 46 = .ok (.getfield 13, 3) := by decide +kernel
theorem dX2_quieterThan_49 : decode cX2_quieterThan 49 = .ok (.iload 4, 2) := by decide +kernel
theorem dX2_quieterThan_51 : decode cX2_quieterThan 51 = .ok (.iaload, 1) := by decide +kernel
theorem dX2_quieterThan_52 : decode cX2_quieterThan 52 = .ok (.iaload, 1) := by decide +kernel
theorem dX2_quieterThan_53 : decode cX2_quieterThan 53 = .ok (.aload_n 0, 1) := by decide +kernel
theorem dX2_quieterThan_54 : decode cX2_quieterThan 54 = .ok (.getfield 7, 3) := by decide +kernel
theorem dX2_quieterThan_57 : decode cX2_quieterThan 57 = .ok (.iload_n 1, 1) := by decide +kernel
theorem dX2_quieterThan_58 : decode cX2_quieterThan 58 = .ok (.iaload, 1) := by decide +kernel
theorem dX2_quieterThan_59 : decode cX2_quieterThan 59 = .ok (.if_icmp .ge 7, 3) := by decide +kernel
theorem dX2_quieterThan_62 : decode cX2_quieterThan 62 = .ok (.iconst 1, 1) := by decide +kernel
theorem dX2_quieterThan_63 : decode cX2_quieterThan 63 = .ok (.goto 4, 3) := by decide +kernel
theorem dX2_quieterThan_66 : decode cX2_quieterThan 66 = .ok (.iconst 0, 1) := by decide +kernel
theorem dX2_quieterThan_67 : decode cX2_quieterThan 67 = .ok (.iadd, 1) := by decide +kernel
theorem dX2_quieterThan_68 : decode cX2_quieterThan 68 = .ok (.istore_n 3, 1) := by decide +kernel
theorem dX2_quieterThan_69 : decode cX2_quieterThan 69 = .ok (.iinc 4 1, 3) := by decide +kernel
theorem dX2_quieterThan_72 : decode cX2_quieterThan 72 = .ok (.goto (-48), 3) := by decide +kernel
theorem dX2_quieterThan_75 : decode cX2_quieterThan 75 = .ok (.iload_n 3, 1) := by decide +kernel
theorem dX2_quieterThan_76 : decode cX2_quieterThan 76 = .ok (.ireturn, 1) := by decide +kernel
theorem dJ13_bitCount_95d88_0 : decode cJ13_bitCount_95d88 0 = .ok (.lload_n 0, 1) := by decide +kernel
theorem dJ13_bitCount_95d88_1 : decode cJ13_bitCount_95d88 1 = .ok (.lload_n 0, 1) := by decide +kernel
theorem dJ13_bitCount_95d88_2 : decode cJ13_bitCount_95d88 2 = .ok (.iconst 1, 1) := by decide +kernel
theorem dJ13_bitCount_95d88_3 : decode cJ13_bitCount_95d88 3 = .ok (.lushr, 1) := by decide +kernel
theorem dJ13_bitCount_95d88_4 : decode cJ13_bitCount_95d88 4 = .ok (.ldc2_w 314, 3) := by decide +kernel
theorem dJ13_bitCount_95d88_7 : decode cJ13_bitCount_95d88 7 = .ok (.land, 1) := by decide +kernel
theorem dJ13_bitCount_95d88_8 : decode cJ13_bitCount_95d88 8 = .ok (.lsub, 1) := by decide +kernel
theorem dJ13_bitCount_95d88_9 : decode cJ13_bitCount_95d88 9 = .ok (.lstore_n 0, 1) := by decide +kernel
theorem dJ13_bitCount_95d88_10 : decode cJ13_bitCount_95d88 10 = .ok (.lload_n 0, 1) := by decide +kernel
theorem dJ13_bitCount_95d88_11 : decode cJ13_bitCount_95d88 11 = .ok (.ldc2_w 316, 3) := by decide +kernel
theorem dJ13_bitCount_95d88_14 : decode cJ13_bitCount_95d88 14 = .ok (.land, 1) := by decide +kernel
theorem dJ13_bitCount_95d88_15 : decode cJ13_bitCount_95d88 15 = .ok (.lload_n 0, 1) := by decide +kernel
theorem dJ13_bitCount_95d88_16 : decode cJ13_bitCount_95d88 16 = .ok (.iconst 2, 1) := by decide +kernel
theorem dJ13_bitCount_95d88_17 : decode cJ13_bitCount_95d88 17 = .ok (.lushr, 1) := by decide +kernel
theorem dJ13_bitCount_95d88_18 : decode cJ13_bitCount_95d88 18 = .ok (.ldc2_w 316, 3) := by decide +kernel
theorem dJ13_bitCount_95d88_21 : decode cJ13_bitCount_95d88 21 = .ok (.land, 1) := by decide +kernel
theorem dJ13_bitCount_95d88_22 : decode cJ13_bitCount_95d88 22 = .ok (.ladd, 1) := by decide +kernel
theorem dJ13_bitCount_95d88_23 : decode cJ13_bitCount_95d88 23 = .ok (.lstore_n 0, 1) := by decide +kernel
theorem dJ13_bitCount_95d88_24 : decode cJ13_bitCount_95d88 24 = .ok (.lload_n 0, 1) := by decide +kernel
theorem dJ13_bitCount_95d88_25 : decode cJ13_bitCount_95d88 25 = .ok (.lload_n 0, 1) := by decide +kernel
theorem dJ13_bitCount_95d88_26 : decode cJ13_bitCount_95d88 26 = .ok (.iconst 4, 1) := by decide +kernel
theorem dJ13_bitCount_95d88_27 : decode cJ13_bitCount_95d88 27 = .ok (.lushr, 1) := by decide +kernel
theorem dJ13_bitCount_95d88_28 : decode cJ13_bitCount_95d88 28 = .ok (.ladd, 1) := by decide +kernel
theorem dJ13_bitCount_95d88_29 : decode cJ13_bitCount_95d88 29 = .ok (.ldc2_w 318, 3) := by decide +kernel
theorem dJ13_bitCount_95d88_32 : decode cJ13_bitCount_95d88 32 = .ok (.land, 1) := by decide +kernel
theorem dJ13_bitCount_95d88_33 : decode cJ13_bitCount_95d88 33 = .ok (.lstore_n 0, 1) := by decide +kernel
theorem dJ13_bitCount_95d88_34 : decode cJ13_bitCount_95d88 34 = .ok (.lload_n 0, 1) := by decide +kernel
theorem dJ13_bitCount_95d88_35 : decode cJ13_bitCount_95d88 35 = .ok (.lload_n 0, 1) := by decide +kernel
theorem dJ13_bitCount_95d88_36 : decode cJ13_bitCount_95d88 36 = .ok (.bipush 8, 2) := by decide +kernel
theorem dJ13_bitCount_95d88_38 : decode cJ13_bitCount_95d88 38 = .ok (.lushr, 1) := by decide +kernel
theorem dJ13_bitCount_95d88_39 : decode cJ13_bitCount_95d88 39 = .ok (.ladd, 1) := by decide +kernel
theorem dJ13_bitCount_95d88_40 : decode cJ13_bitCount_95d88 40 = .ok (.lstore_n 0, 1) := by decide +kernel
theorem dJ13_bitCount_95d88_41 : decode cJ13_bitCount_95d88 41 = .ok (.lload_n 0, 1) := by decide +kernel
theorem dJ13_bitCount_95d88_42 : decode cJ13_bitCount_95d88 42 = .ok (.lload_n 0, 1) := by decide +kernel
theorem dJ13_bitCount_95d88_43 : decode cJ13_bitCount_95d88 43 = .ok (.bipush 16, 2) := by decide +kernel
theorem dJ13_bitCount_95d88_45 : decode cJ13_bitCount_95d88 45 = .ok (.lushr, 1) := by decide +kernel
theorem dJ13_bitCount_95d88_46 : decode cJ13_bitCount_95d88 46 = .ok (.ladd, 1) := by decide +kernel
theorem dJ13_bitCount_95d88_47 : decode cJ13_bitCount_95d88 47 = .ok (.lstore_n 0, 1) := by decide +kernel
theorem dJ13_bitCount_95d88_48 : decode cJ13_bitCount_95d88 48 = .ok (.lload_n 0, 1) := by decide +kernel
theorem dJ13_bitCount_95d88_49 : decode cJ13_bitCount_95d88 49 = .ok (.lload_n 0, 1) := by decide +kernel
theorem dJ13_bitCount_95d88_50 : decode cJ13_bitCount_95d88 50 = .ok (.bipush 32, 2) := by decide +kernel
theorem dJ13_bitCount_95d88_52 : decode cJ13_bitCount_95d88 52 = .ok (.lushr, 1) := by decide +kernel
theorem dJ13_bitCount_95d88_53 : decode cJ13_bitCount_95d88 53 = .ok (.ladd, 1) := by decide +kernel
theorem dJ13_bitCount_95d88_54 : decode cJ13_bitCount_95d88 54 = .ok (.lstore_n 0, 1) := by decide +kernel
theorem dJ13_bitCount_95d88_55 : decode cJ13_bitCount_95d88 55 = .ok (.lload_n 0, 1) := by decide +kernel
theorem dJ13_bitCount_95d88_56 : decode cJ13_bitCount_95d88 56 = .ok (.l2i, 1) := by decide +kernel
theorem dJ13_bitCount_95d88_57 : decode cJ13_bitCount_95d88 57 = .ok (.bipush 127, 2) := by decide +kernel
theorem dJ13_bitCount_95d88_59 : decode cJ13_bitCount_95d88 59 = .ok (.iand, 1) := by decide +kernel
theorem dJ13_bitCount_95d88_60 : decode cJ13_bitCount_95d88 60 = .ok (.ireturn, 1) := by decide +kernel
set_option maxRecDepth 20000 in
theorem ggL_come_X1_come : GoodIn wsL_come wsX1_come := goodIn_ca (goodIn_ca (goodIn_r _ [7, 8, 9, 10, 11, 12, 13, 14, 15, 6, 16, 17, 18, 19, 20, 21, 22, 23, 24, 25, 26, 27, 28, 29, 30, 31, 32, 33, 34, 35, 36, 37, 38, 39, 40, 41, 42, 43, 44, 45, 46, 47, 48, 49, 50, 51, 52, 53, 54, 55, 56, 57, 58, 59, 60, 61, 62, 63, 64, 65, 66, 67, 68, 69, 70, 71, 72] (by decide +kernel) (by decide +kernel)) (goodIn_sub (fun _ h => List.mem_cons_of_mem _ (List.mem_append_left _ (List.mem_append_right _ h))) (by decide +kernel))) (goodIn_sub (fun _ h => List.mem_cons_of_mem _ (List.mem_append_right _ h)) (by decide +kernel))
set_option maxRecDepth 20000 in
theorem gL_come_X1_come : GoodIn wsL_come (wsV RL 7 RX1 yX1_come wsX1_come) := goodIn_app (goodIn_of _ (by decide +kernel)) ggL_come_X1_come
theorem dL_come_0 : decode cL_come 0 = .ok (.aload_n 2, 1) := by decide +kernel
theorem dL_come_1 : decode cL_come 1 = .ok (.iconst 0, 1) := by decide +kernel
theorem dL_come_2 : decode cL_come 2 = .ok (.aload_n 0, 1) := by decide +kernel
theorem dL_come_3 : decode cL_come 3 = .ok (.iload_n 1, 1) := by decide +kernel
theorem dL_come_4 : decode cL_come 4 = .ok (.invokevirtual 7, 3) := by decide +kernel
theorem dL_come_7 : decode cL_come 7 = .ok (.i2l, 1) := by decide +kernel
theorem dL_come_8 : decode cL_come 8 = .ok (.lastore, 1) := by decide +kernel
theorem dL_come_9 : decode cL_come 9 = .ok (.goto 9, 3) := by decide +kernel
theorem dL_come_12 : decode cL_come 12 = .ok (.astore_n 3, 1) := by decide +kernel
theorem dL_come_13 : decode cL_come 13 = .ok (.iconst 1, 1) := by decide +kernel
theorem dL_come_14 : decode cL_come 14 = .ok (.ireturn, 1) := by decide +kernel
theorem dL_come_15 : decode cL_come 15 = .ok (.astore_n 3, 1) := by decide +kernel
theorem dL_come_16 : decode cL_come 16 = .ok (.iconst 2, 1) := by decide +kernel
theorem dL_come_17 : decode cL_come 17 = .ok (.ireturn, 1) := by decide +kernel
theorem dL_come_18 : decode cL_come 18 = .ok (.iconst 0, 1) := by decide +kernel
theorem dL_come_19 : decode cL_come 19 = .ok (.ireturn, 1) := by decide +kernel
set_option maxRecDepth 20000 in
theorem ggL_coach_X1_coach : GoodIn wsL_coach wsX1_coach := goodIn_ca (goodIn_ca (goodIn_r _ [7, 8, 9, 10, 11, 12, 13, 14, 15, 6, 16, 17, 18, 19, 20, 21, 22, 23, 24, 25, 26, 27, 28, 29, 30, 31, 32, 33, 34, 35, 36, 37, 38, 39, 40, 41, 42, 43, 44, 45, 46, 47, 48, 49, 50, 51, 52, 53, 54, 55, 56, 57, 58, 59, 60, 61, 62, 63, 64, 65, 66, 67, 68] (by decide +kernel) (by decide +kernel)) (goodIn_sub (fun _ h => List.mem_cons_of_mem _ (List.mem_append_left _ (List.mem_append_right _ h))) (by decide +kernel))) (goodIn_sub (fun _ h => List.mem_cons_of_mem _ (List.mem_append_right _ h)) (by decide +kernel))
set_option maxRecDepth 20000 in
theorem gL_coach_X1_coach : GoodIn wsL_coach (wsV RL 17 RX1 yX1_coach wsX1_coach) := goodIn_app (goodIn_of _ (by decide +kernel)) ggL_coach_X1_coach
theorem dL_coach_0 : decode cL_coach 0 = .ok (.aload 4, 2) := by decide +kernel
theorem dL_coach_2 : decode cL_coach 2 = .ok (.iconst 0, 1) := by decide +kernel
theorem dL_coach_3 : decode cL_coach 3 = .ok (.aload_n 0, 1) := by decide +kernel
theorem dL_coach_4 : decode cL_coach 4 = .ok (.iload_n 1, 1) := by decide +kernel
theorem dL_coach_5 : decode cL_coach 5 = .ok (.iload_n 2, 1) := by decide +kernel
theorem dL_coach_6 : decode cL_coach 6 = .ok (.iload_n 3, 1) := by decide +kernel
theorem dL_coach_7 : decode cL_coach 7 = .ok (.invokevirtual 17, 3) := by decide +kernel
theorem dL_coach_10 : decode cL_coach 10 = .ok (.i2l, 1) := by decide +kernel
theorem dL_coach_11 : decode cL_coach 11 = .ok (.lastore, 1) := by decide +kernel
theorem dL_coach_12 : decode cL_coach 12 = .ok (.goto 11, 3) := by decide +kernel
theorem dL_coach_15 : decode cL_coach 15 = .ok (.astore 5, 2) := by decide +kernel
theorem dL_coach_17 : decode cL_coach 17 = .ok (.iconst 1, 1) := by decide +kernel
theorem dL_coach_18 : decode cL_coach 18 = .ok (.ireturn, 1) := by decide +kernel
theorem dL_coach_19 : decode cL_coach 19 = .ok (.astore 5, 2) := by decide +kernel
theorem dL_coach_21 : decode cL_coach 21 = .ok (.iconst 2, 1) := by decide +kernel
theorem dL_coach_22 : decode cL_coach 22 = .ok (.ireturn, 1) := by decide +kernel
theorem dL_coach_23 : decode cL_coach 23 = .ok (.iconst 0, 1) := by decide +kernel
theorem dL_coach_24 : decode cL_coach 24 = .ok (.ireturn, 1) := by decide +kernel
set_option maxRecDepth 20000 in
theorem ggL_leave_X1_leave : GoodIn wsL_leave wsX1_leave := goodIn_ca (goodIn_r _ [6, 7, 8, 9, 10, 11, 12, 13, 14, 15, 16, 17, 18, 19, 20, 21, 22, 23, 24, 25, 26, 27, 28, 29, 30, 31, 32, 33, 34, 35, 36, 37, 38, 39, 40, 41, 42, 43, 44, 45, 46, 47, 48, 49, 50, 51, 52, 53] (by decide +kernel) (by decide +kernel)) (goodIn_sub (fun _ h => List.mem_cons_of_mem _ (List.mem_append_right _ h)) (by decide +kernel))
set_option maxRecDepth 20000 in
theorem gL_leave_X1_leave : GoodIn wsL_leave (wsV RL 21 RX1 yX1_leave wsX1_leave) := goodIn_app (goodIn_of _ (by decide +kernel)) ggL_leave_X1_leave
theorem dL_leave_0 : decode cL_leave 0 = .ok (.aload_n 1, 1) := by decide +kernel
theorem dL_leave_1 : decode cL_leave 1 = .ok (.iconst 0, 1) := by decide +kernel
theorem dL_leave_2 : decode cL_leave 2 = .ok (.aload_n 0, 1) := by decide +kernel
theorem dL_leave_3 : decode cL_leave 3 = .ok (.invokevirtual 21, 3) := by decide +kernel
theorem dL_leave_6 : decode cL_leave 6 = .ok (.i2l, 1) := by decide +kernel
theorem dL_leave_7 : decode cL_leave 7 = .ok (.lastore, 1) := by decide +kernel
theorem dL_leave_8 : decode cL_leave 8 = .ok (.goto 6, 3) := by decide +kernel
theorem dL_leave_11 : decode cL_leave 11 = .ok (.astore_n 2, 1) := by decide +kernel
theorem dL_leave_12 : decode cL_leave 12 = .ok (.iconst 1, 1) := by decide +kernel
theorem dL_leave_13 : decode cL_leave 13 = .ok (.ireturn, 1) := by decide +kernel
theorem dL_leave_14 : decode cL_leave 14 = .ok (.iconst 0, 1) := by decide +kernel
theorem dL_leave_15 : decode cL_leave 15 = .ok (.ireturn, 1) := by decide +kernel
set_option maxRecDepth 20000 in
theorem ggL_hush_X1_hush : GoodIn wsL_hush wsX1_hush := goodIn_ca (goodIn_ca (goodIn_r _ [7, 8, 9, 10, 11, 12, 13, 14, 15, 16, 17, 18, 19, 20, 21, 22, 23, 24, 25, 26, 27, 28, 29, 30, 31, 32, 33, 34, 35, 36, 37, 38, 39, 40, 41, 42, 43, 44, 45, 46, 47, 48, 49, 50, 51, 52, 53, 54, 55, 56, 57, 58, 59, 60, 61, 62, 63, 64, 65, 66, 67, 68, 69, 70, 71, 72] (by decide +kernel) (by decide +kernel)) (goodIn_sub (fun _ h => List.mem_cons_of_mem _ (List.mem_append_left _ (List.mem_append_right _ h))) (by decide +kernel))) (goodIn_sub (fun _ h => List.mem_cons_of_mem _ (List.mem_append_right _ h)) (by decide +kernel))
set_option maxRecDepth 20000 in
theorem gL_hush_X1_hush : GoodIn wsL_hush (wsV RL 25 RX1 yX1_hush wsX1_hush) := goodIn_app (goodIn_of _ (by decide +kernel)) ggL_hush_X1_hush
theorem dL_hush_0 : decode cL_hush 0 = .ok (.aload_n 3, 1) := by decide +kernel
theorem dL_hush_1 : decode cL_hush 1 = .ok (.iconst 0, 1) := by decide +kernel
theorem dL_hush_2 : decode cL_hush 2 = .ok (.aload_n 0, 1) := by decide +kernel
theorem dL_hush_3 : decode cL_hush 3 = .ok (.iload_n 1, 1) := by decide +kernel
theorem dL_hush_4 : decode cL_hush 4 = .ok (.iload_n 2, 1) := by decide +kernel
theorem dL_hush_5 : decode cL_hush 5 = .ok (.invokevirtual 25, 3) := by decide +kernel
theorem dL_hush_8 : decode cL_hush 8 = .ok (.i2l, 1) := by decide +kernel
theorem dL_hush_9 : decode cL_hush 9 = .ok (.lastore, 1) := by decide +kernel
theorem dL_hush_10 : decode cL_hush 10 = .ok (.goto 11, 3) := by decide +kernel
theorem dL_hush_13 : decode cL_hush 13 = .ok (.astore 4, 2) := by decide +kernel
theorem dL_hush_15 : decode cL_hush 15 = .ok (.iconst 1, 1) := by decide +kernel
theorem dL_hush_16 : decode cL_hush 16 = .ok (.ireturn, 1) := by decide +kernel
theorem dL_hush_17 : decode cL_hush 17 = .ok (.astore 4, 2) := by decide +kernel
theorem dL_hush_19 : decode cL_hush 19 = .ok (.iconst 2, 1) := by decide +kernel
theorem dL_hush_20 : decode cL_hush 20 = .ok (.ireturn, 1) := by decide +kernel
theorem dL_hush_21 : decode cL_hush 21 = .ok (.iconst 0, 1) := by decide +kernel
theorem dL_hush_22 : decode cL_hush 22 = .ok (.ireturn, 1) := by decide +kernel
set_option maxRecDepth 20000 in
theorem ggL_fetch_X1_fetch : GoodIn wsL_fetch wsX1_fetch := goodIn_ca (goodIn_r _ [6, 7, 8, 9, 10, 11, 12, 13, 14, 15, 16, 17, 18, 19, 20, 21, 22, 23, 24, 25, 26, 27, 28, 29, 30, 31, 32, 33, 34, 35, 36, 37, 38, 39, 40, 41, 42, 43, 44, 45, 46, 47, 48, 49, 50, 51, 52, 53, 54, 55, 56, 57, 58, 59, 60, 61, 62, 63, 64, 65, 66, 67, 68, 69, 70, 71, 72, 73] (by decide +kernel) (by decide +kernel)) (goodIn_sub (fun _ h => List.mem_cons_of_mem _ (List.mem_append_right _ h)) (by decide +kernel))
set_option maxRecDepth 20000 in
theorem gL_fetch_X1_fetch : GoodIn wsL_fetch (wsV RL 31 RX1 yX1_fetch wsX1_fetch) := goodIn_app (goodIn_of _ (by decide +kernel)) ggL_fetch_X1_fetch
theorem dL_fetch_0 : decode cL_fetch 0 = .ok (.aload_n 2, 1) := by decide +kernel
theorem dL_fetch_1 : decode cL_fetch 1 = .ok (.iconst 0, 1) := by decide +kernel
theorem dL_fetch_2 : decode cL_fetch 2 = .ok (.aload_n 0, 1) := by decide +kernel
theorem dL_fetch_3 : decode cL_fetch 3 = .ok (.iload_n 1, 1) := by decide +kernel
theorem dL_fetch_4 : decode cL_fetch 4 = .ok (.invokevirtual 31, 3) := by decide +kernel
theorem dL_fetch_7 : decode cL_fetch 7 = .ok (.i2l, 1) := by decide +kernel
theorem dL_fetch_8 : decode cL_fetch 8 = .ok (.lastore, 1) := by decide +kernel
theorem dL_fetch_9 : decode cL_fetch 9 = .ok (.goto 6, 3) := by decide +kernel
theorem dL_fetch_12 : decode cL_fetch 12 = .ok (.astore_n 3, 1) := by decide +kernel
theorem dL_fetch_13 : decode cL_fetch 13 = .ok (.iconst 1, 1) := by decide +kernel
theorem dL_fetch_14 : decode cL_fetch 14 = .ok (.ireturn, 1) := by decide +kernel
theorem dL_fetch_15 : decode cL_fetch 15 = .ok (.iconst 0, 1) := by decide +kernel
theorem dL_fetch_16 : decode cL_fetch 16 = .ok (.ireturn, 1) := by decide +kernel
set_option maxRecDepth 20000 in
theorem ggL_dukeIn_X1_dukeIn : GoodIn wsL_dukeIn wsX1_dukeIn := goodIn_ca (goodIn_r _ [6, 7, 8, 9, 10, 5, 11, 12, 13, 14, 15, 16, 17, 18, 19, 20, 21, 22, 23, 24, 25, 26, 27, 28, 29, 30, 31, 32, 33, 34] (by decide +kernel) (by decide +kernel)) (goodIn_sub (fun _ h => List.mem_cons_of_mem _ (List.mem_append_right _ h)) (by decide +kernel))
set_option maxRecDepth 20000 in
theorem gL_dukeIn_X1_dukeIn : GoodIn wsL_dukeIn (wsV RL 34 RX1 yX1_dukeIn wsX1_dukeIn) := goodIn_app (goodIn_of _ (by decide +kernel)) ggL_dukeIn_X1_dukeIn
theorem dL_dukeIn_0 : decode cL_dukeIn 0 = .ok (.aload_n 2, 1) := by decide +kernel
theorem dL_dukeIn_1 : decode cL_dukeIn 1 = .ok (.iconst 0, 1) := by decide +kernel
theorem dL_dukeIn_2 : decode cL_dukeIn 2 = .ok (.aload_n 0, 1) := by decide +kernel
theorem dL_dukeIn_3 : decode cL_dukeIn 3 = .ok (.iload_n 1, 1) := by decide +kernel
theorem dL_dukeIn_4 : decode cL_dukeIn 4 = .ok (.invokevirtual 34, 3) := by decide +kernel
theorem dL_dukeIn_7 : decode cL_dukeIn 7 = .ok (.i2l, 1) := by decide +kernel
theorem dL_dukeIn_8 : decode cL_dukeIn 8 = .ok (.lastore, 1) := by decide +kernel
theorem dL_dukeIn_9 : decode cL_dukeIn 9 = .ok (.goto 6, 3) := by decide +kernel
theorem dL_dukeIn_12 : decode cL_dukeIn 12 = .ok (.astore_n 3, 1) := by decide +kernel
theorem dL_dukeIn_13 : decode cL_dukeIn 13 = .ok (.iconst 1, 1) := by decide +kernel
theorem dL_dukeIn_14 : decode cL_dukeIn 14 = .ok (.ireturn, 1) := by decide +kernel
theorem dL_dukeIn_15 : decode cL_dukeIn 15 = .ok (.iconst 0, 1) := by decide +kernel
theorem dL_dukeIn_16 : decode cL_dukeIn 16 = .ok (.ireturn, 1) := by decide +kernel
set_option maxRecDepth 20000 in
theorem ggL_loudnessIn_X1_loudnessIn : GoodIn wsL_loudnessIn wsX1_loudnessIn := goodIn_ca (goodIn_r _ [6, 7, 8, 9, 10, 5, 11, 12, 13, 14, 15, 16, 17, 18, 19, 20, 21, 22, 23, 24, 25, 26, 27, 28, 29, 30, 31, 32, 33, 34] (by decide +kernel) (by decide +kernel)) (goodIn_sub (fun _ h => List.mem_cons_of_mem _ (List.mem_append_right _ h)) (by decide +kernel))
set_option maxRecDepth 20000 in
theorem gL_loudnessIn_X1_loudnessIn : GoodIn wsL_loudnessIn (wsV RL 37 RX1 yX1_loudnessIn wsX1_loudnessIn) := goodIn_app (goodIn_of _ (by decide +kernel)) ggL_loudnessIn_X1_loudnessIn
theorem dL_loudnessIn_0 : decode cL_loudnessIn 0 = .ok (.aload_n 2, 1) := by decide +kernel
theorem dL_loudnessIn_1 : decode cL_loudnessIn 1 = .ok (.iconst 0, 1) := by decide +kernel
theorem dL_loudnessIn_2 : decode cL_loudnessIn 2 = .ok (.aload_n 0, 1) := by decide +kernel
theorem dL_loudnessIn_3 : decode cL_loudnessIn 3 = .ok (.iload_n 1, 1) := by decide +kernel
theorem dL_loudnessIn_4 : decode cL_loudnessIn 4 = .ok (.invokevirtual 37, 3) := by decide +kernel
theorem dL_loudnessIn_7 : decode cL_loudnessIn 7 = .ok (.i2l, 1) := by decide +kernel
theorem dL_loudnessIn_8 : decode cL_loudnessIn 8 = .ok (.lastore, 1) := by decide +kernel
theorem dL_loudnessIn_9 : decode cL_loudnessIn 9 = .ok (.goto 6, 3) := by decide +kernel
theorem dL_loudnessIn_12 : decode cL_loudnessIn 12 = .ok (.astore_n 3, 1) := by decide +kernel
theorem dL_loudnessIn_13 : decode cL_loudnessIn 13 = .ok (.iconst 1, 1) := by decide +kernel
theorem dL_loudnessIn_14 : decode cL_loudnessIn 14 = .ok (.ireturn, 1) := by decide +kernel
theorem dL_loudnessIn_15 : decode cL_loudnessIn 15 = .ok (.iconst 0, 1) := by decide +kernel
theorem dL_loudnessIn_16 : decode cL_loudnessIn 16 = .ok (.ireturn, 1) := by decide +kernel
set_option maxRecDepth 20000 in
theorem ggL_sideOf_X1_sideOf : GoodIn wsL_sideOf wsX1_sideOf := goodIn_ca (goodIn_r _ [6, 7, 8, 9, 10, 5, 11, 12, 13, 14, 15, 16, 17, 18, 19, 20, 21, 22, 23, 24, 25, 26, 27, 28, 29, 30, 31, 32, 33, 34] (by decide +kernel) (by decide +kernel)) (goodIn_sub (fun _ h => List.mem_cons_of_mem _ (List.mem_append_right _ h)) (by decide +kernel))
set_option maxRecDepth 20000 in
theorem gL_sideOf_X1_sideOf : GoodIn wsL_sideOf (wsV RL 40 RX1 yX1_sideOf wsX1_sideOf) := goodIn_app (goodIn_of _ (by decide +kernel)) ggL_sideOf_X1_sideOf
theorem dL_sideOf_0 : decode cL_sideOf 0 = .ok (.aload_n 2, 1) := by decide +kernel
theorem dL_sideOf_1 : decode cL_sideOf 1 = .ok (.iconst 0, 1) := by decide +kernel
theorem dL_sideOf_2 : decode cL_sideOf 2 = .ok (.aload_n 0, 1) := by decide +kernel
theorem dL_sideOf_3 : decode cL_sideOf 3 = .ok (.iload_n 1, 1) := by decide +kernel
theorem dL_sideOf_4 : decode cL_sideOf 4 = .ok (.invokevirtual 40, 3) := by decide +kernel
theorem dL_sideOf_7 : decode cL_sideOf 7 = .ok (.i2l, 1) := by decide +kernel
theorem dL_sideOf_8 : decode cL_sideOf 8 = .ok (.lastore, 1) := by decide +kernel
theorem dL_sideOf_9 : decode cL_sideOf 9 = .ok (.goto 6, 3) := by decide +kernel
theorem dL_sideOf_12 : decode cL_sideOf 12 = .ok (.astore_n 3, 1) := by decide +kernel
theorem dL_sideOf_13 : decode cL_sideOf 13 = .ok (.iconst 1, 1) := by decide +kernel
theorem dL_sideOf_14 : decode cL_sideOf 14 = .ok (.ireturn, 1) := by decide +kernel
theorem dL_sideOf_15 : decode cL_sideOf 15 = .ok (.iconst 0, 1) := by decide +kernel
theorem dL_sideOf_16 : decode cL_sideOf 16 = .ok (.ireturn, 1) := by decide +kernel
set_option maxRecDepth 20000 in
theorem ggL_elderOf_X1_elderOf : GoodIn wsL_elderOf wsX1_elderOf := goodIn_ca (goodIn_r _ [6, 7, 8, 9, 10, 5, 11, 12, 13, 14, 15, 16, 17, 18, 19, 20, 21, 22, 23, 24, 25, 26, 27, 28, 29, 30, 31, 32, 33, 34, 35, 36, 37, 38, 39, 40, 41, 42] (by decide +kernel) (by decide +kernel)) (goodIn_sub (fun _ h => List.mem_cons_of_mem _ (List.mem_append_right _ h)) (by decide +kernel))
set_option maxRecDepth 20000 in
theorem gL_elderOf_X1_elderOf : GoodIn wsL_elderOf (wsV RL 43 RX1 yX1_elderOf wsX1_elderOf) := goodIn_app (goodIn_of _ (by decide +kernel)) ggL_elderOf_X1_elderOf
theorem dL_elderOf_0 : decode cL_elderOf 0 = .ok (.aload_n 2, 1) := by decide +kernel
theorem dL_elderOf_1 : decode cL_elderOf 1 = .ok (.iconst 0, 1) := by decide +kernel
theorem dL_elderOf_2 : decode cL_elderOf 2 = .ok (.aload_n 0, 1) := by decide +kernel
theorem dL_elderOf_3 : decode cL_elderOf 3 = .ok (.iload_n 1, 1) := by decide +kernel
theorem dL_elderOf_4 : decode cL_elderOf 4 = .ok (.invokevirtual 43, 3) := by decide +kernel
theorem dL_elderOf_7 : decode cL_elderOf 7 = .ok (.i2l, 1) := by decide +kernel
theorem dL_elderOf_8 : decode cL_elderOf 8 = .ok (.lastore, 1) := by decide +kernel
theorem dL_elderOf_9 : decode cL_elderOf 9 = .ok (.goto 6, 3) := by decide +kernel
theorem dL_elderOf_12 : decode cL_elderOf 12 = .ok (.astore_n 3, 1) := by decide +kernel
theorem dL_elderOf_13 : decode cL_elderOf 13 = .ok (.iconst 1, 1) := by decide +kernel
theorem dL_elderOf_14 : decode cL_elderOf 14 = .ok (.ireturn, 1) := by decide +kernel
theorem dL_elderOf_15 : decode cL_elderOf 15 = .ok (.iconst 0, 1) := by decide +kernel
theorem dL_elderOf_16 : decode cL_elderOf 16 = .ok (.ireturn, 1) := by decide +kernel
set_option maxRecDepth 20000 in
theorem ggL_followersOf_X1_followersOf : GoodIn wsL_followersOf wsX1_followersOf := goodIn_ca (goodIn_r _ [6, 7, 8, 9, 10, 5, 11, 12, 13, 14, 15, 16, 17, 18, 19, 20, 21, 22, 23, 24, 25, 26, 27, 28, 29, 30, 31, 32, 33, 34, 35, 36, 37, 38, 39, 40, 41, 42, 43, 44, 45, 46] (by decide +kernel) (by decide +kernel)) (goodIn_sub (fun _ h => List.mem_cons_of_mem _ (List.mem_append_right _ h)) (by decide +kernel))
set_option maxRecDepth 20000 in
theorem gL_followersOf_X1_followersOf : GoodIn wsL_followersOf (wsV RL 46 RX1 yX1_followersOf wsX1_followersOf) := goodIn_app (goodIn_of _ (by decide +kernel)) ggL_followersOf_X1_followersOf
theorem dL_followersOf_0 : decode cL_followersOf 0 = .ok (.aload_n 2, 1) := by decide +kernel
theorem dL_followersOf_1 : decode cL_followersOf 1 = .ok (.iconst 0, 1) := by decide +kernel
theorem dL_followersOf_2 : decode cL_followersOf 2 = .ok (.aload_n 0, 1) := by decide +kernel
theorem dL_followersOf_3 : decode cL_followersOf 3 = .ok (.iload_n 1, 1) := by decide +kernel
theorem dL_followersOf_4 : decode cL_followersOf 4 = .ok (.invokevirtual 46, 3) := by decide +kernel
theorem dL_followersOf_7 : decode cL_followersOf 7 = .ok (.i2l, 1) := by decide +kernel
theorem dL_followersOf_8 : decode cL_followersOf 8 = .ok (.lastore, 1) := by decide +kernel
theorem dL_followersOf_9 : decode cL_followersOf 9 = .ok (.goto 6, 3) := by decide +kernel
theorem dL_followersOf_12 : decode cL_followersOf 12 = .ok (.astore_n 3, 1) := by decide +kernel
theorem dL_followersOf_13 : decode cL_followersOf 13 = .ok (.iconst 1, 1) := by decide +kernel
theorem dL_followersOf_14 : decode cL_followersOf 14 = .ok (.ireturn, 1) := by decide +kernel
theorem dL_followersOf_15 : decode cL_followersOf 15 = .ok (.iconst 0, 1) := by decide +kernel
theorem dL_followersOf_16 : decode cL_followersOf 16 = .ok (.ireturn, 1) := by decide +kernel
set_option maxRecDepth 20000 in
theorem ggL_leavesAt_X1_leavesAt : GoodIn wsL_leavesAt wsX1_leavesAt := goodIn_ca (goodIn_r _ [6, 7, 8, 9, 10, 11, 12, 13, 14, 15, 16, 17, 18, 19, 20, 21, 22, 23, 24, 25, 26, 27, 28, 29, 30, 31, 32, 33, 34, 35, 36, 37, 38, 39, 40, 41, 42, 43, 44, 45, 46, 47, 48, 49, 50, 51, 52, 53, 54, 55, 56, 57, 58, 59, 60, 61, 62, 63, 64, 65, 66, 67] (by decide +kernel) (by decide +kernel)) (goodIn_sub (fun _ h => List.mem_cons_of_mem _ (List.mem_append_right _ h)) (by decide +kernel))
set_option maxRecDepth 20000 in
theorem gL_leavesAt_X1_leavesAt : GoodIn wsL_leavesAt (wsV RL 49 RX1 yX1_leavesAt wsX1_leavesAt) := goodIn_app (goodIn_of _ (by decide +kernel)) ggL_leavesAt_X1_leavesAt
theorem dL_leavesAt_0 : decode cL_leavesAt 0 = .ok (.aload_n 2, 1) := by decide +kernel
theorem dL_leavesAt_1 : decode cL_leavesAt 1 = .ok (.iconst 0, 1) := by decide +kernel
theorem dL_leavesAt_2 : decode cL_leavesAt 2 = .ok (.aload_n 0, 1) := by decide +kernel
theorem dL_leavesAt_3 : decode cL_leavesAt 3 = .ok (.iload_n 1, 1) := by decide +kernel
theorem dL_leavesAt_4 : decode cL_leavesAt 4 = .ok (.invokevirtual 49, 3) := by decide +kernel
theorem dL_leavesAt_7 : decode cL_leavesAt 7 = .ok (.i2l, 1) := by decide +kernel
theorem dL_leavesAt_8 : decode cL_leavesAt 8 = .ok (.lastore, 1) := by decide +kernel
theorem dL_leavesAt_9 : decode cL_leavesAt 9 = .ok (.goto 6, 3) := by decide +kernel
theorem dL_leavesAt_12 : decode cL_leavesAt 12 = .ok (.astore_n 3, 1) := by decide +kernel
theorem dL_leavesAt_13 : decode cL_leavesAt 13 = .ok (.iconst 1, 1) := by decide +kernel
theorem dL_leavesAt_14 : decode cL_leavesAt 14 = .ok (.ireturn, 1) := by decide +kernel
theorem dL_leavesAt_15 : decode cL_leavesAt 15 = .ok (.iconst 0, 1) := by decide +kernel
theorem dL_leavesAt_16 : decode cL_leavesAt 16 = .ok (.ireturn, 1) := by decide +kernel
set_option maxRecDepth 20000 in
theorem ggL_quieterThan_X1_quieterThan : GoodIn wsL_quieterThan wsX1_quieterThan := goodIn_ca (goodIn_r _ [6, 7, 8, 9, 10, 11, 12, 13, 14, 15, 16, 17, 18, 19, 20, 21, 22, 23, 24, 25, 26, 27, 28, 29, 30, 31, 32, 33, 34, 35, 36, 37, 38, 39, 40, 41, 42, 43, 44, 45, 46, 47, 48, 49, 50, 51, 52, 53, 54, 55, 56, 57, 58, 59, 60, 61, 62, 63] (by decide +kernel) (by decide +kernel)) (goodIn_sub (fun _ h => List.mem_cons_of_mem _ (List.mem_append_right _ h)) (by decide +kernel))
set_option maxRecDepth 20000 in
theorem gL_quieterThan_X1_quieterThan : GoodIn wsL_quieterThan (wsV RL 52 RX1 yX1_quieterThan wsX1_quieterThan) := goodIn_app (goodIn_of _ (by decide +kernel)) ggL_quieterThan_X1_quieterThan
theorem dL_quieterThan_0 : decode cL_quieterThan 0 = .ok (.aload_n 2, 1) := by decide +kernel
theorem dL_quieterThan_1 : decode cL_quieterThan 1 = .ok (.iconst 0, 1) := by decide +kernel
theorem dL_quieterThan_2 : decode cL_quieterThan 2 = .ok (.aload_n 0, 1) := by decide +kernel
theorem dL_quieterThan_3 : decode cL_quieterThan 3 = .ok (.iload_n 1, 1) := by decide +kernel
theorem dL_quieterThan_4 : decode cL_quieterThan 4 = .ok (.invokevirtual 52, 3) := by decide +kernel
theorem dL_quieterThan_7 : decode cL_quieterThan 7 = .ok (.i2l, 1) := by decide +kernel
theorem dL_quieterThan_8 : decode cL_quieterThan 8 = .ok (.lastore, 1) := by decide +kernel
theorem dL_quieterThan_9 : decode cL_quieterThan 9 = .ok (.goto 6, 3) := by decide +kernel
theorem dL_quieterThan_12 : decode cL_quieterThan 12 = .ok (.astore_n 3, 1) := by decide +kernel
theorem dL_quieterThan_13 : decode cL_quieterThan 13 = .ok (.iconst 1, 1) := by decide +kernel
theorem dL_quieterThan_14 : decode cL_quieterThan 14 = .ok (.ireturn, 1) := by decide +kernel
theorem dL_quieterThan_15 : decode cL_quieterThan 15 = .ok (.iconst 0, 1) := by decide +kernel
theorem dL_quieterThan_16 : decode cL_quieterThan 16 = .ok (.ireturn, 1) := by decide +kernel
set_option maxRecDepth 20000 in
theorem ggL_law_X1_init : GoodIn wsL_law wsX1_init := goodIn_r _ [9, 10, 11, 12, 13, 14, 15, 16, 17, 18, 19, 20, 21, 22, 23, 24, 25, 26, 27, 28, 406, 407, 408, 409, 410, 411, 393, 394, 395] (by decide +kernel) (by decide +kernel)
set_option maxRecDepth 20000 in
theorem gL_law_X1_init : GoodIn wsL_law (wsX1_init) := ggL_law_X1_init
set_option maxRecDepth 20000 in
theorem ggL_law_X2_init : GoodIn wsL_law wsX2_init := goodIn_r _ [31, 32, 11, 12, 22, 33, 34, 35, 36, 37, 396, 397, 398, 399, 400, 401, 402, 403, 404, 405] (by decide +kernel) (by decide +kernel)
set_option maxRecDepth 20000 in
theorem gL_law_X2_init : GoodIn wsL_law (wsX2_init) := ggL_law_X2_init
set_option maxRecDepth 20000 in
theorem ggL_law_L_come : GoodIn wsL_law wsL_come := goodIn_ca (goodIn_ca (goodIn_r _ [41, 42, 43, 44, 45, 46, 2, 47, 48, 49, 50, 51, 18, 16, 52, 53, 54, 55, 56, 57, 58, 59, 60, 61, 15, 62, 26, 25, 63, 64, 65, 66, 23, 24, 67, 68, 69, 70, 71, 72, 73, 74, 75, 76, 77, 78, 79, 80, 81, 82, 83, 84, 85, 86, 87, 88, 89, 90, 27, 28, 91, 92, 93, 94, 393, 394, 395, 406, 407, 408, 409, 410, 411] (by decide +kernel) (by decide +kernel)) (goodIn_sub (fun _ h => List.mem_append_left _ (List.mem_append_left _ (List.mem_append_right _ h))) (by decide +kernel))) (goodIn_sub (fun _ h => List.mem_append_left _ (List.mem_append_right _ h)) (by decide +kernel))
set_option maxRecDepth 20000 in
theorem gL_law_L_come : GoodIn wsL_law (va_wsS RL 59 yL_come wsL_come) := goodIn_app (goodIn_of _ (by decide +kernel)) ggL_law_L_come
set_option maxRecDepth 20000 in
theorem ggL_law_X2_come : GoodIn wsL_law wsX2_come := goodIn_r _ [98, 99, 100, 101, 35, 102, 103, 5, 104, 105, 106, 107, 108, 33, 34, 109, 110, 111, 112, 113, 114, 115, 116, 117, 118, 119, 120, 121, 122, 123, 124, 125, 126, 396, 397, 398, 399, 400, 401, 402, 403, 404, 405] (by decide +kernel) (by decide +kernel)
set_option maxRecDepth 20000 in
theorem gL_law_X2_come : GoodIn wsL_law (wsV RL 64 RX2 yX2_come wsX2_come) := goodIn_app (goodIn_of _ (by decide +kernel)) ggL_law_X2_come
set_option maxRecDepth 20000 in
theorem ggL_law_X2_thrown : GoodIn wsL_law wsX2_thrown := goodIn_r _ [130, 101, 396, 397, 398, 399, 400, 401, 402, 403, 404, 405] (by decide +kernel) (by decide +kernel)
set_option maxRecDepth 20000 in
theorem gL_law_X2_thrown : GoodIn wsL_law (wsV RL 65 RX2 yX2_thrown wsX2_thrown) := goodIn_app (goodIn_of _ (by decide +kernel)) ggL_law_X2_thrown
set_option maxRecDepth 20000 in
theorem ggL_law_L_coach : GoodIn wsL_law wsL_coach := goodIn_ca (goodIn_ca (goodIn_r _ [133, 42, 43, 134, 135, 136, 2, 137, 48, 49, 50, 51, 16, 18, 52, 53, 54, 55, 56, 57, 58, 138, 64, 65, 15, 66, 26, 23, 24, 25, 139, 140, 141, 142, 75, 76, 77, 78, 79, 80, 81, 82, 83, 84, 85, 86, 67, 68, 69, 70, 87, 88, 89, 90, 27, 28, 91, 92, 93, 94, 393, 394, 395, 406, 407, 408, 409, 410, 411] (by decide +kernel) (by decide +kernel)) (goodIn_sub (fun _ h => List.mem_append_left _ (List.mem_append_left _ (List.mem_append_right _ h))) (by decide +kernel))) (goodIn_sub (fun _ h => List.mem_append_left _ (List.mem_append_right _ h)) (by decide +kernel))
set_option maxRecDepth 20000 in
theorem gL_law_L_coach : GoodIn wsL_law (va_wsS RL 68 yL_coach wsL_coach) := goodIn_app (goodIn_of _ (by decide +kernel)) ggL_law_L_coach
set_option maxRecDepth 20000 in
theorem ggL_law_X2_coach : GoodIn wsL_law wsX2_coach := goodIn_r _ [146, 99, 100, 101, 35, 102, 103, 5, 104, 105, 106, 107, 108, 33, 34, 113, 114, 115, 116, 117, 118, 119, 120, 121, 122, 123, 124, 125, 126, 396, 397, 398, 399, 400, 401, 402, 403, 404, 405] (by decide +kernel) (by decide +kernel)
set_option maxRecDepth 20000 in
theorem gL_law_X2_coach : GoodIn wsL_law (wsV RL 71 RX2 yX2_coach wsX2_coach) := goodIn_app (goodIn_of _ (by decide +kernel)) ggL_law_X2_coach
set_option maxRecDepth 20000 in
theorem ggL_law_L_leave : GoodIn wsL_law wsL_leave := goodIn_ca (goodIn_r _ [149, 43, 150, 151, 152, 2, 153, 50, 51, 16, 154, 155, 156, 15, 157, 23, 26, 24, 67, 68, 69, 70, 158, 159, 160, 161, 79, 80, 81, 82, 83, 84, 85, 86, 25, 87, 88, 89, 90, 27, 28, 91, 92, 93, 94, 393, 394, 395, 406, 407, 408, 409, 410, 411] (by decide +kernel) (by decide +kernel)) (goodIn_sub (fun _ h => List.mem_append_left _ (List.mem_append_right _ h)) (by decide +kernel))
set_option maxRecDepth 20000 in
theorem gL_law_L_leave : GoodIn wsL_law (va_wsS RL 72 yL_leave wsL_leave) := goodIn_app (goodIn_of _ (by decide +kernel)) ggL_law_L_leave
set_option maxRecDepth 20000 in
theorem ggL_law_X2_leave : GoodIn wsL_law wsX2_leave := goodIn_r _ [165, 99, 101, 166, 167, 168, 5, 169, 34, 117, 118, 119, 120, 35, 121, 122, 123, 124, 125, 33, 126, 396, 397, 398, 399, 400, 401, 402, 403, 404, 405] (by decide +kernel) (by decide +kernel)
set_option maxRecDepth 20000 in
theorem gL_law_X2_leave : GoodIn wsL_law (wsV RL 75 RX2 yX2_leave wsX2_leave) := goodIn_app (goodIn_of _ (by decide +kernel)) ggL_law_X2_leave
set_option maxRecDepth 20000 in
theorem ggL_law_L_hush : GoodIn wsL_law wsL_hush := goodIn_ca (goodIn_ca (goodIn_r _ [172, 173, 42, 174, 175, 176, 2, 177, 178, 179, 48, 49, 16, 180, 181, 182, 15, 183, 26, 184, 185, 186, 187, 23, 67, 68, 69, 70, 188, 189, 190, 191, 24, 192, 193, 194, 195, 71, 72, 73, 74, 75, 76, 77, 78, 79, 80, 81, 82, 83, 84, 85, 86, 25, 87, 88, 89, 90, 27, 28, 91, 92, 93, 94, 393, 394, 395, 406, 407, 408, 409, 410, 411] (by decide +kernel) (by decide +kernel)) (goodIn_sub (fun _ h => List.mem_append_right _ h) (by decide +kernel))) (goodIn_sub (fun _ h => List.mem_append_left _ (List.mem_append_left _ (List.mem_append_right _ h))) (by decide +kernel))
set_option maxRecDepth 20000 in
theorem gL_law_L_hush : GoodIn wsL_law (va_wsS RL 76 yL_hush wsL_hush) := goodIn_app (goodIn_of _ (by decide +kernel)) ggL_law_L_hush
set_option maxRecDepth 20000 in
theorem ggL_law_X2_hush : GoodIn wsL_law wsX2_hush := goodIn_r _ [199, 33, 101, 200, 201, 202, 5, 203, 99, 34, 102, 103, 104, 109, 110, 111, 112, 113, 114, 115, 116, 117, 118, 119, 120, 35, 121, 122, 123, 124, 125, 126, 396, 397, 398, 399, 400, 401, 402, 403, 404, 405] (by decide +kernel) (by decide +kernel)
set_option maxRecDepth 20000 in
theorem gL_law_X2_hush : GoodIn wsL_law (wsV RL 79 RX2 yX2_hush wsX2_hush) := goodIn_app (goodIn_of _ (by decide +kernel)) ggL_law_X2_hush
set_option maxRecDepth 20000 in
theorem ggL_law_L_fetch : GoodIn wsL_law wsL_fetch := goodIn_ca (goodIn_r _ [206, 173, 207, 208, 209, 2, 210, 178, 179, 16, 180, 181, 182, 15, 183, 26, 184, 185, 186, 187, 23, 67, 68, 69, 70, 192, 193, 194, 195, 24, 71, 72, 73, 74, 75, 76, 77, 78, 79, 80, 81, 82, 83, 84, 85, 86, 25, 87, 88, 89, 90, 27, 28, 91, 92, 93, 94, 154, 155, 156, 157, 158, 159, 160, 161, 393, 394, 395, 406, 407, 408, 409, 410, 411] (by decide +kernel) (by decide +kernel)) (goodIn_sub (fun _ h => List.mem_append_right _ h) (by decide +kernel))
set_option maxRecDepth 20000 in
theorem gL_law_L_fetch : GoodIn wsL_law (va_wsS RL 80 yL_fetch wsL_fetch) := goodIn_app (goodIn_of _ (by decide +kernel)) ggL_law_L_fetch
set_option maxRecDepth 20000 in
theorem ggL_law_X2_fetch : GoodIn wsL_law wsX2_fetch := goodIn_r _ [214, 101, 125, 200, 201, 202, 5, 203, 99, 34, 109, 110, 111, 112, 113, 114, 115, 116, 117, 118, 119, 120, 35, 121, 122, 123, 124, 33, 126, 166, 167, 168, 169, 396, 397, 398, 399, 400, 401, 402, 403, 404, 405] (by decide +kernel) (by decide +kernel)
set_option maxRecDepth 20000 in
theorem gL_law_X2_fetch : GoodIn wsL_law (wsV RL 82 RX2 yX2_fetch wsX2_fetch) := goodIn_app (goodIn_of _ (by decide +kernel)) ggL_law_X2_fetch
set_option maxRecDepth 20000 in
theorem ggL_law_X1_dukes : GoodIn wsL_law wsX1_dukes := goodIn_r _ [218, 16, 393, 394, 395, 406, 407, 408, 409, 410, 411] (by decide +kernel) (by decide +kernel)
set_option maxRecDepth 20000 in
theorem gL_law_X1_dukes : GoodIn wsL_law (wsV RL 83 RX1 yX1_dukes wsX1_dukes) := goodIn_app (goodIn_of _ (by decide +kernel)) ggL_law_X1_dukes
set_option maxRecDepth 20000 in
theorem ggL_law_X2_dukes : GoodIn wsL_law wsX2_dukes := goodIn_r _ [222, 101, 99, 396, 397, 398, 399, 400, 401, 402, 403, 404, 405] (by decide +kernel) (by decide +kernel)
set_option maxRecDepth 20000 in
theorem gL_law_X2_dukes : GoodIn wsL_law (wsV RL 86 RX2 yX2_dukes wsX2_dukes) := goodIn_app (goodIn_of _ (by decide +kernel)) ggL_law_X2_dukes
set_option maxRecDepth 20000 in
theorem ggL_law_X1_quietest : GoodIn wsL_law wsX1_quietest := goodIn_r _ [226, 16, 227, 185, 186, 15, 187, 23, 67, 68, 69, 70, 26, 393, 394, 395, 406, 407, 408, 409, 410, 411] (by decide +kernel) (by decide +kernel)
set_option maxRecDepth 20000 in
theorem gL_law_X1_quietest : GoodIn wsL_law (wsV RL 87 RX1 yX1_quietest wsX1_quietest) := goodIn_app (goodIn_of _ (by decide +kernel)) ggL_law_X1_quietest
set_option maxRecDepth 20000 in
theorem ggL_law_X2_quietest : GoodIn wsL_law wsX2_quietest := goodIn_r _ [231, 101, 99, 34, 396, 397, 398, 399, 400, 401, 402, 403, 404, 405] (by decide +kernel) (by decide +kernel)
set_option maxRecDepth 20000 in
theorem gL_law_X2_quietest : GoodIn wsL_law (wsV RL 90 RX2 yX2_quietest wsX2_quietest) := goodIn_app (goodIn_of _ (by decide +kernel)) ggL_law_X2_quietest
set_option maxRecDepth 20000 in
theorem ggL_law_X1_berthOf : GoodIn wsL_law wsX1_berthOf := goodIn_r _ [235, 16, 180, 181, 182, 15, 183, 26, 184, 185, 186, 187, 23, 67, 68, 69, 70, 393, 394, 395, 406, 407, 408, 409, 410, 411] (by decide +kernel) (by decide +kernel)
set_option maxRecDepth 20000 in
theorem gL_law_X1_berthOf : GoodIn wsL_law (wsV RL 91 RX1 yX1_berthOf wsX1_berthOf) := goodIn_app (goodIn_of _ (by decide +kernel)) ggL_law_X1_berthOf
set_option maxRecDepth 20000 in
theorem ggL_law_X2_berthOf : GoodIn wsL_law wsX2_berthOf := goodIn_r _ [239, 101, 200, 201, 202, 5, 203, 99, 34, 396, 397, 398, 399, 400, 401, 402, 403, 404, 405] (by decide +kernel) (by decide +kernel)
set_option maxRecDepth 20000 in
theorem gL_law_X2_berthOf : GoodIn wsL_law (wsV RL 94 RX2 yX2_berthOf wsX2_berthOf) := goodIn_app (goodIn_of _ (by decide +kernel)) ggL_law_X2_berthOf
set_option maxRecDepth 20000 in
theorem ggL_law_L_dukeIn : GoodIn wsL_law wsL_dukeIn := goodIn_ca (goodIn_r _ [242, 173, 243, 244, 245, 2, 246, 16, 247, 248, 249, 250, 178, 179, 251, 68, 69, 15, 70, 26, 227, 185, 186, 187, 23, 67, 393, 394, 395, 406, 407, 408, 409, 410, 411] (by decide +kernel) (by decide +kernel)) (goodIn_sub (fun _ h => List.mem_append_right _ h) (by decide +kernel))
set_option maxRecDepth 20000 in
theorem gL_law_L_dukeIn : GoodIn wsL_law (va_wsS RL 95 yL_dukeIn wsL_dukeIn) := goodIn_app (goodIn_of _ (by decide +kernel)) ggL_law_L_dukeIn
set_option maxRecDepth 20000 in
theorem ggL_law_X2_dukeIn : GoodIn wsL_law wsX2_dukeIn := goodIn_r _ [255, 34, 256, 257, 258, 5, 259, 99, 101, 102, 103, 104, 396, 397, 398, 399, 400, 401, 402, 403, 404, 405] (by decide +kernel) (by decide +kernel)
set_option maxRecDepth 20000 in
theorem gL_law_X2_dukeIn : GoodIn wsL_law (wsV RL 97 RX2 yX2_dukeIn wsX2_dukeIn) := goodIn_app (goodIn_of _ (by decide +kernel)) ggL_law_X2_dukeIn
set_option maxRecDepth 20000 in
theorem ggL_law_L_loudnessIn : GoodIn wsL_law wsL_loudnessIn := goodIn_ca (goodIn_r _ [262, 173, 263, 264, 265, 2, 266, 16, 247, 248, 249, 250, 178, 179, 251, 68, 69, 15, 70, 26, 188, 189, 190, 191, 24, 67, 393, 394, 395, 406, 407, 408, 409, 410, 411] (by decide +kernel) (by decide +kernel)) (goodIn_sub (fun _ h => List.mem_append_right _ h) (by decide +kernel))
set_option maxRecDepth 20000 in
theorem gL_law_L_loudnessIn : GoodIn wsL_law (va_wsS RL 98 yL_loudnessIn wsL_loudnessIn) := goodIn_app (goodIn_of _ (by decide +kernel)) ggL_law_L_loudnessIn
set_option maxRecDepth 20000 in
theorem ggL_law_X2_loudnessIn : GoodIn wsL_law wsX2_loudnessIn := goodIn_r _ [270, 33, 34, 256, 257, 258, 5, 259, 99, 101, 102, 103, 104, 396, 397, 398, 399, 400, 401, 402, 403, 404, 405] (by decide +kernel) (by decide +kernel)
set_option maxRecDepth 20000 in
theorem gL_law_X2_loudnessIn : GoodIn wsL_law (wsV RL 100 RX2 yX2_loudnessIn wsX2_loudnessIn) := goodIn_app (goodIn_of _ (by decide +kernel)) ggL_law_X2_loudnessIn
set_option maxRecDepth 20000 in
theorem ggL_law_L_sideOf : GoodIn wsL_law wsL_sideOf := goodIn_ca (goodIn_r _ [273, 173, 274, 275, 276, 2, 277, 16, 247, 248, 249, 250, 178, 179, 251, 68, 69, 15, 70, 26, 278, 84, 85, 86, 25, 67, 393, 394, 395, 406, 407, 408, 409, 410, 411] (by decide +kernel) (by decide +kernel)) (goodIn_sub (fun _ h => List.mem_append_right _ h) (by decide +kernel))
set_option maxRecDepth 20000 in
theorem gL_law_L_sideOf : GoodIn wsL_law (va_wsS RL 101 yL_sideOf wsL_sideOf) := goodIn_app (goodIn_of _ (by decide +kernel)) ggL_law_L_sideOf
set_option maxRecDepth 20000 in
theorem ggL_law_X2_sideOf : GoodIn wsL_law wsX2_sideOf := goodIn_r _ [282, 35, 256, 257, 258, 5, 259, 99, 101, 102, 103, 104, 396, 397, 398, 399, 400, 401, 402, 403, 404, 405] (by decide +kernel) (by decide +kernel)
set_option maxRecDepth 20000 in
theorem gL_law_X2_sideOf : GoodIn wsL_law (wsV RL 103 RX2 yX2_sideOf wsX2_sideOf) := goodIn_app (goodIn_of _ (by decide +kernel)) ggL_law_X2_sideOf
set_option maxRecDepth 20000 in
theorem ggL_law_L_elderOf : GoodIn wsL_law wsL_elderOf := goodIn_ca (goodIn_r _ [285, 173, 286, 287, 288, 2, 289, 16, 247, 248, 249, 250, 178, 179, 251, 68, 69, 15, 70, 26, 290, 76, 77, 78, 79, 80, 81, 82, 83, 84, 85, 86, 25, 67, 393, 394, 395, 406, 407, 408, 409, 410, 411] (by decide +kernel) (by decide +kernel)) (goodIn_sub (fun _ h => List.mem_append_right _ h) (by decide +kernel))
set_option maxRecDepth 20000 in
theorem gL_law_L_elderOf : GoodIn wsL_law (va_wsS RL 104 yL_elderOf wsL_elderOf) := goodIn_app (goodIn_of _ (by decide +kernel)) ggL_law_L_elderOf
set_option maxRecDepth 20000 in
theorem ggL_law_X2_elderOf : GoodIn wsL_law wsX2_elderOf := goodIn_r _ [294, 256, 257, 258, 5, 259, 99, 101, 102, 103, 104, 113, 114, 115, 116, 117, 118, 119, 120, 35, 396, 397, 398, 399, 400, 401, 402, 403, 404, 405] (by decide +kernel) (by decide +kernel)
set_option maxRecDepth 20000 in
theorem gL_law_X2_elderOf : GoodIn wsL_law (wsV RL 106 RX2 yX2_elderOf wsX2_elderOf) := goodIn_app (goodIn_of _ (by decide +kernel)) ggL_law_X2_elderOf
set_option maxRecDepth 20000 in
theorem ggL_law_L_followersOf : GoodIn wsL_law wsL_followersOf := goodIn_ca (goodIn_r _ [297, 173, 298, 299, 300, 2, 301, 16, 247, 248, 249, 250, 178, 179, 251, 68, 69, 15, 70, 26, 302, 303, 304, 305, 75, 76, 77, 78, 79, 80, 81, 82, 83, 84, 85, 86, 25, 67, 393, 394, 395, 406, 407, 408, 409, 410, 411] (by decide +kernel) (by decide +kernel)) (goodIn_sub (fun _ h => List.mem_append_right _ h) (by decide +kernel))
set_option maxRecDepth 20000 in
theorem gL_law_L_followersOf : GoodIn wsL_law (va_wsS RL 107 yL_followersOf wsL_followersOf) := goodIn_app (goodIn_of _ (by decide +kernel)) ggL_law_L_followersOf
set_option maxRecDepth 20000 in
theorem ggL_law_X2_followersOf : GoodIn wsL_law wsX2_followersOf := goodIn_r _ [309, 99, 256, 257, 258, 5, 259, 101, 102, 103, 104, 113, 114, 115, 116, 117, 118, 119, 120, 35, 396, 397, 398, 399, 400, 401, 402, 403, 404, 405] (by decide +kernel) (by decide +kernel)
set_option maxRecDepth 20000 in
theorem gL_law_X2_followersOf : GoodIn wsL_law (wsV RL 109 RX2 yX2_followersOf wsX2_followersOf) := goodIn_app (goodIn_of _ (by decide +kernel)) ggL_law_X2_followersOf
set_option maxRecDepth 20000 in
theorem ggL_law_X1_flipped : GoodIn wsL_law wsX1_flipped := goodIn_r _ [313, 16, 314, 315, 316, 15, 317, 26, 83, 84, 85, 86, 25, 67, 68, 69, 70, 393, 394, 395, 406, 407, 408, 409, 410, 411] (by decide +kernel) (by decide +kernel)
set_option maxRecDepth 20000 in
theorem gL_law_X1_flipped : GoodIn wsL_law (wsV RL 110 RX1 yX1_flipped wsX1_flipped) := goodIn_app (goodIn_of _ (by decide +kernel)) ggL_law_X1_flipped
set_option maxRecDepth 20000 in
theorem ggL_law_X2_flipped : GoodIn wsL_law wsX2_flipped := goodIn_r _ [321, 101, 99, 35, 396, 397, 398, 399, 400, 401, 402, 403, 404, 405] (by decide +kernel) (by decide +kernel)
set_option maxRecDepth 20000 in
theorem gL_law_X2_flipped : GoodIn wsL_law (wsV RL 113 RX2 yX2_flipped wsX2_flipped) := goodIn_app (goodIn_of _ (by decide +kernel)) ggL_law_X2_flipped
set_option maxRecDepth 20000 in
theorem ggL_law_X1_comparisons : GoodIn wsL_law wsX1_comparisons := goodIn_r _ [325, 16, 393, 394, 395, 406, 407, 408, 409, 410, 411] (by decide +kernel) (by decide +kernel)
set_option maxRecDepth 20000 in
theorem gL_law_X1_comparisons : GoodIn wsL_law (wsV RL 114 RX1 yX1_comparisons wsX1_comparisons) := goodIn_app (goodIn_of _ (by decide +kernel)) ggL_law_X1_comparisons
set_option maxRecDepth 20000 in
theorem ggL_law_X2_comparisons : GoodIn wsL_law wsX2_comparisons := goodIn_r _ [329, 101, 125, 396, 397, 398, 399, 400, 401, 402, 403, 404, 405] (by decide +kernel) (by decide +kernel)
set_option maxRecDepth 20000 in
theorem gL_law_X2_comparisons : GoodIn wsL_law (wsV RL 117 RX2 yX2_comparisons wsX2_comparisons) := goodIn_app (goodIn_of _ (by decide +kernel)) ggL_law_X2_comparisons
set_option maxRecDepth 20000 in
theorem ggL_law_X1_changes : GoodIn wsL_law wsX1_changes := goodIn_r _ [333, 16, 393, 394, 395, 406, 407, 408, 409, 410, 411] (by decide +kernel) (by decide +kernel)
set_option maxRecDepth 20000 in
theorem gL_law_X1_changes : GoodIn wsL_law (wsV RL 118 RX1 yX1_changes wsX1_changes) := goodIn_app (goodIn_of _ (by decide +kernel)) ggL_law_X1_changes
set_option maxRecDepth 20000 in
theorem ggL_law_X2_changes : GoodIn wsL_law wsX2_changes := goodIn_r _ [337, 101, 126, 396, 397, 398, 399, 400, 401, 402, 403, 404, 405] (by decide +kernel) (by decide +kernel)
set_option maxRecDepth 20000 in
theorem gL_law_X2_changes : GoodIn wsL_law (wsV RL 121 RX2 yX2_changes wsX2_changes) := goodIn_app (goodIn_of _ (by decide +kernel)) ggL_law_X2_changes
set_option maxRecDepth 20000 in
theorem ggL_law_X1_comparisonsToEmpty : GoodIn wsL_law wsX1_comparisonsToEmpty := goodIn_r _ [341, 17, 16, 342, 343, 344, 15, 345, 26, 27, 28, 23, 24, 25, 346, 347, 348, 349, 350, 155, 156, 157, 67, 68, 69, 70, 158, 159, 160, 161, 79, 80, 81, 82, 83, 84, 85, 86, 87, 88, 89, 90, 91, 92, 93, 94, 393, 394, 395, 406, 407, 408, 409, 410, 411] (by decide +kernel) (by decide +kernel)
set_option maxRecDepth 20000 in
theorem gL_law_X1_comparisonsToEmpty : GoodIn wsL_law (wsV RL 122 RX1 yX1_comparisonsToEmpty wsX1_comparisonsToEmpty) := goodIn_app (goodIn_of _ (by decide +kernel)) ggL_law_X1_comparisonsToEmpty
set_option maxRecDepth 20000 in
theorem ggL_law_X2_comparisonsToEmpty : GoodIn wsL_law wsX2_comparisonsToEmpty := goodIn_r _ [354, 101, 99, 355, 356, 357, 5, 358, 125, 126, 36, 34, 37, 35, 166, 167, 168, 169, 117, 118, 119, 120, 121, 122, 123, 124, 33, 396, 397, 398, 399, 400, 401, 402, 403, 404, 405] (by decide +kernel) (by decide +kernel)
set_option maxRecDepth 20000 in
theorem gL_law_X2_comparisonsToEmpty : GoodIn wsL_law (wsV RL 125 RX2 yX2_comparisonsToEmpty wsX2_comparisonsToEmpty) := goodIn_app (goodIn_of _ (by decide +kernel)) ggL_law_X2_comparisonsToEmpty
set_option maxRecDepth 20000 in
theorem ggL_law_L_leavesAt : GoodIn wsL_law wsL_leavesAt := goodIn_ca (goodIn_r _ [361, 173, 362, 363, 364, 2, 365, 178, 179, 16, 17, 251, 68, 69, 15, 70, 26, 342, 343, 344, 345, 27, 28, 23, 24, 25, 346, 347, 348, 349, 350, 155, 156, 157, 67, 158, 159, 160, 161, 79, 80, 81, 82, 83, 84, 85, 86, 87, 88, 89, 90, 91, 92, 93, 94, 227, 185, 186, 187, 393, 394, 395, 406, 407, 408, 409, 410, 411] (by decide +kernel) (by decide +kernel)) (goodIn_sub (fun _ h => List.mem_append_right _ h) (by decide +kernel))
set_option maxRecDepth 20000 in
theorem gL_law_L_leavesAt : GoodIn wsL_law (va_wsS RL 126 yL_leavesAt wsL_leavesAt) := goodIn_app (goodIn_of _ (by decide +kernel)) ggL_law_L_leavesAt
set_option maxRecDepth 20000 in
theorem ggL_law_X2_leavesAt : GoodIn wsL_law wsX2_leavesAt := goodIn_r _ [369, 256, 257, 258, 5, 259, 99, 101, 102, 103, 104, 355, 356, 357, 358, 125, 126, 36, 34, 37, 35, 166, 167, 168, 169, 117, 118, 119, 120, 121, 122, 123, 124, 33, 396, 397, 398, 399, 400, 401, 402, 403, 404, 405] (by decide +kernel) (by decide +kernel)
set_option maxRecDepth 20000 in
theorem gL_law_X2_leavesAt : GoodIn wsL_law (wsV RL 128 RX2 yX2_leavesAt wsX2_leavesAt) := goodIn_app (goodIn_of _ (by decide +kernel)) ggL_law_X2_leavesAt
set_option maxRecDepth 20000 in
theorem ggL_law_L_quieterThan : GoodIn wsL_law wsL_quieterThan := goodIn_ca (goodIn_r _ [372, 173, 373, 374, 375, 2, 376, 178, 179, 16, 180, 181, 182, 15, 183, 26, 184, 185, 186, 187, 23, 67, 68, 69, 70, 188, 189, 190, 191, 24, 377, 378, 379, 380, 75, 76, 77, 78, 79, 80, 81, 82, 83, 84, 85, 86, 25, 381, 382, 383, 384, 385, 386, 387, 388, 393, 394, 395, 406, 407, 408, 409, 410, 411] (by decide +kernel) (by decide +kernel)) (goodIn_sub (fun _ h => List.mem_append_right _ h) (by decide +kernel))
set_option maxRecDepth 20000 in
theorem gL_law_L_quieterThan : GoodIn wsL_law (va_wsS RL 129 yL_quieterThan wsL_quieterThan) := goodIn_app (goodIn_of _ (by decide +kernel)) ggL_law_L_quieterThan
set_option maxRecDepth 20000 in
theorem ggL_law_X2_quieterThan : GoodIn wsL_law wsX2_quieterThan := goodIn_r _ [392, 101, 99, 33, 34, 200, 201, 202, 5, 203, 396, 397, 398, 399, 400, 401, 402, 403, 404, 405] (by decide +kernel) (by decide +kernel)
set_option maxRecDepth 20000 in
theorem gL_law_X2_quieterThan : GoodIn wsL_law (wsV RL 131 RX2 yX2_quieterThan wsX2_quieterThan) := goodIn_app (goodIn_of _ (by decide +kernel)) ggL_law_X2_quieterThan
theorem dL_law_0 : decode cL_law 0 = .ok (.new 8, 3) := by decide +kernel
theorem dL_law_3 : decode cL_law 3 = .ok (.dup, 1) := by decide +kernel
theorem dL_law_4 : decode cL_law 4 = .ok (.invokespecial 55, 3) := by decide +kernel
theorem dL_law_7 : decode cL_law 7 = .ok (.astore_n 1, 1) := by decide +kernel
theorem dL_law_8 : decode cL_law 8 = .ok (.new 56, 3) := by decide +kernel
theorem dL_law_11 : decode cL_law 11 = .ok (.dup, 1) := by decide +kernel
theorem dL_law_12 : decode cL_law 12 = .ok (.invokespecial 58, 3) := by decide +kernel
theorem dL_law_15 : decode cL_law 15 = .ok (.astore_n 2, 1) := by decide +kernel
theorem dL_law_16 : decode cL_law 16 = .ok (.iconst 1, 1) := by decide +kernel
theorem dL_law_17 : decode cL_law 17 = .ok (.newarray .long, 2) := by decide +kernel
theorem dL_law_19 : decode cL_law 19 = .ok (.astore_n 3, 1) := by decide +kernel
theorem dL_law_20 : decode cL_law 20 = .ok (.iconst 0, 1) := by decide +kernel
theorem dL_law_21 : decode cL_law 21 = .ok (.istore 4, 2) := by decide +kernel
theorem dL_law_23 : decode cL_law 23 = .ok (.iload 4, 2) := by decide +kernel
theorem dL_law_25 : decode cL_law 25 = .ok (.aload_n 0, 1) := by decide +kernel
theorem dL_law_26 : decode cL_law 26 = .ok (.arraylength, 1) := by decide +kernel
theorem dL_law_27 : decode cL_law 27 = .ok (.iconst 4, 1) := by decide +kernel
theorem dL_law_28 : decode cL_law 28 = .ok (.isub, 1) := by decide +kernel
theorem dL_law_29 : decode cL_law 29 = .ok (.if_icmp .gt 904, 3) := by decide +kernel
theorem dL_law_32 : decode cL_law 32 = .ok (.aload_n 0, 1) := by decide +kernel
theorem dL_law_33 : decode cL_law 33 = .ok (.iload 4, 2) := by decide +kernel
theorem dL_law_35 : decode cL_law 35 = .ok (.iaload, 1) := by decide +kernel
theorem dL_law_36 : decode cL_law 36 = .ok (.bipush 31, 2) := by decide +kernel
theorem dL_law_38 : decode cL_law 38 = .ok (.iand, 1) := by decide +kernel
theorem dL_law_39 : decode cL_law 39 = .ok (.tableswitch 888 0 18 #[89, 145, 225, 269, 337, 393, 406, 419, 444, 500, 556, 612, 668, 724, 737, 750, 763, 776, 832], 89) := by decide +kernel
theorem dL_law_128 : decode cL_law 128 = .ok (.aload_n 1, 1) := by decide +kernel
theorem dL_law_129 : decode cL_law 129 = .ok (.aload_n 0, 1) := by decide +kernel
theorem dL_law_130 : decode cL_law 130 = .ok (.iload 4, 2) := by decide +kernel
theorem dL_law_132 : decode cL_law 132 = .ok (.iconst 1, 1) := by decide +kernel
theorem dL_law_133 : decode cL_law 133 = .ok (.iadd, 1) := by decide +kernel
theorem dL_law_134 : decode cL_law 134 = .ok (.iaload, 1) := by decide +kernel
theorem dL_law_135 : decode cL_law 135 = .ok (.aload_n 3, 1) := by decide +kernel
theorem dL_law_136 : decode cL_law 136 = .ok (.invokestatic 59, 3) := by decide +kernel
theorem dL_law_139 : decode cL_law 139 = .ok (.istore 5, 2) := by decide +kernel
theorem dL_law_141 : decode cL_law 141 = .ok (.aload_n 2, 1) := by decide +kernel
theorem dL_law_142 : decode cL_law 142 = .ok (.aload_n 0, 1) := by decide +kernel
theorem dL_law_143 : decode cL_law 143 = .ok (.iload 4, 2) := by decide +kernel
theorem dL_law_145 : decode cL_law 145 = .ok (.iconst 1, 1) := by decide +kernel
theorem dL_law_146 : decode cL_law 146 = .ok (.iadd, 1) := by decide +kernel
theorem dL_law_147 : decode cL_law 147 = .ok (.iaload, 1) := by decide +kernel
theorem dL_law_148 : decode cL_law 148 = .ok (.invokevirtual 64, 3) := by decide +kernel
theorem dL_law_151 : decode cL_law 151 = .ok (.istore 6, 2) := by decide +kernel
theorem dL_law_153 : decode cL_law 153 = .ok (.aload_n 2, 1) := by decide +kernel
theorem dL_law_154 : decode cL_law 154 = .ok (.invokevirtual 65, 3) := by decide +kernel
theorem dL_law_157 : decode cL_law 157 = .ok (.iload 5, 2) := by decide +kernel
theorem dL_law_159 : decode cL_law 159 = .ok (.if_icmp .eq 5, 3) := by decide +kernel
theorem dL_law_162 : decode cL_law 162 = .ok (.iconst 0, 1) := by decide +kernel
theorem dL_law_163 : decode cL_law 163 = .ok (.ireturn, 1) := by decide +kernel
theorem dL_law_164 : decode cL_law 164 = .ok (.iload 5, 2) := by decide +kernel
theorem dL_law_166 : decode cL_law 166 = .ok (.ifCond .ne 15, 3) := by decide +kernel
theorem dL_law_169 : decode cL_law 169 = .ok (.aload_n 3, 1) := by decide +kernel
theorem dL_law_170 : decode cL_law 170 = .ok (.iconst 0, 1) := by decide +kernel
theorem dL_law_171 : decode cL_law 171 = .ok (.laload, 1) := by decide +kernel
theorem dL_law_172 : decode cL_law 172 = .ok (.iload 6, 2) := by decide +kernel
theorem dL_law_174 : decode cL_law 174 = .ok (.i2l, 1) := by decide +kernel
theorem dL_law_175 : decode cL_law 175 = .ok (.lcmp, 1) := by decide +kernel
theorem dL_law_176 : decode cL_law 176 = .ok (.ifCond .eq 5, 3) := by decide +kernel
theorem dL_law_179 : decode cL_law 179 = .ok (.iconst 0, 1) := by decide +kernel
theorem dL_law_180 : decode cL_law 180 = .ok (.ireturn, 1) := by decide +kernel
theorem dL_law_181 : decode cL_law 181 = .ok (.goto 746, 3) := by decide +kernel
theorem dL_law_184 : decode cL_law 184 = .ok (.aload_n 1, 1) := by decide +kernel
theorem dL_law_185 : decode cL_law 185 = .ok (.aload_n 0, 1) := by decide +kernel
theorem dL_law_186 : decode cL_law 186 = .ok (.iload 4, 2) := by decide +kernel
theorem dL_law_188 : decode cL_law 188 = .ok (.iconst 1, 1) := by decide +kernel
theorem dL_law_189 : decode cL_law 189 = .ok (.iadd, 1) := by decide +kernel
theorem dL_law_190 : decode cL_law 190 = .ok (.iaload, 1) := by decide +kernel
theorem dL_law_191 : decode cL_law 191 = .ok (.aload_n 0, 1) := by decide +kernel
theorem dL_law_192 : decode cL_law 192 = .ok (.iload 4, 2) := by decide +kernel
theorem dL_law_194 : decode cL_law 194 = .ok (.iconst 2, 1) := by decide +kernel
theorem dL_law_195 : decode cL_law 195 = .ok (.iadd, 1) := by decide +kernel
theorem dL_law_196 : decode cL_law 196 = .ok (.iaload, 1) := by decide +kernel
theorem dL_law_197 : decode cL_law 197 = .ok (.aload_n 0, 1) := by decide +kernel
theorem dL_law_198 : decode cL_law 198 = .ok (.iload 4, 2) := by decide +kernel
theorem dL_law_200 : decode cL_law 200 = .ok (.iconst 3, 1) := by decide +kernel
theorem dL_law_201 : decode cL_law 201 = .ok (.iadd, 1) := by decide +kernel
theorem dL_law_202 : decode cL_law 202 = .ok (.iaload, 1) := by decide +kernel
theorem dL_law_203 : decode cL_law 203 = .ok (.aload_n 3, 1) := by decide +kernel
theorem dL_law_204 : decode cL_law 204 = .ok (.invokestatic 68, 3) := by decide +kernel
theorem dL_law_207 : decode cL_law 207 = .ok (.istore 5, 2) := by decide +kernel
theorem dL_law_209 : decode cL_law 209 = .ok (.aload_n 2, 1) := by decide +kernel
theorem dL_law_210 : decode cL_law 210 = .ok (.aload_n 0, 1) := by decide +kernel
theorem dL_law_211 : decode cL_law 211 = .ok (.iload 4, 2) := by decide +kernel
theorem dL_law_213 : decode cL_law 213 = .ok (.iconst 1, 1) := by decide +kernel
theorem dL_law_214 : decode cL_law 214 = .ok (.iadd, 1) := by decide +kernel
theorem dL_law_215 : decode cL_law 215 = .ok (.iaload, 1) := by decide +kernel
theorem dL_law_216 : decode cL_law 216 = .ok (.aload_n 0, 1) := by decide +kernel
theorem dL_law_217 : decode cL_law 217 = .ok (.iload 4, 2) := by decide +kernel
theorem dL_law_219 : decode cL_law 219 = .ok (.iconst 2, 1) := by decide +kernel
theorem dL_law_220 : decode cL_law 220 = .ok (.iadd, 1) := by decide +kernel
theorem dL_law_221 : decode cL_law 221 = .ok (.iaload, 1) := by decide +kernel
theorem dL_law_222 : decode cL_law 222 = .ok (.aload_n 0, 1) := by decide +kernel
theorem dL_law_223 : decode cL_law 223 = .ok (.iload 4, 2) := by decide +kernel
theorem dL_law_225 : decode cL_law 225 = .ok (.iconst 3, 1) := by decide +kernel
theorem dL_law_226 : decode cL_law 226 = .ok (.iadd, 1) := by decide +kernel
theorem dL_law_227 : decode cL_law 227 = .ok (.iaload, 1) := by decide +kernel
theorem dL_law_228 : decode cL_law 228 = .ok (.invokevirtual 71, 3) := by decide +kernel
theorem dL_law_231 : decode cL_law 231 = .ok (.istore 6, 2) := by decide +kernel
theorem dL_law_233 : decode cL_law 233 = .ok (.aload_n 2, 1) := by decide +kernel
theorem dL_law_234 : decode cL_law 234 = .ok (.invokevirtual 65, 3) := by decide +kernel
theorem dL_law_237 : decode cL_law 237 = .ok (.iload 5, 2) := by decide +kernel
theorem dL_law_239 : decode cL_law 239 = .ok (.if_icmp .eq 5, 3) := by decide +kernel
theorem dL_law_242 : decode cL_law 242 = .ok (.iconst 0, 1) := by decide +kernel
theorem dL_law_243 : decode cL_law 243 = .ok (.ireturn, 1) := by decide +kernel
theorem dL_law_244 : decode cL_law 244 = .ok (.iload 5, 2) := by decide +kernel
theorem dL_law_246 : decode cL_law 246 = .ok (.ifCond .ne 15, 3) := by decide +kernel
theorem dL_law_249 : decode cL_law 249 = .ok (.aload_n 3, 1) := by decide +kernel
theorem dL_law_250 : decode cL_law 250 = .ok (.iconst 0, 1) := by decide +kernel
theorem dL_law_251 : decode cL_law 251 = .ok (.laload, 1) := by decide +kernel
theorem dL_law_252 : decode cL_law 252 = .ok (.iload 6, 2) := by decide +kernel
theorem dL_law_254 : decode cL_law 254 = .ok (.i2l, 1) := by decide +kernel
theorem dL_law_255 : decode cL_law 255 = .ok (.lcmp, 1) := by decide +kernel
theorem dL_law_256 : decode cL_law 256 = .ok (.ifCond .eq 5, 3) := by decide +kernel
theorem dL_law_259 : decode cL_law 259 = .ok (.iconst 0, 1) := by decide +kernel
theorem dL_law_260 : decode cL_law 260 = .ok (.ireturn, 1) := by decide +kernel
theorem dL_law_261 : decode cL_law 261 = .ok (.goto 666, 3) := by decide +kernel
theorem dL_law_264 : decode cL_law 264 = .ok (.aload_n 1, 1) := by decide +kernel
theorem dL_law_265 : decode cL_law 265 = .ok (.aload_n 3, 1) := by decide +kernel
theorem dL_law_266 : decode cL_law 266 = .ok (.invokestatic 72, 3) := by decide +kernel
theorem dL_law_269 : decode cL_law 269 = .ok (.istore 5, 2) := by decide +kernel
theorem dL_law_271 : decode cL_law 271 = .ok (.aload_n 2, 1) := by decide +kernel
theorem dL_law_272 : decode cL_law 272 = .ok (.invokevirtual 75, 3) := by decide +kernel
theorem dL_law_275 : decode cL_law 275 = .ok (.istore 6, 2) := by decide +kernel
theorem dL_law_277 : decode cL_law 277 = .ok (.aload_n 2, 1) := by decide +kernel
theorem dL_law_278 : decode cL_law 278 = .ok (.invokevirtual 65, 3) := by decide +kernel
theorem dL_law_281 : decode cL_law 281 = .ok (.iload 5, 2) := by decide +kernel
theorem dL_law_283 : decode cL_law 283 = .ok (.if_icmp .eq 5, 3) := by decide +kernel
theorem dL_law_286 : decode cL_law 286 = .ok (.iconst 0, 1) := by decide +kernel
theorem dL_law_287 : decode cL_law 287 = .ok (.ireturn, 1) := by decide +kernel
theorem dL_law_288 : decode cL_law 288 = .ok (.iload 5, 2) := by decide +kernel
theorem dL_law_290 : decode cL_law 290 = .ok (.ifCond .ne 15, 3) := by decide +kernel
theorem dL_law_293 : decode cL_law 293 = .ok (.aload_n 3, 1) := by decide +kernel
theorem dL_law_294 : decode cL_law 294 = .ok (.iconst 0, 1) := by decide +kernel
theorem dL_law_295 : decode cL_law 295 = .ok (.laload, 1) := by decide +kernel
theorem dL_law_296 : decode cL_law 296 = .ok (.iload 6, 2) := by decide +kernel
theorem dL_law_298 : decode cL_law 298 = .ok (.i2l, 1) := by decide +kernel
theorem dL_law_299 : decode cL_law 299 = .ok (.lcmp, 1) := by decide +kernel
theorem dL_law_300 : decode cL_law 300 = .ok (.ifCond .eq 5, 3) := by decide +kernel
theorem dL_law_303 : decode cL_law 303 = .ok (.iconst 0, 1) := by decide +kernel
theorem dL_law_304 : decode cL_law 304 = .ok (.ireturn, 1) := by decide +kernel
theorem dL_law_305 : decode cL_law 305 = .ok (.goto 622, 3) := by decide +kernel
theorem dL_law_308 : decode cL_law 308 = .ok (.aload_n 1, 1) := by decide +kernel
theorem dL_law_309 : decode cL_law 309 = .ok (.aload_n 0, 1) := by decide +kernel
theorem dL_law_310 : decode cL_law 310 = .ok (.iload 4, 2) := by decide +kernel
theorem dL_law_312 : decode cL_law 312 = .ok (.iconst 1, 1) := by decide +kernel
theorem dL_law_313 : decode cL_law 313 = .ok (.iadd, 1) := by decide +kernel
theorem dL_law_314 : decode cL_law 314 = .ok (.iaload, 1) := by decide +kernel
theorem dL_law_315 : decode cL_law 315 = .ok (.aload_n 0, 1) := by decide +kernel
theorem dL_law_316 : decode cL_law 316 = .ok (.iload 4, 2) := by decide +kernel
theorem dL_law_318 : decode cL_law 318 = .ok (.iconst 2, 1) := by decide +kernel
theorem dL_law_319 : decode cL_law 319 = .ok (.iadd, 1) := by decide +kernel
theorem dL_law_320 : decode cL_law 320 = .ok (.iaload, 1) := by decide +kernel
theorem dL_law_321 : decode cL_law 321 = .ok (.aload_n 3, 1) := by decide +kernel
theorem dL_law_322 : decode cL_law 322 = .ok (.invokestatic 76, 3) := by decide +kernel
theorem dL_law_325 : decode cL_law 325 = .ok (.istore 5, 2) := by decide +kernel
theorem dL_law_327 : decode cL_law 327 = .ok (.aload_n 2, 1) := by decide +kernel
theorem dL_law_328 : decode cL_law 328 = .ok (.aload_n 0, 1) := by decide +kernel
theorem dL_law_329 : decode cL_law 329 = .ok (.iload 4, 2) := by decide +kernel
theorem dL_law_331 : decode cL_law 331 = .ok (.iconst 1, 1) := by decide +kernel
theorem dL_law_332 : decode cL_law 332 = .ok (.iadd, 1) := by decide +kernel
theorem dL_law_333 : decode cL_law 333 = .ok (.iaload, 1) := by decide +kernel
theorem dL_law_334 : decode cL_law 334 = .ok (.aload_n 0, 1) := by decide +kernel
theorem dL_law_335 : decode cL_law 335 = .ok (.iload 4, 2) := by decide +kernel
theorem dL_law_337 : decode cL_law 337 = .ok (.iconst 2, 1) := by decide +kernel
theorem dL_law_338 : decode cL_law 338 = .ok (.iadd, 1) := by decide +kernel
theorem dL_law_339 : decode cL_law 339 = .ok (.iaload, 1) := by decide +kernel
theorem dL_law_340 : decode cL_law 340 = .ok (.invokevirtual 79, 3) := by decide +kernel
theorem dL_law_343 : decode cL_law 343 = .ok (.istore 6, 2) := by decide +kernel
theorem dL_law_345 : decode cL_law 345 = .ok (.aload_n 2, 1) := by decide +kernel
theorem dL_law_346 : decode cL_law 346 = .ok (.invokevirtual 65, 3) := by decide +kernel
theorem dL_law_349 : decode cL_law 349 = .ok (.iload 5, 2) := by decide +kernel
theorem dL_law_351 : decode cL_law 351 = .ok (.if_icmp .eq 5, 3) := by decide +kernel
theorem dL_law_354 : decode cL_law 354 = .ok (.iconst 0, 1) := by decide +kernel
theorem dL_law_355 : decode cL_law 355 = .ok (.ireturn, 1) := by decide +kernel
theorem dL_law_356 : decode cL_law 356 = .ok (.iload 5, 2) := by decide +kernel
theorem dL_law_358 : decode cL_law 358 = .ok (.ifCond .ne 15, 3) := by decide +kernel
theorem dL_law_361 : decode cL_law 361 = .ok (.aload_n 3, 1) := by decide +kernel
theorem dL_law_362 : decode cL_law 362 = .ok (.iconst 0, 1) := by decide +kernel
theorem dL_law_363 : decode cL_law 363 = .ok (.laload, 1) := by decide +kernel
theorem dL_law_364 : decode cL_law 364 = .ok (.iload 6, 2) := by decide +kernel
theorem dL_law_366 : decode cL_law 366 = .ok (.i2l, 1) := by decide +kernel
theorem dL_law_367 : decode cL_law 367 = .ok (.lcmp, 1) := by decide +kernel
theorem dL_law_368 : decode cL_law 368 = .ok (.ifCond .eq 5, 3) := by decide +kernel
theorem dL_law_371 : decode cL_law 371 = .ok (.iconst 0, 1) := by decide +kernel
theorem dL_law_372 : decode cL_law 372 = .ok (.ireturn, 1) := by decide +kernel
theorem dL_law_373 : decode cL_law 373 = .ok (.goto 554, 3) := by decide +kernel
theorem dL_law_376 : decode cL_law 376 = .ok (.aload_n 1, 1) := by decide +kernel
theorem dL_law_377 : decode cL_law 377 = .ok (.aload_n 0, 1) := by decide +kernel
theorem dL_law_378 : decode cL_law 378 = .ok (.iload 4, 2) := by decide +kernel
theorem dL_law_380 : decode cL_law 380 = .ok (.iconst 1, 1) := by decide +kernel
theorem dL_law_381 : decode cL_law 381 = .ok (.iadd, 1) := by decide +kernel
theorem dL_law_382 : decode cL_law 382 = .ok (.iaload, 1) := by decide +kernel
theorem dL_law_383 : decode cL_law 383 = .ok (.aload_n 3, 1) := by decide +kernel
theorem dL_law_384 : decode cL_law 384 = .ok (.invokestatic 80, 3) := by decide +kernel
theorem dL_law_387 : decode cL_law 387 = .ok (.istore 5, 2) := by decide +kernel
theorem dL_law_389 : decode cL_law 389 = .ok (.aload_n 2, 1) := by decide +kernel
theorem dL_law_390 : decode cL_law 390 = .ok (.aload_n 0, 1) := by decide +kernel
theorem dL_law_391 : decode cL_law 391 = .ok (.iload 4, 2) := by decide +kernel
theorem dL_law_393 : decode cL_law 393 = .ok (.iconst 1, 1) := by decide +kernel
theorem dL_law_394 : decode cL_law 394 = .ok (.iadd, 1) := by decide +kernel
theorem dL_law_395 : decode cL_law 395 = .ok (.iaload, 1) := by decide +kernel
theorem dL_law_396 : decode cL_law 396 = .ok (.invokevirtual 82, 3) := by decide +kernel
theorem dL_law_399 : decode cL_law 399 = .ok (.istore 6, 2) := by decide +kernel
theorem dL_law_401 : decode cL_law 401 = .ok (.aload_n 2, 1) := by decide +kernel
theorem dL_law_402 : decode cL_law 402 = .ok (.invokevirtual 65, 3) := by decide +kernel
theorem dL_law_405 : decode cL_law 405 = .ok (.iload 5, 2) := by decide +kernel
theorem dL_law_407 : decode cL_law 407 = .ok (.if_icmp .eq 5, 3) := by decide +kernel
theorem dL_law_410 : decode cL_law 410 = .ok (.iconst 0, 1) := by decide +kernel
theorem dL_law_411 : decode cL_law 411 = .ok (.ireturn, 1) := by decide +kernel
theorem dL_law_412 : decode cL_law 412 = .ok (.iload 5, 2) := by decide +kernel
theorem dL_law_414 : decode cL_law 414 = .ok (.ifCond .ne 15, 3) := by decide +kernel
theorem dL_law_417 : decode cL_law 417 = .ok (.aload_n 3, 1) := by decide +kernel
theorem dL_law_418 : decode cL_law 418 = .ok (.iconst 0, 1) := by decide +kernel
theorem dL_law_419 : decode cL_law 419 = .ok (.laload, 1) := by decide +kernel
theorem dL_law_420 : decode cL_law 420 = .ok (.iload 6, 2) := by decide +kernel
theorem dL_law_422 : decode cL_law 422 = .ok (.i2l, 1) := by decide +kernel
theorem dL_law_423 : decode cL_law 423 = .ok (.lcmp, 1) := by decide +kernel
theorem dL_law_424 : decode cL_law 424 = .ok (.ifCond .eq 5, 3) := by decide +kernel
theorem dL_law_427 : decode cL_law 427 = .ok (.iconst 0, 1) := by decide +kernel
theorem dL_law_428 : decode cL_law 428 = .ok (.ireturn, 1) := by decide +kernel
theorem dL_law_429 : decode cL_law 429 = .ok (.goto 498, 3) := by decide +kernel
theorem dL_law_432 : decode cL_law 432 = .ok (.aload_n 1, 1) := by decide +kernel
theorem dL_law_433 : decode cL_law 433 = .ok (.invokevirtual 83, 3) := by decide +kernel
theorem dL_law_436 : decode cL_law 436 = .ok (.aload_n 2, 1) := by decide +kernel
theorem dL_law_437 : decode cL_law 437 = .ok (.invokevirtual 86, 3) := by decide +kernel
theorem dL_law_440 : decode cL_law 440 = .ok (.if_icmp .eq 487, 3) := by decide +kernel
theorem dL_law_443 : decode cL_law 443 = .ok (.iconst 0, 1) := by decide +kernel
theorem dL_law_444 : decode cL_law 444 = .ok (.ireturn, 1) := by decide +kernel
theorem dL_law_445 : decode cL_law 445 = .ok (.aload_n 1, 1) := by decide +kernel
theorem dL_law_446 : decode cL_law 446 = .ok (.invokevirtual 87, 3) := by decide +kernel
theorem dL_law_449 : decode cL_law 449 = .ok (.aload_n 2, 1) := by decide +kernel
theorem dL_law_450 : decode cL_law 450 = .ok (.invokevirtual 90, 3) := by decide +kernel
theorem dL_law_453 : decode cL_law 453 = .ok (.if_icmp .eq 474, 3) := by decide +kernel
theorem dL_law_456 : decode cL_law 456 = .ok (.iconst 0, 1) := by decide +kernel
theorem dL_law_457 : decode cL_law 457 = .ok (.ireturn, 1) := by decide +kernel
theorem dL_law_458 : decode cL_law 458 = .ok (.aload_n 1, 1) := by decide +kernel
theorem dL_law_459 : decode cL_law 459 = .ok (.aload_n 0, 1) := by decide +kernel
theorem dL_law_460 : decode cL_law 460 = .ok (.iload 4, 2) := by decide +kernel
theorem dL_law_462 : decode cL_law 462 = .ok (.iconst 1, 1) := by decide +kernel
theorem dL_law_463 : decode cL_law 463 = .ok (.iadd, 1) := by decide +kernel
theorem dL_law_464 : decode cL_law 464 = .ok (.iaload, 1) := by decide +kernel
theorem dL_law_465 : decode cL_law 465 = .ok (.invokevirtual 91, 3) := by decide +kernel
theorem dL_law_468 : decode cL_law 468 = .ok (.aload_n 2, 1) := by decide +kernel
theorem dL_law_469 : decode cL_law 469 = .ok (.aload_n 0, 1) := by decide +kernel
theorem dL_law_470 : decode cL_law 470 = .ok (.iload 4, 2) := by decide +kernel
theorem dL_law_472 : decode cL_law 472 = .ok (.iconst 1, 1) := by decide +kernel
theorem dL_law_473 : decode cL_law 473 = .ok (.iadd, 1) := by decide +kernel
theorem dL_law_474 : decode cL_law 474 = .ok (.iaload, 1) := by decide +kernel
theorem dL_law_475 : decode cL_law 475 = .ok (.invokevirtual 94, 3) := by decide +kernel
theorem dL_law_478 : decode cL_law 478 = .ok (.if_icmp .eq 449, 3) := by decide +kernel
theorem dL_law_481 : decode cL_law 481 = .ok (.iconst 0, 1) := by decide +kernel
theorem dL_law_482 : decode cL_law 482 = .ok (.ireturn, 1) := by decide +kernel
theorem dL_law_483 : decode cL_law 483 = .ok (.aload_n 1, 1) := by decide +kernel
theorem dL_law_484 : decode cL_law 484 = .ok (.aload_n 0, 1) := by decide +kernel
theorem dL_law_485 : decode cL_law 485 = .ok (.iload 4, 2) := by decide +kernel
theorem dL_law_487 : decode cL_law 487 = .ok (.iconst 1, 1) := by decide +kernel
theorem dL_law_488 : decode cL_law 488 = .ok (.iadd, 1) := by decide +kernel
theorem dL_law_489 : decode cL_law 489 = .ok (.iaload, 1) := by decide +kernel
theorem dL_law_490 : decode cL_law 490 = .ok (.aload_n 3, 1) := by decide +kernel
theorem dL_law_491 : decode cL_law 491 = .ok (.invokestatic 95, 3) := by decide +kernel
theorem dL_law_494 : decode cL_law 494 = .ok (.istore 5, 2) := by decide +kernel
theorem dL_law_496 : decode cL_law 496 = .ok (.aload_n 2, 1) := by decide +kernel
theorem dL_law_497 : decode cL_law 497 = .ok (.aload_n 0, 1) := by decide +kernel
theorem dL_law_498 : decode cL_law 498 = .ok (.iload 4, 2) := by decide +kernel
theorem dL_law_500 : decode cL_law 500 = .ok (.iconst 1, 1) := by decide +kernel
theorem dL_law_501 : decode cL_law 501 = .ok (.iadd, 1) := by decide +kernel
theorem dL_law_502 : decode cL_law 502 = .ok (.iaload, 1) := by decide +kernel
theorem dL_law_503 : decode cL_law 503 = .ok (.invokevirtual 97, 3) := by decide +kernel
theorem dL_law_506 : decode cL_law 506 = .ok (.istore 6, 2) := by decide +kernel
theorem dL_law_508 : decode cL_law 508 = .ok (.aload_n 2, 1) := by decide +kernel
theorem dL_law_509 : decode cL_law 509 = .ok (.invokevirtual 65, 3) := by decide +kernel
theorem dL_law_512 : decode cL_law 512 = .ok (.iload 5, 2) := by decide +kernel
theorem dL_law_514 : decode cL_law 514 = .ok (.if_icmp .eq 5, 3) := by decide +kernel
theorem dL_law_517 : decode cL_law 517 = .ok (.iconst 0, 1) := by decide +kernel
theorem dL_law_518 : decode cL_law 518 = .ok (.ireturn, 1) := by decide +kernel
theorem dL_law_519 : decode cL_law 519 = .ok (.iload 5, 2) := by decide +kernel
theorem dL_law_521 : decode cL_law 521 = .ok (.ifCond .ne 15, 3) := by decide +kernel
theorem dL_law_524 : decode cL_law 524 = .ok (.aload_n 3, 1) := by decide +kernel
theorem dL_law_525 : decode cL_law 525 = .ok (.iconst 0, 1) := by decide +kernel
theorem dL_law_526 : decode cL_law 526 = .ok (.laload, 1) := by decide +kernel
theorem dL_law_527 : decode cL_law 527 = .ok (.iload 6, 2) := by decide +kernel
theorem dL_law_529 : decode cL_law 529 = .ok (.i2l, 1) := by decide +kernel
theorem dL_law_530 : decode cL_law 530 = .ok (.lcmp, 1) := by decide +kernel
theorem dL_law_531 : decode cL_law 531 = .ok (.ifCond .eq 5, 3) := by decide +kernel
theorem dL_law_534 : decode cL_law 534 = .ok (.iconst 0, 1) := by decide +kernel
theorem dL_law_535 : decode cL_law 535 = .ok (.ireturn, 1) := by decide +kernel
theorem dL_law_536 : decode cL_law 536 = .ok (.goto 391, 3) := by decide +kernel
theorem dL_law_539 : decode cL_law 539 = .ok (.aload_n 1, 1) := by decide +kernel
theorem dL_law_540 : decode cL_law 540 = .ok (.aload_n 0, 1) := by decide +kernel
theorem dL_law_541 : decode cL_law 541 = .ok (.iload 4, 2) := by decide +kernel
theorem dL_law_543 : decode cL_law 543 = .ok (.iconst 1, 1) := by decide +kernel
theorem dL_law_544 : decode cL_law 544 = .ok (.iadd, 1) := by decide +kernel
theorem dL_law_545 : decode cL_law 545 = .ok (.iaload, 1) := by decide +kernel
theorem dL_law_546 : decode cL_law 546 = .ok (.aload_n 3, 1) := by decide +kernel
theorem dL_law_547 : decode cL_law 547 = .ok (.invokestatic 98, 3) := by decide +kernel
theorem dL_law_550 : decode cL_law 550 = .ok (.istore 5, 2) := by decide +kernel
theorem dL_law_552 : decode cL_law 552 = .ok (.aload_n 2, 1) := by decide +kernel
theorem dL_law_553 : decode cL_law 553 = .ok (.aload_n 0, 1) := by decide +kernel
theorem dL_law_554 : decode cL_law 554 = .ok (.iload 4, 2) := by decide +kernel
theorem dL_law_556 : decode cL_law 556 = .ok (.iconst 1, 1) := by decide +kernel
theorem dL_law_557 : decode cL_law 557 = .ok (.iadd, 1) := by decide +kernel
theorem dL_law_558 : decode cL_law 558 = .ok (.iaload, 1) := by decide +kernel
theorem dL_law_559 : decode cL_law 559 = .ok (.invokevirtual 100, 3) := by decide +kernel
theorem dL_law_562 : decode cL_law 562 = .ok (.istore 6, 2) := by decide +kernel
theorem dL_law_564 : decode cL_law 564 = .ok (.aload_n 2, 1) := by decide +kernel
theorem dL_law_565 : decode cL_law 565 = .ok (.invokevirtual 65, 3) := by decide +kernel
theorem dL_law_568 : decode cL_law 568 = .ok (.iload 5, 2) := by decide +kernel
theorem dL_law_570 : decode cL_law 570 = .ok (.if_icmp .eq 5, 3) := by decide +kernel
theorem dL_law_573 : decode cL_law 573 = .ok (.iconst 0, 1) := by decide +kernel
theorem dL_law_574 : decode cL_law 574 = .ok (.ireturn, 1) := by decide +kernel
theorem dL_law_575 : decode cL_law 575 = .ok (.iload 5, 2) := by decide +kernel
theorem dL_law_577 : decode cL_law 577 = .ok (.ifCond .ne 15, 3) := by decide +kernel
theorem dL_law_580 : decode cL_law 580 = .ok (.aload_n 3, 1) := by decide +kernel
theorem dL_law_581 : decode cL_law 581 = .ok (.iconst 0, 1) := by decide +kernel
theorem dL_law_582 : decode cL_law 582 = .ok (.laload, 1) := by decide +kernel
theorem dL_law_583 : decode cL_law 583 = .ok (.iload 6, 2) := by decide +kernel
theorem dL_law_585 : decode cL_law 585 = .ok (.i2l, 1) := by decide +kernel
theorem dL_law_586 : decode cL_law 586 = .ok (.lcmp, 1) := by decide +kernel
theorem dL_law_587 : decode cL_law 587 = .ok (.ifCond .eq 5, 3) := by decide +kernel
theorem dL_law_590 : decode cL_law 590 = .ok (.iconst 0, 1) := by decide +kernel
theorem dL_law_591 : decode cL_law 591 = .ok (.ireturn, 1) := by decide +kernel
theorem dL_law_592 : decode cL_law 592 = .ok (.goto 335, 3) := by decide +kernel
theorem dL_law_595 : decode cL_law 595 = .ok (.aload_n 1, 1) := by decide +kernel
theorem dL_law_596 : decode cL_law 596 = .ok (.aload_n 0, 1) := by decide +kernel
theorem dL_law_597 : decode cL_law 597 = .ok (.iload 4, 2) := by decide +kernel
theorem dL_law_599 : decode cL_law 599 = .ok (.iconst 1, 1) := by decide +kernel
theorem dL_law_600 : decode cL_law 600 = .ok (.iadd, 1) := by decide +kernel
theorem dL_law_601 : decode cL_law 601 = .ok (.iaload, 1) := by decide +kernel
theorem dL_law_602 : decode cL_law 602 = .ok (.aload_n 3, 1) := by decide +kernel
theorem dL_law_603 : decode cL_law 603 = .ok (.invokestatic 101, 3) := by decide +kernel
theorem dL_law_606 : decode cL_law 606 = .ok (.istore 5, 2) := by decide +kernel
theorem dL_law_608 : decode cL_law 608 = .ok (.aload_n 2, 1) := by decide +kernel
theorem dL_law_609 : decode cL_law 609 = .ok (.aload_n 0, 1) := by decide +kernel
theorem dL_law_610 : decode cL_law 610 = .ok (.iload 4, 2) := by decide +kernel
theorem dL_law_612 : decode cL_law 612 = .ok (.iconst 1, 1) := by decide +kernel
theorem dL_law_613 : decode cL_law 613 = .ok (.iadd, 1) := by decide +kernel
theorem dL_law_614 : decode cL_law 614 = .ok (.iaload, 1) := by decide +kernel
theorem dL_law_615 : decode cL_law 615 = .ok (.invokevirtual 103, 3) := by decide +kernel
theorem dL_law_618 : decode cL_law 618 = .ok (.istore 6, 2) := by decide +kernel
theorem dL_law_620 : decode cL_law 620 = .ok (.aload_n 2, 1) := by decide +kernel
theorem dL_law_621 : decode cL_law 621 = .ok (.invokevirtual 65, 3) := by decide +kernel
theorem dL_law_624 : decode cL_law 624 = .ok (.iload 5, 2) := by decide +kernel
theorem dL_law_626 : decode cL_law 626 = .ok (.if_icmp .eq 5, 3) := by decide +kernel
theorem dL_law_629 : decode cL_law 629 = .ok (.iconst 0, 1) := by decide +kernel
theorem dL_law_630 : decode cL_law 630 = .ok (.ireturn, 1) := by decide +kernel
theorem dL_law_631 : decode cL_law 631 = .ok (.iload 5, 2) := by decide +kernel
theorem dL_law_633 : decode cL_law 633 = .ok (.ifCond .ne 15, 3) := by decide +kernel
theorem dL_law_636 : decode cL_law 636 = .ok (.aload_n 3, 1) := by decide +kernel
theorem dL_law_637 : decode cL_law 637 = .ok (.iconst 0, 1) := by decide +kernel
theorem dL_law_638 : decode cL_law 638 = .ok (.laload, 1) := by decide +kernel
theorem dL_law_639 : decode cL_law 639 = .ok (.iload 6, 2) := by decide +kernel
theorem dL_law_641 : decode cL_law 641 = .ok (.i2l, 1) := by decide +kernel
theorem dL_law_642 : decode cL_law 642 = .ok (.lcmp, 1) := by decide +kernel
theorem dL_law_643 : decode cL_law 643 = .ok (.ifCond .eq 5, 3) := by decide +kernel
theorem dL_law_646 : decode cL_law 646 = .ok (.iconst 0, 1) := by decide +kernel
theorem dL_law_647 : decode cL_law 647 = .ok (.ireturn, 1) := by decide +kernel
theorem dL_law_648 : decode cL_law 648 = .ok (.goto 279, 3) := by decide +kernel
theorem dL_law_651 : decode cL_law 651 = .ok (.aload_n 1, 1) := by decide +kernel
theorem dL_law_652 : decode cL_law 652 = .ok (.aload_n 0, 1) := by decide +kernel
theorem dL_law_653 : decode cL_law 653 = .ok (.iload 4, 2) := by decide +kernel
theorem dL_law_655 : decode cL_law 655 = .ok (.iconst 1, 1) := by decide +kernel
theorem dL_law_656 : decode cL_law 656 = .ok (.iadd, 1) := by decide +kernel
theorem dL_law_657 : decode cL_law 657 = .ok (.iaload, 1) := by decide +kernel
theorem dL_law_658 : decode cL_law 658 = .ok (.aload_n 3, 1) := by decide +kernel
theorem dL_law_659 : decode cL_law 659 = .ok (.invokestatic 104, 3) := by decide +kernel
theorem dL_law_662 : decode cL_law 662 = .ok (.istore 5, 2) := by decide +kernel
theorem dL_law_664 : decode cL_law 664 = .ok (.aload_n 2, 1) := by decide +kernel
theorem dL_law_665 : decode cL_law 665 = .ok (.aload_n 0, 1) := by decide +kernel
theorem dL_law_666 : decode cL_law 666 = .ok (.iload 4, 2) := by decide +kernel
theorem dL_law_668 : decode cL_law 668 = .ok (.iconst 1, 1) := by decide +kernel
theorem dL_law_669 : decode cL_law 669 = .ok (.iadd, 1) := by decide +kernel
theorem dL_law_670 : decode cL_law 670 = .ok (.iaload, 1) := by decide +kernel
theorem dL_law_671 : decode cL_law 671 = .ok (.invokevirtual 106, 3) := by decide +kernel
theorem dL_law_674 : decode cL_law 674 = .ok (.istore 6, 2) := by decide +kernel
theorem dL_law_676 : decode cL_law 676 = .ok (.aload_n 2, 1) := by decide +kernel
theorem dL_law_677 : decode cL_law 677 = .ok (.invokevirtual 65, 3) := by decide +kernel
theorem dL_law_680 : decode cL_law 680 = .ok (.iload 5, 2) := by decide +kernel
theorem dL_law_682 : decode cL_law 682 = .ok (.if_icmp .eq 5, 3) := by decide +kernel
theorem dL_law_685 : decode cL_law 685 = .ok (.iconst 0, 1) := by decide +kernel
theorem dL_law_686 : decode cL_law 686 = .ok (.ireturn, 1) := by decide +kernel
theorem dL_law_687 : decode cL_law 687 = .ok (.iload 5, 2) := by decide +kernel
theorem dL_law_689 : decode cL_law 689 = .ok (.ifCond .ne 15, 3) := by decide +kernel
theorem dL_law_692 : decode cL_law 692 = .ok (.aload_n 3, 1) := by decide +kernel
theorem dL_law_693 : decode cL_law 693 = .ok (.iconst 0, 1) := by decide +kernel
theorem dL_law_694 : decode cL_law 694 = .ok (.laload, 1) := by decide +kernel
theorem dL_law_695 : decode cL_law 695 = .ok (.iload 6, 2) := by decide +kernel
theorem dL_law_697 : decode cL_law 697 = .ok (.i2l, 1) := by decide +kernel
theorem dL_law_698 : decode cL_law 698 = .ok (.lcmp, 1) := by decide +kernel
theorem dL_law_699 : decode cL_law 699 = .ok (.ifCond .eq 5, 3) := by decide +kernel
theorem dL_law_702 : decode cL_law 702 = .ok (.iconst 0, 1) := by decide +kernel
theorem dL_law_703 : decode cL_law 703 = .ok (.ireturn, 1) := by decide +kernel
theorem dL_law_704 : decode cL_law 704 = .ok (.goto 223, 3) := by decide +kernel
theorem dL_law_707 : decode cL_law 707 = .ok (.aload_n 1, 1) := by decide +kernel
theorem dL_law_708 : decode cL_law 708 = .ok (.aload_n 0, 1) := by decide +kernel
theorem dL_law_709 : decode cL_law 709 = .ok (.iload 4, 2) := by decide +kernel
theorem dL_law_711 : decode cL_law 711 = .ok (.iconst 1, 1) := by decide +kernel
theorem dL_law_712 : decode cL_law 712 = .ok (.iadd, 1) := by decide +kernel
theorem dL_law_713 : decode cL_law 713 = .ok (.iaload, 1) := by decide +kernel
theorem dL_law_714 : decode cL_law 714 = .ok (.aload_n 3, 1) := by decide +kernel
theorem dL_law_715 : decode cL_law 715 = .ok (.invokestatic 107, 3) := by decide +kernel
theorem dL_law_718 : decode cL_law 718 = .ok (.istore 5, 2) := by decide +kernel
theorem dL_law_720 : decode cL_law 720 = .ok (.aload_n 2, 1) := by decide +kernel
theorem dL_law_721 : decode cL_law 721 = .ok (.aload_n 0, 1) := by decide +kernel
theorem dL_law_722 : decode cL_law 722 = .ok (.iload 4, 2) := by decide +kernel
theorem dL_law_724 : decode cL_law 724 = .ok (.iconst 1, 1) := by decide +kernel
theorem dL_law_725 : decode cL_law 725 = .ok (.iadd, 1) := by decide +kernel
theorem dL_law_726 : decode cL_law 726 = .ok (.iaload, 1) := by decide +kernel
theorem dL_law_727 : decode cL_law 727 = .ok (.invokevirtual 109, 3) := by decide +kernel
theorem dL_law_730 : decode cL_law 730 = .ok (.istore 6, 2) := by decide +kernel
theorem dL_law_732 : decode cL_law 732 = .ok (.aload_n 2, 1) := by decide +kernel
theorem dL_law_733 : decode cL_law 733 = .ok (.invokevirtual 65, 3) := by decide +kernel
theorem dL_law_736 : decode cL_law 736 = .ok (.iload 5, 2) := by decide +kernel
theorem dL_law_738 : decode cL_law 738 = .ok (.if_icmp .eq 5, 3) := by decide +kernel
theorem dL_law_741 : decode cL_law 741 = .ok (.iconst 0, 1) := by decide +kernel
theorem dL_law_742 : decode cL_law 742 = .ok (.ireturn, 1) := by decide +kernel
theorem dL_law_743 : decode cL_law 743 = .ok (.iload 5, 2) := by decide +kernel
theorem dL_law_745 : decode cL_law 745 = .ok (.ifCond .ne 15, 3) := by decide +kernel
theorem dL_law_748 : decode cL_law 748 = .ok (.aload_n 3, 1) := by decide +kernel
theorem dL_law_749 : decode cL_law 749 = .ok (.iconst 0, 1) := by decide +kernel
theorem dL_law_750 : decode cL_law 750 = .ok (.laload, 1) := by decide +kernel
theorem dL_law_751 : decode cL_law 751 = .ok (.iload 6, 2) := by decide +kernel
theorem dL_law_753 : decode cL_law 753 = .ok (.i2l, 1) := by decide +kernel
theorem dL_law_754 : decode cL_law 754 = .ok (.lcmp, 1) := by decide +kernel
theorem dL_law_755 : decode cL_law 755 = .ok (.ifCond .eq 5, 3) := by decide +kernel
theorem dL_law_758 : decode cL_law 758 = .ok (.iconst 0, 1) := by decide +kernel
theorem dL_law_759 : decode cL_law 759 = .ok (.ireturn, 1) := by decide +kernel
theorem dL_law_760 : decode cL_law 760 = .ok (.goto 167, 3) := by decide +kernel
theorem dL_law_763 : decode cL_law 763 = .ok (.aload_n 1, 1) := by decide +kernel
theorem dL_law_764 : decode cL_law 764 = .ok (.invokevirtual 110, 3) := by decide +kernel
theorem dL_law_767 : decode cL_law 767 = .ok (.aload_n 2, 1) := by decide +kernel
theorem dL_law_768 : decode cL_law 768 = .ok (.invokevirtual 113, 3) := by decide +kernel
theorem dL_law_771 : decode cL_law 771 = .ok (.if_icmp .eq 156, 3) := by decide +kernel
theorem dL_law_774 : decode cL_law 774 = .ok (.iconst 0, 1) := by decide +kernel
theorem dL_law_775 : decode cL_law 775 = .ok (.ireturn, 1) := by decide +kernel
theorem dL_law_776 : decode cL_law 776 = .ok (.aload_n 1, 1) := by decide +kernel
theorem dL_law_777 : decode cL_law 777 = .ok (.invokevirtual 114, 3) := by decide +kernel
theorem dL_law_780 : decode cL_law 780 = .ok (.aload_n 2, 1) := by decide +kernel
theorem dL_law_781 : decode cL_law 781 = .ok (.invokevirtual 117, 3) := by decide +kernel
theorem dL_law_784 : decode cL_law 784 = .ok (.if_icmp .eq 143, 3) := by decide +kernel
theorem dL_law_787 : decode cL_law 787 = .ok (.iconst 0, 1) := by decide +kernel
theorem dL_law_788 : decode cL_law 788 = .ok (.ireturn, 1) := by decide +kernel
theorem dL_law_789 : decode cL_law 789 = .ok (.aload_n 1, 1) := by decide +kernel
theorem dL_law_790 : decode cL_law 790 = .ok (.invokevirtual 118, 3) := by decide +kernel
theorem dL_law_793 : decode cL_law 793 = .ok (.aload_n 2, 1) := by decide +kernel
theorem dL_law_794 : decode cL_law 794 = .ok (.invokevirtual 121, 3) := by decide +kernel
theorem dL_law_797 : decode cL_law 797 = .ok (.if_icmp .eq 130, 3) := by decide +kernel
theorem dL_law_800 : decode cL_law 800 = .ok (.iconst 0, 1) := by decide +kernel
theorem dL_law_801 : decode cL_law 801 = .ok (.ireturn, 1) := by decide +kernel
theorem dL_law_802 : decode cL_law 802 = .ok (.aload_n 1, 1) := by decide +kernel
theorem dL_law_803 : decode cL_law 803 = .ok (.invokevirtual 122, 3) := by decide +kernel
theorem dL_law_806 : decode cL_law 806 = .ok (.aload_n 2, 1) := by decide +kernel
theorem dL_law_807 : decode cL_law 807 = .ok (.invokevirtual 125, 3) := by decide +kernel
theorem dL_law_810 : decode cL_law 810 = .ok (.if_icmp .eq 117, 3) := by decide +kernel
theorem dL_law_813 : decode cL_law 813 = .ok (.iconst 0, 1) := by decide +kernel
theorem dL_law_814 : decode cL_law 814 = .ok (.ireturn, 1) := by decide +kernel
theorem dL_law_815 : decode cL_law 815 = .ok (.aload_n 1, 1) := by decide +kernel
theorem dL_law_816 : decode cL_law 816 = .ok (.aload_n 0, 1) := by decide +kernel
theorem dL_law_817 : decode cL_law 817 = .ok (.iload 4, 2) := by decide +kernel
theorem dL_law_819 : decode cL_law 819 = .ok (.iconst 1, 1) := by decide +kernel
theorem dL_law_820 : decode cL_law 820 = .ok (.iadd, 1) := by decide +kernel
theorem dL_law_821 : decode cL_law 821 = .ok (.iaload, 1) := by decide +kernel
theorem dL_law_822 : decode cL_law 822 = .ok (.aload_n 3, 1) := by decide +kernel
theorem dL_law_823 : decode cL_law 823 = .ok (.invokestatic 126, 3) := by decide +kernel
theorem dL_law_826 : decode cL_law 826 = .ok (.istore 5, 2) := by decide +kernel
theorem dL_law_828 : decode cL_law 828 = .ok (.aload_n 2, 1) := by decide +kernel
theorem dL_law_829 : decode cL_law 829 = .ok (.aload_n 0, 1) := by decide +kernel
theorem dL_law_830 : decode cL_law 830 = .ok (.iload 4, 2) := by decide +kernel
theorem dL_law_832 : decode cL_law 832 = .ok (.iconst 1, 1) := by decide +kernel
theorem dL_law_833 : decode cL_law 833 = .ok (.iadd, 1) := by decide +kernel
theorem dL_law_834 : decode cL_law 834 = .ok (.iaload, 1) := by decide +kernel
theorem dL_law_835 : decode cL_law 835 = .ok (.invokevirtual 128, 3) := by decide +kernel
theorem dL_law_838 : decode cL_law 838 = .ok (.istore 6, 2) := by decide +kernel
theorem dL_law_840 : decode cL_law 840 = .ok (.aload_n 2, 1) := by decide +kernel
theorem dL_law_841 : decode cL_law 841 = .ok (.invokevirtual 65, 3) := by decide +kernel
theorem dL_law_844 : decode cL_law 844 = .ok (.iload 5, 2) := by decide +kernel
theorem dL_law_846 : decode cL_law 846 = .ok (.if_icmp .eq 5, 3) := by decide +kernel
theorem dL_law_849 : decode cL_law 849 = .ok (.iconst 0, 1) := by decide +kernel
theorem dL_law_850 : decode cL_law 850 = .ok (.ireturn, 1) := by decide +kernel
theorem dL_law_851 : decode cL_law 851 = .ok (.iload 5, 2) := by decide +kernel
theorem dL_law_853 : decode cL_law 853 = .ok (.ifCond .ne 15, 3) := by decide +kernel
theorem dL_law_856 : decode cL_law 856 = .ok (.aload_n 3, 1) := by decide +kernel
theorem dL_law_857 : decode cL_law 857 = .ok (.iconst 0, 1) := by decide +kernel
theorem dL_law_858 : decode cL_law 858 = .ok (.laload, 1) := by decide +kernel
theorem dL_law_859 : decode cL_law 859 = .ok (.iload 6, 2) := by decide +kernel
theorem dL_law_861 : decode cL_law 861 = .ok (.i2l, 1) := by decide +kernel
theorem dL_law_862 : decode cL_law 862 = .ok (.lcmp, 1) := by decide +kernel
theorem dL_law_863 : decode cL_law 863 = .ok (.ifCond .eq 5, 3) := by decide +kernel
theorem dL_law_866 : decode cL_law 866 = .ok (.iconst 0, 1) := by decide +kernel
theorem dL_law_867 : decode cL_law 867 = .ok (.ireturn, 1) := by decide +kernel
theorem dL_law_868 : decode cL_law 868 = .ok (.goto 59, 3) := by decide +kernel
theorem dL_law_871 : decode cL_law 871 = .ok (.aload_n 1, 1) := by decide +kernel
theorem dL_law_872 : decode cL_law 872 = .ok (.aload_n 0, 1) := by decide +kernel
theorem dL_law_873 : decode cL_law 873 = .ok (.iload 4, 2) := by decide +kernel
theorem dL_law_875 : decode cL_law 875 = .ok (.iconst 1, 1) := by decide +kernel
theorem dL_law_876 : decode cL_law 876 = .ok (.iadd, 1) := by decide +kernel
theorem dL_law_877 : decode cL_law 877 = .ok (.iaload, 1) := by decide +kernel
theorem dL_law_878 : decode cL_law 878 = .ok (.aload_n 3, 1) := by decide +kernel
theorem dL_law_879 : decode cL_law 879 = .ok (.invokestatic 129, 3) := by decide +kernel
theorem dL_law_882 : decode cL_law 882 = .ok (.istore 5, 2) := by decide +kernel
theorem dL_law_884 : decode cL_law 884 = .ok (.aload_n 2, 1) := by decide +kernel
theorem dL_law_885 : decode cL_law 885 = .ok (.aload_n 0, 1) := by decide +kernel
theorem dL_law_886 : decode cL_law 886 = .ok (.iload 4, 2) := by decide +kernel
theorem dL_law_888 : decode cL_law 888 = .ok (.iconst 1, 1) := by decide +kernel
theorem dL_law_889 : decode cL_law 889 = .ok (.iadd, 1) := by decide +kernel
theorem dL_law_890 : decode cL_law 890 = .ok (.iaload, 1) := by decide +kernel
theorem dL_law_891 : decode cL_law 891 = .ok (.invokevirtual 131, 3) := by decide +kernel
theorem dL_law_894 : decode cL_law 894 = .ok (.istore 6, 2) := by decide +kernel
theorem dL_law_896 : decode cL_law 896 = .ok (.aload_n 2, 1) := by decide +kernel
theorem dL_law_897 : decode cL_law 897 = .ok (.invokevirtual 65, 3) := by decide +kernel
theorem dL_law_900 : decode cL_law 900 = .ok (.iload 5, 2) := by decide +kernel
theorem dL_law_902 : decode cL_law 902 = .ok (.if_icmp .eq 5, 3) := by decide +kernel
theorem dL_law_905 : decode cL_law 905 = .ok (.iconst 0, 1) := by decide +kernel
theorem dL_law_906 : decode cL_law 906 = .ok (.ireturn, 1) := by decide +kernel
theorem dL_law_907 : decode cL_law 907 = .ok (.iload 5, 2) := by decide +kernel
theorem dL_law_909 : decode cL_law 909 = .ok (.ifCond .ne 15, 3) := by decide +kernel
theorem dL_law_912 : decode cL_law 912 = .ok (.aload_n 3, 1) := by decide +kernel
theorem dL_law_913 : decode cL_law 913 = .ok (.iconst 0, 1) := by decide +kernel
theorem dL_law_914 : decode cL_law 914 = .ok (.laload, 1) := by decide +kernel
theorem dL_law_915 : decode cL_law 915 = .ok (.iload 6, 2) := by decide +kernel
theorem dL_law_917 : decode cL_law 917 = .ok (.i2l, 1) := by decide +kernel
theorem dL_law_918 : decode cL_law 918 = .ok (.lcmp, 1) := by decide +kernel
theorem dL_law_919 : decode cL_law 919 = .ok (.ifCond .eq 5, 3) := by decide +kernel
theorem dL_law_922 : decode cL_law 922 = .ok (.iconst 0, 1) := by decide +kernel
theorem dL_law_923 : decode cL_law 923 = .ok (.ireturn, 1) := by decide +kernel
theorem dL_law_924 : decode cL_law 924 = .ok (.goto 3, 3) := by decide +kernel
theorem dL_law_927 : decode cL_law 927 = .ok (.iinc 4 4, 3) := by decide +kernel
theorem dL_law_930 : decode cL_law 930 = .ok (.goto (-907), 3) := by decide +kernel
theorem dL_law_933 : decode cL_law 933 = .ok (.iconst 1, 1) := by decide +kernel
theorem dL_law_934 : decode cL_law 934 = .ok (.ireturn, 1) := by decide +kernel
abbrev vwCl : List vw_C := [(RX0, TX0, 6), (RX1, TX1, 3), (RX2, TX2, 10)]
end
section
/-! contracts in one form, calls and array places in one row each -/
abbrev Fn : Type := Nat → Int32
abbrev zTy : Type := List (ClassId × FieldType)
/-- a method that answers an int (or boolean), turns the cells ws into ws', makes nothing -/
def zC_i (l : Launch) (y : MethodName) (wd : List Cond) (rm : Room) (G : va_G) (tys : zTy) (ws ws' : va_W) (av : List Value) (r : Int32) : Prop :=
  ∀ sz : Nat, Met l y wd rm (va_Pc av (fun U => U.heap.size = sz ∧ va_P G vwCl ws U.heap ∧ va_K G vwCl tys U ∧ va_D (fun _ => True) ws)) (va_Qi (fun (r' : Int32) (_ : Unit) => r' = r) (fun _ t => va_P G vwCl ws' t.heap ∧ va_K G vwCl tys t ∧ va_D (va_A ws sz) ws') (va_A ws sz)) 0 0 (va_A ws sz)
/-- the same, without an answer -/
def zC_v (l : Launch) (y : MethodName) (wd : List Cond) (rm : Room) (G : va_G) (tys : zTy) (ws ws' : va_W) (av : List Value) : Prop :=
  ∀ sz : Nat, Met l y wd rm (va_Pc av (fun U => U.heap.size = sz ∧ va_P G vwCl ws U.heap ∧ va_K G vwCl tys U ∧ va_D (fun _ => True) ws)) (va_Qv (fun (_ : Unit) => True) (fun _ t => va_P G vwCl ws' t.heap ∧ va_K G vwCl tys t ∧ va_D (va_A ws sz) ws') (va_A ws sz)) 0 0 (va_A ws sz)
abbrev zQ_i (below : List Frame) (G : va_G) (tys : zTy) (ws' : va_W) (r : Int32) (A : Nat → Prop) (args : Array Value) (s : State) : State → Prop :=
  MQ below (va_Qi (fun (r' : Int32) (_ : Unit) => r' = r) (fun _ t => va_P G vwCl ws' t.heap ∧ va_K G vwCl tys t ∧ va_D A ws') A) args s 0 0 A
abbrev zQ_v (below : List Frame) (G : va_G) (tys : zTy) (ws' : va_W) (A : Nat → Prop) (args : Array Value) (s : State) : State → Prop :=
  MQ below (va_Qv (fun (_ : Unit) => True) (fun _ t => va_P G vwCl ws' t.heap ∧ va_K G vwCl tys t ∧ va_D A ws') A) args s 0 0 A
theorem zB_i {l : Launch} {y : MethodName} {wd wd' : List Cond} {rm : Room} {G : va_G} {tys : zTy} {ws ws' : va_W} {av : List Value} {r : Int32} {cc : ByteArray} {maxL : Nat} {ret : Option FieldType} (hy : plainName y.cls = true) (hw : wd = Cond.code y cc maxL ret :: wd') (ha : (lg_sl av).length ≤ maxL)
    (k : ∀ (p : Program) (e : Env) (s : State) (m : MethodId) (args : Array Value) (below : List Frame) (meth : Method) (c : Code) (A : Nat → Prop), CallFix p m c cc maxL s args wd y.cls → meth.sig.returnType = ret → meth.locks = false → va_K G vwCl tys s → (∀ q, s.heap.size ≤ q → A q) → va_P G vwCl ws s.heap → va_D A ws → va_S A s.heap s.heap [] → ∀ ls : Array Slot, lv_has ls maxL (lv_args 0 av) →
      W p l e rm s m args below meth c s.heap [] 0 0 (zQ_i below G tys ws' r A args s) (F0 m 0 ls [])) : zC_i l y wd rm G tys ws ws' av r := by
  intro sz
  refine Met.ofW (cc := cc) (maxL := maxL) (ret := ret) hy hw ?_
  intro p e s m args below meth c s₁ B hml hv
  obtain ⟨rfl, hsz, hP, hK, hD0⟩ := hv
  subst hsz
  have hl := lv_entry av (n := maxL) ha
  rw [lg_entry_eq]
  exact k p e s m _ below meth c (va_A ws s.heap.size) ⟨B.exec, B.bytes, hml, findClass_of_methodNamed B.named, atoms_spec (ws := wd) B.pre⟩ B.returns B.notSynchronized hK (fun q h => Or.inr h) hP (hD0.self (sz := s.heap.size)) va_S.rf _ hl
theorem zB_v {l : Launch} {y : MethodName} {wd wd' : List Cond} {rm : Room} {G : va_G} {tys : zTy} {ws ws' : va_W} {av : List Value} {cc : ByteArray} {maxL : Nat} {ret : Option FieldType} (hy : plainName y.cls = true) (hw : wd = Cond.code y cc maxL ret :: wd') (ha : (lg_sl av).length ≤ maxL)
    (k : ∀ (p : Program) (e : Env) (s : State) (m : MethodId) (args : Array Value) (below : List Frame) (meth : Method) (c : Code) (A : Nat → Prop), CallFix p m c cc maxL s args wd y.cls → meth.sig.returnType = ret → meth.locks = false → va_K G vwCl tys s → (∀ q, s.heap.size ≤ q → A q) → va_P G vwCl ws s.heap → va_D A ws → va_S A s.heap s.heap [] → ∀ ls : Array Slot, lv_has ls maxL (lv_args 0 av) →
      W p l e rm s m args below meth c s.heap [] 0 0 (zQ_v below G tys ws' A args s) (F0 m 0 ls [])) : zC_v l y wd rm G tys ws ws' av := by
  intro sz
  refine Met.ofW (cc := cc) (maxL := maxL) (ret := ret) hy hw ?_
  intro p e s m args below meth c s₁ B hml hv
  obtain ⟨rfl, hsz, hP, hK, hD0⟩ := hv
  subst hsz
  have hl := lv_entry av (n := maxL) ha
  rw [lg_entry_eq]
  exact k p e s m _ below meth c (va_A ws s.heap.size) ⟨B.exec, B.bytes, hml, findClass_of_methodNamed B.named, atoms_spec (ws := wd) B.pre⟩ B.returns B.notSynchronized hK (fun q h => Or.inr h) hP (hD0.self (sz := s.heap.size)) va_S.rf _ hl
theorem zz_fm {α β : Type} {f : α → Option β} {l : List α} {w : List β} (h : l.map f = w.map some) : l.filterMap f = w := by
  have e : l.filterMap f = (l.map f).filterMap id := by rw [List.filterMap_map]; rfl
  rw [e, h, List.filterMap_map]
  exact List.filterMap_some
section ZK
variable {p : Program} {l : Launch} {e : Env} {R : Room} {s : State} {m : MethodId} {args : Array Value} {below : List Frame} {meth : Method} {c : Code} {H : Heap} {locs : List Loc} {cells slots : Nat} {Q : State → Prop}
  {cc : ByteArray} {pc : Nat} {ls : Array Slot} {rest st0 : List Value} {G : va_G} {A : Nat → Prop} {a : Nat} {tys tysC : zTy} {ws wc wc' wr wN : va_W} {H0 : Heap} {ret : Option FieldType} {Ts wd : List Cond} {own C : String}
  {y : MethodName} {bytes : ByteArray} {maxL nL index n : Nat} {rm : Room} {b : Addr} {As : List Value} {r : Int32}
theorem zE_i {ws' : va_W} (hF : CallFix p m c cc nL s args Ts own) (hr : meth.sig.returnType = some .int) (hlk : meth.locks = false) (hK : va_K G vwCl tys s) (hP : va_P G vwCl ws' H) (hD : va_D A ws') (hS : va_S A s.heap H locs) (hdg : decode cc pc = .ok (.ireturn, 1)) :
    W p l e R s m args below meth c H locs 0 0 (zQ_i below G tys ws' r A args s) (F0 m pc ls [.int r]) :=
  W.iret (v := r) hF.1 hF.2.1 hr (fun t ht hW => ⟨⟨r, (), rfl, rfl, by rw [ht]; exact hP, va_K.moved hW.alike hK, hD⟩, hS.F ht⟩) hS.2.2 hdg hlk
theorem zE_z {ws' : va_W} (hF : CallFix p m c cc nL s args Ts own) (hr : meth.sig.returnType = some .boolean) (hlk : meth.locks = false) (hn : r = 0 ∨ r = 1) (hK : va_K G vwCl tys s) (hP : va_P G vwCl ws' H) (hD : va_D A ws') (hS : va_S A s.heap H locs) (hdg : decode cc pc = .ok (.ireturn, 1)) :
    W p l e R s m args below meth c H locs 0 0 (zQ_i below G tys ws' r A args s) (F0 m pc ls [.int r]) :=
  W.zret (v := r) hF.1 hF.2.1 hr (by rcases hn with rfl | rfl <;> decide) (fun t ht hW => ⟨⟨r, (), rfl, rfl, by rw [ht]; exact hP, va_K.moved hW.alike hK, hD⟩, hS.F ht⟩) hS.2.2 hdg hlk
theorem zE_v {ws' : va_W} (hF : CallFix p m c cc nL s args Ts own) (hr : meth.sig.returnType = none) (hlk : meth.locks = false) (hK : va_K G vwCl tys s) (hP : va_P G vwCl ws' H) (hD : va_D A ws') (hS : va_S A s.heap H locs) (hdg : decode cc pc = .ok (.return_, 1)) :
    W p l e R s m args below meth c H locs 0 0 (zQ_v below G tys ws' A args s) (F0 m pc ls []) :=
  W.vret hF.1 hF.2.1 hr (fun t ht hW => ⟨⟨(), rfl, trivial, by rw [ht]; exact hP, va_K.moved hW.alike hK, hD⟩, hS.F ht⟩) hS.2.2 hdg hlk
/-- what a call needs of the start -/
theorem zz_preV {av : List Value} {q0 ci : Nat} {q : vw_C} {fs : List Value} (hK : va_K G vwCl tys s) (tC : List Nat) (htC : tC.filterMap (fun i => tys[i]?) = tysC) (hP : va_P G vwCl ws H) (hD : va_D A ws) (isC : List Nat) (hC : isC.map (fun i => ws[i]?) = wc.map some) (hnC : va_nd isC = true) (hav : av = .ref b :: As) (hc : vwCl[ci]? = some q) (hq : q.1 = C) (he : ws[q0]? = some (b, .inr (ci, fs))) :
    PreV s H C b (va_Pc av (fun U => U.heap.size = H.size ∧ va_P G vwCl wc U.heap ∧ va_K G vwCl tysC U ∧ va_D (fun _ => True) wc)) As := by
  subst hav
  subst hq
  refine ⟨fun a U g mk q => ?_, va_recv hK hP hc he, fun U hU hW => ⟨rfl, by rw [hU], by rw [hU]; exact hP.sub isC (zz_fm hC), (va_K.moved hW.alike hK).sub tC htC, (hD.sub isC hnC hC).weaken (fun _ _ _ _ => trivial)⟩⟩
  obtain ⟨q0, q1, qP, qK, qD⟩ := q
  exact ⟨q0, q1, qP, va_K.moved (u := U) (U := U.calling g mk a) (Vm.Alike.refl U.vm) qK, qD⟩
theorem zz_preS {av : List Value} (hK : va_K G vwCl tys s) (tC : List Nat) (htC : tC.filterMap (fun i => tys[i]?) = tysC) (hP : va_P G vwCl ws H) (hD : va_D A ws) (isC : List Nat) (hC : isC.map (fun i => ws[i]?) = wc.map some) (hnC : va_nd isC = true) :
    PreS s H (va_Pc av (fun U => U.heap.size = H.size ∧ va_P G vwCl wc U.heap ∧ va_K G vwCl tysC U ∧ va_D (fun _ => True) wc)) av := by
  refine ⟨fun a U g mk q => ?_, fun U hU hW => ⟨rfl, by rw [hU], by rw [hU]; exact hP.sub isC (zz_fm hC), (va_K.moved hW.alike hK).sub tC htC, (hD.sub isC hnC hC).weaken (fun _ _ _ _ => trivial)⟩⟩
  obtain ⟨q0, q1, qP, qK, qD⟩ := q
  exact ⟨q0, q1, qP, va_K.moved (u := U) (U := U.calling g mk a) (Vm.Alike.refl U.vm) qK, qD⟩
/-- where the callee's cells and the rest lie in the caller's world, and how the world is named behind the call -/
def zSplit (ws wc wc' wr wN : va_W) (isC isR perm : List Nat) : Prop :=
  isC.map (fun i => ws[i]?) = wc.map some ∧ va_nd isC = true ∧ isR.map (fun i => ws[i]?) = wr.map some ∧ va_nd isR = true ∧ (∀ i ∈ isR, i ∉ isC) ∧ perm.map (fun i => (wr ++ wc')[i]?) = wN.map some ∧ va_nd perm = true
/-- a call of an instance method with an int answer -/
theorem zK_vi (hF : CallFix p m c cc nL s args Ts own) (hM : zC_i l y wd rm G tysC wc wc' (.ref b :: As) r) (cw : CallW R s args own C index y bytes maxL ret wd rm 0 0 n) (hK : va_K G vwCl tys s) (hP : va_P G vwCl ws H) (hD : va_D A ws) (hS : va_S A H0 H locs) (hA : ∀ q, H0.size ≤ q → A q)
    {q0 ci : Nat} {q : vw_C} {fs : List Value} (hc : vwCl[ci]? = some q) (hq : q.1 = C) (he : ws[q0]? = some (b, .inr (ci, fs))) {isC isR perm : List Nat} (hsp : zSplit ws wc wc' wr wN isC isR perm) (tC : List Nat) (htC : tC.filterMap (fun i => tys[i]?) = tysC)
    (hn : As.length = n) (hsz : ls.size = nL) (hst : st0 = As.reverse ++ .ref b :: rest) (hW : (rest.map fun v => v.category).sum ≤ 8) (hdg : decode cc pc = .ok (.invokevirtual index, 3)) (hf : cells ≤ R.cells ∧ slots ≤ R.slots)
    (kk : ∀ (H1 : Heap) (locs1 : List Loc), va_P G vwCl wN H1 → va_D A wN → va_S A H0 H1 locs1 → W p l e R s m args below meth c H1 locs1 cells slots Q (F0 m (pc + 3) ls (.int r :: rest))) :
    W p l e R s m args below meth c H locs cells slots Q (F0 m pc ls st0) := by
  obtain ⟨h1, h2, h3, h4, h5, h6, h7⟩ := hsp
  have hFc := va_free (wc := wc) hD hS hA isC h1
  refine va_calli (va_runV (As := As) (rest := rest) hF (hM H.size) cw (zz_preV hK tC htC hP hD isC h1 h2 rfl hc hq he) rfl hn hsz hst (lv_room (pc := pc) (ls := ls) (m := m) (rest := st0) hW) hdg hf) hS (fun q _ h => hFc q h) hFc (fun r1 u t H1 locs1 ht hvm hw hB hz1 hk1 hS => ?_)
  obtain ⟨hP1, hK1, hD1⟩ := hB
  rw [ht] at hP1
  have hw : r1 = r := hw
  subst hw
  obtain ⟨hP, hD⟩ := va_join hP hD isC isR h1 h3 h4 h5 hk1 hFc hP1 hD1
  exact kk H1 locs1 (hP.sub perm (zz_fm h6)) (hD.sub perm h7 h6) hS
theorem zK_vv (hF : CallFix p m c cc nL s args Ts own) (hM : zC_v l y wd rm G tysC wc wc' (.ref b :: As)) (cw : CallW R s args own C index y bytes maxL ret wd rm 0 0 n) (hK : va_K G vwCl tys s) (hP : va_P G vwCl ws H) (hD : va_D A ws) (hS : va_S A H0 H locs) (hA : ∀ q, H0.size ≤ q → A q)
    {q0 ci : Nat} {q : vw_C} {fs : List Value} (hc : vwCl[ci]? = some q) (hq : q.1 = C) (he : ws[q0]? = some (b, .inr (ci, fs))) {isC isR perm : List Nat} (hsp : zSplit ws wc wc' wr wN isC isR perm) (tC : List Nat) (htC : tC.filterMap (fun i => tys[i]?) = tysC)
    (hn : As.length = n) (hsz : ls.size = nL) (hst : st0 = As.reverse ++ .ref b :: rest) (hW : (rest.map fun v => v.category).sum ≤ 8) (hdg : decode cc pc = .ok (.invokevirtual index, 3)) (hf : cells ≤ R.cells ∧ slots ≤ R.slots)
    (kk : ∀ (H1 : Heap) (locs1 : List Loc), va_P G vwCl wN H1 → va_D A wN → va_S A H0 H1 locs1 → W p l e R s m args below meth c H1 locs1 cells slots Q (F0 m (pc + 3) ls rest)) :
    W p l e R s m args below meth c H locs cells slots Q (F0 m pc ls st0) := by
  obtain ⟨h1, h2, h3, h4, h5, h6, h7⟩ := hsp
  have hFc := va_free (wc := wc) hD hS hA isC h1
  refine va_callv (va_runV (As := As) (rest := rest) hF (hM H.size) cw (zz_preV hK tC htC hP hD isC h1 h2 rfl hc hq he) rfl hn hsz hst (lv_room (pc := pc) (ls := ls) (m := m) (rest := st0) hW) hdg hf) hS (fun q _ h => hFc q h) hFc (fun u t H1 locs1 ht hvm hw hB hz1 hk1 hS => ?_)
  obtain ⟨hP1, hK1, hD1⟩ := hB
  rw [ht] at hP1
  obtain ⟨hP, hD⟩ := va_join hP hD isC isR h1 h3 h4 h5 hk1 hFc hP1 hD1
  exact kk H1 locs1 (hP.sub perm (zz_fm h6)) (hD.sub perm h7 h6) hS
/-- a static call with an int answer -/
theorem zK_si {av : List Value} (hF : CallFix p m c cc nL s args Ts own) (hM : zC_i l y wd rm G tysC wc wc' av r) (cw : CallB R s args own index y bytes maxL ret wd rm 0 0 n ∧ (Cond.static y).before args s = true) (hK : va_K G vwCl tys s) (hP : va_P G vwCl ws H) (hD : va_D A ws) (hS : va_S A H0 H locs) (hA : ∀ q, H0.size ≤ q → A q)
    {isC isR perm : List Nat} (hsp : zSplit ws wc wc' wr wN isC isR perm) (tC : List Nat) (htC : tC.filterMap (fun i => tys[i]?) = tysC)
    (hn : av.length = n) (hsz : ls.size = nL) (hst : st0 = av.reverse ++ rest) (hW : (rest.map fun v => v.category).sum ≤ 8) (hdg : decode cc pc = .ok (.invokestatic index, 3)) (hf : cells ≤ R.cells ∧ slots ≤ R.slots)
    (kk : ∀ (H1 : Heap) (locs1 : List Loc), va_P G vwCl wN H1 → va_D A wN → va_S A H0 H1 locs1 → W p l e R s m args below meth c H1 locs1 cells slots Q (F0 m (pc + 3) ls (.int r :: rest))) :
    W p l e R s m args below meth c H locs cells slots Q (F0 m pc ls st0) := by
  obtain ⟨h1, h2, h3, h4, h5, h6, h7⟩ := hsp
  have hFc := va_free (wc := wc) hD hS hA isC h1
  refine va_calli (va_runS (As := av) (rest := rest) hF (hM H.size) cw (zz_preS hK tC htC hP hD isC h1 h2) rfl hn hsz hst (lv_room (pc := pc) (ls := ls) (m := m) (rest := st0) hW) hdg hf) hS (fun q _ h => hFc q h) hFc (fun r1 u t H1 locs1 ht hvm hw hB hz1 hk1 hS => ?_)
  obtain ⟨hP1, hK1, hD1⟩ := hB
  rw [ht] at hP1
  have hw : r1 = r := hw
  subst hw
  obtain ⟨hP, hD⟩ := va_join hP hD isC isR h1 h3 h4 h5 hk1 hFc hP1 hD1
  exact kk H1 locs1 (hP.sub perm (zz_fm h6)) (hD.sub perm h7 h6) hS
/-- array places by a natural number -/
theorem zA_ld (hexec : p.tables.exec = Jvm.exec) (hb : c.code = cc) (hK : va_K G vwCl tys s) (hP : va_P G vwCl ws H) (q0 t0 : Nat) {cA : ClassId} {N : Nat} {f : Nat → Int32} (ha : ws[q0]? = some (a, .inl (cA, N, .inl f))) (ht : tys[t0]? = some (cA, .int)) {k : Nat} (hk : k < N) (hN : N ≤ 65536) (hdg : decode cc pc = .ok (.iaload, 1))
    (kk : W p l e R s m args below meth c H locs cells slots Q (F0 m (pc + 1) ls (.int (f k) :: rest))) : W p l e R s m args below meth c H locs cells slots Q (F0 m pc ls (.int (nI k) :: .ref a :: rest)) := by
  refine va_iald hexec hb hK hP q0 t0 ha ht (vp_in_nI hk (by omega)) hdg ?_
  rw [nI_clamp (by omega)]
  exact kk
theorem zA_st (hexec : p.tables.exec = Jvm.exec) (hb : c.code = cc) (hK : va_K G vwCl tys s) (hP : va_P G vwCl ws H) (hD : va_D A ws) (hS : va_S A H0 H locs) (q0 t0 : Nat) {cA : ClassId} {N : Nat} {f : Nat → Int32} (ha : ws[q0]? = some (a, .inl (cA, N, .inl f))) (ht : tys[t0]? = some (cA, .int)) {k : Nat} {x : Int32} (hk : k < N) (hN : N ≤ 65536) (hdg : decode cc pc = .ok (.iastore, 1))
    (kk : ∀ (H1 : Heap) (locs1 : List Loc), va_P G vwCl (ws.set q0 (a, .inl (cA, N, .inl (upd f k x)))) H1 → va_D A (ws.set q0 (a, .inl (cA, N, .inl (upd f k x)))) → va_S A H0 H1 locs1 → W p l e R s m args below meth c H1 locs1 cells slots Q (F0 m (pc + 1) ls rest)) : W p l e R s m args below meth c H locs cells slots Q (F0 m pc ls (.int x :: .int (nI k) :: .ref a :: rest)) := by
  refine va_iast hexec hb hK hP hD hS q0 t0 ha ht (vp_in_nI hk (by omega)) hdg (fun H1 locs1 h1 h2 h3 => ?_)
  rw [nI_clamp (by omega)] at h1 h2
  exact kk H1 locs1 h1 h2 h3
/-- a number on the stack by another name -/
theorem zN (x : Int32) {y : Int32} (h : y = x) (kk : W p l e R s m args below meth c H locs cells slots Q (F0 m pc ls (.int x :: rest))) : W p l e R s m args below meth c H locs cells slots Q (F0 m pc ls (.int y :: rest)) := by
  rw [h]
  exact kk
end ZK
end
section
/-! what a state of the system is, and what each call does to it -/
def bI (b : Bool) : Int32 := if b = true then 1 else 0
def hasI (n : Nat) (x : Int32) : Bool := decide (0 ≤ x) && decide (x < nI n)
theorem bI_01 (b : Bool) : bI b = 0 ∨ bI b = 1 := by cases b <;> simp [bI]
theorem bI_ne {b : Bool} : ¬ bI b = 0 ↔ b = true := by cases b <;> simp [bI]
theorem bI_e0 {b : Bool} : bI b = 0 ↔ b = false := by cases b <;> simp [bI]
theorem hasI_nI {n k : Nat} (hk : k < 2 ^ 31) (hn : n < 2 ^ 31) : hasI n (nI k) = decide (k < n) := by
  unfold hasI
  rw [decide_eq_true (nI_pos' hk), Bool.true_and]
  exact decide_eq_decide.mpr (nI_ltI hk hn)
theorem hasI_iff {n : Nat} {x : Int32} (hn : n < 2 ^ 31) : hasI n x = true ↔ ∃ k, k < n ∧ x = nI k := by
  constructor
  · intro h
    simp only [hasI, Bool.and_eq_true, decide_eq_true_eq] at h
    have h1 : ¬ x < 0 := by
      have := h.1
      simp only [Int32.le_iff_toInt_le, Int32.lt_iff_toInt_lt] at this ⊢
      omega
    obtain ⟨j, hj, rfl⟩ := nI_of h1
    exact ⟨j, (nI_ltI hj hn).mp h.2, rfl⟩
  · rintro ⟨k, hk, rfl⟩
    rw [hasI_nI (by omega) hn]
    exact decide_eq_true hk
/-- a heap: the dukes, the loudnesses and the sides by berths; how many; comparisons; changes -/
abbrev WH : Type := Fn × Fn × Fn × Nat × Int32 × Int32
abbrev wD (u : WH) : Fn := u.1
abbrev wL (u : WH) : Fn := u.2.1
abbrev wS (u : WH) : Fn := u.2.2.1
abbrev wn (u : WH) : Nat := u.2.2.2.1
abbrev wc (u : WH) : Int32 := u.2.2.2.2.1
abbrev wg (u : WH) : Int32 := u.2.2.2.2.2
def sd (S : Fn) (b : Nat) : Nat := if S b = 0 then 0 else 1
def okS (S : Fn) : Prop := (∀ j, S j = 0 ∨ S j = 1) ∧ S 0 = 0
theorem sd_nI {S : Fn} (h : okS S) (b : Nat) : S b = nI (sd S b) := by
  unfold sd
  rcases h.1 b with e | e <;> simp [e] <;> rfl
theorem sd_le (S : Fn) (b : Nat) : sd S b ≤ 1 := by
  unfold sd
  split <;> omega
theorem sd_0 {S : Fn} (h : okS S) : sd S 0 = 0 := by simp [sd, h.2]
/-- the elder's berth -/
def eld (S : Fn) (b : Nat) : Nat := if b ≤ 1 then 0 else if b % 2 = sd S (b / 2) then eld S (b / 2) else b / 2
termination_by b
decreasing_by omega
theorem eld_1 {S : Fn} {b : Nat} (h : b ≤ 1) : eld S b = 0 := by rw [eld, if_pos h]
theorem eld_up {S : Fn} {b : Nat} (h : ¬ b ≤ 1) (e : b % 2 = sd S (b / 2)) : eld S b = eld S (b / 2) := by rw [eld, if_neg h, if_pos e]
theorem eld_st {S : Fn} {b : Nat} (h : ¬ b ≤ 1) (e : ¬ b % 2 = sd S (b / 2)) : eld S b = b / 2 := by rw [eld, if_neg h, if_neg e]
theorem eld_le (S : Fn) : ∀ b, eld S b ≤ b / 2 := by
  intro b
  induction b using Nat.strongRecOn with
  | ind b ih =>
    by_cases h : b ≤ 1
    · rw [eld_1 h]; omega
    · by_cases e : b % 2 = sd S (b / 2)
      · rw [eld_up h e]
        have := ih (b / 2) (by omega)
        omega
      · rw [eld_st h e]; omega
theorem eld_lt {S : Fn} {b : Nat} (h : 0 < b) : eld S b < b := by
  have := eld_le S b
  omega
def exF (f : Fn) (i j : Nat) : Fn := upd (upd f i (f j)) j (f i)
def jc (sure : Bool) (u : WH) (e j : Nat) : Bool := sure || decide (wL u j < wL u e)
def joinF (sure : Bool) (u : WH) (e j : Nat) : WH :=
  if jc sure u e j = true then (exF (wD u) e j, exF (wL u) e j, upd (wS u) j (1 - wS u j), wn u, wc u + 1, wg u + 1) else (wD u, wL u, wS u, wn u, wc u + 1, wg u)
def riseF (sure : Bool) : Nat → WH → Nat → WH × Nat
  | 0, u, b => (u, b)
  | f + 1, u, b => if b = 0 then (u, 0) else if jc sure u (eld (wS u) b) b = true then riseF sure f (joinF sure u (eld (wS u) b) b) (eld (wS u) b) else (joinF sure u (eld (wS u) b) b, b)
def lowF (S : Fn) (n : Nat) : Nat → Nat → Nat
  | 0, b => b
  | f + 1, b => if 2 * b + sd S b < n then lowF S n f (2 * b + sd S b) else b
def topF : Nat → WH → Nat → WH
  | 0, u, _ => u
  | f + 1, u, b => if b = 0 then u else topF f (joinF false u 0 b) (b / 2)
def joinTopF (u : WH) : WH := topF 63 u (lowF (wS u) (wn u) 63 1)
def mvF (u : WH) : WH := (upd (wD u) 0 (wD u (wn u - 1)), upd (wL u) 0 (wL u (wn u - 1)), wS u, wn u - 1, wc u, wg u)
def rmF (u : WH) : WH := if 1 < wn u - 1 then joinTopF (mvF u) else mvF u
def rmsF : Nat → WH → WH
  | 0, u => u
  | k + 1, u => rmF (rmsF k u)
def layF (u : WH) (num loud : Int32) : WH := (upd (wD u) (wn u) num, upd (wL u) (wn u) loud, upd (wS u) (wn u) 0, wn u + 1, wc u, wg u)
/-- the berth above the next one begins anew -/
def newF (u : WH) (b : Nat) : WH := (wD u, wL u, (if b % 2 = 0 then upd (wS u) (b / 2) 0 else wS u), wn u, wc u, wg u)
def comeF (u : WH) (num loud : Int32) : WH := (riseF false 63 (newF (layF u num loud) (wn u)) (wn u)).1
def allF : Nat → WH → WH
  | 0, u => u
  | b + 1, u => allF b (joinF false u (eld (wS u) (b + 1)) (b + 1))
def zfF (k : Nat) (S : Fn) : Fn := fun j => if j < k then 0 else S j
def flF (k : Nat) (f g : Fn) : Fn := fun j => if j < k then f j else g j
def zsF (k : Nat) (u : WH) : WH := (wD u, wL u, zfF k (wS u), wn u, wc u, wg u)
def ldF (first step : Int32) (i : Nat) : Int32 := (first + nI i * step) - (first + nI i * step) / 1000 * 1000
def laysF (first step : Int32) (came : Nat) : Nat → WH → WH
  | 0, u => u
  | i + 1, u => layF (laysF first step came i u) (nI (came + i)) (ldF first step i)
def setL (u : WH) (b : Nat) (x : Int32) : WH := (wD u, upd (wL u) b x, wS u, wn u, wc u, wg u)
def fnd (D : Fn) (x : Int32) : Nat → Nat
  | 0 => 0
  | n + 1 => if fnd D x n < n then fnd D x n else if D n = x then n else n + 1
def fndI (D : Fn) (n : Nat) (x : Int32) : Int32 := if fnd D x n < n then nI (fnd D x n) else -1
def flw (S : Fn) (x : Nat) : Nat → Int32
  | 0 => 0
  | i + 1 => if 1 ≤ i ∧ eld S i = x then flw S x i + 1 else flw S x i
def flp (S : Fn) : Nat → Int32
  | 0 => 0
  | i + 1 => flp S i + S i
def mskF (S L : Fn) (lim : Int32) : Nat → Nat
  | 0 => 0
  | i + 1 => if (i = 0 ∨ mskF S L lim i / 2 ^ (eld S i) % 2 = 1) ∧ L i < lim then mskF S L lim i + 2 ^ i else mskF S L lim i
def cpF (u t : WH) : WH := (flF 63 (wD u) (wD t), flF 63 (wL u) (wL t), flF 63 (wS u) (wS t), wn u, wc u, wg u)
/-- the cells of a WeakHeap -/
abbrev wh (cI : ClassId) (h d l s : Nat) (u : WH) : va_W := [(h, .inr (0, [.ref d, .ref l, .ref s, .int (nI (wn u)), .int (wc u), .int (wg u)])), (d, .inl (cI, 63, .inl (wD u))), (l, .inl (cI, 63, .inl (wL u))), (s, .inl (cI, 63, .inl (wS u)))]
theorem fnd_le (D : Fn) (x : Int32) : ∀ n, fnd D x n ≤ n
  | 0 => Nat.le_refl 0
  | n + 1 => by
    have ih := fnd_le D x n
    unfold fnd
    split
    · omega
    · split <;> omega
theorem fnd_no (D : Fn) (x : Int32) : ∀ n k, k < fnd D x n → D k ≠ x
  | 0, k, h => absurd h (Nat.not_lt_zero k)
  | n + 1, k, h => by
    have ih := fnd_no D x n
    have hle := fnd_le D x n
    unfold fnd at h
    split at h
    · exact ih k h
    · rename_i h1
      split at h
      · exact ih k (by omega)
      · rename_i h2
        rcases Nat.lt_or_ge k n with q | q
        · exact ih k (by omega)
        · have : k = n := by omega
          subst this
          exact h2
theorem fnd_yes (D : Fn) (x : Int32) : ∀ n, fnd D x n < n → D (fnd D x n) = x
  | 0, h => absurd h (Nat.not_lt_zero _)
  | n + 1, h => by
    have ih := fnd_yes D x n
    unfold fnd at h ⊢
    by_cases h1 : fnd D x n < n
    · rw [if_pos h1]
      exact ih h1
    · rw [if_neg h1] at h ⊢
      by_cases h2 : D n = x
      · rw [if_pos h2]; exact h2
      · rw [if_neg h2] at h
        omega
theorem fnd_at {D : Fn} {x : Int32} {n k : Nat} (hk : k < n) (he : D k = x) (hn : ∀ j, j < k → D j ≠ x) : fnd D x n = k := by
  have h1 : ¬ k < fnd D x n := fun h => fnd_no D x n k h he
  have h2 : fnd D x n < n := by omega
  rcases Nat.lt_or_ge (fnd D x n) k with q | q
  · exact absurd (fnd_yes D x n h2) (hn _ q)
  · omega
theorem fnd_none {D : Fn} {x : Int32} {n : Nat} (h : ∀ j, j < n → D j ≠ x) : ¬ fnd D x n < n := fun q => h _ q (fnd_yes D x n q)
end
section
/-! branches over numbers, as facts of natural numbers -/
theorem k_lt {a b : Nat} (ha : a < 2 ^ 31) (hb : b < 2 ^ 31) (h : nI a < nI b) : a < b := (nI_ltI ha hb).mp h
theorem k_nlt {b a : Nat} (ha : a < 2 ^ 31) (hb : b < 2 ^ 31) (h : ¬ nI a < nI b) : b ≤ a := Nat.not_lt.mp fun q => h ((nI_ltI ha hb).mpr q)
theorem k_le {b a : Nat} (ha : a < 2 ^ 31) (hb : b < 2 ^ 31) (h : nI b ≤ nI a) : b ≤ a := (nI_leI hb ha).mp h
theorem k_nle {a b : Nat} (ha : a < 2 ^ 31) (hb : b < 2 ^ 31) (h : ¬ nI b ≤ nI a) : a < b := Nat.not_le.mp fun q => h ((nI_leI hb ha).mpr q)
theorem k_eq {a b : Nat} (ha : a < 2 ^ 31) (hb : b < 2 ^ 31) (h : nI a = nI b) : a = b := (nI_eq ha hb).mp h
theorem k_ne {a b : Nat} (ha : a < 2 ^ 31) (hb : b < 2 ^ 31) (h : ¬ nI a = nI b) : a ≠ b := fun q => h ((nI_eq ha hb).mpr q)
theorem k0_eq {a : Nat} (ha : a < 2 ^ 31) (h : nI a = 0) : a = 0 := k_eq ha (by decide) (h.trans nI_0.symm)
theorem k0_ne {a : Nat} (ha : a < 2 ^ 31) (h : ¬ nI a = 0) : 0 < a := Nat.pos_of_ne_zero fun q => h (by rw [q]; exact nI_0)
theorem k0_gt {a : Nat} (ha : a < 2 ^ 31) (h : 0 < nI a) : 0 < a := k_lt (by decide) ha (by rw [nI_0]; exact h)
theorem k0_ngt {a : Nat} (ha : a < 2 ^ 31) (h : ¬ 0 < nI a) : a = 0 := Nat.eq_zero_of_not_pos fun q => h (by rw [← nI_0]; exact (nI_ltI (by decide) ha).mpr q)
theorem k0_le {a : Nat} (ha : a < 2 ^ 31) (h : nI a ≤ 0) : a = 0 := Nat.le_zero.mp (k_le (by decide) ha (by rw [nI_0]; exact h))
theorem k0_nle {a : Nat} (ha : a < 2 ^ 31) (h : ¬ nI a ≤ 0) : 0 < a := k_nle (by decide) ha (by rw [nI_0]; exact h)
theorem has_t {n : Nat} {b : Int32} (h1 : ¬ b < 0) (h2 : ¬ nI n ≤ b) : bI (hasI n b) = nI 1 := by
  have h3 : 0 ≤ b := by simp only [Int32.le_iff_toInt_le, Int32.lt_iff_toInt_lt] at *; omega
  have h4 : b < nI n := by simp only [Int32.le_iff_toInt_le, Int32.lt_iff_toInt_lt] at *; omega
  unfold hasI
  rw [decide_eq_true h3, decide_eq_true h4]
  rfl
theorem has_f0 {n : Nat} {b : Int32} (h : b < 0) : bI (hasI n b) = nI 0 := by
  have h3 : ¬ 0 ≤ b := by simp only [Int32.le_iff_toInt_le, Int32.lt_iff_toInt_lt] at *; omega
  unfold hasI
  rw [decide_eq_false h3]
  rfl
theorem has_f1 {n : Nat} {b : Int32} (h : nI n ≤ b) : bI (hasI n b) = nI 0 := by
  have h4 : ¬ b < nI n := by simp only [Int32.le_iff_toInt_le, Int32.lt_iff_toInt_lt] at *; omega
  unfold hasI
  rw [decide_eq_false h4, Bool.and_false]
  rfl
theorem has_f2 {n : Nat} {b : Int32} (hn : n ≤ 63) (h : nI 63 ≤ b) : bI (hasI n b) = nI 0 := by
  refine has_f1 ?_
  have := nI_le hn (by decide)
  simp only [Int32.le_iff_toInt_le] at *
  omega
end
section
/-! WeakHeap: what is asked of berths -/
set_option maxHeartbeats 4000000 in
set_option maxRecDepth 100000 in
theorem c_has (l : Launch) (G : va_G) (cI : ClassId) (hz da la saz : Nat) (Dz Lz Sz : Fn) (nz : Nat) (cz gz : Int32) (hn : nz ≤ 63) (bz : Int32) : zC_i l yX0_has wsX0_has ({ frames := 0, cells := 0, slots := 0, locals := 0 }) G [(cI, .int)] (wh cI hz da la saz (Dz, Lz, Sz, nz, cz, gz)) (wh cI hz da la saz (Dz, Lz, Sz, nz, cz, gz)) [.ref hz, .int bz] (bI (hasI nz bz)) := by
  refine zB_i (cc := cX0_has) (maxL := 2) (ret := (some .boolean)) (by decide) rfl (Nat.le_of_ble_eq_true rfl) ?_
  intro p e s m args below meth c0 A hF hr hlk hK hA hP hD hS ls hl
  have hx := hF.1
  have hb := hF.2.1
  have hown := hF.2.2.2.1
  have hts := hF.2.2.2.2
  have hf21 := hts (.fieldLink RX0 21 "SnoringDukes$WeakHeap" "size" "I") (by decide +kernel)
  have hinX0 : ∀ wz ∈ wsX00, wz ∈ wsX0_has := by decide +kernel
  have hl : lv_has ls 2 [(0, .ref hz), (1, .int bz)] := hl
  refine lv_iload_n hx hb dX0_has_0 rfl (lv_at hl 1 rfl) ?_
  refine lv_if_lt (tgt := 22) hx hb dX0_has_1 (by decide) (fun hc1 => ?_) (fun hc1 => ?_)
  · skip
    refine lv_iconst (v := nI 0) hx hb dX0_has_22 (by decide) ?_
    rw [has_f0 hc1]
    exact zE_z hF hr hlk (Or.inl rfl) hK hP hD hS dX0_has_23
  · skip
    refine lv_iload_n hx hb dX0_has_4 rfl (lv_at hl 1 rfl) ?_
    refine lv_aload_n hx hb dX0_has_5 rfl (lv_at hl 0 rfl) ?_
    refine va_get (D := G) (ci := 0) (v := .int (nI nz)) (C := RX0) (T := TX0) (N := 6) hx hb hts hinX0 hown hK hP 0 rfl rfl 3 (by decide) hf21 (fun _ h9 => h9) rfl dX0_has_6 ?_
    refine lv_icmp_ge (tgt := 22) hx hb dX0_has_9 (by decide) (fun hc9 => ?_) (fun hc9 => ?_)
    · skip
      refine lv_iconst (v := nI 0) hx hb dX0_has_22 (by decide) ?_
      rw [has_f1 hc9]
      exact zE_z hF hr hlk (Or.inl rfl) hK hP hD hS dX0_has_23
    · skip
      refine lv_iload_n hx hb dX0_has_12 rfl (lv_at hl 1 rfl) ?_
      refine lv_bipush (v := nI 63) hx hb dX0_has_13 (by decide) ?_
      refine lv_icmp_ge (tgt := 22) hx hb dX0_has_15 (by decide) (fun hc15 => ?_) (fun hc15 => ?_)
      · skip
        refine lv_iconst (v := nI 0) hx hb dX0_has_22 (by decide) ?_
        rw [has_f2 hn hc15]
        exact zE_z hF hr hlk (Or.inl rfl) hK hP hD hS dX0_has_23
      · skip
        refine lv_iconst (v := nI 1) hx hb dX0_has_18 (by decide) ?_
        refine lv_goto (tgt := 23) hx hb dX0_has_19 (by decide) ?_
        rw [has_t hc1 hc9]
        exact zE_z hF hr hlk (Or.inr rfl) hK hP hD hS dX0_has_23
set_option maxHeartbeats 4000000 in
set_option maxRecDepth 100000 in
theorem c_dukeAt (l : Launch) (G : va_G) (cI : ClassId) (hz da la saz : Nat) (Dz Lz Sz : Fn) (nz : Nat) (cz gz : Int32) (hn : nz ≤ 63) (bz : Nat) (hb9 : bz < 1000) : zC_i l yX0_dukeAt wsX0_dukeAt ({ frames := 1, cells := 0, slots := 0, locals := 21 }) G [(cI, .int)] (wh cI hz da la saz (Dz, Lz, Sz, nz, cz, gz)) (wh cI hz da la saz (Dz, Lz, Sz, nz, cz, gz)) [.ref hz, .int (nI bz)] (if bz < nz then Dz bz else -1) := by
  refine zB_i (cc := cX0_dukeAt) (maxL := 2) (ret := (some .int)) (by decide) rfl (Nat.le_of_ble_eq_true rfl) ?_
  intro p e s m args below meth c0 A hF hr hlk hK hA hP hD hS ls hl
  have hx := hF.1
  have hb := hF.2.1
  have hown := hF.2.2.2.1
  have hts := hF.2.2.2.2
  have hf9 := hts (.fieldLink RX0 9 "SnoringDukes$WeakHeap" "duke" "[I") (by decide +kernel)
  have hinX0 : ∀ wz ∈ wsX00, wz ∈ wsX0_dukeAt := by decide +kernel
  have hl : lv_has ls 2 [(0, .ref hz), (1, .int (nI bz))] := hl
  refine lv_aload_n hx hb dX0_dukeAt_0 rfl (lv_at hl 0 rfl) ?_
  refine lv_iload_n hx hb dX0_dukeAt_1 rfl (lv_at hl 1 rfl) ?_
  refine zK_vi (As := [.int (nI bz)]) (rest := []) hF (c_has l G cI hz da la saz (Dz) (Lz) (Sz) (nz) (cz) (gz) hn (nI bz)) (cwV 1 hts gX0_dukeAt_X0_has rfl rfl rfl (by decide +kernel) ⟨Nat.le_of_ble_eq_true rfl, Nat.le_of_ble_eq_true rfl⟩) hK hP hD hS hA (ci := 0) (q0 := 0) rfl rfl rfl (isC := [0, 1, 2, 3]) (isR := []) (perm := [0, 1, 2, 3]) (wr := []) (wN := wh cI hz da la saz (Dz, Lz, Sz, nz, cz, gz)) ⟨rfl, by decide, rfl, rfl, (fun _ hz => by cases hz), rfl, by decide⟩ [0] rfl rfl hl.1 rfl (Nat.le_of_ble_eq_true rfl) dX0_dukeAt_2 ⟨Nat.le_refl _, Nat.le_refl _⟩ (fun H locs hP hD hS => ?_)
  refine zN (bI (decide (bz < nz))) (y := (bI (hasI nz (nI bz)))) (by rw [hasI_nI (by omega) (by omega)]) ?_
  refine lv_if_eq (tgt := 17) hx hb dX0_dukeAt_5 (by decide) (fun hc5 => ?_) (fun hc5 => ?_)
  · skip
    have k5 : (decide (bz < nz)) = false := bI_e0.mp hc5
    refine lv_iconst (v := (-1)) hx hb dX0_dukeAt_17 (by decide) ?_
    have kz : ¬ bz < nz := of_decide_eq_false k5
    rw [if_neg kz]
    exact zE_i hF hr hlk hK hP hD hS dX0_dukeAt_18
  · skip
    have k5 : (decide (bz < nz)) = true := bI_ne.mp hc5
    have kz : bz < nz := of_decide_eq_true k5
    refine lv_aload_n hx hb dX0_dukeAt_8 rfl (lv_at hl 0 rfl) ?_
    refine va_get (D := G) (ci := 0) (v := .ref da) (C := RX0) (T := TX0) (N := 6) hx hb hts hinX0 hown hK hP 0 rfl rfl 0 (by decide) hf9 (fun _ h9 => h9) rfl dX0_dukeAt_9 ?_
    refine lv_iload_n hx hb dX0_dukeAt_12 rfl (lv_at hl 1 rfl) ?_
    refine zA_ld hx hb hK hP 1 0 rfl rfl (by omega) (by decide) dX0_dukeAt_13 ?_
    refine lv_goto (tgt := 18) hx hb dX0_dukeAt_14 (by decide) ?_
    have kz : bz < nz := of_decide_eq_true k5
    rw [if_pos kz]
    exact zE_i hF hr hlk hK hP hD hS dX0_dukeAt_18
set_option maxHeartbeats 4000000 in
set_option maxRecDepth 100000 in
theorem c_loudnessAt (l : Launch) (G : va_G) (cI : ClassId) (hz da la saz : Nat) (Dz Lz Sz : Fn) (nz : Nat) (cz gz : Int32) (hn : nz ≤ 63) (bz : Nat) (hb9 : bz < 1000) : zC_i l yX0_loudnessAt wsX0_loudnessAt ({ frames := 1, cells := 0, slots := 0, locals := 21 }) G [(cI, .int)] (wh cI hz da la saz (Dz, Lz, Sz, nz, cz, gz)) (wh cI hz da la saz (Dz, Lz, Sz, nz, cz, gz)) [.ref hz, .int (nI bz)] (if bz < nz then Lz bz else -1) := by
  refine zB_i (cc := cX0_loudnessAt) (maxL := 2) (ret := (some .int)) (by decide) rfl (Nat.le_of_ble_eq_true rfl) ?_
  intro p e s m args below meth c0 A hF hr hlk hK hA hP hD hS ls hl
  have hx := hF.1
  have hb := hF.2.1
  have hown := hF.2.2.2.1
  have hts := hF.2.2.2.2
  have hf15 := hts (.fieldLink RX0 15 "SnoringDukes$WeakHeap" "loudness" "[I") (by decide +kernel)
  have hinX0 : ∀ wz ∈ wsX00, wz ∈ wsX0_loudnessAt := by decide +kernel
  have hl : lv_has ls 2 [(0, .ref hz), (1, .int (nI bz))] := hl
  refine lv_aload_n hx hb dX0_loudnessAt_0 rfl (lv_at hl 0 rfl) ?_
  refine lv_iload_n hx hb dX0_loudnessAt_1 rfl (lv_at hl 1 rfl) ?_
  refine zK_vi (As := [.int (nI bz)]) (rest := []) hF (c_has l G cI hz da la saz (Dz) (Lz) (Sz) (nz) (cz) (gz) hn (nI bz)) (cwV 1 hts gX0_loudnessAt_X0_has rfl rfl rfl (by decide +kernel) ⟨Nat.le_of_ble_eq_true rfl, Nat.le_of_ble_eq_true rfl⟩) hK hP hD hS hA (ci := 0) (q0 := 0) rfl rfl rfl (isC := [0, 1, 2, 3]) (isR := []) (perm := [0, 1, 2, 3]) (wr := []) (wN := wh cI hz da la saz (Dz, Lz, Sz, nz, cz, gz)) ⟨rfl, by decide, rfl, rfl, (fun _ hz => by cases hz), rfl, by decide⟩ [0] rfl rfl hl.1 rfl (Nat.le_of_ble_eq_true rfl) dX0_loudnessAt_2 ⟨Nat.le_refl _, Nat.le_refl _⟩ (fun H locs hP hD hS => ?_)
  refine zN (bI (decide (bz < nz))) (y := (bI (hasI nz (nI bz)))) (by rw [hasI_nI (by omega) (by omega)]) ?_
  refine lv_if_eq (tgt := 17) hx hb dX0_loudnessAt_5 (by decide) (fun hc5 => ?_) (fun hc5 => ?_)
  · skip
    have k5 : (decide (bz < nz)) = false := bI_e0.mp hc5
    refine lv_iconst (v := (-1)) hx hb dX0_loudnessAt_17 (by decide) ?_
    have kz : ¬ bz < nz := of_decide_eq_false k5
    rw [if_neg kz]
    exact zE_i hF hr hlk hK hP hD hS dX0_loudnessAt_18
  · skip
    have k5 : (decide (bz < nz)) = true := bI_ne.mp hc5
    have kz : bz < nz := of_decide_eq_true k5
    refine lv_aload_n hx hb dX0_loudnessAt_8 rfl (lv_at hl 0 rfl) ?_
    refine va_get (D := G) (ci := 0) (v := .ref la) (C := RX0) (T := TX0) (N := 6) hx hb hts hinX0 hown hK hP 0 rfl rfl 1 (by decide) hf15 (fun _ h9 => h9) rfl dX0_loudnessAt_9 ?_
    refine lv_iload_n hx hb dX0_loudnessAt_12 rfl (lv_at hl 1 rfl) ?_
    refine zA_ld hx hb hK hP 2 0 rfl rfl (by omega) (by decide) dX0_loudnessAt_13 ?_
    refine lv_goto (tgt := 18) hx hb dX0_loudnessAt_14 (by decide) ?_
    have kz : bz < nz := of_decide_eq_true k5
    rw [if_pos kz]
    exact zE_i hF hr hlk hK hP hD hS dX0_loudnessAt_18
set_option maxHeartbeats 4000000 in
set_option maxRecDepth 100000 in
theorem c_sideAt (l : Launch) (G : va_G) (cI : ClassId) (hz da la saz : Nat) (Dz Lz Sz : Fn) (nz : Nat) (cz gz : Int32) (hn : nz ≤ 63) (bz : Nat) (hb9 : bz < 1000) : zC_i l yX0_sideAt wsX0_sideAt ({ frames := 1, cells := 0, slots := 0, locals := 21 }) G [(cI, .int)] (wh cI hz da la saz (Dz, Lz, Sz, nz, cz, gz)) (wh cI hz da la saz (Dz, Lz, Sz, nz, cz, gz)) [.ref hz, .int (nI bz)] (if bz < nz then Sz bz else 0) := by
  refine zB_i (cc := cX0_sideAt) (maxL := 2) (ret := (some .int)) (by decide) rfl (Nat.le_of_ble_eq_true rfl) ?_
  intro p e s m args below meth c0 A hF hr hlk hK hA hP hD hS ls hl
  have hx := hF.1
  have hb := hF.2.1
  have hown := hF.2.2.2.1
  have hts := hF.2.2.2.2
  have hf18 := hts (.fieldLink RX0 18 "SnoringDukes$WeakHeap" "side" "[I") (by decide +kernel)
  have hinX0 : ∀ wz ∈ wsX00, wz ∈ wsX0_sideAt := by decide +kernel
  have hl : lv_has ls 2 [(0, .ref hz), (1, .int (nI bz))] := hl
  refine lv_aload_n hx hb dX0_sideAt_0 rfl (lv_at hl 0 rfl) ?_
  refine lv_iload_n hx hb dX0_sideAt_1 rfl (lv_at hl 1 rfl) ?_
  refine zK_vi (As := [.int (nI bz)]) (rest := []) hF (c_has l G cI hz da la saz (Dz) (Lz) (Sz) (nz) (cz) (gz) hn (nI bz)) (cwV 1 hts gX0_sideAt_X0_has rfl rfl rfl (by decide +kernel) ⟨Nat.le_of_ble_eq_true rfl, Nat.le_of_ble_eq_true rfl⟩) hK hP hD hS hA (ci := 0) (q0 := 0) rfl rfl rfl (isC := [0, 1, 2, 3]) (isR := []) (perm := [0, 1, 2, 3]) (wr := []) (wN := wh cI hz da la saz (Dz, Lz, Sz, nz, cz, gz)) ⟨rfl, by decide, rfl, rfl, (fun _ hz => by cases hz), rfl, by decide⟩ [0] rfl rfl hl.1 rfl (Nat.le_of_ble_eq_true rfl) dX0_sideAt_2 ⟨Nat.le_refl _, Nat.le_refl _⟩ (fun H locs hP hD hS => ?_)
  refine zN (bI (decide (bz < nz))) (y := (bI (hasI nz (nI bz)))) (by rw [hasI_nI (by omega) (by omega)]) ?_
  refine lv_if_eq (tgt := 17) hx hb dX0_sideAt_5 (by decide) (fun hc5 => ?_) (fun hc5 => ?_)
  · skip
    have k5 : (decide (bz < nz)) = false := bI_e0.mp hc5
    refine lv_iconst (v := nI 0) hx hb dX0_sideAt_17 (by decide) ?_
    have kz : ¬ bz < nz := of_decide_eq_false k5
    rw [if_neg kz]
    exact zE_i hF hr hlk hK hP hD hS dX0_sideAt_18
  · skip
    have k5 : (decide (bz < nz)) = true := bI_ne.mp hc5
    have kz : bz < nz := of_decide_eq_true k5
    refine lv_aload_n hx hb dX0_sideAt_8 rfl (lv_at hl 0 rfl) ?_
    refine va_get (D := G) (ci := 0) (v := .ref saz) (C := RX0) (T := TX0) (N := 6) hx hb hts hinX0 hown hK hP 0 rfl rfl 2 (by decide) hf18 (fun _ h9 => h9) rfl dX0_sideAt_9 ?_
    refine lv_iload_n hx hb dX0_sideAt_12 rfl (lv_at hl 1 rfl) ?_
    refine zA_ld hx hb hK hP 3 0 rfl rfl (by omega) (by decide) dX0_sideAt_13 ?_
    refine lv_goto (tgt := 18) hx hb dX0_sideAt_14 (by decide) ?_
    have kz : bz < nz := of_decide_eq_true k5
    rw [if_pos kz]
    exact zE_i hF hr hlk hK hP hD hS dX0_sideAt_18
set_option maxHeartbeats 4000000 in
set_option maxRecDepth 100000 in
theorem c_left (l : Launch) (G : va_G) (cI : ClassId) (hz da la saz : Nat) (Dz Lz Sz : Fn) (nz : Nat) (cz gz : Int32) (hn : nz ≤ 63) (hS1 : okS Sz) (bz : Nat) (hb9 : bz < nz) : zC_i l yX0_left wsX0_left ({ frames := 2, cells := 0, slots := 0, locals := 42 }) G [(cI, .int)] (wh cI hz da la saz (Dz, Lz, Sz, nz, cz, gz)) (wh cI hz da la saz (Dz, Lz, Sz, nz, cz, gz)) [.ref hz, .int (nI bz)] (nI (2 * bz + sd Sz bz)) := by
  refine zB_i (cc := cX0_left) (maxL := 2) (ret := (some .int)) (by decide) rfl (Nat.le_of_ble_eq_true rfl) ?_
  intro p e s m args below meth c0 A hF hr hlk hK hA hP hD hS ls hl
  have hx := hF.1
  have hb := hF.2.1
  have hown := hF.2.2.2.1
  have hts := hF.2.2.2.2
  have hl : lv_has ls 2 [(0, .ref hz), (1, .int (nI bz))] := hl
  refine lv_iconst (v := nI 2) hx hb dX0_left_0 (by decide) ?_
  refine lv_iload_n hx hb dX0_left_1 rfl (lv_at hl 1 rfl) ?_
  refine lv_imul hx hb dX0_left_2 ?_
  refine zN (nI (2 * bz)) (y := ((nI 2) * (nI bz))) (pk_mul _ _) ?_
  refine lv_aload_n hx hb dX0_left_3 rfl (lv_at hl 0 rfl) ?_
  refine lv_iload_n hx hb dX0_left_4 rfl (lv_at hl 1 rfl) ?_
  refine zK_vi (As := [.int (nI bz)]) (rest := [.int (nI (2 * bz))]) hF (c_sideAt l G cI hz da la saz (Dz) (Lz) (Sz) (nz) (cz) (gz) hn bz (by omega)) (cwV 1 hts gX0_left_X0_sideAt rfl rfl rfl (by decide +kernel) ⟨Nat.le_of_ble_eq_true rfl, Nat.le_of_ble_eq_true rfl⟩) hK hP hD hS hA (ci := 0) (q0 := 0) rfl rfl rfl (isC := [0, 1, 2, 3]) (isR := []) (perm := [0, 1, 2, 3]) (wr := []) (wN := wh cI hz da la saz (Dz, Lz, Sz, nz, cz, gz)) ⟨rfl, by decide, rfl, rfl, (fun _ hz => by cases hz), rfl, by decide⟩ [0] rfl rfl hl.1 rfl (Nat.le_of_ble_eq_true rfl) dX0_left_5 ⟨Nat.le_refl _, Nat.le_refl _⟩ (fun H locs hP hD hS => ?_)
  refine zN (nI (sd Sz bz)) (y := (if bz < nz then Sz bz else 0)) (by rw [if_pos hb9]; exact sd_nI hS1 bz) ?_
  refine lv_iadd hx hb dX0_left_8 ?_
  refine zN (nI ((2 * bz) + (sd Sz bz))) (y := ((nI (2 * bz)) + (nI (sd Sz bz)))) (nI_add _ _) ?_
  exact zE_i hF hr hlk hK hP hD hS dX0_left_9
set_option maxHeartbeats 4000000 in
set_option maxRecDepth 100000 in
theorem c_find (l : Launch) (G : va_G) (cI : ClassId) (hz da la saz : Nat) (Dz Lz Sz : Fn) (nz : Nat) (cz gz : Int32) (hn : nz ≤ 63) (xz : Int32) : zC_i l yX0_find wsX0_find ({ frames := 2, cells := 0, slots := 0, locals := 42 }) G [(cI, .int)] (wh cI hz da la saz (Dz, Lz, Sz, nz, cz, gz)) (wh cI hz da la saz (Dz, Lz, Sz, nz, cz, gz)) [.ref hz, .int xz] (fndI Dz nz xz) := by
  refine zB_i (cc := cX0_find) (maxL := 3) (ret := (some .int)) (by decide) rfl (Nat.le_of_ble_eq_true rfl) ?_
  intro p e s m args below meth c0 A hF hr hlk hK hA hP hD hS ls hl
  have hx := hF.1
  have hb := hF.2.1
  have hown := hF.2.2.2.1
  have hts := hF.2.2.2.2
  have hf21 := hts (.fieldLink RX0 21 "SnoringDukes$WeakHeap" "size" "I") (by decide +kernel)
  have hinX0 : ∀ wz ∈ wsX00, wz ∈ wsX0_find := by decide +kernel
  have hl : lv_has ls 3 [(0, .ref hz), (1, .int xz)] := hl
  refine lv_iconst (v := nI 0) hx hb dX0_find_0 (by decide) ?_
  refine lv_istore_n (lv' := [(2, .int (nI 0)), (0, .ref hz), (1, .int xz)]) hx hb dX0_find_1 rfl hl (by decide) rfl (fun ls hl => ?_)
  have loop : ∀ (f9 : Nat) (iz : Nat), (iz ≤ nz) → (∀ j, j < iz → Dz j ≠ xz) → nz - iz < f9 → ∀ (H : Heap) (locs : List Loc) (ls : Array Slot), va_P G vwCl (wh cI hz da la saz (Dz, Lz, Sz, nz, cz, gz)) H → va_D A (wh cI hz da la saz (Dz, Lz, Sz, nz, cz, gz)) → va_S A s.heap H locs → lv_has ls 3 [(0, .ref hz), (1, .int xz), (2, .int (nI iz))] → W p l e ({ frames := 2, cells := 0, slots := 0, locals := 42 }) s m args below meth c0 H locs 0 0 (zQ_i below G [(cI, .int)] (wh cI hz da la saz (Dz, Lz, Sz, nz, cz, gz)) (fndI Dz nz xz) A args s) (F0 m 2 ls []) := by
    intro f9
    induction f9 with
    | zero => intro iz hi hi2 hf; exact absurd hf (Nat.not_lt_zero _)
    | succ f9 ih =>
      intro iz hi hi2 hf H locs ls hP hD hS hl
      refine lv_iload_n hx hb dX0_find_2 rfl (lv_at hl 2 rfl) ?_
      refine lv_aload_n hx hb dX0_find_3 rfl (lv_at hl 0 rfl) ?_
      refine va_get (D := G) (ci := 0) (v := .int (nI nz)) (C := RX0) (T := TX0) (N := 6) hx hb hts hinX0 hown hK hP 0 rfl rfl 3 (by decide) hf21 (fun _ h9 => h9) rfl dX0_find_4 ?_
      refine lv_icmp_ge (tgt := 27) hx hb dX0_find_7 (by decide) (fun hc7 => ?_) (fun hc7 => ?_)
      · skip
        have k7 : nz ≤ iz := k_le (by omega) (by omega) hc7
        refine lv_iconst (v := (-1)) hx hb dX0_find_27 (by decide) ?_
        have e9 : fndI Dz nz xz = -1 := by unfold fndI; rw [if_neg (fnd_none (n := nz) (fun j hj => hi2 j (by omega)))]
        rw [e9]
        exact zE_i hF hr hlk hK hP hD hS dX0_find_28
      · skip
        have k7 : iz < nz := k_nle (by omega) (by omega) hc7
        refine lv_aload_n hx hb dX0_find_10 rfl (lv_at hl 0 rfl) ?_
        refine lv_iload_n hx hb dX0_find_11 rfl (lv_at hl 2 rfl) ?_
        refine zK_vi (As := [.int (nI iz)]) (rest := []) hF (c_dukeAt l G cI hz da la saz (Dz) (Lz) (Sz) (nz) (cz) (gz) hn iz (by omega)) (cwV 1 hts gX0_find_X0_dukeAt rfl rfl rfl (by decide +kernel) ⟨Nat.le_of_ble_eq_true rfl, Nat.le_of_ble_eq_true rfl⟩) hK hP hD hS hA (ci := 0) (q0 := 0) rfl rfl rfl (isC := [0, 1, 2, 3]) (isR := []) (perm := [0, 1, 2, 3]) (wr := []) (wN := wh cI hz da la saz (Dz, Lz, Sz, nz, cz, gz)) ⟨rfl, by decide, rfl, rfl, (fun _ hz => by cases hz), rfl, by decide⟩ [0] rfl rfl hl.1 rfl (Nat.le_of_ble_eq_true rfl) dX0_find_12 ⟨Nat.le_refl _, Nat.le_refl _⟩ (fun H locs hP hD hS => ?_)
        refine zN (Dz iz) (y := (if iz < nz then Dz iz else -1)) (if_pos k7) ?_
        refine lv_iload_n hx hb dX0_find_15 rfl (lv_at hl 1 rfl) ?_
        refine lv_icmp_ne (tgt := 21) hx hb dX0_find_16 (by decide) (fun hc16 => ?_) (fun hc16 => ?_)
        · skip
          refine lv_iinc (v := nI (iz + 1)) (lv' := [(2, .int (nI (iz + 1))), (0, .ref hz), (1, .int xz)]) hx hb dX0_find_21 hl (k := 2) rfl (nI_1 _) (by decide) rfl (fun ls hl => ?_)
          refine lv_goto (tgt := 2) hx hb dX0_find_24 (by decide) ?_
          exact ih (iz + 1) k7 (fun j hj => by rcases Nat.lt_succ_iff_lt_or_eq.mp hj with qz | qz; exact hi2 j qz; rw [qz]; exact hc16) (by omega) _ _ _ hP hD hS (lv_sub hl [1, 2, 0] rfl)
        · skip
          refine lv_iload_n hx hb dX0_find_19 rfl (lv_at hl 2 rfl) ?_
          have e9 : fndI Dz nz xz = nI iz := by unfold fndI; rw [fnd_at k7 hc16 hi2, if_pos k7]
          rw [e9]
          exact zE_i hF hr hlk hK hP hD hS dX0_find_20
  exact loop (nz + 1) 0 (Nat.zero_le _) (fun j hj => absurd hj (Nat.not_lt_zero _)) (by omega) _ _ _ hP hD hS (lv_sub hl [1, 2, 0] rfl)
set_option maxHeartbeats 4000000 in
set_option maxRecDepth 100000 in
theorem c_elder (l : Launch) (G : va_G) (cI : ClassId) (hz da la saz : Nat) (Dz Lz Sz : Fn) (nz : Nat) (cz gz : Int32) (hn : nz ≤ 63) (hS1 : okS Sz) (bz : Nat) (hb9 : bz < nz) : zC_i l yX0_elder wsX0_elder ({ frames := 3, cells := 0, slots := 0, locals := 63 }) G [(cI, .int)] (wh cI hz da la saz (Dz, Lz, Sz, nz, cz, gz)) (wh cI hz da la saz (Dz, Lz, Sz, nz, cz, gz)) [.ref hz, .int (nI bz)] (nI (eld Sz bz)) := by
  refine zB_i (cc := cX0_elder) (maxL := 3) (ret := (some .int)) (by decide) rfl (Nat.le_of_ble_eq_true rfl) ?_
  intro p e s m args below meth c0 A hF hr hlk hK hA hP hD hS ls hl
  have hx := hF.1
  have hb := hF.2.1
  have hown := hF.2.2.2.1
  have hts := hF.2.2.2.2
  have hl : lv_has ls 3 [(0, .ref hz), (1, .int (nI bz))] := hl
  refine lv_iload_n hx hb dX0_elder_0 rfl (lv_at hl 1 rfl) ?_
  refine lv_istore_n (lv' := [(2, .int (nI bz)), (0, .ref hz), (1, .int (nI bz))]) hx hb dX0_elder_1 rfl hl (by decide) rfl (fun ls hl => ?_)
  have loop : ∀ (f9 : Nat) (at9 : Nat), (at9 ≤ bz) → (eld Sz at9 = eld Sz bz) → at9 < f9 → ∀ (H : Heap) (locs : List Loc) (ls : Array Slot), va_P G vwCl (wh cI hz da la saz (Dz, Lz, Sz, nz, cz, gz)) H → va_D A (wh cI hz da la saz (Dz, Lz, Sz, nz, cz, gz)) → va_S A s.heap H locs → lv_has ls 3 [(0, .ref hz), (1, .int (nI bz)), (2, .int (nI at9))] → W p l e ({ frames := 3, cells := 0, slots := 0, locals := 63 }) s m args below meth c0 H locs 0 0 (zQ_i below G [(cI, .int)] (wh cI hz da la saz (Dz, Lz, Sz, nz, cz, gz)) (nI (eld Sz bz)) A args s) (F0 m 2 ls []) := by
    intro f9
    induction f9 with
    | zero => intro at9 h1 h2 hf; exact absurd hf (Nat.not_lt_zero _)
    | succ f9 ih =>
      intro at9 h1 h2 hf H locs ls hP hD hS hl
      have z1 := sd_le Sz (at9 / 2)
      refine lv_iload_n hx hb dX0_elder_2 rfl (lv_at hl 2 rfl) ?_
      refine lv_iconst (v := nI 1) hx hb dX0_elder_3 (by decide) ?_
      refine lv_icmp_le (tgt := 25) hx hb dX0_elder_4 (by decide) (fun hc4 => ?_) (fun hc4 => ?_)
      · skip
        have k4 : at9 ≤ 1 := k_le (by omega) (by omega) hc4
        refine lv_iload_n hx hb dX0_elder_25 rfl (lv_at hl 2 rfl) ?_
        refine lv_iconst (v := nI 2) hx hb dX0_elder_26 (by decide) ?_
        refine lv_idiv hx hb dX0_elder_27 (by decide) ?_
        refine zN (nI (at9 / 2)) (y := ((nI at9) / (nI 2))) (pk_div (by omega) (by decide) (by decide)) ?_
        have e9 : at9 / 2 = eld Sz bz := by rw [← h2, eld_1 k4]; omega
        rw [← e9]
        exact zE_i hF hr hlk hK hP hD hS dX0_elder_28
      · skip
        have k4 : 1 < at9 := k_nle (by omega) (by omega) hc4
        refine lv_iload_n hx hb dX0_elder_7 rfl (lv_at hl 2 rfl) ?_
        refine lv_aload_n hx hb dX0_elder_8 rfl (lv_at hl 0 rfl) ?_
        refine lv_iload_n hx hb dX0_elder_9 rfl (lv_at hl 2 rfl) ?_
        refine lv_iconst (v := nI 2) hx hb dX0_elder_10 (by decide) ?_
        refine lv_idiv hx hb dX0_elder_11 (by decide) ?_
        refine zN (nI (at9 / 2)) (y := ((nI at9) / (nI 2))) (pk_div (by omega) (by decide) (by decide)) ?_
        refine zK_vi (As := [.int (nI (at9 / 2))]) (rest := [.int (nI at9)]) hF (c_left l G cI hz da la saz (Dz) (Lz) (Sz) (nz) (cz) (gz) hn hS1 (at9 / 2) (by omega)) (cwV 1 hts gX0_elder_X0_left rfl rfl rfl (by decide +kernel) ⟨Nat.le_of_ble_eq_true rfl, Nat.le_of_ble_eq_true rfl⟩) hK hP hD hS hA (ci := 0) (q0 := 0) rfl rfl rfl (isC := [0, 1, 2, 3]) (isR := []) (perm := [0, 1, 2, 3]) (wr := []) (wN := wh cI hz da la saz (Dz, Lz, Sz, nz, cz, gz)) ⟨rfl, by decide, rfl, rfl, (fun _ hz => by cases hz), rfl, by decide⟩ [0] rfl rfl hl.1 rfl (Nat.le_of_ble_eq_true rfl) dX0_elder_12 ⟨Nat.le_refl _, Nat.le_refl _⟩ (fun H locs hP hD hS => ?_)
        refine lv_icmp_ne (tgt := 25) hx hb dX0_elder_15 (by decide) (fun hc15 => ?_) (fun hc15 => ?_)
        · skip
          have k15 : at9 ≠ (2 * (at9 / 2) + sd Sz (at9 / 2)) := k_ne (by omega) (by omega) hc15
          refine lv_iload_n hx hb dX0_elder_25 rfl (lv_at hl 2 rfl) ?_
          refine lv_iconst (v := nI 2) hx hb dX0_elder_26 (by decide) ?_
          refine lv_idiv hx hb dX0_elder_27 (by decide) ?_
          refine zN (nI (at9 / 2)) (y := ((nI at9) / (nI 2))) (pk_div (by omega) (by decide) (by decide)) ?_
          have e9 : at9 / 2 = eld Sz bz := by rw [← h2, eld_st (by omega) (by omega)]
          rw [← e9]
          exact zE_i hF hr hlk hK hP hD hS dX0_elder_28
        · skip
          have k15 : at9 = (2 * (at9 / 2) + sd Sz (at9 / 2)) := k_eq (by omega) (by omega) hc15
          refine lv_iload_n hx hb dX0_elder_18 rfl (lv_at hl 2 rfl) ?_
          refine lv_iconst (v := nI 2) hx hb dX0_elder_19 (by decide) ?_
          refine lv_idiv hx hb dX0_elder_20 (by decide) ?_
          refine zN (nI (at9 / 2)) (y := ((nI at9) / (nI 2))) (pk_div (by omega) (by decide) (by decide)) ?_
          refine lv_istore_n (lv' := [(2, .int (nI (at9 / 2))), (0, .ref hz), (1, .int (nI bz))]) hx hb dX0_elder_21 rfl hl (by decide) rfl (fun ls hl => ?_)
          refine lv_goto (tgt := 2) hx hb dX0_elder_22 (by decide) ?_
          exact ih (at9 / 2) (by omega) ((eld_up (b := at9) (by omega) (by omega)).symm.trans h2) (by omega) _ _ _ hP hD hS (lv_sub hl [1, 2, 0] rfl)
  exact loop (bz + 1) bz (Nat.le_refl _) rfl (by omega) _ _ _ hP hD hS (lv_sub hl [1, 2, 0] rfl)
end
section
/-! bits of long numbers: a family out of kit/laws/BITS.to-paste.lean.txt, as it is there -/
theorem wb_tb (n : Nat) : (lN n).toBitVec = BitVec.ofNat 64 n := rfl
theorem wb_inj {a b : Int64} (h : a.toBitVec = b.toBitVec) : a = b := Int64.toBitVec_inj.mp h
theorem wb_tn {n : Nat} (h : n < 2 ^ 64) : (lN n).toBitVec.toNat = n := by rw [wb_tb, BitVec.toNat_ofNat, Nat.mod_eq_of_lt h]
theorem wb_of (x : Int64) : ∃ n, n < 2 ^ 64 ∧ x = lN n := ⟨x.toBitVec.toNat, x.toBitVec.isLt, wb_inj (by rw [wb_tb]; simp)⟩
theorem wb_of32 (x : Int32) : ∃ n, n < 2 ^ 32 ∧ x = nI n := ⟨x.toBitVec.toNat, x.toBitVec.isLt, Int32.toBitVec_inj.mp (by show _ = BitVec.ofNat 32 _; simp)⟩
theorem wb_c : ∀ k, k < 64 → ((nI k).toInt64 &&& 63) = lN k := by decide +kernel
theorem wb_cu : ∀ k, k < 64 → ((nI k).toInt64.toUInt64 &&& Int64.toUInt64 63) = UInt64.ofNat k := by decide +kernel
theorem wb_sm : ∀ k, k < 64 → (BitVec.ofNat 64 k).smod 64 = BitVec.ofNat 64 k := by decide +kernel
theorem wb_pw {a b : Nat} (h : a ≤ b) : 2 ^ b = 2 ^ a * 2 ^ (b - a) := by rw [← Nat.pow_add]; congr 1; omega
theorem wb_lt2 {a b : Nat} (h : a < b) : 2 ^ a < 2 ^ b := Nat.pow_lt_pow_right (by decide) h
theorem wb_mod (n : Nat) : lN n = lN (n % 2 ^ 64) := wb_inj (by rw [wb_tb, wb_tb]; apply BitVec.eq_of_toNat_eq; rw [BitVec.toNat_ofNat, BitVec.toNat_ofNat, Nat.mod_mod])
theorem wb_shr {n k : Nat} (hn : n < 2 ^ 64) (hk : k < 64) : ((lN n).toUInt64 >>> ((nI k).toInt64.toUInt64 &&& Int64.toUInt64 63)).toInt64 = lN (n / 2 ^ k) := by
  rw [wb_cu k hk]
  apply wb_inj
  apply BitVec.eq_of_toNat_eq
  show ((lN n).toUInt64 >>> UInt64.ofNat k).toNat = (BitVec.ofNat 64 _).toNat
  have h1 : (UInt64.ofNat k).toNat = k := by
    show (BitVec.ofNat 64 k).toNat = k
    rw [BitVec.toNat_ofNat, Nat.mod_eq_of_lt (by omega)]
  have h2 : (lN n).toUInt64.toNat = n := wb_tn hn
  rw [UInt64.toNat_shiftRight, h1, h2, Nat.mod_eq_of_lt hk, Nat.shiftRight_eq_div_pow, BitVec.toNat_ofNat, Nat.mod_eq_of_lt (Nat.lt_of_le_of_lt (Nat.div_le_self _ _) hn)]
theorem wb_shl (n : Nat) {k : Nat} (hk : k < 64) : lN n <<< ((nI k).toInt64 &&& 63) = lN (n * 2 ^ k) := by
  rw [wb_c k hk]
  apply wb_inj
  rw [Int64.toBitVec_shiftLeft, wb_tb, wb_tb, wb_tb, wb_sm k hk]
  apply BitVec.eq_of_toNat_eq
  rw [BitVec.shiftLeft_eq', BitVec.toNat_shiftLeft, BitVec.toNat_ofNat, BitVec.toNat_ofNat, BitVec.toNat_ofNat, Nat.mod_eq_of_lt (show k < 2 ^ 64 by omega), Nat.shiftLeft_eq, Nat.mul_mod, Nat.mod_mod, ← Nat.mul_mod]
theorem wb_and {a b : Nat} (ha : a < 2 ^ 64) (hb : b < 2 ^ 64) : lN a &&& lN b = lN (a &&& b) := by
  apply wb_inj
  rw [Int64.toBitVec_and, wb_tb, wb_tb, wb_tb]
  apply BitVec.eq_of_toNat_eq
  rw [BitVec.toNat_and, BitVec.toNat_ofNat, BitVec.toNat_ofNat, BitVec.toNat_ofNat, Nat.mod_eq_of_lt ha, Nat.mod_eq_of_lt hb, Nat.mod_eq_of_lt (Nat.and_lt_two_pow _ hb)]
theorem wb_or {a b : Nat} (ha : a < 2 ^ 64) (hb : b < 2 ^ 64) : lN a ||| lN b = lN (a ||| b) := by
  apply wb_inj
  rw [Int64.toBitVec_or, wb_tb, wb_tb, wb_tb]
  apply BitVec.eq_of_toNat_eq
  rw [BitVec.toNat_or, BitVec.toNat_ofNat, BitVec.toNat_ofNat, BitVec.toNat_ofNat, Nat.mod_eq_of_lt ha, Nat.mod_eq_of_lt hb, Nat.mod_eq_of_lt (Nat.or_lt_two_pow ha hb)]
theorem wb_mask {n k : Nat} (hn : n < 2 ^ 64) (hk : k < 64) : lN n &&& lN (2 ^ k - 1) = lN (n % 2 ^ k) := by
  rw [wb_and hn (by have := wb_lt2 hk; omega), Nat.and_two_pow_sub_one_eq_mod]
theorem wb_a1 {n : Nat} (hn : n < 2 ^ 64) : lN n &&& 1 = lN (n % 2) := wb_mask (k := 1) hn (by decide)
theorem wb_bit {n k : Nat} (hn : n < 2 ^ 64) (hk : k < 64) : ((lN n).toUInt64 >>> ((nI k).toInt64.toUInt64 &&& Int64.toUInt64 63)).toInt64 &&& 1 = lN (n / 2 ^ k % 2) := by
  rw [wb_shr hn hk, wb_a1 (Nat.lt_of_le_of_lt (Nat.div_le_self _ _) hn)]
end
section
/-! what joining, rising and leaving keep -/
theorem joinF_n (b : Bool) (u : WH) (e j : Nat) : wn (joinF b u e j) = wn u := by
  unfold joinF
  split <;> rfl
theorem joinF_ex (b : Bool) (D L S : Fn) (n : Nat) (c g : Int32) (e j : Nat) : ∃ (D2 L2 S2 : Fn) (c2 g2 : Int32), joinF b (D, L, S, n, c, g) e j = (D2, L2, S2, n, c2, g2) := by
  unfold joinF
  split
  · exact ⟨_, _, _, _, _, rfl⟩
  · exact ⟨_, _, _, _, _, rfl⟩
theorem okS_upd {S : Fn} (h : okS S) {j : Nat} (hj : 0 < j) {x : Int32} (hx : x = 0 ∨ x = 1) : okS (upd S j x) := by
  refine ⟨fun i => ?_, ?_⟩
  · unfold upd
    split
    · exact hx
    · exact h.1 i
  · unfold upd
    rw [if_neg (by omega)]
    exact h.2
theorem okS_upd0 {S : Fn} (h : okS S) (j : Nat) : okS (upd S j 0) := by
  refine ⟨fun i => ?_, ?_⟩
  · unfold upd
    split
    · exact Or.inl rfl
    · exact h.1 i
  · unfold upd
    split
    · rfl
    · exact h.2
theorem z01 {x : Int32} (h : x = 0 ∨ x = 1) : 1 - x = 0 ∨ 1 - x = 1 := by
  rcases h with rfl | rfl
  · exact Or.inr rfl
  · exact Or.inl rfl
theorem joinF_okS {b : Bool} {u : WH} {e j : Nat} (h : okS (wS u)) (hj : 0 < j) : okS (wS (joinF b u e j)) := by
  unfold joinF
  split
  · exact okS_upd h hj (z01 (h.1 j))
  · exact h
theorem joinF_okS' {b : Bool} {D L S D2 L2 S2 : Fn} {n n2 : Nat} {c g c2 g2 : Int32} {e j : Nat} (h : okS S) (hj : 0 < j) (hu : joinF b (D, L, S, n, c, g) e j = (D2, L2, S2, n2, c2, g2)) : okS S2 := by
  have := joinF_okS (b := b) (u := (D, L, S, n, c, g)) (e := e) h hj
  rw [hu] at this
  exact this
theorem riseF_0 {b : Bool} {f : Nat} {u : WH} : riseF b f u 0 = (u, 0) := by
  cases f with
  | zero => rfl
  | succ f => unfold riseF; rw [if_pos rfl]
theorem riseF_go {s : Bool} {f b : Nat} {u : WH} (hb : 0 < b) (h : jc s u (eld (wS u) b) b = true) : riseF s (f + 1) u b = riseF s f (joinF s u (eld (wS u) b) b) (eld (wS u) b) := by
  rw [riseF, if_neg (by omega), if_pos h]
theorem riseF_no {s : Bool} {f b : Nat} {u : WH} (hb : 0 < b) (h : jc s u (eld (wS u) b) b = false) : riseF s (f + 1) u b = (joinF s u (eld (wS u) b) b, b) := by
  rw [riseF, if_neg (by omega), if_neg (by rw [h]; decide)]
theorem riseF_n (s : Bool) : ∀ (f : Nat) (u : WH) (b : Nat), wn (riseF s f u b).1 = wn u
  | 0, u, b => rfl
  | f + 1, u, b => by
    unfold riseF
    split
    · rfl
    · split
      · rw [riseF_n s f, joinF_n]
      · exact joinF_n _ _ _ _
theorem riseF_le (s : Bool) : ∀ (f : Nat) (u : WH) (b : Nat), (riseF s f u b).2 ≤ b
  | 0, u, b => Nat.le_refl _
  | f + 1, u, b => by
    unfold riseF
    split
    · exact Nat.zero_le _
    · rename_i h
      split
      · have := riseF_le s f (joinF s u (eld (wS u) b) b) (eld (wS u) b)
        have := eld_lt (S := wS u) (b := b) (by omega)
        omega
      · exact Nat.le_refl _
theorem riseF_okS {s : Bool} : ∀ {f : Nat} {u : WH} {b : Nat}, okS (wS u) → okS (wS (riseF s f u b).1)
  | 0, u, b, h => h
  | f + 1, u, b, h => by
    unfold riseF
    split
    · exact h
    · split
      · exact riseF_okS (joinF_okS h (by omega))
      · exact joinF_okS h (by omega)
theorem lowF_lt {S : Fn} {n : Nat} : ∀ {f b : Nat}, b < n → lowF S n f b < n
  | 0, b, h => h
  | f + 1, b, h => by
    unfold lowF
    split
    · rename_i h1
      exact lowF_lt h1
    · exact h
theorem lowF_go {S : Fn} {n f b : Nat} (h : 2 * b + sd S b < n) : lowF S n (f + 1) b = lowF S n f (2 * b + sd S b) := by rw [lowF, if_pos h]
theorem lowF_no {S : Fn} {n f b : Nat} (h : ¬ 2 * b + sd S b < n) : lowF S n f b = b := by
  cases f with
  | zero => rfl
  | succ f => rw [lowF, if_neg h]
theorem topF_0 {f : Nat} {u : WH} : topF f u 0 = u := by
  cases f with
  | zero => rfl
  | succ f => rw [topF, if_pos rfl]
theorem topF_go {f b : Nat} {u : WH} (h : 0 < b) : topF (f + 1) u b = topF f (joinF false u 0 b) (b / 2) := by rw [topF, if_neg (by omega)]
theorem topF_n : ∀ (f : Nat) (u : WH) (b : Nat), wn (topF f u b) = wn u
  | 0, u, b => rfl
  | f + 1, u, b => by
    unfold topF
    split
    · rfl
    · rw [topF_n f, joinF_n]
theorem topF_okS : ∀ {f : Nat} {u : WH} {b : Nat}, okS (wS u) → okS (wS (topF f u b))
  | 0, u, b, h => h
  | f + 1, u, b, h => by
    unfold topF
    split
    · exact h
    · exact topF_okS (joinF_okS h (by omega))
theorem rmF_n (u : WH) : wn (rmF u) = wn u - 1 := by
  unfold rmF
  split
  · exact topF_n _ _ _
  · rfl
theorem rmF_okS {u : WH} (h : okS (wS u)) : okS (wS (rmF u)) := by
  unfold rmF
  split
  · exact topF_okS h
  · exact h
theorem rmsF_n (u : WH) : ∀ k, wn (rmsF k u) = wn u - k
  | 0 => rfl
  | k + 1 => by
    rw [rmsF, rmF_n, rmsF_n u k]
    omega
theorem rmsF_okS {u : WH} (h : okS (wS u)) : ∀ k, okS (wS (rmsF k u))
  | 0 => h
  | k + 1 => rmF_okS (rmsF_okS h k)
theorem rmF_ex {D L S : Fn} {n : Nat} {c g : Int32} (h : okS S) {m : Nat} (hm : n - 1 = m) : ∃ (D2 L2 S2 : Fn) (c2 g2 : Int32), rmF (D, L, S, n, c, g) = (D2, L2, S2, m, c2, g2) ∧ okS S2 := by
  have h1 := rmF_n (D, L, S, n, c, g)
  have h2 := rmF_okS (u := (D, L, S, n, c, g)) h
  rcases h3 : rmF (D, L, S, n, c, g) with ⟨D2, L2, S2, n2, c2, g2⟩
  rw [h3] at h1 h2
  have h4 : n2 = m := h1.trans hm
  subst h4
  exact ⟨D2, L2, S2, c2, g2, rfl, h2⟩
theorem allF_n : ∀ (b : Nat) (u : WH), wn (allF b u) = wn u
  | 0, u => rfl
  | b + 1, u => by rw [allF, allF_n b, joinF_n]
theorem allF_okS : ∀ {b : Nat} {u : WH}, okS (wS u) → okS (wS (allF b u))
  | 0, u, h => h
  | b + 1, u, h => by
    rw [allF]
    exact allF_okS (joinF_okS h (Nat.succ_pos b))
theorem zfF_0 (S : Fn) : zfF 0 S = S := by
  funext j
  simp [zfF]
theorem zfF_succ (S : Fn) (k : Nat) : upd (zfF k S) k (nI 0) = zfF (k + 1) S := by
  funext j
  unfold upd zfF
  rcases Nat.lt_trichotomy j k with q | q | q
  · rw [if_neg (by omega), if_pos q, if_pos (by omega)]
  · rw [if_pos q, if_pos (by omega)]
    rfl
  · rw [if_neg (by omega), if_neg (by omega), if_neg (by omega)]
theorem okS_zf {S : Fn} (h : okS S) (k : Nat) : okS (zfF k S) := by
  refine ⟨fun j => ?_, ?_⟩
  · unfold zfF
    split
    · exact Or.inl rfl
    · exact h.1 j
  · unfold zfF
    split
    · rfl
    · exact h.2
theorem flF_0 (f g : Fn) : flF 0 f g = g := by
  funext j
  simp [flF]
theorem flF_succ (f g : Fn) (k : Nat) : upd (flF k f g) k (f k) = flF (k + 1) f g := by
  funext j
  unfold upd flF
  rcases Nat.lt_trichotomy j k with q | q | q
  · rw [if_neg (by omega), if_pos q, if_pos (by omega)]
  · rw [if_pos q, if_pos (by omega), q]
  · rw [if_neg (by omega), if_neg (by omega), if_neg (by omega)]
theorem z_dec {b : Nat} (h : 0 < b) : nI b + Int32.ofInt (-1) = nI (b - 1) := by
  rw [show Int32.ofInt (-1) = (-1 : Int32) from by decide]
  exact sb_m1 h
theorem mskF_lt (S L : Fn) (lim : Int32) : ∀ i, mskF S L lim i < 2 ^ i
  | 0 => by simp [mskF]
  | i + 1 => by
    have ih := mskF_lt S L lim i
    unfold mskF
    rw [Nat.pow_succ]
    split <;> omega
theorem wb_add {m i : Nat} (h : m < 2 ^ i) : m ||| 2 ^ i = m + 2 ^ i := by
  have h1 := Nat.two_pow_add_eq_or_of_lt h 1
  rw [Nat.mul_one] at h1
  rw [Nat.or_comm, ← h1, Nat.add_comm]
theorem z_cmp0 {a : Nat} (ha : a < 2 ^ 63) : lg_cmp (lN a) (lN 0) = 0 ↔ a = 0 := by
  rw [lg_cmp_eq]
  exact pk_lEQ ha (by decide)
theorem fa_nlt {a b : Int32} (h : ¬ b ≤ a) : a < b := by
  simp only [Int32.le_iff_toInt_le, Int32.lt_iff_toInt_lt] at *
  omega
theorem fa_nle {a b : Int32} (h : b ≤ a) : ¬ a < b := by
  simp only [Int32.le_iff_toInt_le, Int32.lt_iff_toInt_lt] at *
  omega
section ZL
variable {p : Program} {l : Launch} {e : Env} {R : Room} {s : State} {m : MethodId} {args : Array Value} {below : List Frame} {meth : Method} {c : Code} {H : Heap} {locs : List Loc} {cells slots : Nat} {Q : State → Prop} {pc : Nat} {ls : Array Slot} {rest : List Value}
theorem zNl (x : Int64) {y : Int64} (h : y = x) (kk : W p l e R s m args below meth c H locs cells slots Q (F0 m pc ls (.long x :: rest))) : W p l e R s m args below meth c H locs cells slots Q (F0 m pc ls (.long y :: rest)) := by
  rw [h]
  exact kk
end ZL
end
section
/-! WeakHeap: counts over all berths -/
set_option maxHeartbeats 4000000 in
set_option maxRecDepth 100000 in
theorem c_countFollowers (l : Launch) (G : va_G) (cI : ClassId) (hz da la saz : Nat) (Dz Lz Sz : Fn) (nz : Nat) (cz gz : Int32) (hn : nz ≤ 63) (hS1 : okS Sz) (bz : Nat) (hb9 : bz < nz) : zC_i l yX0_countFollowers wsX0_countFollowers ({ frames := 4, cells := 0, slots := 0, locals := 85 }) G [(cI, .int)] (wh cI hz da la saz (Dz, Lz, Sz, nz, cz, gz)) (wh cI hz da la saz (Dz, Lz, Sz, nz, cz, gz)) [.ref hz, .int (nI bz)] (flw Sz bz nz) := by
  refine zB_i (cc := cX0_countFollowers) (maxL := 4) (ret := (some .int)) (by decide) rfl (Nat.le_of_ble_eq_true rfl) ?_
  intro p e s m args below meth c0 A hF hr hlk hK hA hP hD hS ls hl
  have hx := hF.1
  have hb := hF.2.1
  have hown := hF.2.2.2.1
  have hts := hF.2.2.2.2
  have hf21 := hts (.fieldLink RX0 21 "SnoringDukes$WeakHeap" "size" "I") (by decide +kernel)
  have hinX0 : ∀ wz ∈ wsX00, wz ∈ wsX0_countFollowers := by decide +kernel
  have hl : lv_has ls 4 [(0, .ref hz), (1, .int (nI bz))] := hl
  refine lv_iconst (v := nI 0) hx hb dX0_countFollowers_0 (by decide) ?_
  refine lv_istore_n (lv' := [(2, .int (nI 0)), (0, .ref hz), (1, .int (nI bz))]) hx hb dX0_countFollowers_1 rfl hl (by decide) rfl (fun ls hl => ?_)
  refine lv_iconst (v := nI 1) hx hb dX0_countFollowers_2 (by decide) ?_
  refine lv_istore_n (lv' := [(3, .int (nI 1)), (2, .int (nI 0)), (0, .ref hz), (1, .int (nI bz))]) hx hb dX0_countFollowers_3 rfl hl (by decide) rfl (fun ls hl => ?_)
  have hl : lv_has ls 4 [(3, .int (nI 1)), (2, .int (flw Sz bz 1)), (0, .ref hz), (1, .int (nI bz))] := hl
  have loop : ∀ (f9 : Nat) (iz : Nat), (1 ≤ iz) → (iz ≤ nz) → nz - iz < f9 → ∀ (H : Heap) (locs : List Loc) (ls : Array Slot), va_P G vwCl (wh cI hz da la saz (Dz, Lz, Sz, nz, cz, gz)) H → va_D A (wh cI hz da la saz (Dz, Lz, Sz, nz, cz, gz)) → va_S A s.heap H locs → lv_has ls 4 [(0, .ref hz), (1, .int (nI bz)), (2, .int (flw Sz bz iz)), (3, .int (nI iz))] → W p l e ({ frames := 4, cells := 0, slots := 0, locals := 85 }) s m args below meth c0 H locs 0 0 (zQ_i below G [(cI, .int)] (wh cI hz da la saz (Dz, Lz, Sz, nz, cz, gz)) (flw Sz bz nz) A args s) (F0 m 4 ls []) := by
    intro f9
    induction f9 with
    | zero => intro iz h1 h2 hf; exact absurd hf (Nat.not_lt_zero _)
    | succ f9 ih =>
      intro iz h1 h2 hf H locs ls hP hD hS hl
      have ze := eld_le Sz iz
      refine lv_iload_n hx hb dX0_countFollowers_4 rfl (lv_at hl 3 rfl) ?_
      refine lv_aload_n hx hb dX0_countFollowers_5 rfl (lv_at hl 0 rfl) ?_
      refine va_get (D := G) (ci := 0) (v := .int (nI nz)) (C := RX0) (T := TX0) (N := 6) hx hb hts hinX0 hown hK hP 0 rfl rfl 3 (by decide) hf21 (fun _ h9 => h9) rfl dX0_countFollowers_6 ?_
      refine lv_icmp_ge (tgt := 30) hx hb dX0_countFollowers_9 (by decide) (fun hc9 => ?_) (fun hc9 => ?_)
      · skip
        have k9 : nz ≤ iz := k_le (by omega) (by omega) hc9
        refine lv_iload_n hx hb dX0_countFollowers_30 rfl (lv_at hl 2 rfl) ?_
        obtain rfl : nz = iz := by omega
        exact zE_i hF hr hlk hK hP hD hS dX0_countFollowers_31
      · skip
        have k9 : iz < nz := k_nle (by omega) (by omega) hc9
        refine lv_aload_n hx hb dX0_countFollowers_12 rfl (lv_at hl 0 rfl) ?_
        refine lv_iload_n hx hb dX0_countFollowers_13 rfl (lv_at hl 3 rfl) ?_
        refine zK_vi (As := [.int (nI iz)]) (rest := []) hF (c_elder l G cI hz da la saz (Dz) (Lz) (Sz) (nz) (cz) (gz) hn hS1 iz (by omega)) (cwV 1 hts gX0_countFollowers_X0_elder rfl rfl rfl (by decide +kernel) ⟨Nat.le_of_ble_eq_true rfl, Nat.le_of_ble_eq_true rfl⟩) hK hP hD hS hA (ci := 0) (q0 := 0) rfl rfl rfl (isC := [0, 1, 2, 3]) (isR := []) (perm := [0, 1, 2, 3]) (wr := []) (wN := wh cI hz da la saz (Dz, Lz, Sz, nz, cz, gz)) ⟨rfl, by decide, rfl, rfl, (fun _ hz => by cases hz), rfl, by decide⟩ [0] rfl rfl hl.1 rfl (Nat.le_of_ble_eq_true rfl) dX0_countFollowers_14 ⟨Nat.le_refl _, Nat.le_refl _⟩ (fun H locs hP hD hS => ?_)
        refine lv_iload_n hx hb dX0_countFollowers_17 rfl (lv_at hl 1 rfl) ?_
        refine lv_icmp_ne (tgt := 24) hx hb dX0_countFollowers_18 (by decide) (fun hc18 => ?_) (fun hc18 => ?_)
        · skip
          have k18 : (eld Sz iz) ≠ bz := k_ne (by omega) (by omega) hc18
          have e9 : flw Sz bz iz = flw Sz bz (iz + 1) := by rw [flw, if_neg (fun qz => k18 qz.2)]
          have hl : lv_has ls 4 [(0, .ref hz), (1, .int (nI bz)), (2, .int (flw Sz bz (iz + 1))), (3, .int (nI iz))] := by rw [← e9]; exact hl
          refine lv_iinc (v := nI (iz + 1)) (lv' := [(3, .int (nI (iz + 1))), (0, .ref hz), (1, .int (nI bz)), (2, .int (flw Sz bz (iz + 1)))]) hx hb dX0_countFollowers_24 hl (k := 3) rfl (nI_1 _) (by decide) rfl (fun ls hl => ?_)
          refine lv_goto (tgt := 4) hx hb dX0_countFollowers_27 (by decide) ?_
          exact ih (iz + 1) (by omega) (by omega) (by omega) _ _ _ hP hD hS (lv_sub hl [1, 2, 3, 0] rfl)
        · skip
          have k18 : (eld Sz iz) = bz := k_eq (by omega) (by omega) hc18
          refine lv_iinc (v := (flw Sz bz iz) + 1) (lv' := [(2, .int ((flw Sz bz iz) + 1)), (0, .ref hz), (1, .int (nI bz)), (3, .int (nI iz))]) hx hb dX0_countFollowers_21 hl (k := 2) rfl (rfl) (by decide) rfl (fun ls hl => ?_)
          have e9 : flw Sz bz iz + 1 = flw Sz bz (iz + 1) := by rw [flw, if_pos ⟨by omega, k18⟩]
          have hl : lv_has ls 4 [(2, .int (flw Sz bz (iz + 1))), (0, .ref hz), (1, .int (nI bz)), (3, .int (nI iz))] := by rw [← e9]; exact hl
          refine lv_iinc (v := nI (iz + 1)) (lv' := [(3, .int (nI (iz + 1))), (2, .int (flw Sz bz (iz + 1))), (0, .ref hz), (1, .int (nI bz))]) hx hb dX0_countFollowers_24 hl (k := 3) rfl (nI_1 _) (by decide) rfl (fun ls hl => ?_)
          refine lv_goto (tgt := 4) hx hb dX0_countFollowers_27 (by decide) ?_
          exact ih (iz + 1) (by omega) (by omega) (by omega) _ _ _ hP hD hS (lv_sub hl [2, 3, 1, 0] rfl)
  exact loop (nz + 1) 1 (Nat.le_refl _) (by omega) (by omega) _ _ _ hP hD hS (lv_sub hl [2, 3, 1, 0] rfl)
set_option maxHeartbeats 4000000 in
set_option maxRecDepth 100000 in
theorem c_countFlipped (l : Launch) (G : va_G) (cI : ClassId) (hz da la saz : Nat) (Dz Lz Sz : Fn) (nz : Nat) (cz gz : Int32) (hn : nz ≤ 63) : zC_i l yX0_countFlipped wsX0_countFlipped ({ frames := 2, cells := 0, slots := 0, locals := 42 }) G [(cI, .int)] (wh cI hz da la saz (Dz, Lz, Sz, nz, cz, gz)) (wh cI hz da la saz (Dz, Lz, Sz, nz, cz, gz)) [.ref hz] (flp Sz nz) := by
  refine zB_i (cc := cX0_countFlipped) (maxL := 3) (ret := (some .int)) (by decide) rfl (Nat.le_of_ble_eq_true rfl) ?_
  intro p e s m args below meth c0 A hF hr hlk hK hA hP hD hS ls hl
  have hx := hF.1
  have hb := hF.2.1
  have hown := hF.2.2.2.1
  have hts := hF.2.2.2.2
  have hf21 := hts (.fieldLink RX0 21 "SnoringDukes$WeakHeap" "size" "I") (by decide +kernel)
  have hinX0 : ∀ wz ∈ wsX00, wz ∈ wsX0_countFlipped := by decide +kernel
  have hl : lv_has ls 3 [(0, .ref hz)] := hl
  refine lv_iconst (v := nI 0) hx hb dX0_countFlipped_0 (by decide) ?_
  refine lv_istore_n (lv' := [(1, .int (nI 0)), (0, .ref hz)]) hx hb dX0_countFlipped_1 rfl hl (by decide) rfl (fun ls hl => ?_)
  refine lv_iconst (v := nI 0) hx hb dX0_countFlipped_2 (by decide) ?_
  refine lv_istore_n (lv' := [(2, .int (nI 0)), (1, .int (nI 0)), (0, .ref hz)]) hx hb dX0_countFlipped_3 rfl hl (by decide) rfl (fun ls hl => ?_)
  have hl : lv_has ls 3 [(2, .int (nI 0)), (1, .int (flp Sz 0)), (0, .ref hz)] := hl
  have loop : ∀ (f9 : Nat) (iz : Nat), (iz ≤ nz) → nz - iz < f9 → ∀ (H : Heap) (locs : List Loc) (ls : Array Slot), va_P G vwCl (wh cI hz da la saz (Dz, Lz, Sz, nz, cz, gz)) H → va_D A (wh cI hz da la saz (Dz, Lz, Sz, nz, cz, gz)) → va_S A s.heap H locs → lv_has ls 3 [(0, .ref hz), (1, .int (flp Sz iz)), (2, .int (nI iz))] → W p l e ({ frames := 2, cells := 0, slots := 0, locals := 42 }) s m args below meth c0 H locs 0 0 (zQ_i below G [(cI, .int)] (wh cI hz da la saz (Dz, Lz, Sz, nz, cz, gz)) (flp Sz nz) A args s) (F0 m 4 ls []) := by
    intro f9
    induction f9 with
    | zero => intro iz h2 hf; exact absurd hf (Nat.not_lt_zero _)
    | succ f9 ih =>
      intro iz h2 hf H locs ls hP hD hS hl
      refine lv_iload_n hx hb dX0_countFlipped_4 rfl (lv_at hl 2 rfl) ?_
      refine lv_aload_n hx hb dX0_countFlipped_5 rfl (lv_at hl 0 rfl) ?_
      refine va_get (D := G) (ci := 0) (v := .int (nI nz)) (C := RX0) (T := TX0) (N := 6) hx hb hts hinX0 hown hK hP 0 rfl rfl 3 (by decide) hf21 (fun _ h9 => h9) rfl dX0_countFlipped_6 ?_
      refine lv_icmp_ge (tgt := 26) hx hb dX0_countFlipped_9 (by decide) (fun hc9 => ?_) (fun hc9 => ?_)
      · skip
        have k9 : nz ≤ iz := k_le (by omega) (by omega) hc9
        refine lv_iload_n hx hb dX0_countFlipped_26 rfl (lv_at hl 1 rfl) ?_
        obtain rfl : nz = iz := by omega
        exact zE_i hF hr hlk hK hP hD hS dX0_countFlipped_27
      · skip
        have k9 : iz < nz := k_nle (by omega) (by omega) hc9
        refine lv_iload_n hx hb dX0_countFlipped_12 rfl (lv_at hl 1 rfl) ?_
        refine lv_aload_n hx hb dX0_countFlipped_13 rfl (lv_at hl 0 rfl) ?_
        refine lv_iload_n hx hb dX0_countFlipped_14 rfl (lv_at hl 2 rfl) ?_
        refine zK_vi (As := [.int (nI iz)]) (rest := [.int (flp Sz iz)]) hF (c_sideAt l G cI hz da la saz (Dz) (Lz) (Sz) (nz) (cz) (gz) hn iz (by omega)) (cwV 1 hts gX0_countFlipped_X0_sideAt rfl rfl rfl (by decide +kernel) ⟨Nat.le_of_ble_eq_true rfl, Nat.le_of_ble_eq_true rfl⟩) hK hP hD hS hA (ci := 0) (q0 := 0) rfl rfl rfl (isC := [0, 1, 2, 3]) (isR := []) (perm := [0, 1, 2, 3]) (wr := []) (wN := wh cI hz da la saz (Dz, Lz, Sz, nz, cz, gz)) ⟨rfl, by decide, rfl, rfl, (fun _ hz => by cases hz), rfl, by decide⟩ [0] rfl rfl hl.1 rfl (Nat.le_of_ble_eq_true rfl) dX0_countFlipped_15 ⟨Nat.le_refl _, Nat.le_refl _⟩ (fun H locs hP hD hS => ?_)
        refine zN (Sz iz) (y := (if iz < nz then Sz iz else 0)) (if_pos k9) ?_
        refine lv_iadd hx hb dX0_countFlipped_18 ?_
        refine zN (flp Sz (iz + 1)) (y := ((flp Sz iz) + (Sz iz))) (rfl) ?_
        refine lv_istore_n (lv' := [(1, .int (flp Sz (iz + 1))), (0, .ref hz), (2, .int (nI iz))]) hx hb dX0_countFlipped_19 rfl hl (by decide) rfl (fun ls hl => ?_)
        refine lv_iinc (v := nI (iz + 1)) (lv' := [(2, .int (nI (iz + 1))), (1, .int (flp Sz (iz + 1))), (0, .ref hz)]) hx hb dX0_countFlipped_20 hl (k := 2) rfl (nI_1 _) (by decide) rfl (fun ls hl => ?_)
        refine lv_goto (tgt := 4) hx hb dX0_countFlipped_23 (by decide) ?_
        exact ih (iz + 1) (by omega) (by omega) _ _ _ hP hD hS (lv_sub hl [2, 1, 0] rfl)
  exact loop (nz + 1) 0 (by omega) (by omega) _ _ _ hP hD hS (lv_sub hl [2, 1, 0] rfl)
def ush (xz : Int64) (kz : Nat) : Int64 := (xz.toUInt64 >>> ((nI kz).toInt64.toUInt64 &&& Int64.toUInt64 63)).toInt64
def bc1 (xz : Int64) : Int64 := xz - (ush xz 1 &&& 6148914691236517205)
def bc2 (xz : Int64) : Int64 := (xz &&& 3689348814741910323) + (ush xz 2 &&& 3689348814741910323)
def bc3 (xz : Int64) : Int64 := (xz + ush xz 4) &&& 1085102592571150095
def bc4 (kz : Nat) (xz : Int64) : Int64 := xz + ush xz kz
/-- Long.bitCount, as the library computes it -/
def bcF (xz : Int64) : Int32 := (bc4 32 (bc4 16 (bc4 8 (bc3 (bc2 (bc1 xz)))))).toInt32 &&& nI 127
set_option maxHeartbeats 4000000 in
set_option maxRecDepth 100000 in
theorem c_bitCount (l : Launch) (G : va_G) (xz : Int64) : zC_i l yJ13_bitCount_95d88 wsJ13_bitCount_95d88 ({ frames := 0, cells := 0, slots := 0, locals := 0 }) G [] ([]) ([]) [.long xz] (bcF xz) := by
  refine zB_i (cc := cJ13_bitCount_95d88) (maxL := 2) (ret := (some .int)) (by decide) rfl (Nat.le_of_ble_eq_true rfl) ?_
  intro p e s m args below meth c0 A hF hr hlk hK hA hP hD hS ls hl
  have hx := hF.1
  have hb := hF.2.1
  have hown := hF.2.2.2.1
  have hts := hF.2.2.2.2
  have hl : lv_has ls 2 [(0, .long xz)] := hl
  refine lv_lload_n hx hb dJ13_bitCount_95d88_0 rfl (lv_at hl 0 rfl) ?_
  refine lv_lload_n hx hb dJ13_bitCount_95d88_1 rfl (lv_at hl 0 rfl) ?_
  refine lv_iconst (v := nI 1) hx hb dJ13_bitCount_95d88_2 (by decide) ?_
  refine lv_lushr (v := ush xz 1) hx hb dJ13_bitCount_95d88_3 rfl ?_
  refine lv_ldc2 (v := 6148914691236517205) hx hb hown (hts (.constantLong RJ13 314 (6148914691236517205)) (by decide +kernel)) dJ13_bitCount_95d88_4 ?_
  refine lv_land hx hb dJ13_bitCount_95d88_7 ?_
  refine lv_lsub hx hb dJ13_bitCount_95d88_8 ?_
  refine lv_lstore_n (lv' := [(0, .long (xz - ((ush xz 1) &&& 6148914691236517205)))]) hx hb dJ13_bitCount_95d88_9 rfl hl (by decide) rfl (fun ls hl => ?_)
  refine lv_lload_n hx hb dJ13_bitCount_95d88_10 rfl (lv_at hl 0 rfl) ?_
  refine lv_ldc2 (v := 3689348814741910323) hx hb hown (hts (.constantLong RJ13 316 (3689348814741910323)) (by decide +kernel)) dJ13_bitCount_95d88_11 ?_
  refine lv_land hx hb dJ13_bitCount_95d88_14 ?_
  refine lv_lload_n hx hb dJ13_bitCount_95d88_15 rfl (lv_at hl 0 rfl) ?_
  refine lv_iconst (v := nI 2) hx hb dJ13_bitCount_95d88_16 (by decide) ?_
  refine lv_lushr (v := ush (xz - ((ush xz 1) &&& 6148914691236517205)) 2) hx hb dJ13_bitCount_95d88_17 rfl ?_
  refine lv_ldc2 (v := 3689348814741910323) hx hb hown (hts (.constantLong RJ13 316 (3689348814741910323)) (by decide +kernel)) dJ13_bitCount_95d88_18 ?_
  refine lv_land hx hb dJ13_bitCount_95d88_21 ?_
  refine lv_ladd hx hb dJ13_bitCount_95d88_22 ?_
  refine lv_lstore_n (lv' := [(0, .long (((xz - ((ush xz 1) &&& 6148914691236517205)) &&& 3689348814741910323) + ((ush (xz - ((ush xz 1) &&& 6148914691236517205)) 2) &&& 3689348814741910323)))]) hx hb dJ13_bitCount_95d88_23 rfl hl (by decide) rfl (fun ls hl => ?_)
  refine lv_lload_n hx hb dJ13_bitCount_95d88_24 rfl (lv_at hl 0 rfl) ?_
  refine lv_lload_n hx hb dJ13_bitCount_95d88_25 rfl (lv_at hl 0 rfl) ?_
  refine lv_iconst (v := nI 4) hx hb dJ13_bitCount_95d88_26 (by decide) ?_
  refine lv_lushr (v := ush (((xz - ((ush xz 1) &&& 6148914691236517205)) &&& 3689348814741910323) + ((ush (xz - ((ush xz 1) &&& 6148914691236517205)) 2) &&& 3689348814741910323)) 4) hx hb dJ13_bitCount_95d88_27 rfl ?_
  refine lv_ladd hx hb dJ13_bitCount_95d88_28 ?_
  refine lv_ldc2 (v := 1085102592571150095) hx hb hown (hts (.constantLong RJ13 318 (1085102592571150095)) (by decide +kernel)) dJ13_bitCount_95d88_29 ?_
  refine lv_land hx hb dJ13_bitCount_95d88_32 ?_
  refine lv_lstore_n (lv' := [(0, .long (((((xz - ((ush xz 1) &&& 6148914691236517205)) &&& 3689348814741910323) + ((ush (xz - ((ush xz 1) &&& 6148914691236517205)) 2) &&& 3689348814741910323)) + (ush (((xz - ((ush xz 1) &&& 6148914691236517205)) &&& 3689348814741910323) + ((ush (xz - ((ush xz 1) &&& 6148914691236517205)) 2) &&& 3689348814741910323)) 4)) &&& 1085102592571150095))]) hx hb dJ13_bitCount_95d88_33 rfl hl (by decide) rfl (fun ls hl => ?_)
  refine lv_lload_n hx hb dJ13_bitCount_95d88_34 rfl (lv_at hl 0 rfl) ?_
  refine lv_lload_n hx hb dJ13_bitCount_95d88_35 rfl (lv_at hl 0 rfl) ?_
  refine lv_bipush (v := nI 8) hx hb dJ13_bitCount_95d88_36 (by decide) ?_
  refine lv_lushr (v := ush (((((xz - ((ush xz 1) &&& 6148914691236517205)) &&& 3689348814741910323) + ((ush (xz - ((ush xz 1) &&& 6148914691236517205)) 2) &&& 3689348814741910323)) + (ush (((xz - ((ush xz 1) &&& 6148914691236517205)) &&& 3689348814741910323) + ((ush (xz - ((ush xz 1) &&& 6148914691236517205)) 2) &&& 3689348814741910323)) 4)) &&& 1085102592571150095) 8) hx hb dJ13_bitCount_95d88_38 rfl ?_
  refine lv_ladd hx hb dJ13_bitCount_95d88_39 ?_
  refine lv_lstore_n (lv' := [(0, .long ((((((xz - ((ush xz 1) &&& 6148914691236517205)) &&& 3689348814741910323) + ((ush (xz - ((ush xz 1) &&& 6148914691236517205)) 2) &&& 3689348814741910323)) + (ush (((xz - ((ush xz 1) &&& 6148914691236517205)) &&& 3689348814741910323) + ((ush (xz - ((ush xz 1) &&& 6148914691236517205)) 2) &&& 3689348814741910323)) 4)) &&& 1085102592571150095) + (ush (((((xz - ((ush xz 1) &&& 6148914691236517205)) &&& 3689348814741910323) + ((ush (xz - ((ush xz 1) &&& 6148914691236517205)) 2) &&& 3689348814741910323)) + (ush (((xz - ((ush xz 1) &&& 6148914691236517205)) &&& 3689348814741910323) + ((ush (xz - ((ush xz 1) &&& 6148914691236517205)) 2) &&& 3689348814741910323)) 4)) &&& 1085102592571150095) 8)))]) hx hb dJ13_bitCount_95d88_40 rfl hl (by decide) rfl (fun ls hl => ?_)
  refine lv_lload_n hx hb dJ13_bitCount_95d88_41 rfl (lv_at hl 0 rfl) ?_
  refine lv_lload_n hx hb dJ13_bitCount_95d88_42 rfl (lv_at hl 0 rfl) ?_
  refine lv_bipush (v := nI 16) hx hb dJ13_bitCount_95d88_43 (by decide) ?_
  refine lv_lushr (v := ush ((((((xz - ((ush xz 1) &&& 6148914691236517205)) &&& 3689348814741910323) + ((ush (xz - ((ush xz 1) &&& 6148914691236517205)) 2) &&& 3689348814741910323)) + (ush (((xz - ((ush xz 1) &&& 6148914691236517205)) &&& 3689348814741910323) + ((ush (xz - ((ush xz 1) &&& 6148914691236517205)) 2) &&& 3689348814741910323)) 4)) &&& 1085102592571150095) + (ush (((((xz - ((ush xz 1) &&& 6148914691236517205)) &&& 3689348814741910323) + ((ush (xz - ((ush xz 1) &&& 6148914691236517205)) 2) &&& 3689348814741910323)) + (ush (((xz - ((ush xz 1) &&& 6148914691236517205)) &&& 3689348814741910323) + ((ush (xz - ((ush xz 1) &&& 6148914691236517205)) 2) &&& 3689348814741910323)) 4)) &&& 1085102592571150095) 8)) 16) hx hb dJ13_bitCount_95d88_45 rfl ?_
  refine lv_ladd hx hb dJ13_bitCount_95d88_46 ?_
  refine lv_lstore_n (lv' := [(0, .long (((((((xz - ((ush xz 1) &&& 6148914691236517205)) &&& 3689348814741910323) + ((ush (xz - ((ush xz 1) &&& 6148914691236517205)) 2) &&& 3689348814741910323)) + (ush (((xz - ((ush xz 1) &&& 6148914691236517205)) &&& 3689348814741910323) + ((ush (xz - ((ush xz 1) &&& 6148914691236517205)) 2) &&& 3689348814741910323)) 4)) &&& 1085102592571150095) + (ush (((((xz - ((ush xz 1) &&& 6148914691236517205)) &&& 3689348814741910323) + ((ush (xz - ((ush xz 1) &&& 6148914691236517205)) 2) &&& 3689348814741910323)) + (ush (((xz - ((ush xz 1) &&& 6148914691236517205)) &&& 3689348814741910323) + ((ush (xz - ((ush xz 1) &&& 6148914691236517205)) 2) &&& 3689348814741910323)) 4)) &&& 1085102592571150095) 8)) + (ush ((((((xz - ((ush xz 1) &&& 6148914691236517205)) &&& 3689348814741910323) + ((ush (xz - ((ush xz 1) &&& 6148914691236517205)) 2) &&& 3689348814741910323)) + (ush (((xz - ((ush xz 1) &&& 6148914691236517205)) &&& 3689348814741910323) + ((ush (xz - ((ush xz 1) &&& 6148914691236517205)) 2) &&& 3689348814741910323)) 4)) &&& 1085102592571150095) + (ush (((((xz - ((ush xz 1) &&& 6148914691236517205)) &&& 3689348814741910323) + ((ush (xz - ((ush xz 1) &&& 6148914691236517205)) 2) &&& 3689348814741910323)) + (ush (((xz - ((ush xz 1) &&& 6148914691236517205)) &&& 3689348814741910323) + ((ush (xz - ((ush xz 1) &&& 6148914691236517205)) 2) &&& 3689348814741910323)) 4)) &&& 1085102592571150095) 8)) 16)))]) hx hb dJ13_bitCount_95d88_47 rfl hl (by decide) rfl (fun ls hl => ?_)
  refine lv_lload_n hx hb dJ13_bitCount_95d88_48 rfl (lv_at hl 0 rfl) ?_
  refine lv_lload_n hx hb dJ13_bitCount_95d88_49 rfl (lv_at hl 0 rfl) ?_
  refine lv_bipush (v := nI 32) hx hb dJ13_bitCount_95d88_50 (by decide) ?_
  refine lv_lushr (v := ush (((((((xz - ((ush xz 1) &&& 6148914691236517205)) &&& 3689348814741910323) + ((ush (xz - ((ush xz 1) &&& 6148914691236517205)) 2) &&& 3689348814741910323)) + (ush (((xz - ((ush xz 1) &&& 6148914691236517205)) &&& 3689348814741910323) + ((ush (xz - ((ush xz 1) &&& 6148914691236517205)) 2) &&& 3689348814741910323)) 4)) &&& 1085102592571150095) + (ush (((((xz - ((ush xz 1) &&& 6148914691236517205)) &&& 3689348814741910323) + ((ush (xz - ((ush xz 1) &&& 6148914691236517205)) 2) &&& 3689348814741910323)) + (ush (((xz - ((ush xz 1) &&& 6148914691236517205)) &&& 3689348814741910323) + ((ush (xz - ((ush xz 1) &&& 6148914691236517205)) 2) &&& 3689348814741910323)) 4)) &&& 1085102592571150095) 8)) + (ush ((((((xz - ((ush xz 1) &&& 6148914691236517205)) &&& 3689348814741910323) + ((ush (xz - ((ush xz 1) &&& 6148914691236517205)) 2) &&& 3689348814741910323)) + (ush (((xz - ((ush xz 1) &&& 6148914691236517205)) &&& 3689348814741910323) + ((ush (xz - ((ush xz 1) &&& 6148914691236517205)) 2) &&& 3689348814741910323)) 4)) &&& 1085102592571150095) + (ush (((((xz - ((ush xz 1) &&& 6148914691236517205)) &&& 3689348814741910323) + ((ush (xz - ((ush xz 1) &&& 6148914691236517205)) 2) &&& 3689348814741910323)) + (ush (((xz - ((ush xz 1) &&& 6148914691236517205)) &&& 3689348814741910323) + ((ush (xz - ((ush xz 1) &&& 6148914691236517205)) 2) &&& 3689348814741910323)) 4)) &&& 1085102592571150095) 8)) 16)) 32) hx hb dJ13_bitCount_95d88_52 rfl ?_
  refine lv_ladd hx hb dJ13_bitCount_95d88_53 ?_
  refine lv_lstore_n (lv' := [(0, .long ((((((((xz - ((ush xz 1) &&& 6148914691236517205)) &&& 3689348814741910323) + ((ush (xz - ((ush xz 1) &&& 6148914691236517205)) 2) &&& 3689348814741910323)) + (ush (((xz - ((ush xz 1) &&& 6148914691236517205)) &&& 3689348814741910323) + ((ush (xz - ((ush xz 1) &&& 6148914691236517205)) 2) &&& 3689348814741910323)) 4)) &&& 1085102592571150095) + (ush (((((xz - ((ush xz 1) &&& 6148914691236517205)) &&& 3689348814741910323) + ((ush (xz - ((ush xz 1) &&& 6148914691236517205)) 2) &&& 3689348814741910323)) + (ush (((xz - ((ush xz 1) &&& 6148914691236517205)) &&& 3689348814741910323) + ((ush (xz - ((ush xz 1) &&& 6148914691236517205)) 2) &&& 3689348814741910323)) 4)) &&& 1085102592571150095) 8)) + (ush ((((((xz - ((ush xz 1) &&& 6148914691236517205)) &&& 3689348814741910323) + ((ush (xz - ((ush xz 1) &&& 6148914691236517205)) 2) &&& 3689348814741910323)) + (ush (((xz - ((ush xz 1) &&& 6148914691236517205)) &&& 3689348814741910323) + ((ush (xz - ((ush xz 1) &&& 6148914691236517205)) 2) &&& 3689348814741910323)) 4)) &&& 1085102592571150095) + (ush (((((xz - ((ush xz 1) &&& 6148914691236517205)) &&& 3689348814741910323) + ((ush (xz - ((ush xz 1) &&& 6148914691236517205)) 2) &&& 3689348814741910323)) + (ush (((xz - ((ush xz 1) &&& 6148914691236517205)) &&& 3689348814741910323) + ((ush (xz - ((ush xz 1) &&& 6148914691236517205)) 2) &&& 3689348814741910323)) 4)) &&& 1085102592571150095) 8)) 16)) + (ush (((((((xz - ((ush xz 1) &&& 6148914691236517205)) &&& 3689348814741910323) + ((ush (xz - ((ush xz 1) &&& 6148914691236517205)) 2) &&& 3689348814741910323)) + (ush (((xz - ((ush xz 1) &&& 6148914691236517205)) &&& 3689348814741910323) + ((ush (xz - ((ush xz 1) &&& 6148914691236517205)) 2) &&& 3689348814741910323)) 4)) &&& 1085102592571150095) + (ush (((((xz - ((ush xz 1) &&& 6148914691236517205)) &&& 3689348814741910323) + ((ush (xz - ((ush xz 1) &&& 6148914691236517205)) 2) &&& 3689348814741910323)) + (ush (((xz - ((ush xz 1) &&& 6148914691236517205)) &&& 3689348814741910323) + ((ush (xz - ((ush xz 1) &&& 6148914691236517205)) 2) &&& 3689348814741910323)) 4)) &&& 1085102592571150095) 8)) + (ush ((((((xz - ((ush xz 1) &&& 6148914691236517205)) &&& 3689348814741910323) + ((ush (xz - ((ush xz 1) &&& 6148914691236517205)) 2) &&& 3689348814741910323)) + (ush (((xz - ((ush xz 1) &&& 6148914691236517205)) &&& 3689348814741910323) + ((ush (xz - ((ush xz 1) &&& 6148914691236517205)) 2) &&& 3689348814741910323)) 4)) &&& 1085102592571150095) + (ush (((((xz - ((ush xz 1) &&& 6148914691236517205)) &&& 3689348814741910323) + ((ush (xz - ((ush xz 1) &&& 6148914691236517205)) 2) &&& 3689348814741910323)) + (ush (((xz - ((ush xz 1) &&& 6148914691236517205)) &&& 3689348814741910323) + ((ush (xz - ((ush xz 1) &&& 6148914691236517205)) 2) &&& 3689348814741910323)) 4)) &&& 1085102592571150095) 8)) 16)) 32)))]) hx hb dJ13_bitCount_95d88_54 rfl hl (by decide) rfl (fun ls hl => ?_)
  refine lv_lload_n hx hb dJ13_bitCount_95d88_55 rfl (lv_at hl 0 rfl) ?_
  refine lv_l2i (v := ((((((((xz - ((ush xz 1) &&& 6148914691236517205)) &&& 3689348814741910323) + ((ush (xz - ((ush xz 1) &&& 6148914691236517205)) 2) &&& 3689348814741910323)) + (ush (((xz - ((ush xz 1) &&& 6148914691236517205)) &&& 3689348814741910323) + ((ush (xz - ((ush xz 1) &&& 6148914691236517205)) 2) &&& 3689348814741910323)) 4)) &&& 1085102592571150095) + (ush (((((xz - ((ush xz 1) &&& 6148914691236517205)) &&& 3689348814741910323) + ((ush (xz - ((ush xz 1) &&& 6148914691236517205)) 2) &&& 3689348814741910323)) + (ush (((xz - ((ush xz 1) &&& 6148914691236517205)) &&& 3689348814741910323) + ((ush (xz - ((ush xz 1) &&& 6148914691236517205)) 2) &&& 3689348814741910323)) 4)) &&& 1085102592571150095) 8)) + (ush ((((((xz - ((ush xz 1) &&& 6148914691236517205)) &&& 3689348814741910323) + ((ush (xz - ((ush xz 1) &&& 6148914691236517205)) 2) &&& 3689348814741910323)) + (ush (((xz - ((ush xz 1) &&& 6148914691236517205)) &&& 3689348814741910323) + ((ush (xz - ((ush xz 1) &&& 6148914691236517205)) 2) &&& 3689348814741910323)) 4)) &&& 1085102592571150095) + (ush (((((xz - ((ush xz 1) &&& 6148914691236517205)) &&& 3689348814741910323) + ((ush (xz - ((ush xz 1) &&& 6148914691236517205)) 2) &&& 3689348814741910323)) + (ush (((xz - ((ush xz 1) &&& 6148914691236517205)) &&& 3689348814741910323) + ((ush (xz - ((ush xz 1) &&& 6148914691236517205)) 2) &&& 3689348814741910323)) 4)) &&& 1085102592571150095) 8)) 16)) + (ush (((((((xz - ((ush xz 1) &&& 6148914691236517205)) &&& 3689348814741910323) + ((ush (xz - ((ush xz 1) &&& 6148914691236517205)) 2) &&& 3689348814741910323)) + (ush (((xz - ((ush xz 1) &&& 6148914691236517205)) &&& 3689348814741910323) + ((ush (xz - ((ush xz 1) &&& 6148914691236517205)) 2) &&& 3689348814741910323)) 4)) &&& 1085102592571150095) + (ush (((((xz - ((ush xz 1) &&& 6148914691236517205)) &&& 3689348814741910323) + ((ush (xz - ((ush xz 1) &&& 6148914691236517205)) 2) &&& 3689348814741910323)) + (ush (((xz - ((ush xz 1) &&& 6148914691236517205)) &&& 3689348814741910323) + ((ush (xz - ((ush xz 1) &&& 6148914691236517205)) 2) &&& 3689348814741910323)) 4)) &&& 1085102592571150095) 8)) + (ush ((((((xz - ((ush xz 1) &&& 6148914691236517205)) &&& 3689348814741910323) + ((ush (xz - ((ush xz 1) &&& 6148914691236517205)) 2) &&& 3689348814741910323)) + (ush (((xz - ((ush xz 1) &&& 6148914691236517205)) &&& 3689348814741910323) + ((ush (xz - ((ush xz 1) &&& 6148914691236517205)) 2) &&& 3689348814741910323)) 4)) &&& 1085102592571150095) + (ush (((((xz - ((ush xz 1) &&& 6148914691236517205)) &&& 3689348814741910323) + ((ush (xz - ((ush xz 1) &&& 6148914691236517205)) 2) &&& 3689348814741910323)) + (ush (((xz - ((ush xz 1) &&& 6148914691236517205)) &&& 3689348814741910323) + ((ush (xz - ((ush xz 1) &&& 6148914691236517205)) 2) &&& 3689348814741910323)) 4)) &&& 1085102592571150095) 8)) 16)) 32)).toInt32) hx hb dJ13_bitCount_95d88_56 rfl ?_
  refine lv_bipush (v := nI 127) hx hb dJ13_bitCount_95d88_57 (by decide) ?_
  refine lv_iand hx hb dJ13_bitCount_95d88_59 ?_
  exact zE_i hF hr hlk hK hP hD hS dJ13_bitCount_95d88_60
set_option maxHeartbeats 4000000 in
set_option maxRecDepth 100000 in
theorem c_countBelow (l : Launch) (G : va_G) (cI : ClassId) (hz da la saz : Nat) (Dz Lz Sz : Fn) (nz : Nat) (cz gz : Int32) (hn : nz ≤ 63) (hS1 : okS Sz) (lim : Int32) : zC_i l yX0_countBelow wsX0_countBelow ({ frames := 4, cells := 0, slots := 0, locals := 85 }) G [(cI, .int)] (wh cI hz da la saz (Dz, Lz, Sz, nz, cz, gz)) (wh cI hz da la saz (Dz, Lz, Sz, nz, cz, gz)) [.ref hz, .int lim] (bcF (lN (mskF Sz Lz lim nz))) := by
  refine zB_i (cc := cX0_countBelow) (maxL := 6) (ret := (some .int)) (by decide) rfl (Nat.le_of_ble_eq_true rfl) ?_
  intro p e s m args below meth c0 A hF hr hlk hK hA hP hD hS ls hl
  have hx := hF.1
  have hb := hF.2.1
  have hown := hF.2.2.2.1
  have hts := hF.2.2.2.2
  have hf21 := hts (.fieldLink RX0 21 "SnoringDukes$WeakHeap" "size" "I") (by decide +kernel)
  have hinX0 : ∀ wz ∈ wsX00, wz ∈ wsX0_countBelow := by decide +kernel
  have hl : lv_has ls 6 [(0, .ref hz), (1, .int lim)] := hl
  refine lv_lconst (v := lN 0) hx hb dX0_countBelow_0 (by decide) ?_
  refine lv_lstore_n (lv' := [(2, .long (lN 0)), (0, .ref hz), (1, .int lim)]) hx hb dX0_countBelow_1 rfl hl (by decide) rfl (fun ls hl => ?_)
  refine lv_iconst (v := nI 0) hx hb dX0_countBelow_2 (by decide) ?_
  refine lv_istore (lv' := [(4, .int (nI 0)), (2, .long (lN 0)), (0, .ref hz), (1, .int lim)]) hx hb dX0_countBelow_3 hl (by decide) rfl (fun ls hl => ?_)
  have e0 : lN 0 = lN (mskF Sz Lz lim 0) := rfl
  have hl : lv_has ls 6 [(4, .int (nI 0)), (2, .long (lN (mskF Sz Lz lim 0))), (0, .ref hz), (1, .int lim)] := hl
  have loop : ∀ (f9 : Nat) (iz : Nat), (iz ≤ nz) → nz - iz < f9 → ∀ (H : Heap) (locs : List Loc) (ls : Array Slot), va_P G vwCl (wh cI hz da la saz (Dz, Lz, Sz, nz, cz, gz)) H → va_D A (wh cI hz da la saz (Dz, Lz, Sz, nz, cz, gz)) → va_S A s.heap H locs → lv_has ls 6 [(0, .ref hz), (1, .int lim), (2, .long (lN (mskF Sz Lz lim iz))), (4, .int (nI iz))] → W p l e ({ frames := 4, cells := 0, slots := 0, locals := 85 }) s m args below meth c0 H locs 0 0 (zQ_i below G [(cI, .int)] (wh cI hz da la saz (Dz, Lz, Sz, nz, cz, gz)) (bcF (lN (mskF Sz Lz lim nz))) A args s) (F0 m 5 ls []) := by
    intro f9
    induction f9 with
    | zero => intro iz h2 hf; exact absurd hf (Nat.not_lt_zero _)
    | succ f9 ih =>
      intro iz h2 hf H locs ls hP hD hS hl
      have hm8 := mskF_lt Sz Lz lim iz
      have hm6 : 2 ^ iz ≤ 2 ^ 63 := Nat.pow_le_pow_right (by decide) (by omega)
      have hm5 : mskF Sz Lz lim iz / 2 ^ (eld Sz iz) ≤ mskF Sz Lz lim iz := Nat.div_le_self _ _
      have hm9 : mskF Sz Lz lim iz / 2 ^ (eld Sz iz) < 2 ^ 64 := by omega
      have hm3 := eld_le Sz iz
      have hm2 := Nat.mod_lt (mskF Sz Lz lim iz / 2 ^ (eld Sz iz)) (show 0 < 2 by decide)
      refine lv_iload hx hb dX0_countBelow_5 (lv_at hl 3 rfl) ?_
      refine lv_aload_n hx hb dX0_countBelow_7 rfl (lv_at hl 0 rfl) ?_
      refine va_get (D := G) (ci := 0) (v := .int (nI nz)) (C := RX0) (T := TX0) (N := 6) hx hb hts hinX0 hown hK hP 0 rfl rfl 3 (by decide) hf21 (fun _ h9 => h9) rfl dX0_countBelow_8 ?_
      refine lv_icmp_ge (tgt := 69) hx hb dX0_countBelow_11 (by decide) (fun hc11 => ?_) (fun hc11 => ?_)
      · skip
        have k11 : nz ≤ iz := k_le (by omega) (by omega) hc11
        obtain rfl : nz = iz := by omega
        refine lv_lload_n hx hb dX0_countBelow_69 rfl (lv_at hl 2 rfl) ?_
        refine zK_si (av := [.long (lN (mskF Sz Lz lim nz))]) (rest := []) hF (c_bitCount l G (lN (mskF Sz Lz lim nz))) (va_cwS 1 hts gX0_countBelow_J13_bitCount_95d88 rfl rfl rfl (by decide +kernel) ⟨Nat.le_of_ble_eq_true rfl, Nat.le_of_ble_eq_true rfl⟩) hK hP hD hS hA (isC := []) (isR := [0, 1, 2, 3]) (perm := [0, 1, 2, 3]) (wr := wh cI hz da la saz (Dz, Lz, Sz, nz, cz, gz)) (wN := wh cI hz da la saz (Dz, Lz, Sz, nz, cz, gz)) ⟨rfl, by decide, rfl, by decide, (fun _ _ hz => by cases hz), rfl, by decide⟩ [] rfl rfl hl.1 rfl (Nat.le_of_ble_eq_true rfl) dX0_countBelow_70 ⟨Nat.le_refl _, Nat.le_refl _⟩ (fun H locs hP hD hS => ?_)
        exact zE_i hF hr hlk hK hP hD hS dX0_countBelow_73
      · skip
        have k11 : iz < nz := k_nle (by omega) (by omega) hc11
        refine lv_iload hx hb dX0_countBelow_14 (lv_at hl 3 rfl) ?_
        refine lv_if_eq (tgt := 34) hx hb dX0_countBelow_16 (by decide) (fun hc16 => ?_) (fun hc16 => ?_)
        · skip
          have k16 : iz = 0 := k0_eq (by omega) hc16
          refine lv_iconst (v := nI 1) hx hb dX0_countBelow_34 (by decide) ?_
          refine lv_goto (tgt := 39) hx hb dX0_countBelow_35 (by decide) ?_
          refine lv_istore (lv' := [(5, .int (nI 1)), (0, .ref hz), (1, .int lim), (2, .long (lN (mskF Sz Lz lim iz))), (4, .int (nI iz))]) hx hb dX0_countBelow_39 hl (by decide) rfl (fun ls hl => ?_)
          refine lv_iload hx hb dX0_countBelow_41 (lv_at hl 0 rfl) ?_
          refine lv_if_eq (tgt := 63) hx hb dX0_countBelow_43 (by decide) (fun hc43 => ?_) (fun hc43 => ?_)
          · exact absurd hc43 (by decide)
          · skip
            have k43 : 0 < 1 := k0_ne (by omega) hc43
            refine lv_aload_n hx hb dX0_countBelow_46 rfl (lv_at hl 1 rfl) ?_
            refine lv_iload hx hb dX0_countBelow_47 (lv_at hl 4 rfl) ?_
            refine zK_vi (As := [.int (nI iz)]) (rest := []) hF (c_loudnessAt l G cI hz da la saz (Dz) (Lz) (Sz) (nz) (cz) (gz) hn iz (by omega)) (cwV 1 hts gX0_countBelow_X0_loudnessAt rfl rfl rfl (by decide +kernel) ⟨Nat.le_of_ble_eq_true rfl, Nat.le_of_ble_eq_true rfl⟩) hK hP hD hS hA (ci := 0) (q0 := 0) rfl rfl rfl (isC := [0, 1, 2, 3]) (isR := []) (perm := [0, 1, 2, 3]) (wr := []) (wN := wh cI hz da la saz (Dz, Lz, Sz, nz, cz, gz)) ⟨rfl, by decide, rfl, rfl, (fun _ hz => by cases hz), rfl, by decide⟩ [0] rfl rfl hl.1 rfl (Nat.le_of_ble_eq_true rfl) dX0_countBelow_49 ⟨Nat.le_refl _, Nat.le_refl _⟩ (fun H locs hP hD hS => ?_)
            refine zN (Lz iz) (y := (if iz < nz then Lz iz else -1)) (if_pos k11) ?_
            refine lv_iload_n hx hb dX0_countBelow_52 rfl (lv_at hl 2 rfl) ?_
            refine lv_icmp_ge (tgt := 63) hx hb dX0_countBelow_53 (by decide) (fun hc53 => ?_) (fun hc53 => ?_)
            · skip
              have e9 : mskF Sz Lz lim iz = mskF Sz Lz lim (iz + 1) := by rw [mskF, if_neg (fun qz => fa_nle hc53 qz.2)]
              have hl : lv_has ls 6 [(5, .int (nI 1)), (0, .ref hz), (1, .int lim), (2, .long (lN (mskF Sz Lz lim (iz + 1)))), (4, .int (nI iz))] := by rw [← e9]; exact hl
              refine lv_iinc (v := nI (iz + 1)) (lv' := [(4, .int (nI (iz + 1))), (5, .int (nI 1)), (0, .ref hz), (1, .int lim), (2, .long (lN (mskF Sz Lz lim (iz + 1))))]) hx hb dX0_countBelow_63 hl (k := 4) rfl (nI_1 _) (by decide) rfl (fun ls hl => ?_)
              refine lv_goto (tgt := 5) hx hb dX0_countBelow_66 (by decide) ?_
              exact ih (iz + 1) (by omega) (by omega) _ _ _ hP hD hS (lv_sub hl [2, 3, 4, 0] rfl)
            · skip
              refine lv_lload_n hx hb dX0_countBelow_56 rfl (lv_at hl 3 rfl) ?_
              refine lv_lconst (v := lN 1) hx hb dX0_countBelow_57 (by decide) ?_
              refine lv_iload hx hb dX0_countBelow_58 (lv_at hl 4 rfl) ?_
              refine lv_lshl (v := lN (1 * 2 ^ iz)) hx hb dX0_countBelow_60 (wb_shl 1 (by omega)) ?_
              refine lv_lor hx hb dX0_countBelow_61 ?_
              refine zNl (lN (mskF Sz Lz lim iz + 2 ^ iz)) (by rw [Nat.one_mul, wb_or (by omega) (by omega), wb_add hm8]) ?_
              refine lv_lstore_n (lv' := [(2, .long (lN (mskF Sz Lz lim iz + 2 ^ iz))), (5, .int (nI 1)), (0, .ref hz), (1, .int lim), (4, .int (nI iz))]) hx hb dX0_countBelow_62 rfl hl (by decide) rfl (fun ls hl => ?_)
              have e9 : mskF Sz Lz lim iz + 2 ^ iz = mskF Sz Lz lim (iz + 1) := by rw [mskF, if_pos ⟨Or.inl k16, fa_nlt hc53⟩]
              have hl : lv_has ls 6 [(2, .long (lN (mskF Sz Lz lim (iz + 1)))), (5, .int (nI 1)), (0, .ref hz), (1, .int lim), (4, .int (nI iz))] := by rw [← e9]; exact hl
              refine lv_iinc (v := nI (iz + 1)) (lv' := [(4, .int (nI (iz + 1))), (2, .long (lN (mskF Sz Lz lim (iz + 1)))), (5, .int (nI 1)), (0, .ref hz), (1, .int lim)]) hx hb dX0_countBelow_63 hl (k := 4) rfl (nI_1 _) (by decide) rfl (fun ls hl => ?_)
              refine lv_goto (tgt := 5) hx hb dX0_countBelow_66 (by decide) ?_
              exact ih (iz + 1) (by omega) (by omega) _ _ _ hP hD hS (lv_sub hl [3, 4, 1, 0] rfl)
        · skip
          have k16 : 0 < iz := k0_ne (by omega) hc16
          refine lv_lload_n hx hb dX0_countBelow_19 rfl (lv_at hl 2 rfl) ?_
          refine lv_aload_n hx hb dX0_countBelow_20 rfl (lv_at hl 0 rfl) ?_
          refine lv_iload hx hb dX0_countBelow_21 (lv_at hl 3 rfl) ?_
          refine zK_vi (As := [.int (nI iz)]) (rest := [.long (lN (mskF Sz Lz lim iz))]) hF (c_elder l G cI hz da la saz (Dz) (Lz) (Sz) (nz) (cz) (gz) hn hS1 iz (by omega)) (cwV 1 hts gX0_countBelow_X0_elder rfl rfl rfl (by decide +kernel) ⟨Nat.le_of_ble_eq_true rfl, Nat.le_of_ble_eq_true rfl⟩) hK hP hD hS hA (ci := 0) (q0 := 0) rfl rfl rfl (isC := [0, 1, 2, 3]) (isR := []) (perm := [0, 1, 2, 3]) (wr := []) (wN := wh cI hz da la saz (Dz, Lz, Sz, nz, cz, gz)) ⟨rfl, by decide, rfl, rfl, (fun _ hz => by cases hz), rfl, by decide⟩ [0] rfl rfl hl.1 rfl (Nat.le_of_ble_eq_true rfl) dX0_countBelow_23 ⟨Nat.le_refl _, Nat.le_refl _⟩ (fun H locs hP hD hS => ?_)
          refine lv_lushr (v := lN (mskF Sz Lz lim iz / 2 ^ (eld Sz iz))) hx hb dX0_countBelow_26 (wb_shr (by omega) (by omega)) ?_
          refine lv_lconst (v := lN 1) hx hb dX0_countBelow_27 (by decide) ?_
          refine lv_land hx hb dX0_countBelow_28 ?_
          refine zNl (lN (mskF Sz Lz lim iz / 2 ^ (eld Sz iz) % 2)) (wb_mask (k := 1) hm9 (by decide)) ?_
          refine lv_lconst (v := lN 0) hx hb dX0_countBelow_29 (by decide) ?_
          refine W.lcmp hx hb dX0_countBelow_30 ?_
          refine lv_if_eq (tgt := 38) hx hb dX0_countBelow_31 (by decide) (fun hc31 => ?_) (fun hc31 => ?_)
          · skip
            refine lv_iconst (v := nI 0) hx hb dX0_countBelow_38 (by decide) ?_
            refine lv_istore (lv' := [(5, .int (nI 0)), (0, .ref hz), (1, .int lim), (2, .long (lN (mskF Sz Lz lim iz))), (4, .int (nI iz))]) hx hb dX0_countBelow_39 hl (by decide) rfl (fun ls hl => ?_)
            refine lv_iload hx hb dX0_countBelow_41 (lv_at hl 0 rfl) ?_
            refine lv_if_eq (tgt := 63) hx hb dX0_countBelow_43 (by decide) (fun hc43 => ?_) (fun hc43 => ?_)
            · skip
              have k43 : 0 = 0 := k0_eq (by omega) hc43
              have e9 : mskF Sz Lz lim iz = mskF Sz Lz lim (iz + 1) := by rw [mskF, if_neg (fun qz => by have zz := (z_cmp0 (by omega)).mp hc31; rcases qz.1 with q1 | q1 <;> omega)]
              have hl : lv_has ls 6 [(5, .int (nI 0)), (0, .ref hz), (1, .int lim), (2, .long (lN (mskF Sz Lz lim (iz + 1)))), (4, .int (nI iz))] := by rw [← e9]; exact hl
              refine lv_iinc (v := nI (iz + 1)) (lv' := [(4, .int (nI (iz + 1))), (5, .int (nI 0)), (0, .ref hz), (1, .int lim), (2, .long (lN (mskF Sz Lz lim (iz + 1))))]) hx hb dX0_countBelow_63 hl (k := 4) rfl (nI_1 _) (by decide) rfl (fun ls hl => ?_)
              refine lv_goto (tgt := 5) hx hb dX0_countBelow_66 (by decide) ?_
              exact ih (iz + 1) (by omega) (by omega) _ _ _ hP hD hS (lv_sub hl [2, 3, 4, 0] rfl)
            · exact absurd hc43 (by decide)
          · skip
            refine lv_iconst (v := nI 1) hx hb dX0_countBelow_34 (by decide) ?_
            refine lv_goto (tgt := 39) hx hb dX0_countBelow_35 (by decide) ?_
            refine lv_istore (lv' := [(5, .int (nI 1)), (0, .ref hz), (1, .int lim), (2, .long (lN (mskF Sz Lz lim iz))), (4, .int (nI iz))]) hx hb dX0_countBelow_39 hl (by decide) rfl (fun ls hl => ?_)
            refine lv_iload hx hb dX0_countBelow_41 (lv_at hl 0 rfl) ?_
            refine lv_if_eq (tgt := 63) hx hb dX0_countBelow_43 (by decide) (fun hc43 => ?_) (fun hc43 => ?_)
            · exact absurd hc43 (by decide)
            · skip
              have k43 : 0 < 1 := k0_ne (by omega) hc43
              refine lv_aload_n hx hb dX0_countBelow_46 rfl (lv_at hl 1 rfl) ?_
              refine lv_iload hx hb dX0_countBelow_47 (lv_at hl 4 rfl) ?_
              refine zK_vi (As := [.int (nI iz)]) (rest := []) hF (c_loudnessAt l G cI hz da la saz (Dz) (Lz) (Sz) (nz) (cz) (gz) hn iz (by omega)) (cwV 1 hts gX0_countBelow_X0_loudnessAt rfl rfl rfl (by decide +kernel) ⟨Nat.le_of_ble_eq_true rfl, Nat.le_of_ble_eq_true rfl⟩) hK hP hD hS hA (ci := 0) (q0 := 0) rfl rfl rfl (isC := [0, 1, 2, 3]) (isR := []) (perm := [0, 1, 2, 3]) (wr := []) (wN := wh cI hz da la saz (Dz, Lz, Sz, nz, cz, gz)) ⟨rfl, by decide, rfl, rfl, (fun _ hz => by cases hz), rfl, by decide⟩ [0] rfl rfl hl.1 rfl (Nat.le_of_ble_eq_true rfl) dX0_countBelow_49 ⟨Nat.le_refl _, Nat.le_refl _⟩ (fun H locs hP hD hS => ?_)
              refine zN (Lz iz) (y := (if iz < nz then Lz iz else -1)) (if_pos k11) ?_
              refine lv_iload_n hx hb dX0_countBelow_52 rfl (lv_at hl 2 rfl) ?_
              refine lv_icmp_ge (tgt := 63) hx hb dX0_countBelow_53 (by decide) (fun hc53 => ?_) (fun hc53 => ?_)
              · skip
                have e9 : mskF Sz Lz lim iz = mskF Sz Lz lim (iz + 1) := by rw [mskF, if_neg (fun qz => fa_nle hc53 qz.2)]
                have hl : lv_has ls 6 [(5, .int (nI 1)), (0, .ref hz), (1, .int lim), (2, .long (lN (mskF Sz Lz lim (iz + 1)))), (4, .int (nI iz))] := by rw [← e9]; exact hl
                refine lv_iinc (v := nI (iz + 1)) (lv' := [(4, .int (nI (iz + 1))), (5, .int (nI 1)), (0, .ref hz), (1, .int lim), (2, .long (lN (mskF Sz Lz lim (iz + 1))))]) hx hb dX0_countBelow_63 hl (k := 4) rfl (nI_1 _) (by decide) rfl (fun ls hl => ?_)
                refine lv_goto (tgt := 5) hx hb dX0_countBelow_66 (by decide) ?_
                exact ih (iz + 1) (by omega) (by omega) _ _ _ hP hD hS (lv_sub hl [2, 3, 4, 0] rfl)
              · skip
                refine lv_lload_n hx hb dX0_countBelow_56 rfl (lv_at hl 3 rfl) ?_
                refine lv_lconst (v := lN 1) hx hb dX0_countBelow_57 (by decide) ?_
                refine lv_iload hx hb dX0_countBelow_58 (lv_at hl 4 rfl) ?_
                refine lv_lshl (v := lN (1 * 2 ^ iz)) hx hb dX0_countBelow_60 (wb_shl 1 (by omega)) ?_
                refine lv_lor hx hb dX0_countBelow_61 ?_
                refine zNl (lN (mskF Sz Lz lim iz + 2 ^ iz)) (by rw [Nat.one_mul, wb_or (by omega) (by omega), wb_add hm8]) ?_
                refine lv_lstore_n (lv' := [(2, .long (lN (mskF Sz Lz lim iz + 2 ^ iz))), (5, .int (nI 1)), (0, .ref hz), (1, .int lim), (4, .int (nI iz))]) hx hb dX0_countBelow_62 rfl hl (by decide) rfl (fun ls hl => ?_)
                have e9 : mskF Sz Lz lim iz + 2 ^ iz = mskF Sz Lz lim (iz + 1) := by rw [mskF, if_pos ⟨Or.inr (by have z9 : ¬ (mskF Sz Lz lim iz / 2 ^ (eld Sz iz) % 2 = 0) := fun zz => hc31 ((z_cmp0 (by omega)).mpr zz); omega), fa_nlt hc53⟩]
                have hl : lv_has ls 6 [(2, .long (lN (mskF Sz Lz lim (iz + 1)))), (5, .int (nI 1)), (0, .ref hz), (1, .int lim), (4, .int (nI iz))] := by rw [← e9]; exact hl
                refine lv_iinc (v := nI (iz + 1)) (lv' := [(4, .int (nI (iz + 1))), (2, .long (lN (mskF Sz Lz lim (iz + 1)))), (5, .int (nI 1)), (0, .ref hz), (1, .int lim)]) hx hb dX0_countBelow_63 hl (k := 4) rfl (nI_1 _) (by decide) rfl (fun ls hl => ?_)
                refine lv_goto (tgt := 5) hx hb dX0_countBelow_66 (by decide) ?_
                exact ih (iz + 1) (by omega) (by omega) _ _ _ hP hD hS (lv_sub hl [3, 4, 1, 0] rfl)
  exact loop (nz + 1) 0 (by omega) (by omega) _ _ _ hP hD hS (lv_sub hl [2, 3, 1, 0] rfl)
end
section
/-! WeakHeap: joining, rising, laying, leaving -/
set_option maxHeartbeats 4000000 in
set_option maxRecDepth 100000 in
theorem c_exchange (l : Launch) (G : va_G) (cI : ClassId) (hz da la saz : Nat) (Dz Lz Sz : Fn) (nz : Nat) (cz gz : Int32) (e1 j1 : Nat) (he : e1 < 63) (hj : j1 < 63) : zC_v l yX0_exchange wsX0_exchange ({ frames := 0, cells := 0, slots := 0, locals := 0 }) G [(cI, .int)] (wh cI hz da la saz (Dz, Lz, Sz, nz, cz, gz)) (wh cI hz da la saz (exF Dz e1 j1, exF Lz e1 j1, Sz, nz, cz, gz)) [.ref hz, .int (nI e1), .int (nI j1)] := by
  refine zB_v (cc := cX0_exchange) (maxL := 5) (ret := none) (by decide) rfl (Nat.le_of_ble_eq_true rfl) ?_
  intro p e s m args below meth c0 A hF hr hlk hK hA hP hD hS ls hl
  have hx := hF.1
  have hb := hF.2.1
  have hown := hF.2.2.2.1
  have hts := hF.2.2.2.2
  have hf9 := hts (.fieldLink RX0 9 "SnoringDukes$WeakHeap" "duke" "[I") (by decide +kernel)
  have hf15 := hts (.fieldLink RX0 15 "SnoringDukes$WeakHeap" "loudness" "[I") (by decide +kernel)
  have hinX0 : ∀ wz ∈ wsX00, wz ∈ wsX0_exchange := by decide +kernel
  have hl : lv_has ls 5 [(0, .ref hz), (1, .int (nI e1)), (2, .int (nI j1))] := hl
  refine lv_aload_n hx hb dX0_exchange_0 rfl (lv_at hl 0 rfl) ?_
  refine va_get (D := G) (ci := 0) (v := .ref da) (C := RX0) (T := TX0) (N := 6) hx hb hts hinX0 hown hK hP 0 rfl rfl 0 (by decide) hf9 (fun _ h9 => h9) rfl dX0_exchange_1 ?_
  refine lv_iload_n hx hb dX0_exchange_4 rfl (lv_at hl 1 rfl) ?_
  refine zA_ld hx hb hK hP 1 0 rfl rfl (by omega) (by decide) dX0_exchange_5 ?_
  refine lv_istore_n (lv' := [(3, .int (Dz e1)), (0, .ref hz), (1, .int (nI e1)), (2, .int (nI j1))]) hx hb dX0_exchange_6 rfl hl (by decide) rfl (fun ls hl => ?_)
  refine lv_aload_n hx hb dX0_exchange_7 rfl (lv_at hl 1 rfl) ?_
  refine va_get (D := G) (ci := 0) (v := .ref la) (C := RX0) (T := TX0) (N := 6) hx hb hts hinX0 hown hK hP 0 rfl rfl 1 (by decide) hf15 (fun _ h9 => h9) rfl dX0_exchange_8 ?_
  refine lv_iload_n hx hb dX0_exchange_11 rfl (lv_at hl 2 rfl) ?_
  refine zA_ld hx hb hK hP 2 0 rfl rfl (by omega) (by decide) dX0_exchange_12 ?_
  refine lv_istore (lv' := [(4, .int (Lz e1)), (3, .int (Dz e1)), (0, .ref hz), (1, .int (nI e1)), (2, .int (nI j1))]) hx hb dX0_exchange_13 hl (by decide) rfl (fun ls hl => ?_)
  refine lv_aload_n hx hb dX0_exchange_15 rfl (lv_at hl 2 rfl) ?_
  refine va_get (D := G) (ci := 0) (v := .ref da) (C := RX0) (T := TX0) (N := 6) hx hb hts hinX0 hown hK hP 0 rfl rfl 0 (by decide) hf9 (fun _ h9 => h9) rfl dX0_exchange_16 ?_
  refine lv_iload_n hx hb dX0_exchange_19 rfl (lv_at hl 3 rfl) ?_
  refine lv_aload_n hx hb dX0_exchange_20 rfl (lv_at hl 2 rfl) ?_
  refine va_get (D := G) (ci := 0) (v := .ref da) (C := RX0) (T := TX0) (N := 6) hx hb hts hinX0 hown hK hP 0 rfl rfl 0 (by decide) hf9 (fun _ h9 => h9) rfl dX0_exchange_21 ?_
  refine lv_iload_n hx hb dX0_exchange_24 rfl (lv_at hl 4 rfl) ?_
  refine zA_ld hx hb hK hP 1 0 rfl rfl (by omega) (by decide) dX0_exchange_25 ?_
  refine zA_st (x := Dz j1) hx hb hK hP hD hS 1 0 rfl rfl (by omega) (by decide) dX0_exchange_26 (fun H locs hP hD hS => ?_)
  have hP : va_P G vwCl (wh cI hz da la saz (upd Dz e1 (Dz j1), Lz, Sz, nz, cz, gz)) H := hP
  have hD : va_D A (wh cI hz da la saz (upd Dz e1 (Dz j1), Lz, Sz, nz, cz, gz)) := hD
  refine lv_aload_n hx hb dX0_exchange_27 rfl (lv_at hl 2 rfl) ?_
  refine va_get (D := G) (ci := 0) (v := .ref la) (C := RX0) (T := TX0) (N := 6) hx hb hts hinX0 hown hK hP 0 rfl rfl 1 (by decide) hf15 (fun _ h9 => h9) rfl dX0_exchange_28 ?_
  refine lv_iload_n hx hb dX0_exchange_31 rfl (lv_at hl 3 rfl) ?_
  refine lv_aload_n hx hb dX0_exchange_32 rfl (lv_at hl 2 rfl) ?_
  refine va_get (D := G) (ci := 0) (v := .ref la) (C := RX0) (T := TX0) (N := 6) hx hb hts hinX0 hown hK hP 0 rfl rfl 1 (by decide) hf15 (fun _ h9 => h9) rfl dX0_exchange_33 ?_
  refine lv_iload_n hx hb dX0_exchange_36 rfl (lv_at hl 4 rfl) ?_
  refine zA_ld hx hb hK hP 2 0 rfl rfl (by omega) (by decide) dX0_exchange_37 ?_
  refine zA_st (x := Lz j1) hx hb hK hP hD hS 2 0 rfl rfl (by omega) (by decide) dX0_exchange_38 (fun H locs hP hD hS => ?_)
  have hP : va_P G vwCl (wh cI hz da la saz (upd Dz e1 (Dz j1), upd Lz e1 (Lz j1), Sz, nz, cz, gz)) H := hP
  have hD : va_D A (wh cI hz da la saz (upd Dz e1 (Dz j1), upd Lz e1 (Lz j1), Sz, nz, cz, gz)) := hD
  refine lv_aload_n hx hb dX0_exchange_39 rfl (lv_at hl 2 rfl) ?_
  refine va_get (D := G) (ci := 0) (v := .ref da) (C := RX0) (T := TX0) (N := 6) hx hb hts hinX0 hown hK hP 0 rfl rfl 0 (by decide) hf9 (fun _ h9 => h9) rfl dX0_exchange_40 ?_
  refine lv_iload_n hx hb dX0_exchange_43 rfl (lv_at hl 4 rfl) ?_
  refine lv_iload_n hx hb dX0_exchange_44 rfl (lv_at hl 1 rfl) ?_
  refine zA_st (x := Dz e1) hx hb hK hP hD hS 1 0 rfl rfl (by omega) (by decide) dX0_exchange_45 (fun H locs hP hD hS => ?_)
  have hP : va_P G vwCl (wh cI hz da la saz (upd (upd Dz e1 (Dz j1)) j1 (Dz e1), upd Lz e1 (Lz j1), Sz, nz, cz, gz)) H := hP
  have hD : va_D A (wh cI hz da la saz (upd (upd Dz e1 (Dz j1)) j1 (Dz e1), upd Lz e1 (Lz j1), Sz, nz, cz, gz)) := hD
  refine lv_aload_n hx hb dX0_exchange_46 rfl (lv_at hl 2 rfl) ?_
  refine va_get (D := G) (ci := 0) (v := .ref la) (C := RX0) (T := TX0) (N := 6) hx hb hts hinX0 hown hK hP 0 rfl rfl 1 (by decide) hf15 (fun _ h9 => h9) rfl dX0_exchange_47 ?_
  refine lv_iload_n hx hb dX0_exchange_50 rfl (lv_at hl 4 rfl) ?_
  refine lv_iload hx hb dX0_exchange_51 (lv_at hl 0 rfl) ?_
  refine zA_st (x := Lz e1) hx hb hK hP hD hS 2 0 rfl rfl (by omega) (by decide) dX0_exchange_53 (fun H locs hP hD hS => ?_)
  have hP : va_P G vwCl (wh cI hz da la saz (upd (upd Dz e1 (Dz j1)) j1 (Dz e1), upd (upd Lz e1 (Lz j1)) j1 (Lz e1), Sz, nz, cz, gz)) H := hP
  have hD : va_D A (wh cI hz da la saz (upd (upd Dz e1 (Dz j1)) j1 (Dz e1), upd (upd Lz e1 (Lz j1)) j1 (Lz e1), Sz, nz, cz, gz)) := hD
  exact zE_v hF hr hlk hK hP hD hS dX0_exchange_54
set_option maxHeartbeats 4000000 in
set_option maxRecDepth 100000 in
theorem c_join (l : Launch) (G : va_G) (cI : ClassId) (hz da la saz : Nat) (Dz Lz Sz : Fn) (nz : Nat) (cz gz : Int32) (hn : nz ≤ 63) (e1 j1 : Nat) (he : e1 < nz) (hj : j1 < nz) : zC_i l yX0_join wsX0_join ({ frames := 1, cells := 0, slots := 0, locals := 24 }) G [(cI, .int)] (wh cI hz da la saz (Dz, Lz, Sz, nz, cz, gz)) (wh cI hz da la saz (joinF false (Dz, Lz, Sz, nz, cz, gz) e1 j1)) [.ref hz, .int (nI e1), .int (nI j1)] (bI (jc false (Dz, Lz, Sz, nz, cz, gz) e1 j1)) := by
  refine zB_i (cc := cX0_join) (maxL := 3) (ret := (some .boolean)) (by decide) rfl (Nat.le_of_ble_eq_true rfl) ?_
  intro p e s m args below meth c0 A hF hr hlk hK hA hP hD hS ls hl
  have hx := hF.1
  have hb := hF.2.1
  have hown := hF.2.2.2.1
  have hts := hF.2.2.2.2
  have hf25 := hts (.fieldLink RX0 25 "SnoringDukes$WeakHeap" "compared" "I") (by decide +kernel)
  have hf15 := hts (.fieldLink RX0 15 "SnoringDukes$WeakHeap" "loudness" "[I") (by decide +kernel)
  have hf28 := hts (.fieldLink RX0 28 "SnoringDukes$WeakHeap" "changed" "I") (by decide +kernel)
  have hf18 := hts (.fieldLink RX0 18 "SnoringDukes$WeakHeap" "side" "[I") (by decide +kernel)
  have hinX0 : ∀ wz ∈ wsX00, wz ∈ wsX0_join := by decide +kernel
  have hl : lv_has ls 3 [(0, .ref hz), (1, .int (nI e1)), (2, .int (nI j1))] := hl
  refine lv_aload_n hx hb dX0_join_0 rfl (lv_at hl 0 rfl) ?_
  refine lv_iload_n hx hb dX0_join_1 rfl (lv_at hl 1 rfl) ?_
  refine zK_vi (As := [.int (nI e1)]) (rest := []) hF (c_has l G cI hz da la saz (Dz) (Lz) (Sz) (nz) (cz) (gz) hn (nI e1)) (cwV 1 hts gX0_join_X0_has rfl rfl rfl (by decide +kernel) ⟨Nat.le_of_ble_eq_true rfl, Nat.le_of_ble_eq_true rfl⟩) hK hP hD hS hA (ci := 0) (q0 := 0) rfl rfl rfl (isC := [0, 1, 2, 3]) (isR := []) (perm := [0, 1, 2, 3]) (wr := []) (wN := wh cI hz da la saz (Dz, Lz, Sz, nz, cz, gz)) ⟨rfl, by decide, rfl, rfl, (fun _ hz => by cases hz), rfl, by decide⟩ [0] rfl rfl hl.1 rfl (Nat.le_of_ble_eq_true rfl) dX0_join_2 ⟨Nat.le_refl _, Nat.le_refl _⟩ (fun H locs hP hD hS => ?_)
  refine lv_if_eq (tgt := 16) hx hb dX0_join_5 (by decide) (fun hc5 => ?_) (fun hc5 => ?_)
  · skip
    have k5 : (hasI nz (nI e1)) = false := bI_e0.mp hc5
    rw [hasI_nI (by omega) (by omega)] at k5
    exact absurd (of_decide_eq_false k5) (by omega)
  · skip
    have k5 : (hasI nz (nI e1)) = true := bI_ne.mp hc5
    refine lv_aload_n hx hb dX0_join_8 rfl (lv_at hl 0 rfl) ?_
    refine lv_iload_n hx hb dX0_join_9 rfl (lv_at hl 2 rfl) ?_
    refine zK_vi (As := [.int (nI j1)]) (rest := []) hF (c_has l G cI hz da la saz (Dz) (Lz) (Sz) (nz) (cz) (gz) hn (nI j1)) (cwV 1 hts gX0_join_X0_has rfl rfl rfl (by decide +kernel) ⟨Nat.le_of_ble_eq_true rfl, Nat.le_of_ble_eq_true rfl⟩) hK hP hD hS hA (ci := 0) (q0 := 0) rfl rfl rfl (isC := [0, 1, 2, 3]) (isR := []) (perm := [0, 1, 2, 3]) (wr := []) (wN := wh cI hz da la saz (Dz, Lz, Sz, nz, cz, gz)) ⟨rfl, by decide, rfl, rfl, (fun _ hz => by cases hz), rfl, by decide⟩ [0] rfl rfl hl.1 rfl (Nat.le_of_ble_eq_true rfl) dX0_join_10 ⟨Nat.le_refl _, Nat.le_refl _⟩ (fun H locs hP hD hS => ?_)
    refine lv_if_ne (tgt := 18) hx hb dX0_join_13 (by decide) (fun hc13 => ?_) (fun hc13 => ?_)
    · skip
      have k13 : (hasI nz (nI j1)) = true := bI_ne.mp hc13
      refine lv_aload_n hx hb dX0_join_18 rfl (lv_at hl 0 rfl) ?_
      refine lv_dup hx hb dX0_join_19 rfl ?_
      refine va_get (D := G) (ci := 0) (v := .int cz) (C := RX0) (T := TX0) (N := 6) hx hb hts hinX0 hown hK hP 0 rfl rfl 4 (by decide) hf25 (fun _ h9 => h9) rfl dX0_join_20 ?_
      refine lv_iconst (v := nI 1) hx hb dX0_join_23 (by decide) ?_
      refine lv_iadd hx hb dX0_join_24 ?_
      refine va_put (D := G) (ci := 0) (v := .int (cz + (nI 1))) (ty := .int) (C := RX0) (T := TX0) (N := 6) hx hb hts hinX0 tyX0 tyX0_ok nmX0 hown hK hP hD hS 0 rfl rfl 4 (by decide) hf25 (fun _ h9 => h9) rfl (by decide +kernel) rfl rfl (Nat.le_of_ble_eq_true rfl) dX0_join_25 (fun H locs hP hD hS => ?_)
      have hP : va_P G vwCl (wh cI hz da la saz (Dz, Lz, Sz, nz, cz + (nI 1), gz)) H := hP
      have hD : va_D A (wh cI hz da la saz (Dz, Lz, Sz, nz, cz + (nI 1), gz)) := hD
      refine lv_aload_n hx hb dX0_join_28 rfl (lv_at hl 0 rfl) ?_
      refine va_get (D := G) (ci := 0) (v := .ref la) (C := RX0) (T := TX0) (N := 6) hx hb hts hinX0 hown hK hP 0 rfl rfl 1 (by decide) hf15 (fun _ h9 => h9) rfl dX0_join_29 ?_
      refine lv_iload_n hx hb dX0_join_32 rfl (lv_at hl 2 rfl) ?_
      refine zA_ld hx hb hK hP 2 0 rfl rfl (by omega) (by decide) dX0_join_33 ?_
      refine lv_aload_n hx hb dX0_join_34 rfl (lv_at hl 0 rfl) ?_
      refine va_get (D := G) (ci := 0) (v := .ref la) (C := RX0) (T := TX0) (N := 6) hx hb hts hinX0 hown hK hP 0 rfl rfl 1 (by decide) hf15 (fun _ h9 => h9) rfl dX0_join_35 ?_
      refine lv_iload_n hx hb dX0_join_38 rfl (lv_at hl 1 rfl) ?_
      refine zA_ld hx hb hK hP 2 0 rfl rfl (by omega) (by decide) dX0_join_39 ?_
      refine lv_icmp_lt (tgt := 45) hx hb dX0_join_40 (by decide) (fun hc40 => ?_) (fun hc40 => ?_)
      · skip
        refine lv_aload_n hx hb dX0_join_45 rfl (lv_at hl 0 rfl) ?_
        refine lv_dup hx hb dX0_join_46 rfl ?_
        refine va_get (D := G) (ci := 0) (v := .int gz) (C := RX0) (T := TX0) (N := 6) hx hb hts hinX0 hown hK hP 0 rfl rfl 5 (by decide) hf28 (fun _ h9 => h9) rfl dX0_join_47 ?_
        refine lv_iconst (v := nI 1) hx hb dX0_join_50 (by decide) ?_
        refine lv_iadd hx hb dX0_join_51 ?_
        refine va_put (D := G) (ci := 0) (v := .int (gz + (nI 1))) (ty := .int) (C := RX0) (T := TX0) (N := 6) hx hb hts hinX0 tyX0 tyX0_ok nmX0 hown hK hP hD hS 0 rfl rfl 5 (by decide) hf28 (fun _ h9 => h9) rfl (by decide +kernel) rfl rfl (Nat.le_of_ble_eq_true rfl) dX0_join_52 (fun H locs hP hD hS => ?_)
        have hP : va_P G vwCl (wh cI hz da la saz (Dz, Lz, Sz, nz, cz + (nI 1), gz + (nI 1))) H := hP
        have hD : va_D A (wh cI hz da la saz (Dz, Lz, Sz, nz, cz + (nI 1), gz + (nI 1))) := hD
        refine lv_aload_n hx hb dX0_join_55 rfl (lv_at hl 0 rfl) ?_
        refine lv_iload_n hx hb dX0_join_56 rfl (lv_at hl 1 rfl) ?_
        refine lv_iload_n hx hb dX0_join_57 rfl (lv_at hl 2 rfl) ?_
        refine zK_vv (As := [.int (nI e1), .int (nI j1)]) (rest := []) hF (c_exchange l G cI hz da la saz (Dz) (Lz) (Sz) (nz) (cz + (nI 1)) (gz + (nI 1)) e1 j1 (by omega) (by omega)) (cwV 2 hts gX0_join_X0_exchange rfl rfl rfl (by decide +kernel) ⟨Nat.le_of_ble_eq_true rfl, Nat.le_of_ble_eq_true rfl⟩) hK hP hD hS hA (ci := 0) (q0 := 0) rfl rfl rfl (isC := [0, 1, 2, 3]) (isR := []) (perm := [0, 1, 2, 3]) (wr := []) (wN := wh cI hz da la saz (exF Dz e1 j1, exF Lz e1 j1, Sz, nz, cz + (nI 1), gz + (nI 1))) ⟨rfl, by decide, rfl, rfl, (fun _ hz => by cases hz), rfl, by decide⟩ [0] rfl rfl hl.1 rfl (Nat.le_of_ble_eq_true rfl) dX0_join_58 ⟨Nat.le_refl _, Nat.le_refl _⟩ (fun H locs hP hD hS => ?_)
        refine lv_aload_n hx hb dX0_join_61 rfl (lv_at hl 0 rfl) ?_
        refine va_get (D := G) (ci := 0) (v := .ref saz) (C := RX0) (T := TX0) (N := 6) hx hb hts hinX0 hown hK hP 0 rfl rfl 2 (by decide) hf18 (fun _ h9 => h9) rfl dX0_join_62 ?_
        refine lv_iload_n hx hb dX0_join_65 rfl (lv_at hl 2 rfl) ?_
        refine lv_iconst (v := nI 1) hx hb dX0_join_66 (by decide) ?_
        refine lv_aload_n hx hb dX0_join_67 rfl (lv_at hl 0 rfl) ?_
        refine va_get (D := G) (ci := 0) (v := .ref saz) (C := RX0) (T := TX0) (N := 6) hx hb hts hinX0 hown hK hP 0 rfl rfl 2 (by decide) hf18 (fun _ h9 => h9) rfl dX0_join_68 ?_
        refine lv_iload_n hx hb dX0_join_71 rfl (lv_at hl 2 rfl) ?_
        refine zA_ld hx hb hK hP 3 0 rfl rfl (by omega) (by decide) dX0_join_72 ?_
        refine lv_isub hx hb dX0_join_73 ?_
        refine zA_st (x := (nI 1) - (Sz j1)) hx hb hK hP hD hS 3 0 rfl rfl (by omega) (by decide) dX0_join_74 (fun H locs hP hD hS => ?_)
        have hP : va_P G vwCl (wh cI hz da la saz (exF Dz e1 j1, exF Lz e1 j1, upd Sz j1 ((nI 1) - (Sz j1)), nz, cz + (nI 1), gz + (nI 1))) H := hP
        have hD : va_D A (wh cI hz da la saz (exF Dz e1 j1, exF Lz e1 j1, upd Sz j1 ((nI 1) - (Sz j1)), nz, cz + (nI 1), gz + (nI 1))) := hD
        refine lv_iconst (v := nI 1) hx hb dX0_join_75 (by decide) ?_
        have e8 : jc false (Dz, Lz, Sz, nz, cz, gz) e1 j1 = true := by unfold jc; rw [Bool.false_or]; exact decide_eq_true hc40
        have e7 : joinF false (Dz, Lz, Sz, nz, cz, gz) e1 j1 = (exF Dz e1 j1, exF Lz e1 j1, upd Sz j1 (nI 1 - Sz j1), nz, cz + nI 1, gz + nI 1) := by unfold joinF; rw [e8]; rfl
        rw [e7, e8]
        exact zE_z hF hr hlk (Or.inr rfl) hK hP hD hS dX0_join_76
      · skip
        refine lv_iconst (v := nI 0) hx hb dX0_join_43 (by decide) ?_
        have e8 : jc false (Dz, Lz, Sz, nz, cz, gz) e1 j1 = false := by unfold jc; rw [Bool.false_or]; exact decide_eq_false hc40
        have e7 : joinF false (Dz, Lz, Sz, nz, cz, gz) e1 j1 = (Dz, Lz, Sz, nz, cz + nI 1, gz) := by unfold joinF; rw [e8]; rfl
        rw [e7, e8]
        exact zE_z hF hr hlk (Or.inl rfl) hK hP hD hS dX0_join_44
    · skip
      have k13 : (hasI nz (nI j1)) = false := bI_e0.mp hc13
      rw [hasI_nI (by omega) (by omega)] at k13
      exact absurd (of_decide_eq_false k13) (by omega)
set_option maxHeartbeats 4000000 in
set_option maxRecDepth 100000 in
theorem c_rise (l : Launch) (G : va_G) (cI : ClassId) (hz da la saz : Nat) (Dz Lz Sz : Fn) (nz : Nat) (cz gz : Int32) (hn : nz ≤ 63) (hS1 : okS Sz) (bz : Nat) (hb9 : bz < nz) : zC_i l yX0_rise wsX0_rise ({ frames := 4, cells := 0, slots := 0, locals := 85 }) G [(cI, .int)] (wh cI hz da la saz (Dz, Lz, Sz, nz, cz, gz)) (wh cI hz da la saz (riseF false 63 (Dz, Lz, Sz, nz, cz, gz) bz).1) [.ref hz, .int (nI bz)] (nI (riseF false 63 (Dz, Lz, Sz, nz, cz, gz) bz).2) := by
  refine zB_i (cc := cX0_rise) (maxL := 5) (ret := (some .int)) (by decide) rfl (Nat.le_of_ble_eq_true rfl) ?_
  intro p e s m args below meth c0 A hF hr hlk hK hA hP hD hS ls hl
  have hx := hF.1
  have hb := hF.2.1
  have hown := hF.2.2.2.1
  have hts := hF.2.2.2.2
  have hl : lv_has ls 5 [(0, .ref hz), (1, .int (nI bz))] := hl
  refine lv_iload_n hx hb dX0_rise_0 rfl (lv_at hl 1 rfl) ?_
  refine lv_istore_n (lv' := [(2, .int (nI bz)), (0, .ref hz), (1, .int (nI bz))]) hx hb dX0_rise_1 rfl hl (by decide) rfl (fun ls hl => ?_)
  refine lv_iconst (v := nI 0) hx hb dX0_rise_2 (by decide) ?_
  refine lv_istore_n (lv' := [(3, .int (nI 0)), (2, .int (nI bz)), (0, .ref hz), (1, .int (nI bz))]) hx hb dX0_rise_3 rfl hl (by decide) rfl (fun ls hl => ?_)
  have loop : ∀ (f9 : Nat) (D1 : Fn) (L1 : Fn) (S1 : Fn) (x1 : Int32) (y1 : Int32) (b1 : Nat) (st1 : Nat) (f0 : Nat), (okS S1) → (riseF false f0 (D1, L1, S1, nz, x1, y1) b1 = riseF false 63 (Dz, Lz, Sz, nz, cz, gz) bz) → (b1 < nz) → (st1 + f0 = 63) → (b1 + st1 ≤ 62) → b1 < f9 → ∀ (H : Heap) (locs : List Loc) (ls : Array Slot), va_P G vwCl (wh cI hz da la saz (D1, L1, S1, nz, x1, y1)) H → va_D A (wh cI hz da la saz (D1, L1, S1, nz, x1, y1)) → va_S A s.heap H locs → lv_has ls 5 [(0, .ref hz), (1, .int (nI bz)), (2, .int (nI b1)), (3, .int (nI st1))] → W p l e ({ frames := 4, cells := 0, slots := 0, locals := 85 }) s m args below meth c0 H locs 0 0 (zQ_i below G [(cI, .int)] (wh cI hz da la saz (riseF false 63 (Dz, Lz, Sz, nz, cz, gz) bz).1) (nI (riseF false 63 (Dz, Lz, Sz, nz, cz, gz) bz).2) A args s) (F0 m 4 ls []) := by
    intro f9
    induction f9 with
    | zero => intro D1 L1 S1 x1 y1 b1 st1 f0 hS1 hr9 hb1 hs1 hs2 hf; exact absurd hf (Nat.not_lt_zero _)
    | succ f9 ih =>
      intro D1 L1 S1 x1 y1 b1 st1 f0 hS1 hr9 hb1 hs1 hs2 hf H locs ls hP hD hS hl
      obtain ⟨f1, rfl⟩ : ∃ kz, f0 = kz + 1 := ⟨f0 - 1, by omega⟩
      refine lv_iload_n hx hb dX0_rise_4 rfl (lv_at hl 3 rfl) ?_
      refine lv_bipush (v := nI 63) hx hb dX0_rise_5 (by decide) ?_
      refine lv_icmp_ge (tgt := 42) hx hb dX0_rise_7 (by decide) (fun hc7 => ?_) (fun hc7 => ?_)
      · skip
        have k7 : 63 ≤ st1 := k_le (by omega) (by omega) hc7
        exact absurd k7 (by omega)
      · skip
        have k7 : st1 < 63 := k_nle (by omega) (by omega) hc7
        refine lv_iload_n hx hb dX0_rise_10 rfl (lv_at hl 2 rfl) ?_
        refine lv_if_le (tgt := 42) hx hb dX0_rise_11 (by decide) (fun hc11 => ?_) (fun hc11 => ?_)
        · skip
          have k11 : b1 = 0 := k0_le (by omega) hc11
          refine lv_iload_n hx hb dX0_rise_42 rfl (lv_at hl 2 rfl) ?_
          obtain rfl : 0 = b1 := k11.symm
          have e8 := hr9.symm.trans riseF_0
          rw [e8]
          exact zE_i hF hr hlk hK hP hD hS dX0_rise_43
        · skip
          have k11 : 0 < b1 := k0_nle (by omega) hc11
          have ze := eld_lt (S := S1) (b := b1) k11
          refine lv_aload_n hx hb dX0_rise_14 rfl (lv_at hl 0 rfl) ?_
          refine lv_iload_n hx hb dX0_rise_15 rfl (lv_at hl 2 rfl) ?_
          refine zK_vi (As := [.int (nI b1)]) (rest := []) hF (c_elder l G cI hz da la saz (D1) (L1) (S1) (nz) (x1) (y1) hn hS1 b1 (by omega)) (cwV 1 hts gX0_rise_X0_elder rfl rfl rfl (by decide +kernel) ⟨Nat.le_of_ble_eq_true rfl, Nat.le_of_ble_eq_true rfl⟩) hK hP hD hS hA (ci := 0) (q0 := 0) rfl rfl rfl (isC := [0, 1, 2, 3]) (isR := []) (perm := [0, 1, 2, 3]) (wr := []) (wN := wh cI hz da la saz (D1, L1, S1, nz, x1, y1)) ⟨rfl, by decide, rfl, rfl, (fun _ hz => by cases hz), rfl, by decide⟩ [0] rfl rfl hl.1 rfl (Nat.le_of_ble_eq_true rfl) dX0_rise_16 ⟨Nat.le_refl _, Nat.le_refl _⟩ (fun H locs hP hD hS => ?_)
          refine lv_istore (lv' := [(4, .int (nI (eld S1 b1))), (0, .ref hz), (1, .int (nI bz)), (2, .int (nI b1)), (3, .int (nI st1))]) hx hb dX0_rise_19 hl (by decide) rfl (fun ls hl => ?_)
          refine lv_aload_n hx hb dX0_rise_21 rfl (lv_at hl 1 rfl) ?_
          refine lv_iload hx hb dX0_rise_22 (lv_at hl 0 rfl) ?_
          refine lv_iload_n hx hb dX0_rise_24 rfl (lv_at hl 3 rfl) ?_
          refine zK_vi (As := [.int (nI (eld S1 b1)), .int (nI b1)]) (rest := []) hF (c_join l G cI hz da la saz (D1) (L1) (S1) (nz) (x1) (y1) hn (eld S1 b1) b1 (by omega) (by omega)) (cwV 2 hts gX0_rise_X0_join rfl rfl rfl (by decide +kernel) ⟨Nat.le_of_ble_eq_true rfl, Nat.le_of_ble_eq_true rfl⟩) hK hP hD hS hA (ci := 0) (q0 := 0) rfl rfl rfl (isC := [0, 1, 2, 3]) (isR := []) (perm := [0, 1, 2, 3]) (wr := []) (wN := wh cI hz da la saz (joinF false (D1, L1, S1, nz, x1, y1) (eld S1 b1) b1)) ⟨rfl, by decide, rfl, rfl, (fun _ hz => by cases hz), rfl, by decide⟩ [0] rfl rfl hl.1 rfl (Nat.le_of_ble_eq_true rfl) dX0_rise_25 ⟨Nat.le_refl _, Nat.le_refl _⟩ (fun H locs hP hD hS => ?_)
          obtain ⟨D2, L2, S2, c2, g2, hu2⟩ := joinF_ex false (D1) (L1) (S1) (nz) (x1) (y1) (eld S1 b1) (b1)
          have hP : va_P G vwCl (wh cI hz da la saz (D2, L2, S2, nz, c2, g2)) H := by have qz := hP; rw [hu2] at qz; exact qz
          have hD : va_D A (wh cI hz da la saz (D2, L2, S2, nz, c2, g2)) := by have qz := hD; rw [hu2] at qz; exact qz
          refine lv_if_ne (tgt := 33) hx hb dX0_rise_28 (by decide) (fun hc28 => ?_) (fun hc28 => ?_)
          · skip
            have k28 : (jc false (D1, L1, S1, nz, x1, y1) (eld S1 b1) b1) = true := bI_ne.mp hc28
            refine lv_iload hx hb dX0_rise_33 (lv_at hl 0 rfl) ?_
            refine lv_istore_n (lv' := [(2, .int (nI (eld S1 b1))), (4, .int (nI (eld S1 b1))), (0, .ref hz), (1, .int (nI bz)), (3, .int (nI st1))]) hx hb dX0_rise_35 rfl hl (by decide) rfl (fun ls hl => ?_)
            refine lv_iinc (v := nI (st1 + 1)) (lv' := [(3, .int (nI (st1 + 1))), (2, .int (nI (eld S1 b1))), (4, .int (nI (eld S1 b1))), (0, .ref hz), (1, .int (nI bz))]) hx hb dX0_rise_36 hl (k := 4) rfl (nI_1 _) (by decide) rfl (fun ls hl => ?_)
            refine lv_goto (tgt := 4) hx hb dX0_rise_39 (by decide) ?_
            exact ih D2 L2 S2 c2 g2 (eld S1 b1) (st1 + 1) f1 (joinF_okS' hS1 k11 hu2) (by rw [← hu2]; exact (riseF_go k11 k28).symm.trans hr9) (by omega) (by omega) (by omega) (by omega) _ _ _ hP hD hS (lv_sub hl [3, 4, 1, 0] rfl)
          · skip
            have k28 : (jc false (D1, L1, S1, nz, x1, y1) (eld S1 b1) b1) = false := bI_e0.mp hc28
            refine lv_iload_n hx hb dX0_rise_31 rfl (lv_at hl 3 rfl) ?_
            have e8 := hr9.symm.trans (riseF_no k11 k28)
            rw [e8, hu2]
            exact zE_i hF hr hlk hK hP hD hS dX0_rise_32
  exact loop (bz + 1) Dz Lz Sz cz gz bz 0 63 hS1 rfl hb9 (by omega) (by omega) (by omega) _ _ _ hP hD hS (lv_sub hl [2, 3, 1, 0] rfl)
set_option maxHeartbeats 4000000 in
set_option maxRecDepth 100000 in
theorem c_lay (l : Launch) (G : va_G) (cI : ClassId) (hz da la saz : Nat) (Dz Lz Sz : Fn) (nz : Nat) (cz gz : Int32) (hn : nz < 63) (num loud : Int32) : zC_v l yX0_lay wsX0_lay ({ frames := 0, cells := 0, slots := 0, locals := 0 }) G [(cI, .int)] (wh cI hz da la saz (Dz, Lz, Sz, nz, cz, gz)) (wh cI hz da la saz (layF (Dz, Lz, Sz, nz, cz, gz) num loud)) [.ref hz, .int num, .int loud] := by
  refine zB_v (cc := cX0_lay) (maxL := 4) (ret := none) (by decide) rfl (Nat.le_of_ble_eq_true rfl) ?_
  intro p e s m args below meth c0 A hF hr hlk hK hA hP hD hS ls hl
  have hx := hF.1
  have hb := hF.2.1
  have hown := hF.2.2.2.1
  have hts := hF.2.2.2.2
  have hf21 := hts (.fieldLink RX0 21 "SnoringDukes$WeakHeap" "size" "I") (by decide +kernel)
  have hf9 := hts (.fieldLink RX0 9 "SnoringDukes$WeakHeap" "duke" "[I") (by decide +kernel)
  have hf15 := hts (.fieldLink RX0 15 "SnoringDukes$WeakHeap" "loudness" "[I") (by decide +kernel)
  have hf18 := hts (.fieldLink RX0 18 "SnoringDukes$WeakHeap" "side" "[I") (by decide +kernel)
  have hinX0 : ∀ wz ∈ wsX00, wz ∈ wsX0_lay := by decide +kernel
  have hl : lv_has ls 4 [(0, .ref hz), (1, .int num), (2, .int loud)] := hl
  refine lv_aload_n hx hb dX0_lay_0 rfl (lv_at hl 0 rfl) ?_
  refine va_get (D := G) (ci := 0) (v := .int (nI nz)) (C := RX0) (T := TX0) (N := 6) hx hb hts hinX0 hown hK hP 0 rfl rfl 3 (by decide) hf21 (fun _ h9 => h9) rfl dX0_lay_1 ?_
  refine lv_istore_n (lv' := [(3, .int (nI nz)), (0, .ref hz), (1, .int num), (2, .int loud)]) hx hb dX0_lay_4 rfl hl (by decide) rfl (fun ls hl => ?_)
  refine lv_iload_n hx hb dX0_lay_5 rfl (lv_at hl 0 rfl) ?_
  refine lv_if_lt (tgt := 15) hx hb dX0_lay_6 (by decide) (fun hc6 => ?_) (fun hc6 => ?_)
  · skip
    exact absurd hc6 (nI_pos (by omega))
  · skip
    refine lv_iload_n hx hb dX0_lay_9 rfl (lv_at hl 0 rfl) ?_
    refine lv_bipush (v := nI 63) hx hb dX0_lay_10 (by decide) ?_
    refine lv_icmp_lt (tgt := 16) hx hb dX0_lay_12 (by decide) (fun hc12 => ?_) (fun hc12 => ?_)
    · skip
      have k12 : nz < 63 := k_lt (by omega) (by omega) hc12
      refine lv_aload_n hx hb dX0_lay_16 rfl (lv_at hl 1 rfl) ?_
      refine va_get (D := G) (ci := 0) (v := .ref da) (C := RX0) (T := TX0) (N := 6) hx hb hts hinX0 hown hK hP 0 rfl rfl 0 (by decide) hf9 (fun _ h9 => h9) rfl dX0_lay_17 ?_
      refine lv_iload_n hx hb dX0_lay_20 rfl (lv_at hl 0 rfl) ?_
      refine lv_iload_n hx hb dX0_lay_21 rfl (lv_at hl 2 rfl) ?_
      refine zA_st (x := num) hx hb hK hP hD hS 1 0 rfl rfl (by omega) (by decide) dX0_lay_22 (fun H locs hP hD hS => ?_)
      have hP : va_P G vwCl (wh cI hz da la saz (upd Dz nz num, Lz, Sz, nz, cz, gz)) H := hP
      have hD : va_D A (wh cI hz da la saz (upd Dz nz num, Lz, Sz, nz, cz, gz)) := hD
      refine lv_aload_n hx hb dX0_lay_23 rfl (lv_at hl 1 rfl) ?_
      refine va_get (D := G) (ci := 0) (v := .ref la) (C := RX0) (T := TX0) (N := 6) hx hb hts hinX0 hown hK hP 0 rfl rfl 1 (by decide) hf15 (fun _ h9 => h9) rfl dX0_lay_24 ?_
      refine lv_iload_n hx hb dX0_lay_27 rfl (lv_at hl 0 rfl) ?_
      refine lv_iload_n hx hb dX0_lay_28 rfl (lv_at hl 3 rfl) ?_
      refine zA_st (x := loud) hx hb hK hP hD hS 2 0 rfl rfl (by omega) (by decide) dX0_lay_29 (fun H locs hP hD hS => ?_)
      have hP : va_P G vwCl (wh cI hz da la saz (upd Dz nz num, upd Lz nz loud, Sz, nz, cz, gz)) H := hP
      have hD : va_D A (wh cI hz da la saz (upd Dz nz num, upd Lz nz loud, Sz, nz, cz, gz)) := hD
      refine lv_aload_n hx hb dX0_lay_30 rfl (lv_at hl 1 rfl) ?_
      refine va_get (D := G) (ci := 0) (v := .ref saz) (C := RX0) (T := TX0) (N := 6) hx hb hts hinX0 hown hK hP 0 rfl rfl 2 (by decide) hf18 (fun _ h9 => h9) rfl dX0_lay_31 ?_
      refine lv_iload_n hx hb dX0_lay_34 rfl (lv_at hl 0 rfl) ?_
      refine lv_iconst (v := nI 0) hx hb dX0_lay_35 (by decide) ?_
      refine zA_st (x := nI 0) hx hb hK hP hD hS 3 0 rfl rfl (by omega) (by decide) dX0_lay_36 (fun H locs hP hD hS => ?_)
      have hP : va_P G vwCl (wh cI hz da la saz (upd Dz nz num, upd Lz nz loud, upd Sz nz (nI 0), nz, cz, gz)) H := hP
      have hD : va_D A (wh cI hz da la saz (upd Dz nz num, upd Lz nz loud, upd Sz nz (nI 0), nz, cz, gz)) := hD
      refine lv_aload_n hx hb dX0_lay_37 rfl (lv_at hl 1 rfl) ?_
      refine lv_iload_n hx hb dX0_lay_38 rfl (lv_at hl 0 rfl) ?_
      refine lv_iconst (v := nI 1) hx hb dX0_lay_39 (by decide) ?_
      refine lv_iadd hx hb dX0_lay_40 ?_
      refine zN (nI (nz + 1)) (y := ((nI nz) + (nI 1))) (nI_add _ _) ?_
      refine va_put (D := G) (ci := 0) (v := .int (nI (nz + 1))) (ty := .int) (C := RX0) (T := TX0) (N := 6) hx hb hts hinX0 tyX0 tyX0_ok nmX0 hown hK hP hD hS 0 rfl rfl 3 (by decide) hf21 (fun _ h9 => h9) rfl (by decide +kernel) rfl rfl (Nat.le_of_ble_eq_true rfl) dX0_lay_41 (fun H locs hP hD hS => ?_)
      have hP : va_P G vwCl (wh cI hz da la saz (upd Dz nz num, upd Lz nz loud, upd Sz nz (nI 0), nz + 1, cz, gz)) H := hP
      have hD : va_D A (wh cI hz da la saz (upd Dz nz num, upd Lz nz loud, upd Sz nz (nI 0), nz + 1, cz, gz)) := hD
      exact zE_v hF hr hlk hK hP hD hS dX0_lay_44
    · skip
      have k12 : 63 ≤ nz := k_nlt (by omega) (by omega) hc12
      exact absurd k12 (by omega)
set_option maxHeartbeats 4000000 in
set_option maxRecDepth 100000 in
theorem c_insert (l : Launch) (G : va_G) (cI : ClassId) (hz da la saz : Nat) (Dz Lz Sz : Fn) (nz : Nat) (cz gz : Int32) (hn : nz < 63) (hS1 : okS Sz) (num loud : Int32) : zC_v l yX0_insert wsX0_insert ({ frames := 5, cells := 0, slots := 0, locals := 109 }) G [(cI, .int)] (wh cI hz da la saz (Dz, Lz, Sz, nz, cz, gz)) (wh cI hz da la saz (comeF (Dz, Lz, Sz, nz, cz, gz) num loud)) [.ref hz, .int num, .int loud] := by
  refine zB_v (cc := cX0_insert) (maxL := 4) (ret := none) (by decide) rfl (Nat.le_of_ble_eq_true rfl) ?_
  intro p e s m args below meth c0 A hF hr hlk hK hA hP hD hS ls hl
  have hx := hF.1
  have hb := hF.2.1
  have hown := hF.2.2.2.1
  have hts := hF.2.2.2.2
  have hf21 := hts (.fieldLink RX0 21 "SnoringDukes$WeakHeap" "size" "I") (by decide +kernel)
  have hf18 := hts (.fieldLink RX0 18 "SnoringDukes$WeakHeap" "side" "[I") (by decide +kernel)
  have hinX0 : ∀ wz ∈ wsX00, wz ∈ wsX0_insert := by decide +kernel
  have hl : lv_has ls 4 [(0, .ref hz), (1, .int num), (2, .int loud)] := hl
  refine lv_aload_n hx hb dX0_insert_0 rfl (lv_at hl 0 rfl) ?_
  refine va_get (D := G) (ci := 0) (v := .int (nI nz)) (C := RX0) (T := TX0) (N := 6) hx hb hts hinX0 hown hK hP 0 rfl rfl 3 (by decide) hf21 (fun _ h9 => h9) rfl dX0_insert_1 ?_
  refine lv_istore_n (lv' := [(3, .int (nI nz)), (0, .ref hz), (1, .int num), (2, .int loud)]) hx hb dX0_insert_4 rfl hl (by decide) rfl (fun ls hl => ?_)
  refine lv_aload_n hx hb dX0_insert_5 rfl (lv_at hl 1 rfl) ?_
  refine lv_iload_n hx hb dX0_insert_6 rfl (lv_at hl 2 rfl) ?_
  refine lv_iload_n hx hb dX0_insert_7 rfl (lv_at hl 3 rfl) ?_
  refine zK_vv (As := [.int num, .int loud]) (rest := []) hF (c_lay l G cI hz da la saz (Dz) (Lz) (Sz) (nz) (cz) (gz) (by omega) num loud) (cwV 2 hts gX0_insert_X0_lay rfl rfl rfl (by decide +kernel) ⟨Nat.le_of_ble_eq_true rfl, Nat.le_of_ble_eq_true rfl⟩) hK hP hD hS hA (ci := 0) (q0 := 0) rfl rfl rfl (isC := [0, 1, 2, 3]) (isR := []) (perm := [0, 1, 2, 3]) (wr := []) (wN := wh cI hz da la saz (upd Dz nz num, upd Lz nz loud, upd Sz nz 0, nz + 1, cz, gz)) ⟨rfl, by decide, rfl, rfl, (fun _ hz => by cases hz), rfl, by decide⟩ [0] rfl rfl hl.1 rfl (Nat.le_of_ble_eq_true rfl) dX0_insert_8 ⟨Nat.le_refl _, Nat.le_refl _⟩ (fun H locs hP hD hS => ?_)
  refine lv_iload_n hx hb dX0_insert_11 rfl (lv_at hl 0 rfl) ?_
  refine lv_iconst (v := nI 2) hx hb dX0_insert_12 (by decide) ?_
  refine lv_irem hx hb dX0_insert_13 (by decide) ?_
  refine zN (nI (nz % 2)) (y := ((nI nz) - (nI nz) / (nI 2) * (nI 2))) (pk_rem (by omega) (by decide) (by decide)) ?_
  refine lv_if_ne (tgt := 36) hx hb dX0_insert_14 (by decide) (fun hc14 => ?_) (fun hc14 => ?_)
  · skip
    have k14 : 0 < (nz % 2) := k0_ne (by omega) hc14
    have e9 : newF (layF (Dz, Lz, Sz, nz, cz, gz) num loud) nz = (upd Dz nz num, upd Lz nz loud, upd Sz nz 0, nz + 1, cz, gz) := by unfold newF; rw [if_neg (by omega)]; rfl
    have e8 : comeF (Dz, Lz, Sz, nz, cz, gz) num loud = (riseF false 63 (newF (layF (Dz, Lz, Sz, nz, cz, gz) num loud) nz) nz).1 := rfl
    rw [e8, e9]
    refine lv_aload_n hx hb dX0_insert_36 rfl (lv_at hl 1 rfl) ?_
    refine lv_iload_n hx hb dX0_insert_37 rfl (lv_at hl 0 rfl) ?_
    refine zK_vi (As := [.int (nI nz)]) (rest := []) hF (c_rise l G cI hz da la saz (upd Dz nz num) (upd Lz nz loud) (upd Sz nz 0) (nz + 1) (cz) (gz) (by omega) (okS_upd0 hS1 nz) nz (by omega)) (cwV 1 hts gX0_insert_X0_rise rfl rfl rfl (by decide +kernel) ⟨Nat.le_of_ble_eq_true rfl, Nat.le_of_ble_eq_true rfl⟩) hK hP hD hS hA (ci := 0) (q0 := 0) rfl rfl rfl (isC := [0, 1, 2, 3]) (isR := []) (perm := [0, 1, 2, 3]) (wr := []) (wN := wh cI hz da la saz ((riseF false 63 (upd Dz nz num, upd Lz nz loud, upd Sz nz 0, nz + 1, cz, gz) nz).1)) ⟨rfl, by decide, rfl, rfl, (fun _ hz => by cases hz), rfl, by decide⟩ [0] rfl rfl hl.1 rfl (Nat.le_of_ble_eq_true rfl) dX0_insert_38 ⟨Nat.le_refl _, Nat.le_refl _⟩ (fun H locs hP hD hS => ?_)
    refine lv_pop hx hb dX0_insert_41 rfl ?_
    exact zE_v hF hr hlk hK hP hD hS dX0_insert_42
  · skip
    have k14 : (nz % 2) = 0 := k0_eq (by omega) hc14
    refine lv_aload_n hx hb dX0_insert_17 rfl (lv_at hl 1 rfl) ?_
    refine lv_iload_n hx hb dX0_insert_18 rfl (lv_at hl 0 rfl) ?_
    refine lv_iconst (v := nI 2) hx hb dX0_insert_19 (by decide) ?_
    refine lv_idiv hx hb dX0_insert_20 (by decide) ?_
    refine zN (nI (nz / 2)) (y := ((nI nz) / (nI 2))) (pk_div (by omega) (by decide) (by decide)) ?_
    refine zK_vi (As := [.int (nI (nz / 2))]) (rest := []) hF (c_has l G cI hz da la saz (upd Dz nz num) (upd Lz nz loud) (upd Sz nz 0) (nz + 1) (cz) (gz) (by omega) (nI (nz / 2))) (cwV 1 hts gX0_insert_X0_has rfl rfl rfl (by decide +kernel) ⟨Nat.le_of_ble_eq_true rfl, Nat.le_of_ble_eq_true rfl⟩) hK hP hD hS hA (ci := 0) (q0 := 0) rfl rfl rfl (isC := [0, 1, 2, 3]) (isR := []) (perm := [0, 1, 2, 3]) (wr := []) (wN := wh cI hz da la saz (upd Dz nz num, upd Lz nz loud, upd Sz nz 0, nz + 1, cz, gz)) ⟨rfl, by decide, rfl, rfl, (fun _ hz => by cases hz), rfl, by decide⟩ [0] rfl rfl hl.1 rfl (Nat.le_of_ble_eq_true rfl) dX0_insert_21 ⟨Nat.le_refl _, Nat.le_refl _⟩ (fun H locs hP hD hS => ?_)
    refine lv_if_eq (tgt := 36) hx hb dX0_insert_24 (by decide) (fun hc24 => ?_) (fun hc24 => ?_)
    · skip
      have k24 : (hasI (nz + 1) (nI (nz / 2))) = false := bI_e0.mp hc24
      rw [hasI_nI (by omega) (by omega)] at k24
      exact absurd (of_decide_eq_false k24) (by omega)
    · skip
      have k24 : (hasI (nz + 1) (nI (nz / 2))) = true := bI_ne.mp hc24
      refine lv_aload_n hx hb dX0_insert_27 rfl (lv_at hl 1 rfl) ?_
      refine va_get (D := G) (ci := 0) (v := .ref saz) (C := RX0) (T := TX0) (N := 6) hx hb hts hinX0 hown hK hP 0 rfl rfl 2 (by decide) hf18 (fun _ h9 => h9) rfl dX0_insert_28 ?_
      refine lv_iload_n hx hb dX0_insert_31 rfl (lv_at hl 0 rfl) ?_
      refine lv_iconst (v := nI 2) hx hb dX0_insert_32 (by decide) ?_
      refine lv_idiv hx hb dX0_insert_33 (by decide) ?_
      refine zN (nI (nz / 2)) (y := ((nI nz) / (nI 2))) (pk_div (by omega) (by decide) (by decide)) ?_
      refine lv_iconst (v := nI 0) hx hb dX0_insert_34 (by decide) ?_
      refine zA_st (x := nI 0) hx hb hK hP hD hS 3 0 rfl rfl (by omega) (by decide) dX0_insert_35 (fun H locs hP hD hS => ?_)
      have hP : va_P G vwCl (wh cI hz da la saz (upd Dz nz num, upd Lz nz loud, upd (upd Sz nz 0) (nz / 2) (nI 0), nz + 1, cz, gz)) H := hP
      have hD : va_D A (wh cI hz da la saz (upd Dz nz num, upd Lz nz loud, upd (upd Sz nz 0) (nz / 2) (nI 0), nz + 1, cz, gz)) := hD
      have e9 : newF (layF (Dz, Lz, Sz, nz, cz, gz) num loud) nz = (upd Dz nz num, upd Lz nz loud, upd (upd Sz nz 0) (nz / 2) (nI 0), nz + 1, cz, gz) := by unfold newF; rw [if_pos (by omega)]; rfl
      have e8 : comeF (Dz, Lz, Sz, nz, cz, gz) num loud = (riseF false 63 (newF (layF (Dz, Lz, Sz, nz, cz, gz) num loud) nz) nz).1 := rfl
      rw [e8, e9]
      refine lv_aload_n hx hb dX0_insert_36 rfl (lv_at hl 1 rfl) ?_
      refine lv_iload_n hx hb dX0_insert_37 rfl (lv_at hl 0 rfl) ?_
      refine zK_vi (As := [.int (nI nz)]) (rest := []) hF (c_rise l G cI hz da la saz (upd Dz nz num) (upd Lz nz loud) (upd (upd Sz nz 0) (nz / 2) (nI 0)) (nz + 1) (cz) (gz) (by omega) (okS_upd0 (okS_upd0 hS1 nz) (nz / 2)) nz (by omega)) (cwV 1 hts gX0_insert_X0_rise rfl rfl rfl (by decide +kernel) ⟨Nat.le_of_ble_eq_true rfl, Nat.le_of_ble_eq_true rfl⟩) hK hP hD hS hA (ci := 0) (q0 := 0) rfl rfl rfl (isC := [0, 1, 2, 3]) (isR := []) (perm := [0, 1, 2, 3]) (wr := []) (wN := wh cI hz da la saz ((riseF false 63 (upd Dz nz num, upd Lz nz loud, upd (upd Sz nz 0) (nz / 2) (nI 0), nz + 1, cz, gz) nz).1)) ⟨rfl, by decide, rfl, rfl, (fun _ hz => by cases hz), rfl, by decide⟩ [0] rfl rfl hl.1 rfl (Nat.le_of_ble_eq_true rfl) dX0_insert_38 ⟨Nat.le_refl _, Nat.le_refl _⟩ (fun H locs hP hD hS => ?_)
      refine lv_pop hx hb dX0_insert_41 rfl ?_
      exact zE_v hF hr hlk hK hP hD hS dX0_insert_42
set_option maxHeartbeats 4000000 in
set_option maxRecDepth 100000 in
theorem c_quieten (l : Launch) (G : va_G) (cI : ClassId) (hz da la saz : Nat) (Dz Lz Sz : Fn) (nz : Nat) (cz gz : Int32) (hn : nz ≤ 63) (hS1 : okS Sz) (bz : Nat) (hb9 : bz < nz) (loud : Int32) : zC_i l yX0_quieten wsX0_quieten ({ frames := 5, cells := 0, slots := 0, locals := 109 }) G [(cI, .int)] (wh cI hz da la saz (Dz, Lz, Sz, nz, cz, gz)) (wh cI hz da la saz (riseF false 63 (setL (Dz, Lz, Sz, nz, cz, gz) bz loud) bz).1) [.ref hz, .int (nI bz), .int loud] (nI (riseF false 63 (setL (Dz, Lz, Sz, nz, cz, gz) bz loud) bz).2) := by
  refine zB_i (cc := cX0_quieten) (maxL := 3) (ret := (some .int)) (by decide) rfl (Nat.le_of_ble_eq_true rfl) ?_
  intro p e s m args below meth c0 A hF hr hlk hK hA hP hD hS ls hl
  have hx := hF.1
  have hb := hF.2.1
  have hown := hF.2.2.2.1
  have hts := hF.2.2.2.2
  have hf15 := hts (.fieldLink RX0 15 "SnoringDukes$WeakHeap" "loudness" "[I") (by decide +kernel)
  have hinX0 : ∀ wz ∈ wsX00, wz ∈ wsX0_quieten := by decide +kernel
  have hl : lv_has ls 3 [(0, .ref hz), (1, .int (nI bz)), (2, .int loud)] := hl
  refine lv_aload_n hx hb dX0_quieten_0 rfl (lv_at hl 0 rfl) ?_
  refine lv_iload_n hx hb dX0_quieten_1 rfl (lv_at hl 1 rfl) ?_
  refine zK_vi (As := [.int (nI bz)]) (rest := []) hF (c_has l G cI hz da la saz (Dz) (Lz) (Sz) (nz) (cz) (gz) hn (nI bz)) (cwV 1 hts gX0_quieten_X0_has rfl rfl rfl (by decide +kernel) ⟨Nat.le_of_ble_eq_true rfl, Nat.le_of_ble_eq_true rfl⟩) hK hP hD hS hA (ci := 0) (q0 := 0) rfl rfl rfl (isC := [0, 1, 2, 3]) (isR := []) (perm := [0, 1, 2, 3]) (wr := []) (wN := wh cI hz da la saz (Dz, Lz, Sz, nz, cz, gz)) ⟨rfl, by decide, rfl, rfl, (fun _ hz => by cases hz), rfl, by decide⟩ [0] rfl rfl hl.1 rfl (Nat.le_of_ble_eq_true rfl) dX0_quieten_2 ⟨Nat.le_refl _, Nat.le_refl _⟩ (fun H locs hP hD hS => ?_)
  refine lv_if_eq (tgt := 15) hx hb dX0_quieten_5 (by decide) (fun hc5 => ?_) (fun hc5 => ?_)
  · skip
    have k5 : (hasI nz (nI bz)) = false := bI_e0.mp hc5
    rw [hasI_nI (by omega) (by omega)] at k5
    exact absurd (of_decide_eq_false k5) (by omega)
  · skip
    have k5 : (hasI nz (nI bz)) = true := bI_ne.mp hc5
    refine lv_aload_n hx hb dX0_quieten_8 rfl (lv_at hl 0 rfl) ?_
    refine va_get (D := G) (ci := 0) (v := .ref la) (C := RX0) (T := TX0) (N := 6) hx hb hts hinX0 hown hK hP 0 rfl rfl 1 (by decide) hf15 (fun _ h9 => h9) rfl dX0_quieten_9 ?_
    refine lv_iload_n hx hb dX0_quieten_12 rfl (lv_at hl 1 rfl) ?_
    refine lv_iload_n hx hb dX0_quieten_13 rfl (lv_at hl 2 rfl) ?_
    refine zA_st (x := loud) hx hb hK hP hD hS 2 0 rfl rfl (by omega) (by decide) dX0_quieten_14 (fun H locs hP hD hS => ?_)
    have hP : va_P G vwCl (wh cI hz da la saz (Dz, upd Lz bz loud, Sz, nz, cz, gz)) H := hP
    have hD : va_D A (wh cI hz da la saz (Dz, upd Lz bz loud, Sz, nz, cz, gz)) := hD
    refine lv_aload_n hx hb dX0_quieten_15 rfl (lv_at hl 0 rfl) ?_
    refine lv_iload_n hx hb dX0_quieten_16 rfl (lv_at hl 1 rfl) ?_
    refine zK_vi (As := [.int (nI bz)]) (rest := []) hF (c_rise l G cI hz da la saz (Dz) (upd Lz bz loud) (Sz) (nz) (cz) (gz) (by omega) hS1 bz (by omega)) (cwV 1 hts gX0_quieten_X0_rise rfl rfl rfl (by decide +kernel) ⟨Nat.le_of_ble_eq_true rfl, Nat.le_of_ble_eq_true rfl⟩) hK hP hD hS hA (ci := 0) (q0 := 0) rfl rfl rfl (isC := [0, 1, 2, 3]) (isR := []) (perm := [0, 1, 2, 3]) (wr := []) (wN := wh cI hz da la saz ((riseF false 63 (Dz, upd Lz bz loud, Sz, nz, cz, gz) bz).1)) ⟨rfl, by decide, rfl, rfl, (fun _ hz => by cases hz), rfl, by decide⟩ [0] rfl rfl hl.1 rfl (Nat.le_of_ble_eq_true rfl) dX0_quieten_17 ⟨Nat.le_refl _, Nat.le_refl _⟩ (fun H locs hP hD hS => ?_)
    exact zE_i hF hr hlk hK hP hD hS dX0_quieten_20
set_option maxHeartbeats 4000000 in
set_option maxRecDepth 100000 in
theorem c_joinAll (l : Launch) (G : va_G) (cI : ClassId) (hz da la saz : Nat) (Dz Lz Sz : Fn) (nz : Nat) (cz gz : Int32) (hn : nz ≤ 63) (hn1 : 1 ≤ nz) (hS1 : okS Sz) : zC_v l yX0_joinAll wsX0_joinAll ({ frames := 4, cells := 0, slots := 0, locals := 85 }) G [(cI, .int)] (wh cI hz da la saz (Dz, Lz, Sz, nz, cz, gz)) (wh cI hz da la saz (allF (nz - 1) (Dz, Lz, zfF 63 Sz, nz, cz, gz))) [.ref hz] := by
  refine zB_v (cc := cX0_joinAll) (maxL := 2) (ret := none) (by decide) rfl (Nat.le_of_ble_eq_true rfl) ?_
  intro p e s m args below meth c0 A hF hr hlk hK hA hP hD hS ls hl
  have hx := hF.1
  have hb := hF.2.1
  have hown := hF.2.2.2.1
  have hts := hF.2.2.2.2
  have hf18 := hts (.fieldLink RX0 18 "SnoringDukes$WeakHeap" "side" "[I") (by decide +kernel)
  have hf21 := hts (.fieldLink RX0 21 "SnoringDukes$WeakHeap" "size" "I") (by decide +kernel)
  have hinX0 : ∀ wz ∈ wsX00, wz ∈ wsX0_joinAll := by decide +kernel
  have hl : lv_has ls 2 [(0, .ref hz)] := hl
  refine lv_iconst (v := nI 0) hx hb dX0_joinAll_0 (by decide) ?_
  refine lv_istore_n (lv' := [(1, .int (nI 0)), (0, .ref hz)]) hx hb dX0_joinAll_1 rfl hl (by decide) rfl (fun ls hl => ?_)
  have e0 : (Dz, Lz, Sz, nz, cz, gz) = (Dz, Lz, zfF 0 Sz, nz, cz, gz) := by rw [zfF_0]
  have hP : va_P G vwCl (wh cI hz da la saz (Dz, Lz, zfF 0 Sz, nz, cz, gz)) s.heap := by have qz := hP; rw [e0] at qz; exact qz
  have hD : va_D A (wh cI hz da la saz (Dz, Lz, zfF 0 Sz, nz, cz, gz)) := by have qz := hD; rw [e0] at qz; exact qz
  have loop : ∀ (f9 : Nat) (iz : Nat), (iz ≤ 63) → 63 - iz < f9 → ∀ (H : Heap) (locs : List Loc) (ls : Array Slot), va_P G vwCl (wh cI hz da la saz (Dz, Lz, zfF iz Sz, nz, cz, gz)) H → va_D A (wh cI hz da la saz (Dz, Lz, zfF iz Sz, nz, cz, gz)) → va_S A s.heap H locs → lv_has ls 2 [(0, .ref hz), (1, .int (nI iz))] → W p l e ({ frames := 4, cells := 0, slots := 0, locals := 85 }) s m args below meth c0 H locs 0 0 (zQ_v below G [(cI, .int)] (wh cI hz da la saz (allF (nz - 1) (Dz, Lz, zfF 63 Sz, nz, cz, gz))) A args s) (F0 m 2 ls []) := by
    intro f9
    induction f9 with
    | zero => intro iz hi hf; exact absurd hf (Nat.not_lt_zero _)
    | succ f9 ih =>
      intro iz hi hf H locs ls hP hD hS hl
      refine lv_iload_n hx hb dX0_joinAll_2 rfl (lv_at hl 1 rfl) ?_
      refine lv_bipush (v := nI 63) hx hb dX0_joinAll_3 (by decide) ?_
      refine lv_icmp_ge (tgt := 21) hx hb dX0_joinAll_5 (by decide) (fun hc5 => ?_) (fun hc5 => ?_)
      · skip
        have k5 : 63 ≤ iz := k_le (by omega) (by omega) hc5
        obtain rfl : 63 = iz := by omega
        have hl : lv_has ls 2 [(0, .ref hz)] := lv_sub hl [0] rfl
        have hS2 : okS (zfF 63 Sz) := okS_zf hS1 63
        refine lv_aload_n hx hb dX0_joinAll_21 rfl (lv_at hl 0 rfl) ?_
        refine va_get (D := G) (ci := 0) (v := .int (nI nz)) (C := RX0) (T := TX0) (N := 6) hx hb hts hinX0 hown hK hP 0 rfl rfl 3 (by decide) hf21 (fun _ h9 => h9) rfl dX0_joinAll_22 ?_
        refine lv_iconst (v := nI 1) hx hb dX0_joinAll_25 (by decide) ?_
        refine lv_isub hx hb dX0_joinAll_26 ?_
        refine zN (nI (nz - 1)) (y := ((nI nz) - (nI 1))) (pk_sub (by omega)) ?_
        refine lv_istore_n (lv' := [(1, .int (nI (nz - 1))), (0, .ref hz)]) hx hb dX0_joinAll_27 rfl hl (by decide) rfl (fun ls hl => ?_)
        have loop2 : ∀ (f9 : Nat) (D1 : Fn) (L1 : Fn) (S1 : Fn) (x1 : Int32) (y1 : Int32) (b1 : Nat), (okS S1) → (allF b1 (D1, L1, S1, nz, x1, y1) = allF (nz - 1) (Dz, Lz, zfF 63 Sz, nz, cz, gz)) → (b1 < nz) → b1 < f9 → ∀ (H : Heap) (locs : List Loc) (ls : Array Slot), va_P G vwCl (wh cI hz da la saz (D1, L1, S1, nz, x1, y1)) H → va_D A (wh cI hz da la saz (D1, L1, S1, nz, x1, y1)) → va_S A s.heap H locs → lv_has ls 2 [(0, .ref hz), (1, .int (nI b1))] → W p l e ({ frames := 4, cells := 0, slots := 0, locals := 85 }) s m args below meth c0 H locs 0 0 (zQ_v below G [(cI, .int)] (wh cI hz da la saz (allF (nz - 1) (Dz, Lz, zfF 63 Sz, nz, cz, gz))) A args s) (F0 m 28 ls []) := by
          intro f9
          induction f9 with
          | zero => intro D1 L1 S1 x1 y1 b1 hS1 hr9 hb1 hf; exact absurd hf (Nat.not_lt_zero _)
          | succ f9 ih =>
            intro D1 L1 S1 x1 y1 b1 hS1 hr9 hb1 hf H locs ls hP hD hS hl
            refine lv_iload_n hx hb dX0_joinAll_28 rfl (lv_at hl 1 rfl) ?_
            refine lv_if_le (tgt := 49) hx hb dX0_joinAll_29 (by decide) (fun hc29 => ?_) (fun hc29 => ?_)
            · skip
              have k29 : b1 = 0 := k0_le (by omega) hc29
              obtain rfl : 0 = b1 := k29.symm
              rw [← hr9]
              exact zE_v hF hr hlk hK hP hD hS dX0_joinAll_49
            · skip
              have k29 : 0 < b1 := k0_nle (by omega) hc29
              have ze := eld_lt (S := S1) (b := b1) k29
              refine lv_aload_n hx hb dX0_joinAll_32 rfl (lv_at hl 0 rfl) ?_
              refine lv_aload_n hx hb dX0_joinAll_33 rfl (lv_at hl 0 rfl) ?_
              refine lv_iload_n hx hb dX0_joinAll_34 rfl (lv_at hl 1 rfl) ?_
              refine zK_vi (As := [.int (nI b1)]) (rest := [.ref hz]) hF (c_elder l G cI hz da la saz (D1) (L1) (S1) (nz) (x1) (y1) hn hS1 b1 (by omega)) (cwV 1 hts gX0_joinAll_X0_elder rfl rfl rfl (by decide +kernel) ⟨Nat.le_of_ble_eq_true rfl, Nat.le_of_ble_eq_true rfl⟩) hK hP hD hS hA (ci := 0) (q0 := 0) rfl rfl rfl (isC := [0, 1, 2, 3]) (isR := []) (perm := [0, 1, 2, 3]) (wr := []) (wN := wh cI hz da la saz (D1, L1, S1, nz, x1, y1)) ⟨rfl, by decide, rfl, rfl, (fun _ hz => by cases hz), rfl, by decide⟩ [0] rfl rfl hl.1 rfl (Nat.le_of_ble_eq_true rfl) dX0_joinAll_35 ⟨Nat.le_refl _, Nat.le_refl _⟩ (fun H locs hP hD hS => ?_)
              refine lv_iload_n hx hb dX0_joinAll_38 rfl (lv_at hl 1 rfl) ?_
              refine zK_vi (As := [.int (nI (eld S1 b1)), .int (nI b1)]) (rest := []) hF (c_join l G cI hz da la saz (D1) (L1) (S1) (nz) (x1) (y1) hn (eld S1 b1) b1 (by omega) (by omega)) (cwV 2 hts gX0_joinAll_X0_join rfl rfl rfl (by decide +kernel) ⟨Nat.le_of_ble_eq_true rfl, Nat.le_of_ble_eq_true rfl⟩) hK hP hD hS hA (ci := 0) (q0 := 0) rfl rfl rfl (isC := [0, 1, 2, 3]) (isR := []) (perm := [0, 1, 2, 3]) (wr := []) (wN := wh cI hz da la saz (joinF false (D1, L1, S1, nz, x1, y1) (eld S1 b1) b1)) ⟨rfl, by decide, rfl, rfl, (fun _ hz => by cases hz), rfl, by decide⟩ [0] rfl rfl hl.1 rfl (Nat.le_of_ble_eq_true rfl) dX0_joinAll_39 ⟨Nat.le_refl _, Nat.le_refl _⟩ (fun H locs hP hD hS => ?_)
              obtain ⟨D3, L3, S3, c3, g3, hu3⟩ := joinF_ex false (D1) (L1) (S1) (nz) (x1) (y1) (eld S1 b1) (b1)
              have hP : va_P G vwCl (wh cI hz da la saz (D3, L3, S3, nz, c3, g3)) H := by have qz := hP; rw [hu3] at qz; exact qz
              have hD : va_D A (wh cI hz da la saz (D3, L3, S3, nz, c3, g3)) := by have qz := hD; rw [hu3] at qz; exact qz
              refine lv_pop hx hb dX0_joinAll_42 rfl ?_
              refine lv_iinc (v := nI (b1 - 1)) (lv' := [(1, .int (nI (b1 - 1))), (0, .ref hz)]) hx hb dX0_joinAll_43 hl (k := 1) rfl (z_dec k29) (by decide) rfl (fun ls hl => ?_)
              refine lv_goto (tgt := 28) hx hb dX0_joinAll_46 (by decide) ?_
              exact ih D3 L3 S3 c3 g3 (b1 - 1) (joinF_okS' hS1 k29 hu3) (by rw [← hu3, ← hr9]; obtain ⟨b2, rfl⟩ : ∃ kz, b1 = kz + 1 := ⟨b1 - 1, by omega⟩; rfl) (by omega) (by omega) _ _ _ hP hD hS (lv_sub hl [1, 0] rfl)
        exact loop2 (nz + 1) Dz Lz (zfF 63 Sz) cz gz (nz - 1) hS2 rfl (by omega) (by omega) _ _ _ hP hD hS (lv_sub hl [1, 0] rfl)
      · skip
        have k5 : iz < 63 := k_nle (by omega) (by omega) hc5
        refine lv_aload_n hx hb dX0_joinAll_8 rfl (lv_at hl 0 rfl) ?_
        refine va_get (D := G) (ci := 0) (v := .ref saz) (C := RX0) (T := TX0) (N := 6) hx hb hts hinX0 hown hK hP 0 rfl rfl 2 (by decide) hf18 (fun _ h9 => h9) rfl dX0_joinAll_9 ?_
        refine lv_iload_n hx hb dX0_joinAll_12 rfl (lv_at hl 1 rfl) ?_
        refine lv_iconst (v := nI 0) hx hb dX0_joinAll_13 (by decide) ?_
        refine zA_st (x := nI 0) hx hb hK hP hD hS 3 0 rfl rfl (by omega) (by decide) dX0_joinAll_14 (fun H locs hP hD hS => ?_)
        have hP : va_P G vwCl (wh cI hz da la saz (Dz, Lz, upd (zfF iz Sz) iz (nI 0), nz, cz, gz)) H := hP
        have hD : va_D A (wh cI hz da la saz (Dz, Lz, upd (zfF iz Sz) iz (nI 0), nz, cz, gz)) := hD
        have hP : va_P G vwCl (wh cI hz da la saz (Dz, Lz, zfF (iz + 1) Sz, nz, cz, gz)) H := by have qz := hP; rw [zfF_succ] at qz; exact qz
        have hD : va_D A (wh cI hz da la saz (Dz, Lz, zfF (iz + 1) Sz, nz, cz, gz)) := by have qz := hD; rw [zfF_succ] at qz; exact qz
        refine lv_iinc (v := nI (iz + 1)) (lv' := [(1, .int (nI (iz + 1))), (0, .ref hz)]) hx hb dX0_joinAll_15 hl (k := 1) rfl (nI_1 _) (by decide) rfl (fun ls hl => ?_)
        refine lv_goto (tgt := 2) hx hb dX0_joinAll_18 (by decide) ?_
        exact ih (iz + 1) (by omega) (by omega) _ _ _ hP hD hS (lv_sub hl [1, 0] rfl)
  exact loop (64) 0 (by omega) (by omega) _ _ _ hP hD hS (lv_sub hl [1, 0] rfl)
set_option maxHeartbeats 4000000 in
set_option maxRecDepth 100000 in
theorem c_joinTop (l : Launch) (G : va_G) (cI : ClassId) (hz da la saz : Nat) (Dz Lz Sz : Fn) (nz : Nat) (cz gz : Int32) (hn : nz ≤ 63) (hn1 : 1 < nz) (hS1 : okS Sz) : zC_v l yX0_joinTop wsX0_joinTop ({ frames := 3, cells := 0, slots := 0, locals := 63 }) G [(cI, .int)] (wh cI hz da la saz (Dz, Lz, Sz, nz, cz, gz)) (wh cI hz da la saz (joinTopF (Dz, Lz, Sz, nz, cz, gz))) [.ref hz] := by
  refine zB_v (cc := cX0_joinTop) (maxL := 3) (ret := none) (by decide) rfl (Nat.le_of_ble_eq_true rfl) ?_
  intro p e s m args below meth c0 A hF hr hlk hK hA hP hD hS ls hl
  have hx := hF.1
  have hb := hF.2.1
  have hown := hF.2.2.2.1
  have hts := hF.2.2.2.2
  have hl : lv_has ls 3 [(0, .ref hz)] := hl
  refine lv_iconst (v := nI 1) hx hb dX0_joinTop_0 (by decide) ?_
  refine lv_istore_n (lv' := [(1, .int (nI 1)), (0, .ref hz)]) hx hb dX0_joinTop_1 rfl hl (by decide) rfl (fun ls hl => ?_)
  refine lv_iconst (v := nI 0) hx hb dX0_joinTop_2 (by decide) ?_
  refine lv_istore_n (lv' := [(2, .int (nI 0)), (1, .int (nI 1)), (0, .ref hz)]) hx hb dX0_joinTop_3 rfl hl (by decide) rfl (fun ls hl => ?_)
  have loop : ∀ (f9 : Nat) (b1 : Nat) (st1 : Nat) (f0 : Nat), (lowF Sz nz f0 b1 = lowF Sz nz 63 1) → (b1 < nz) → (st1 + f0 = 63) → (st1 + 1 ≤ b1) → nz - b1 < f9 → ∀ (H : Heap) (locs : List Loc) (ls : Array Slot), va_P G vwCl (wh cI hz da la saz (Dz, Lz, Sz, nz, cz, gz)) H → va_D A (wh cI hz da la saz (Dz, Lz, Sz, nz, cz, gz)) → va_S A s.heap H locs → lv_has ls 3 [(0, .ref hz), (1, .int (nI b1)), (2, .int (nI st1))] → W p l e ({ frames := 3, cells := 0, slots := 0, locals := 63 }) s m args below meth c0 H locs 0 0 (zQ_v below G [(cI, .int)] (wh cI hz da la saz (joinTopF (Dz, Lz, Sz, nz, cz, gz))) A args s) (F0 m 4 ls []) := by
    intro f9
    induction f9 with
    | zero => intro b1 st1 f0 hr9 hb1 hs1 hs2 hf; exact absurd hf (Nat.not_lt_zero _)
    | succ f9 ih =>
      intro b1 st1 f0 hr9 hb1 hs1 hs2 hf H locs ls hP hD hS hl
      obtain ⟨f1, rfl⟩ : ∃ kz, f0 = kz + 1 := ⟨f0 - 1, by omega⟩
      have z1 := sd_le Sz b1
      refine lv_iload_n hx hb dX0_joinTop_4 rfl (lv_at hl 2 rfl) ?_
      refine lv_bipush (v := nI 63) hx hb dX0_joinTop_5 (by decide) ?_
      refine lv_icmp_ge (tgt := 34) hx hb dX0_joinTop_7 (by decide) (fun hc7 => ?_) (fun hc7 => ?_)
      · skip
        have k7 : 63 ≤ st1 := k_le (by omega) (by omega) hc7
        exact absurd k7 (by omega)
      · skip
        have k7 : st1 < 63 := k_nle (by omega) (by omega) hc7
        refine lv_aload_n hx hb dX0_joinTop_10 rfl (lv_at hl 0 rfl) ?_
        refine lv_aload_n hx hb dX0_joinTop_11 rfl (lv_at hl 0 rfl) ?_
        refine lv_iload_n hx hb dX0_joinTop_12 rfl (lv_at hl 1 rfl) ?_
        refine zK_vi (As := [.int (nI b1)]) (rest := [.ref hz]) hF (c_left l G cI hz da la saz (Dz) (Lz) (Sz) (nz) (cz) (gz) hn hS1 b1 (by omega)) (cwV 1 hts gX0_joinTop_X0_left rfl rfl rfl (by decide +kernel) ⟨Nat.le_of_ble_eq_true rfl, Nat.le_of_ble_eq_true rfl⟩) hK hP hD hS hA (ci := 0) (q0 := 0) rfl rfl rfl (isC := [0, 1, 2, 3]) (isR := []) (perm := [0, 1, 2, 3]) (wr := []) (wN := wh cI hz da la saz (Dz, Lz, Sz, nz, cz, gz)) ⟨rfl, by decide, rfl, rfl, (fun _ hz => by cases hz), rfl, by decide⟩ [0] rfl rfl hl.1 rfl (Nat.le_of_ble_eq_true rfl) dX0_joinTop_13 ⟨Nat.le_refl _, Nat.le_refl _⟩ (fun H locs hP hD hS => ?_)
        refine zK_vi (As := [.int (nI (2 * b1 + sd Sz b1))]) (rest := []) hF (c_has l G cI hz da la saz (Dz) (Lz) (Sz) (nz) (cz) (gz) hn (nI (2 * b1 + sd Sz b1))) (cwV 1 hts gX0_joinTop_X0_has rfl rfl rfl (by decide +kernel) ⟨Nat.le_of_ble_eq_true rfl, Nat.le_of_ble_eq_true rfl⟩) hK hP hD hS hA (ci := 0) (q0 := 0) rfl rfl rfl (isC := [0, 1, 2, 3]) (isR := []) (perm := [0, 1, 2, 3]) (wr := []) (wN := wh cI hz da la saz (Dz, Lz, Sz, nz, cz, gz)) ⟨rfl, by decide, rfl, rfl, (fun _ hz => by cases hz), rfl, by decide⟩ [0] rfl rfl hl.1 rfl (Nat.le_of_ble_eq_true rfl) dX0_joinTop_16 ⟨Nat.le_refl _, Nat.le_refl _⟩ (fun H locs hP hD hS => ?_)
        refine lv_if_eq (tgt := 34) hx hb dX0_joinTop_19 (by decide) (fun hc19 => ?_) (fun hc19 => ?_)
        · skip
          have k19 : (hasI nz (nI (2 * b1 + sd Sz b1))) = false := bI_e0.mp hc19
          have e8 : lowF Sz nz 63 1 = b1 := by rw [← hr9]; exact lowF_no (by rw [hasI_nI (by omega) (by omega)] at k19; exact of_decide_eq_false k19)
          have e7 : joinTopF (Dz, Lz, Sz, nz, cz, gz) = topF 63 (Dz, Lz, Sz, nz, cz, gz) b1 := by rw [← e8]; rfl
          refine lv_iload_n hx hb dX0_joinTop_34 rfl (lv_at hl 1 rfl) ?_
          refine lv_istore_n (lv' := [(2, .int (nI b1)), (0, .ref hz), (1, .int (nI b1))]) hx hb dX0_joinTop_35 rfl hl (by decide) rfl (fun ls hl => ?_)
          have loop2 : ∀ (f9 : Nat) (D1 : Fn) (L1 : Fn) (S1 : Fn) (x1 : Int32) (y1 : Int32) (b2 : Nat) (f2 : Nat), (topF f2 (D1, L1, S1, nz, x1, y1) b2 = topF 63 (Dz, Lz, Sz, nz, cz, gz) b1) → (b2 < nz) → (b2 ≤ f2) → b2 < f9 → ∀ (H : Heap) (locs : List Loc) (ls : Array Slot), va_P G vwCl (wh cI hz da la saz (D1, L1, S1, nz, x1, y1)) H → va_D A (wh cI hz da la saz (D1, L1, S1, nz, x1, y1)) → va_S A s.heap H locs → lv_has ls 3 [(0, .ref hz), (1, .int (nI b1)), (2, .int (nI b2))] → W p l e ({ frames := 3, cells := 0, slots := 0, locals := 63 }) s m args below meth c0 H locs 0 0 (zQ_v below G [(cI, .int)] (wh cI hz da la saz (joinTopF (Dz, Lz, Sz, nz, cz, gz))) A args s) (F0 m 36 ls []) := by
            intro f9
            induction f9 with
            | zero => intro D1 L1 S1 x1 y1 b2 f2 hr8 hb2 hb3 hf; exact absurd hf (Nat.not_lt_zero _)
            | succ f9 ih =>
              intro D1 L1 S1 x1 y1 b2 f2 hr8 hb2 hb3 hf H locs ls hP hD hS hl
              refine lv_iload_n hx hb dX0_joinTop_36 rfl (lv_at hl 2 rfl) ?_
              refine lv_if_le (tgt := 54) hx hb dX0_joinTop_37 (by decide) (fun hc37 => ?_) (fun hc37 => ?_)
              · skip
                have k37 : b2 = 0 := k0_le (by omega) hc37
                obtain rfl : 0 = b2 := k37.symm
                rw [e7, ← hr8, topF_0]
                exact zE_v hF hr hlk hK hP hD hS dX0_joinTop_54
              · skip
                have k37 : 0 < b2 := k0_nle (by omega) hc37
                obtain ⟨f3, rfl⟩ : ∃ kz, f2 = kz + 1 := ⟨f2 - 1, by omega⟩
                refine lv_aload_n hx hb dX0_joinTop_40 rfl (lv_at hl 0 rfl) ?_
                refine lv_iconst (v := nI 0) hx hb dX0_joinTop_41 (by decide) ?_
                refine lv_iload_n hx hb dX0_joinTop_42 rfl (lv_at hl 2 rfl) ?_
                refine zK_vi (As := [.int (nI 0), .int (nI b2)]) (rest := []) hF (c_join l G cI hz da la saz (D1) (L1) (S1) (nz) (x1) (y1) hn 0 b2 (by omega) (by omega)) (cwV 2 hts gX0_joinTop_X0_join rfl rfl rfl (by decide +kernel) ⟨Nat.le_of_ble_eq_true rfl, Nat.le_of_ble_eq_true rfl⟩) hK hP hD hS hA (ci := 0) (q0 := 0) rfl rfl rfl (isC := [0, 1, 2, 3]) (isR := []) (perm := [0, 1, 2, 3]) (wr := []) (wN := wh cI hz da la saz (joinF false (D1, L1, S1, nz, x1, y1) 0 b2)) ⟨rfl, by decide, rfl, rfl, (fun _ hz => by cases hz), rfl, by decide⟩ [0] rfl rfl hl.1 rfl (Nat.le_of_ble_eq_true rfl) dX0_joinTop_43 ⟨Nat.le_refl _, Nat.le_refl _⟩ (fun H locs hP hD hS => ?_)
                obtain ⟨D4, L4, S4, c4, g4, hu4⟩ := joinF_ex false (D1) (L1) (S1) (nz) (x1) (y1) (0) (b2)
                have hP : va_P G vwCl (wh cI hz da la saz (D4, L4, S4, nz, c4, g4)) H := by have qz := hP; rw [hu4] at qz; exact qz
                have hD : va_D A (wh cI hz da la saz (D4, L4, S4, nz, c4, g4)) := by have qz := hD; rw [hu4] at qz; exact qz
                refine lv_pop hx hb dX0_joinTop_46 rfl ?_
                refine lv_iload_n hx hb dX0_joinTop_47 rfl (lv_at hl 2 rfl) ?_
                refine lv_iconst (v := nI 2) hx hb dX0_joinTop_48 (by decide) ?_
                refine lv_idiv hx hb dX0_joinTop_49 (by decide) ?_
                refine zN (nI (b2 / 2)) (y := ((nI b2) / (nI 2))) (pk_div (by omega) (by decide) (by decide)) ?_
                refine lv_istore_n (lv' := [(2, .int (nI (b2 / 2))), (0, .ref hz), (1, .int (nI b1))]) hx hb dX0_joinTop_50 rfl hl (by decide) rfl (fun ls hl => ?_)
                refine lv_goto (tgt := 36) hx hb dX0_joinTop_51 (by decide) ?_
                exact ih D4 L4 S4 c4 g4 (b2 / 2) f3 (by rw [← hu4]; exact (topF_go k37).symm.trans hr8) (by omega) (by omega) (by omega) _ _ _ hP hD hS (lv_sub hl [1, 2, 0] rfl)
          exact loop2 (nz + 1) Dz Lz Sz cz gz b1 63 rfl (by omega) (by omega) (by omega) _ _ _ hP hD hS (lv_sub hl [1, 2, 0] rfl)
        · skip
          have k19 : (hasI nz (nI (2 * b1 + sd Sz b1))) = true := bI_ne.mp hc19
          have k19 : 2 * b1 + sd Sz b1 < nz := by rw [hasI_nI (by omega) (by omega)] at k19; exact of_decide_eq_true k19
          refine lv_aload_n hx hb dX0_joinTop_22 rfl (lv_at hl 0 rfl) ?_
          refine lv_iload_n hx hb dX0_joinTop_23 rfl (lv_at hl 1 rfl) ?_
          refine zK_vi (As := [.int (nI b1)]) (rest := []) hF (c_left l G cI hz da la saz (Dz) (Lz) (Sz) (nz) (cz) (gz) hn hS1 b1 (by omega)) (cwV 1 hts gX0_joinTop_X0_left rfl rfl rfl (by decide +kernel) ⟨Nat.le_of_ble_eq_true rfl, Nat.le_of_ble_eq_true rfl⟩) hK hP hD hS hA (ci := 0) (q0 := 0) rfl rfl rfl (isC := [0, 1, 2, 3]) (isR := []) (perm := [0, 1, 2, 3]) (wr := []) (wN := wh cI hz da la saz (Dz, Lz, Sz, nz, cz, gz)) ⟨rfl, by decide, rfl, rfl, (fun _ hz => by cases hz), rfl, by decide⟩ [0] rfl rfl hl.1 rfl (Nat.le_of_ble_eq_true rfl) dX0_joinTop_24 ⟨Nat.le_refl _, Nat.le_refl _⟩ (fun H locs hP hD hS => ?_)
          refine lv_istore_n (lv' := [(1, .int (nI (2 * b1 + sd Sz b1))), (0, .ref hz), (2, .int (nI st1))]) hx hb dX0_joinTop_27 rfl hl (by decide) rfl (fun ls hl => ?_)
          refine lv_iinc (v := nI (st1 + 1)) (lv' := [(2, .int (nI (st1 + 1))), (1, .int (nI (2 * b1 + sd Sz b1))), (0, .ref hz)]) hx hb dX0_joinTop_28 hl (k := 2) rfl (nI_1 _) (by decide) rfl (fun ls hl => ?_)
          refine lv_goto (tgt := 4) hx hb dX0_joinTop_31 (by decide) ?_
          exact ih (2 * b1 + sd Sz b1) (st1 + 1) f1 ((lowF_go k19).symm.trans hr9) (by omega) (by omega) (by omega) (by omega) _ _ _ hP hD hS (lv_sub hl [2, 1, 0] rfl)
  exact loop (nz + 1) 1 0 63 rfl (by omega) (by omega) (by omega) (by omega) _ _ _ hP hD hS (lv_sub hl [2, 1, 0] rfl)
set_option maxHeartbeats 4000000 in
set_option maxRecDepth 100000 in
theorem c_removeTop (l : Launch) (G : va_G) (cI : ClassId) (hz da la saz : Nat) (Dz Lz Sz : Fn) (nz : Nat) (cz gz : Int32) (hn : nz ≤ 63) (hn1 : 1 ≤ nz) (hS1 : okS Sz) : zC_i l yX0_removeTop wsX0_removeTop ({ frames := 4, cells := 0, slots := 0, locals := 85 }) G [(cI, .int)] (wh cI hz da la saz (Dz, Lz, Sz, nz, cz, gz)) (wh cI hz da la saz (rmF (Dz, Lz, Sz, nz, cz, gz))) [.ref hz] (Dz 0) := by
  refine zB_i (cc := cX0_removeTop) (maxL := 3) (ret := (some .int)) (by decide) rfl (Nat.le_of_ble_eq_true rfl) ?_
  intro p e s m args below meth c0 A hF hr hlk hK hA hP hD hS ls hl
  have hx := hF.1
  have hb := hF.2.1
  have hown := hF.2.2.2.1
  have hts := hF.2.2.2.2
  have hf9 := hts (.fieldLink RX0 9 "SnoringDukes$WeakHeap" "duke" "[I") (by decide +kernel)
  have hf21 := hts (.fieldLink RX0 21 "SnoringDukes$WeakHeap" "size" "I") (by decide +kernel)
  have hf15 := hts (.fieldLink RX0 15 "SnoringDukes$WeakHeap" "loudness" "[I") (by decide +kernel)
  have hinX0 : ∀ wz ∈ wsX00, wz ∈ wsX0_removeTop := by decide +kernel
  have hl : lv_has ls 3 [(0, .ref hz)] := hl
  refine lv_aload_n hx hb dX0_removeTop_0 rfl (lv_at hl 0 rfl) ?_
  refine lv_iconst (v := nI 0) hx hb dX0_removeTop_1 (by decide) ?_
  refine zK_vi (As := [.int (nI 0)]) (rest := []) hF (c_has l G cI hz da la saz (Dz) (Lz) (Sz) (nz) (cz) (gz) hn (nI 0)) (cwV 1 hts gX0_removeTop_X0_has rfl rfl rfl (by decide +kernel) ⟨Nat.le_of_ble_eq_true rfl, Nat.le_of_ble_eq_true rfl⟩) hK hP hD hS hA (ci := 0) (q0 := 0) rfl rfl rfl (isC := [0, 1, 2, 3]) (isR := []) (perm := [0, 1, 2, 3]) (wr := []) (wN := wh cI hz da la saz (Dz, Lz, Sz, nz, cz, gz)) ⟨rfl, by decide, rfl, rfl, (fun _ hz => by cases hz), rfl, by decide⟩ [0] rfl rfl hl.1 rfl (Nat.le_of_ble_eq_true rfl) dX0_removeTop_2 ⟨Nat.le_refl _, Nat.le_refl _⟩ (fun H locs hP hD hS => ?_)
  refine lv_if_ne (tgt := 10) hx hb dX0_removeTop_5 (by decide) (fun hc5 => ?_) (fun hc5 => ?_)
  · skip
    have k5 : (hasI nz (nI 0)) = true := bI_ne.mp hc5
    refine lv_aload_n hx hb dX0_removeTop_10 rfl (lv_at hl 0 rfl) ?_
    refine va_get (D := G) (ci := 0) (v := .ref da) (C := RX0) (T := TX0) (N := 6) hx hb hts hinX0 hown hK hP 0 rfl rfl 0 (by decide) hf9 (fun _ h9 => h9) rfl dX0_removeTop_11 ?_
    refine lv_iconst (v := nI 0) hx hb dX0_removeTop_14 (by decide) ?_
    refine zA_ld hx hb hK hP 1 0 rfl rfl (by omega) (by decide) dX0_removeTop_15 ?_
    refine lv_istore_n (lv' := [(1, .int (Dz 0)), (0, .ref hz)]) hx hb dX0_removeTop_16 rfl hl (by decide) rfl (fun ls hl => ?_)
    refine lv_aload_n hx hb dX0_removeTop_17 rfl (lv_at hl 1 rfl) ?_
    refine va_get (D := G) (ci := 0) (v := .int (nI nz)) (C := RX0) (T := TX0) (N := 6) hx hb hts hinX0 hown hK hP 0 rfl rfl 3 (by decide) hf21 (fun _ h9 => h9) rfl dX0_removeTop_18 ?_
    refine lv_iconst (v := nI 1) hx hb dX0_removeTop_21 (by decide) ?_
    refine lv_isub hx hb dX0_removeTop_22 ?_
    refine zN (nI (nz - 1)) (y := ((nI nz) - (nI 1))) (pk_sub (by omega)) ?_
    refine lv_istore_n (lv' := [(2, .int (nI (nz - 1))), (1, .int (Dz 0)), (0, .ref hz)]) hx hb dX0_removeTop_23 rfl hl (by decide) rfl (fun ls hl => ?_)
    refine lv_aload_n hx hb dX0_removeTop_24 rfl (lv_at hl 2 rfl) ?_
    refine lv_iload_n hx hb dX0_removeTop_25 rfl (lv_at hl 0 rfl) ?_
    refine zK_vi (As := [.int (nI (nz - 1))]) (rest := []) hF (c_has l G cI hz da la saz (Dz) (Lz) (Sz) (nz) (cz) (gz) hn (nI (nz - 1))) (cwV 1 hts gX0_removeTop_X0_has rfl rfl rfl (by decide +kernel) ⟨Nat.le_of_ble_eq_true rfl, Nat.le_of_ble_eq_true rfl⟩) hK hP hD hS hA (ci := 0) (q0 := 0) rfl rfl rfl (isC := [0, 1, 2, 3]) (isR := []) (perm := [0, 1, 2, 3]) (wr := []) (wN := wh cI hz da la saz (Dz, Lz, Sz, nz, cz, gz)) ⟨rfl, by decide, rfl, rfl, (fun _ hz => by cases hz), rfl, by decide⟩ [0] rfl rfl hl.1 rfl (Nat.le_of_ble_eq_true rfl) dX0_removeTop_26 ⟨Nat.le_refl _, Nat.le_refl _⟩ (fun H locs hP hD hS => ?_)
    refine lv_if_eq (tgt := 56) hx hb dX0_removeTop_29 (by decide) (fun hc29 => ?_) (fun hc29 => ?_)
    · skip
      have k29 : (hasI nz (nI (nz - 1))) = false := bI_e0.mp hc29
      rw [hasI_nI (by omega) (by omega)] at k29
      exact absurd (of_decide_eq_false k29) (by omega)
    · skip
      have k29 : (hasI nz (nI (nz - 1))) = true := bI_ne.mp hc29
      refine lv_aload_n hx hb dX0_removeTop_32 rfl (lv_at hl 2 rfl) ?_
      refine va_get (D := G) (ci := 0) (v := .ref da) (C := RX0) (T := TX0) (N := 6) hx hb hts hinX0 hown hK hP 0 rfl rfl 0 (by decide) hf9 (fun _ h9 => h9) rfl dX0_removeTop_33 ?_
      refine lv_iconst (v := nI 0) hx hb dX0_removeTop_36 (by decide) ?_
      refine lv_aload_n hx hb dX0_removeTop_37 rfl (lv_at hl 2 rfl) ?_
      refine va_get (D := G) (ci := 0) (v := .ref da) (C := RX0) (T := TX0) (N := 6) hx hb hts hinX0 hown hK hP 0 rfl rfl 0 (by decide) hf9 (fun _ h9 => h9) rfl dX0_removeTop_38 ?_
      refine lv_iload_n hx hb dX0_removeTop_41 rfl (lv_at hl 0 rfl) ?_
      refine zA_ld hx hb hK hP 1 0 rfl rfl (by omega) (by decide) dX0_removeTop_42 ?_
      refine zA_st (x := Dz (nz - 1)) hx hb hK hP hD hS 1 0 rfl rfl (by omega) (by decide) dX0_removeTop_43 (fun H locs hP hD hS => ?_)
      have hP : va_P G vwCl (wh cI hz da la saz (upd Dz 0 (Dz (nz - 1)), Lz, Sz, nz, cz, gz)) H := hP
      have hD : va_D A (wh cI hz da la saz (upd Dz 0 (Dz (nz - 1)), Lz, Sz, nz, cz, gz)) := hD
      refine lv_aload_n hx hb dX0_removeTop_44 rfl (lv_at hl 2 rfl) ?_
      refine va_get (D := G) (ci := 0) (v := .ref la) (C := RX0) (T := TX0) (N := 6) hx hb hts hinX0 hown hK hP 0 rfl rfl 1 (by decide) hf15 (fun _ h9 => h9) rfl dX0_removeTop_45 ?_
      refine lv_iconst (v := nI 0) hx hb dX0_removeTop_48 (by decide) ?_
      refine lv_aload_n hx hb dX0_removeTop_49 rfl (lv_at hl 2 rfl) ?_
      refine va_get (D := G) (ci := 0) (v := .ref la) (C := RX0) (T := TX0) (N := 6) hx hb hts hinX0 hown hK hP 0 rfl rfl 1 (by decide) hf15 (fun _ h9 => h9) rfl dX0_removeTop_50 ?_
      refine lv_iload_n hx hb dX0_removeTop_53 rfl (lv_at hl 0 rfl) ?_
      refine zA_ld hx hb hK hP 2 0 rfl rfl (by omega) (by decide) dX0_removeTop_54 ?_
      refine zA_st (x := Lz (nz - 1)) hx hb hK hP hD hS 2 0 rfl rfl (by omega) (by decide) dX0_removeTop_55 (fun H locs hP hD hS => ?_)
      have hP : va_P G vwCl (wh cI hz da la saz (upd Dz 0 (Dz (nz - 1)), upd Lz 0 (Lz (nz - 1)), Sz, nz, cz, gz)) H := hP
      have hD : va_D A (wh cI hz da la saz (upd Dz 0 (Dz (nz - 1)), upd Lz 0 (Lz (nz - 1)), Sz, nz, cz, gz)) := hD
      refine lv_aload_n hx hb dX0_removeTop_56 rfl (lv_at hl 2 rfl) ?_
      refine lv_iload_n hx hb dX0_removeTop_57 rfl (lv_at hl 0 rfl) ?_
      refine va_put (D := G) (ci := 0) (v := .int (nI (nz - 1))) (ty := .int) (C := RX0) (T := TX0) (N := 6) hx hb hts hinX0 tyX0 tyX0_ok nmX0 hown hK hP hD hS 0 rfl rfl 3 (by decide) hf21 (fun _ h9 => h9) rfl (by decide +kernel) rfl rfl (Nat.le_of_ble_eq_true rfl) dX0_removeTop_58 (fun H locs hP hD hS => ?_)
      have hP : va_P G vwCl (wh cI hz da la saz (upd Dz 0 (Dz (nz - 1)), upd Lz 0 (Lz (nz - 1)), Sz, nz - 1, cz, gz)) H := hP
      have hD : va_D A (wh cI hz da la saz (upd Dz 0 (Dz (nz - 1)), upd Lz 0 (Lz (nz - 1)), Sz, nz - 1, cz, gz)) := hD
      refine lv_aload_n hx hb dX0_removeTop_61 rfl (lv_at hl 2 rfl) ?_
      refine va_get (D := G) (ci := 0) (v := .int (nI (nz - 1))) (C := RX0) (T := TX0) (N := 6) hx hb hts hinX0 hown hK hP 0 rfl rfl 3 (by decide) hf21 (fun _ h9 => h9) rfl dX0_removeTop_62 ?_
      refine lv_iconst (v := nI 1) hx hb dX0_removeTop_65 (by decide) ?_
      refine lv_icmp_le (tgt := 73) hx hb dX0_removeTop_66 (by decide) (fun hc66 => ?_) (fun hc66 => ?_)
      · skip
        have k66 : (nz - 1) ≤ 1 := k_le (by omega) (by omega) hc66
        refine lv_iload_n hx hb dX0_removeTop_73 rfl (lv_at hl 1 rfl) ?_
        have e9 : rmF (Dz, Lz, Sz, nz, cz, gz) = mvF (Dz, Lz, Sz, nz, cz, gz) := if_neg (by show ¬ 1 < nz - 1; omega)
        rw [e9]
        exact zE_i hF hr hlk hK hP hD hS dX0_removeTop_74
      · skip
        have k66 : 1 < (nz - 1) := k_nle (by omega) (by omega) hc66
        refine lv_aload_n hx hb dX0_removeTop_69 rfl (lv_at hl 2 rfl) ?_
        refine zK_vv (As := []) (rest := []) hF (c_joinTop l G cI hz da la saz (upd Dz 0 (Dz (nz - 1))) (upd Lz 0 (Lz (nz - 1))) (Sz) (nz - 1) (cz) (gz) (by omega) (by omega) hS1) (cwV 0 hts gX0_removeTop_X0_joinTop rfl rfl rfl (by decide +kernel) ⟨Nat.le_of_ble_eq_true rfl, Nat.le_of_ble_eq_true rfl⟩) hK hP hD hS hA (ci := 0) (q0 := 0) rfl rfl rfl (isC := [0, 1, 2, 3]) (isR := []) (perm := [0, 1, 2, 3]) (wr := []) (wN := wh cI hz da la saz (joinTopF (upd Dz 0 (Dz (nz - 1)), upd Lz 0 (Lz (nz - 1)), Sz, nz - 1, cz, gz))) ⟨rfl, by decide, rfl, rfl, (fun _ hz => by cases hz), rfl, by decide⟩ [0] rfl rfl hl.1 rfl (Nat.le_of_ble_eq_true rfl) dX0_removeTop_70 ⟨Nat.le_refl _, Nat.le_refl _⟩ (fun H locs hP hD hS => ?_)
        refine lv_iload_n hx hb dX0_removeTop_73 rfl (lv_at hl 1 rfl) ?_
        have e9 : rmF (Dz, Lz, Sz, nz, cz, gz) = joinTopF (mvF (Dz, Lz, Sz, nz, cz, gz)) := if_pos (by show 1 < nz - 1; omega)
        rw [e9]
        exact zE_i hF hr hlk hK hP hD hS dX0_removeTop_74
  · skip
    have k5 : (hasI nz (nI 0)) = false := bI_e0.mp hc5
    rw [hasI_nI (by omega) (by omega)] at k5
    exact absurd (of_decide_eq_false k5) (by omega)
set_option maxHeartbeats 4000000 in
set_option maxRecDepth 100000 in
theorem c_removeTops (l : Launch) (G : va_G) (cI : ClassId) (hz da la saz : Nat) (Dz Lz Sz : Fn) (nz : Nat) (cz gz : Int32) (hn : nz ≤ 63) (hS1 : okS Sz) (kz : Nat) (hk : kz ≤ nz) : zC_v l yX0_removeTops wsX0_removeTops ({ frames := 5, cells := 0, slots := 0, locals := 107 }) G [(cI, .int)] (wh cI hz da la saz (Dz, Lz, Sz, nz, cz, gz)) (wh cI hz da la saz (rmsF kz (Dz, Lz, Sz, nz, cz, gz))) [.ref hz, .int (nI kz)] := by
  refine zB_v (cc := cX0_removeTops) (maxL := 3) (ret := none) (by decide) rfl (Nat.le_of_ble_eq_true rfl) ?_
  intro p e s m args below meth c0 A hF hr hlk hK hA hP hD hS ls hl
  have hx := hF.1
  have hb := hF.2.1
  have hown := hF.2.2.2.1
  have hts := hF.2.2.2.2
  have hl : lv_has ls 3 [(0, .ref hz), (1, .int (nI kz))] := hl
  refine lv_iconst (v := nI 0) hx hb dX0_removeTops_0 (by decide) ?_
  refine lv_istore_n (lv' := [(2, .int (nI 0)), (0, .ref hz), (1, .int (nI kz))]) hx hb dX0_removeTops_1 rfl hl (by decide) rfl (fun ls hl => ?_)
  have loop : ∀ (f9 : Nat) (D1 : Fn) (L1 : Fn) (S1 : Fn) (x1 : Int32) (y1 : Int32) (iz : Nat), (okS S1) → (rmsF iz (Dz, Lz, Sz, nz, cz, gz) = (D1, L1, S1, nz - iz, x1, y1)) → (iz ≤ kz) → kz - iz < f9 → ∀ (H : Heap) (locs : List Loc) (ls : Array Slot), va_P G vwCl (wh cI hz da la saz (D1, L1, S1, nz - iz, x1, y1)) H → va_D A (wh cI hz da la saz (D1, L1, S1, nz - iz, x1, y1)) → va_S A s.heap H locs → lv_has ls 3 [(0, .ref hz), (1, .int (nI kz)), (2, .int (nI iz))] → W p l e ({ frames := 5, cells := 0, slots := 0, locals := 107 }) s m args below meth c0 H locs 0 0 (zQ_v below G [(cI, .int)] (wh cI hz da la saz (rmsF kz (Dz, Lz, Sz, nz, cz, gz))) A args s) (F0 m 2 ls []) := by
    intro f9
    induction f9 with
    | zero => intro D1 L1 S1 x1 y1 iz hS1 hr9 hi hf; exact absurd hf (Nat.not_lt_zero _)
    | succ f9 ih =>
      intro D1 L1 S1 x1 y1 iz hS1 hr9 hi hf H locs ls hP hD hS hl
      refine lv_iload_n hx hb dX0_removeTops_2 rfl (lv_at hl 2 rfl) ?_
      refine lv_iload_n hx hb dX0_removeTops_3 rfl (lv_at hl 1 rfl) ?_
      refine lv_icmp_ge (tgt := 18) hx hb dX0_removeTops_4 (by decide) (fun hc4 => ?_) (fun hc4 => ?_)
      · skip
        have k4 : kz ≤ iz := k_le (by omega) (by omega) hc4
        obtain rfl : kz = iz := by omega
        rw [hr9]
        exact zE_v hF hr hlk hK hP hD hS dX0_removeTops_18
      · skip
        have k4 : iz < kz := k_nle (by omega) (by omega) hc4
        refine lv_aload_n hx hb dX0_removeTops_7 rfl (lv_at hl 0 rfl) ?_
        refine zK_vi (As := []) (rest := []) hF (c_removeTop l G cI hz da la saz (D1) (L1) (S1) (nz - iz) (x1) (y1) (by omega) (by omega) hS1) (cwV 0 hts gX0_removeTops_X0_removeTop rfl rfl rfl (by decide +kernel) ⟨Nat.le_of_ble_eq_true rfl, Nat.le_of_ble_eq_true rfl⟩) hK hP hD hS hA (ci := 0) (q0 := 0) rfl rfl rfl (isC := [0, 1, 2, 3]) (isR := []) (perm := [0, 1, 2, 3]) (wr := []) (wN := wh cI hz da la saz (rmF (D1, L1, S1, nz - iz, x1, y1))) ⟨rfl, by decide, rfl, rfl, (fun _ hz => by cases hz), rfl, by decide⟩ [0] rfl rfl hl.1 rfl (Nat.le_of_ble_eq_true rfl) dX0_removeTops_8 ⟨Nat.le_refl _, Nat.le_refl _⟩ (fun H locs hP hD hS => ?_)
        obtain ⟨D5, L5, S5, c5, g5, hu5, hz5⟩ := rmF_ex (D := D1) (L := L1) (S := S1) (n := nz - iz) (c := x1) (g := y1) hS1 (m := nz - (iz + 1)) (by omega)
        have hP : va_P G vwCl (wh cI hz da la saz (D5, L5, S5, nz - (iz + 1), c5, g5)) H := by have qz := hP; rw [hu5] at qz; exact qz
        have hD : va_D A (wh cI hz da la saz (D5, L5, S5, nz - (iz + 1), c5, g5)) := by have qz := hD; rw [hu5] at qz; exact qz
        refine lv_pop hx hb dX0_removeTops_11 rfl ?_
        refine lv_iinc (v := nI (iz + 1)) (lv' := [(2, .int (nI (iz + 1))), (0, .ref hz), (1, .int (nI kz))]) hx hb dX0_removeTops_12 hl (k := 2) rfl (nI_1 _) (by decide) rfl (fun ls hl => ?_)
        refine lv_goto (tgt := 2) hx hb dX0_removeTops_15 (by decide) ?_
        exact ih D5 L5 S5 c5 g5 (iz + 1) hz5 (by rw [rmsF, hr9]; exact hu5) (by omega) (by omega) _ _ _ hP hD hS (lv_sub hl [1, 2, 0] rfl)
  exact loop (kz + 1) Dz Lz Sz cz gz 0 hS1 rfl (by omega) (by omega) _ _ _ hP hD hS (lv_sub hl [1, 2, 0] rfl)
set_option maxHeartbeats 4000000 in
set_option maxRecDepth 100000 in
theorem c_copyFrom (l : Launch) (G : va_G) (cI : ClassId) (hz da la saz : Nat) (h2 da2 la2 sa2 : Nat) (Dz Lz Sz : Fn) (nz : Nat) (cz gz : Int32) (D2 L2 S2 : Fn) (n2 : Nat) (x2 y2 : Int32) : zC_v l yX0_copyFrom wsX0_copyFrom ({ frames := 0, cells := 0, slots := 0, locals := 0 }) G [(cI, .int)] (wh cI hz da la saz (Dz, Lz, Sz, nz, cz, gz) ++ wh cI h2 da2 la2 sa2 (D2, L2, S2, n2, x2, y2)) (wh cI hz da la saz (cpF (D2, L2, S2, n2, x2, y2) (Dz, Lz, Sz, nz, cz, gz)) ++ wh cI h2 da2 la2 sa2 (D2, L2, S2, n2, x2, y2)) [.ref hz, .ref h2] := by
  refine zB_v (cc := cX0_copyFrom) (maxL := 3) (ret := none) (by decide) rfl (Nat.le_of_ble_eq_true rfl) ?_
  intro p e s m args below meth c0 A hF hr hlk hK hA hP hD hS ls hl
  have hx := hF.1
  have hb := hF.2.1
  have hown := hF.2.2.2.1
  have hts := hF.2.2.2.2
  have hf21 := hts (.fieldLink RX0 21 "SnoringDukes$WeakHeap" "size" "I") (by decide +kernel)
  have hf25 := hts (.fieldLink RX0 25 "SnoringDukes$WeakHeap" "compared" "I") (by decide +kernel)
  have hf28 := hts (.fieldLink RX0 28 "SnoringDukes$WeakHeap" "changed" "I") (by decide +kernel)
  have hf9 := hts (.fieldLink RX0 9 "SnoringDukes$WeakHeap" "duke" "[I") (by decide +kernel)
  have hf15 := hts (.fieldLink RX0 15 "SnoringDukes$WeakHeap" "loudness" "[I") (by decide +kernel)
  have hf18 := hts (.fieldLink RX0 18 "SnoringDukes$WeakHeap" "side" "[I") (by decide +kernel)
  have hinX0 : ∀ wz ∈ wsX00, wz ∈ wsX0_copyFrom := by decide +kernel
  have hl : lv_has ls 3 [(0, .ref hz), (1, .ref h2)] := hl
  refine lv_aload_n hx hb dX0_copyFrom_0 rfl (lv_at hl 0 rfl) ?_
  refine lv_aload_n hx hb dX0_copyFrom_1 rfl (lv_at hl 1 rfl) ?_
  refine va_get (D := G) (ci := 0) (v := .int (nI n2)) (C := RX0) (T := TX0) (N := 6) hx hb hts hinX0 hown hK hP 4 rfl rfl 3 (by decide) hf21 (fun _ h9 => h9) rfl dX0_copyFrom_2 ?_
  refine va_put (D := G) (ci := 0) (v := .int (nI n2)) (ty := .int) (C := RX0) (T := TX0) (N := 6) hx hb hts hinX0 tyX0 tyX0_ok nmX0 hown hK hP hD hS 0 rfl rfl 3 (by decide) hf21 (fun _ h9 => h9) rfl (by decide +kernel) rfl rfl (Nat.le_of_ble_eq_true rfl) dX0_copyFrom_5 (fun H locs hP hD hS => ?_)
  have hP : va_P G vwCl (wh cI hz da la saz (Dz, Lz, Sz, n2, cz, gz) ++ wh cI h2 da2 la2 sa2 (D2, L2, S2, n2, x2, y2)) H := hP
  have hD : va_D A (wh cI hz da la saz (Dz, Lz, Sz, n2, cz, gz) ++ wh cI h2 da2 la2 sa2 (D2, L2, S2, n2, x2, y2)) := hD
  refine lv_aload_n hx hb dX0_copyFrom_8 rfl (lv_at hl 0 rfl) ?_
  refine lv_aload_n hx hb dX0_copyFrom_9 rfl (lv_at hl 1 rfl) ?_
  refine va_get (D := G) (ci := 0) (v := .int x2) (C := RX0) (T := TX0) (N := 6) hx hb hts hinX0 hown hK hP 4 rfl rfl 4 (by decide) hf25 (fun _ h9 => h9) rfl dX0_copyFrom_10 ?_
  refine va_put (D := G) (ci := 0) (v := .int x2) (ty := .int) (C := RX0) (T := TX0) (N := 6) hx hb hts hinX0 tyX0 tyX0_ok nmX0 hown hK hP hD hS 0 rfl rfl 4 (by decide) hf25 (fun _ h9 => h9) rfl (by decide +kernel) rfl rfl (Nat.le_of_ble_eq_true rfl) dX0_copyFrom_13 (fun H locs hP hD hS => ?_)
  have hP : va_P G vwCl (wh cI hz da la saz (Dz, Lz, Sz, n2, x2, gz) ++ wh cI h2 da2 la2 sa2 (D2, L2, S2, n2, x2, y2)) H := hP
  have hD : va_D A (wh cI hz da la saz (Dz, Lz, Sz, n2, x2, gz) ++ wh cI h2 da2 la2 sa2 (D2, L2, S2, n2, x2, y2)) := hD
  refine lv_aload_n hx hb dX0_copyFrom_16 rfl (lv_at hl 0 rfl) ?_
  refine lv_aload_n hx hb dX0_copyFrom_17 rfl (lv_at hl 1 rfl) ?_
  refine va_get (D := G) (ci := 0) (v := .int y2) (C := RX0) (T := TX0) (N := 6) hx hb hts hinX0 hown hK hP 4 rfl rfl 5 (by decide) hf28 (fun _ h9 => h9) rfl dX0_copyFrom_18 ?_
  refine va_put (D := G) (ci := 0) (v := .int y2) (ty := .int) (C := RX0) (T := TX0) (N := 6) hx hb hts hinX0 tyX0 tyX0_ok nmX0 hown hK hP hD hS 0 rfl rfl 5 (by decide) hf28 (fun _ h9 => h9) rfl (by decide +kernel) rfl rfl (Nat.le_of_ble_eq_true rfl) dX0_copyFrom_21 (fun H locs hP hD hS => ?_)
  have hP : va_P G vwCl (wh cI hz da la saz (Dz, Lz, Sz, n2, x2, y2) ++ wh cI h2 da2 la2 sa2 (D2, L2, S2, n2, x2, y2)) H := hP
  have hD : va_D A (wh cI hz da la saz (Dz, Lz, Sz, n2, x2, y2) ++ wh cI h2 da2 la2 sa2 (D2, L2, S2, n2, x2, y2)) := hD
  refine lv_iconst (v := nI 0) hx hb dX0_copyFrom_24 (by decide) ?_
  refine lv_istore_n (lv' := [(2, .int (nI 0)), (0, .ref hz), (1, .ref h2)]) hx hb dX0_copyFrom_25 rfl hl (by decide) rfl (fun ls hl => ?_)
  have hP : va_P G vwCl (wh cI hz da la saz (flF 0 D2 Dz, flF 0 L2 Lz, flF 0 S2 Sz, n2, x2, y2) ++ wh cI h2 da2 la2 sa2 (D2, L2, S2, n2, x2, y2)) H := by rw [flF_0, flF_0, flF_0]; exact hP
  have hD : va_D A (wh cI hz da la saz (flF 0 D2 Dz, flF 0 L2 Lz, flF 0 S2 Sz, n2, x2, y2) ++ wh cI h2 da2 la2 sa2 (D2, L2, S2, n2, x2, y2)) := by rw [flF_0, flF_0, flF_0]; exact hD
  have loop : ∀ (f9 : Nat) (iz : Nat), (iz ≤ 63) → 63 - iz < f9 → ∀ (H : Heap) (locs : List Loc) (ls : Array Slot), va_P G vwCl (wh cI hz da la saz (flF iz D2 Dz, flF iz L2 Lz, flF iz S2 Sz, n2, x2, y2) ++ wh cI h2 da2 la2 sa2 (D2, L2, S2, n2, x2, y2)) H → va_D A (wh cI hz da la saz (flF iz D2 Dz, flF iz L2 Lz, flF iz S2 Sz, n2, x2, y2) ++ wh cI h2 da2 la2 sa2 (D2, L2, S2, n2, x2, y2)) → va_S A s.heap H locs → lv_has ls 3 [(0, .ref hz), (1, .ref h2), (2, .int (nI iz))] → W p l e ({ frames := 0, cells := 0, slots := 0, locals := 0 }) s m args below meth c0 H locs 0 0 (zQ_v below G [(cI, .int)] (wh cI hz da la saz (cpF (D2, L2, S2, n2, x2, y2) (Dz, Lz, Sz, nz, cz, gz)) ++ wh cI h2 da2 la2 sa2 (D2, L2, S2, n2, x2, y2)) A args s) (F0 m 26 ls []) := by
    intro f9
    induction f9 with
    | zero => intro iz hi hf; exact absurd hf (Nat.not_lt_zero _)
    | succ f9 ih =>
      intro iz hi hf H locs ls hP hD hS hl
      refine lv_iload_n hx hb dX0_copyFrom_26 rfl (lv_at hl 2 rfl) ?_
      refine lv_bipush (v := nI 63) hx hb dX0_copyFrom_27 (by decide) ?_
      refine lv_icmp_ge (tgt := 74) hx hb dX0_copyFrom_29 (by decide) (fun hc29 => ?_) (fun hc29 => ?_)
      · skip
        have k29 : 63 ≤ iz := k_le (by omega) (by omega) hc29
        obtain rfl : 63 = iz := by omega
        exact zE_v hF hr hlk hK hP hD hS dX0_copyFrom_74
      · skip
        have k29 : iz < 63 := k_nle (by omega) (by omega) hc29
        refine lv_aload_n hx hb dX0_copyFrom_32 rfl (lv_at hl 0 rfl) ?_
        refine va_get (D := G) (ci := 0) (v := .ref da) (C := RX0) (T := TX0) (N := 6) hx hb hts hinX0 hown hK hP 0 rfl rfl 0 (by decide) hf9 (fun _ h9 => h9) rfl dX0_copyFrom_33 ?_
        refine lv_iload_n hx hb dX0_copyFrom_36 rfl (lv_at hl 2 rfl) ?_
        refine lv_aload_n hx hb dX0_copyFrom_37 rfl (lv_at hl 1 rfl) ?_
        refine va_get (D := G) (ci := 0) (v := .ref da2) (C := RX0) (T := TX0) (N := 6) hx hb hts hinX0 hown hK hP 4 rfl rfl 0 (by decide) hf9 (fun _ h9 => h9) rfl dX0_copyFrom_38 ?_
        refine lv_iload_n hx hb dX0_copyFrom_41 rfl (lv_at hl 2 rfl) ?_
        refine zA_ld hx hb hK hP 5 0 rfl rfl (by omega) (by decide) dX0_copyFrom_42 ?_
        refine zA_st (x := D2 iz) hx hb hK hP hD hS 1 0 rfl rfl (by omega) (by decide) dX0_copyFrom_43 (fun H locs hP hD hS => ?_)
        have hP : va_P G vwCl (wh cI hz da la saz (upd (flF iz D2 Dz) iz (D2 iz), flF iz L2 Lz, flF iz S2 Sz, n2, x2, y2) ++ wh cI h2 da2 la2 sa2 (D2, L2, S2, n2, x2, y2)) H := hP
        have hD : va_D A (wh cI hz da la saz (upd (flF iz D2 Dz) iz (D2 iz), flF iz L2 Lz, flF iz S2 Sz, n2, x2, y2) ++ wh cI h2 da2 la2 sa2 (D2, L2, S2, n2, x2, y2)) := hD
        refine lv_aload_n hx hb dX0_copyFrom_44 rfl (lv_at hl 0 rfl) ?_
        refine va_get (D := G) (ci := 0) (v := .ref la) (C := RX0) (T := TX0) (N := 6) hx hb hts hinX0 hown hK hP 0 rfl rfl 1 (by decide) hf15 (fun _ h9 => h9) rfl dX0_copyFrom_45 ?_
        refine lv_iload_n hx hb dX0_copyFrom_48 rfl (lv_at hl 2 rfl) ?_
        refine lv_aload_n hx hb dX0_copyFrom_49 rfl (lv_at hl 1 rfl) ?_
        refine va_get (D := G) (ci := 0) (v := .ref la2) (C := RX0) (T := TX0) (N := 6) hx hb hts hinX0 hown hK hP 4 rfl rfl 1 (by decide) hf15 (fun _ h9 => h9) rfl dX0_copyFrom_50 ?_
        refine lv_iload_n hx hb dX0_copyFrom_53 rfl (lv_at hl 2 rfl) ?_
        refine zA_ld hx hb hK hP 6 0 rfl rfl (by omega) (by decide) dX0_copyFrom_54 ?_
        refine zA_st (x := L2 iz) hx hb hK hP hD hS 2 0 rfl rfl (by omega) (by decide) dX0_copyFrom_55 (fun H locs hP hD hS => ?_)
        have hP : va_P G vwCl (wh cI hz da la saz (upd (flF iz D2 Dz) iz (D2 iz), upd (flF iz L2 Lz) iz (L2 iz), flF iz S2 Sz, n2, x2, y2) ++ wh cI h2 da2 la2 sa2 (D2, L2, S2, n2, x2, y2)) H := hP
        have hD : va_D A (wh cI hz da la saz (upd (flF iz D2 Dz) iz (D2 iz), upd (flF iz L2 Lz) iz (L2 iz), flF iz S2 Sz, n2, x2, y2) ++ wh cI h2 da2 la2 sa2 (D2, L2, S2, n2, x2, y2)) := hD
        refine lv_aload_n hx hb dX0_copyFrom_56 rfl (lv_at hl 0 rfl) ?_
        refine va_get (D := G) (ci := 0) (v := .ref saz) (C := RX0) (T := TX0) (N := 6) hx hb hts hinX0 hown hK hP 0 rfl rfl 2 (by decide) hf18 (fun _ h9 => h9) rfl dX0_copyFrom_57 ?_
        refine lv_iload_n hx hb dX0_copyFrom_60 rfl (lv_at hl 2 rfl) ?_
        refine lv_aload_n hx hb dX0_copyFrom_61 rfl (lv_at hl 1 rfl) ?_
        refine va_get (D := G) (ci := 0) (v := .ref sa2) (C := RX0) (T := TX0) (N := 6) hx hb hts hinX0 hown hK hP 4 rfl rfl 2 (by decide) hf18 (fun _ h9 => h9) rfl dX0_copyFrom_62 ?_
        refine lv_iload_n hx hb dX0_copyFrom_65 rfl (lv_at hl 2 rfl) ?_
        refine zA_ld hx hb hK hP 7 0 rfl rfl (by omega) (by decide) dX0_copyFrom_66 ?_
        refine zA_st (x := S2 iz) hx hb hK hP hD hS 3 0 rfl rfl (by omega) (by decide) dX0_copyFrom_67 (fun H locs hP hD hS => ?_)
        have hP : va_P G vwCl (wh cI hz da la saz (upd (flF iz D2 Dz) iz (D2 iz), upd (flF iz L2 Lz) iz (L2 iz), upd (flF iz S2 Sz) iz (S2 iz), n2, x2, y2) ++ wh cI h2 da2 la2 sa2 (D2, L2, S2, n2, x2, y2)) H := hP
        have hD : va_D A (wh cI hz da la saz (upd (flF iz D2 Dz) iz (D2 iz), upd (flF iz L2 Lz) iz (L2 iz), upd (flF iz S2 Sz) iz (S2 iz), n2, x2, y2) ++ wh cI h2 da2 la2 sa2 (D2, L2, S2, n2, x2, y2)) := hD
        have hP : va_P G vwCl (wh cI hz da la saz (flF (iz + 1) D2 Dz, flF (iz + 1) L2 Lz, flF (iz + 1) S2 Sz, n2, x2, y2) ++ wh cI h2 da2 la2 sa2 (D2, L2, S2, n2, x2, y2)) H := by have qz := hP; rw [flF_succ, flF_succ, flF_succ] at qz; exact qz
        have hD : va_D A (wh cI hz da la saz (flF (iz + 1) D2 Dz, flF (iz + 1) L2 Lz, flF (iz + 1) S2 Sz, n2, x2, y2) ++ wh cI h2 da2 la2 sa2 (D2, L2, S2, n2, x2, y2)) := by have qz := hD; rw [flF_succ, flF_succ, flF_succ] at qz; exact qz
        refine lv_iinc (v := nI (iz + 1)) (lv' := [(2, .int (nI (iz + 1))), (0, .ref hz), (1, .ref h2)]) hx hb dX0_copyFrom_68 hl (k := 2) rfl (nI_1 _) (by decide) rfl (fun ls hl => ?_)
        refine lv_goto (tgt := 26) hx hb dX0_copyFrom_71 (by decide) ?_
        exact ih (iz + 1) (by omega) (by omega) _ _ _ hP hD hS (lv_sub hl [1, 2, 0] rfl)
  exact loop (64) 0 (by omega) (by omega) _ _ _ hP hD hS (lv_sub hl [1, 2, 0] rfl)
end
section
/-! the reference: its state, and how it is a heap of the same kind -/
def vM (lou D S : Fn) (n : Nat) (c g : Int32) : WH := (D, fun b => lou (D b).toNatClampNeg, S, n, c, g)
abbrev wm (cI : ClassId) (o lo li si sh sa : Nat) (n came : Nat) (c g : Int32) (lou D S shd shs : Fn) (th : Int32) : va_W :=
  [(o, .inr (2, [.int (nI n), .int (nI came), .int c, .int g, .ref lo, .ref li, .ref si, .ref sh, .ref sa, .int th])), (lo, .inl (cI, 500, .inl lou)), (li, .inl (cI, 63, .inl D)), (si, .inl (cI, 63, .inl S)), (sh, .inl (cI, 63, .inl shd)), (sa, .inl (cI, 63, .inl shs))]
/-- the dukes that lie are numbers that were given -/
def okD (n : Nat) (D : Fn) : Prop := ∀ b, b < n → ∃ k, k < 500 ∧ D b = nI k
def isO (v a b : Int32) : Bool := decide (a ≤ v) && decide (v ≤ b)
theorem isO_t {v a b : Int32} (h1 : ¬ v < a) (h2 : ¬ b < v) : bI (isO v a b) = nI 1 := by
  have h3 : a ≤ v := by simp only [Int32.le_iff_toInt_le, Int32.lt_iff_toInt_lt] at *; omega
  have h4 : v ≤ b := by simp only [Int32.le_iff_toInt_le, Int32.lt_iff_toInt_lt] at *; omega
  unfold isO
  rw [decide_eq_true h3, decide_eq_true h4]
  rfl
theorem isO_f1 {v a b : Int32} (h : v < a) : bI (isO v a b) = nI 0 := by
  have h3 : ¬ a ≤ v := by simp only [Int32.le_iff_toInt_le, Int32.lt_iff_toInt_lt] at *; omega
  unfold isO
  rw [decide_eq_false h3]
  rfl
theorem isO_f2 {v a b : Int32} (h : b < v) : bI (isO v a b) = nI 0 := by
  have h3 : ¬ v ≤ b := by simp only [Int32.le_iff_toInt_le, Int32.lt_iff_toInt_lt] at *; omega
  unfold isO
  rw [decide_eq_false h3, Bool.and_false]
  rfl
theorem exF_at (f : Fn) (i j k : Nat) : exF f i j k = f (if k = j then i else if k = i then j else k) := by
  unfold exF upd
  split
  · rfl
  · split <;> rfl
theorem exF_comp (lou : Fn) (D : Fn) (i j : Nat) : exF (fun b => lou (D b).toNatClampNeg) i j = fun b => lou (exF D i j b).toNatClampNeg := by
  funext k
  rw [exF_at, exF_at]
theorem upd_comp (lou : Fn) (D : Fn) (i : Nat) (x : Int32) : upd (fun b => lou (D b).toNatClampNeg) i (lou x.toNatClampNeg) = fun b => lou (upd D i x b).toNatClampNeg := by
  funext k
  unfold upd
  split <;> rfl
theorem okD_ex {n : Nat} {D : Fn} (h : okD n D) {e j : Nat} (he : e < n) (hj : j < n) : okD n (exF D e j) := by
  intro b hb
  rw [exF_at]
  split
  · exact h e he
  · split
    · exact h j hj
    · exact h b hb
theorem joinM {s : Bool} {lou D S : Fn} {n : Nat} {c g : Int32} {e j : Nat} : joinF s (vM lou D S n c g) e j = if jc s (vM lou D S n c g) e j = true then vM lou (exF D e j) (upd S j (1 - S j)) n (c + 1) (g + 1) else vM lou D S n (c + 1) g := by
  unfold joinF
  split
  · show (_, exF (fun b => lou (D b).toNatClampNeg) e j, _, _, _, _) = _
    rw [exF_comp]
    rfl
  · rfl
theorem joinM_ex (s : Bool) {lou D S : Fn} {n : Nat} {c g : Int32} {e j : Nat} (hS : okS S) (hD : okD n D) (he : e < n) (hj : j < n) (h0 : 0 < j) : ∃ (D2 S2 : Fn) (c2 g2 : Int32), joinF s (vM lou D S n c g) e j = vM lou D2 S2 n c2 g2 ∧ okS S2 ∧ okD n D2 := by
  rw [joinM]
  split
  · exact ⟨_, _, _, _, rfl, okS_upd hS h0 (z01 (hS.1 j)), okD_ex hD he hj⟩
  · exact ⟨_, _, _, _, rfl, hS, hD⟩
theorem mvM {lou D S : Fn} {n : Nat} {c g : Int32} : mvF (vM lou D S n c g) = vM lou (upd D 0 (D (n - 1))) S (n - 1) c g := by
  show (_, upd (fun b => lou (D b).toNatClampNeg) 0 (lou (D (n - 1)).toNatClampNeg), _, _, _, _) = _
  rw [upd_comp]
  rfl
theorem rmM {lou D S : Fn} {n : Nat} {c g : Int32} : rmF (vM lou D S n c g) = if 1 < n - 1 then joinTopF (vM lou (upd D 0 (D (n - 1))) S (n - 1) c g) else vM lou (upd D 0 (D (n - 1))) S (n - 1) c g := by
  unfold rmF
  rw [mvM]
  rfl
theorem topM_ex {lou : Fn} {n : Nat} (hn : 0 < n) : ∀ (f : Nat) {D S : Fn} {c g : Int32} {b : Nat}, okS S → okD n D → b < n → ∃ (D2 S2 : Fn) (c2 g2 : Int32), topF f (vM lou D S n c g) b = vM lou D2 S2 n c2 g2 ∧ okS S2 ∧ okD n D2
  | 0, D, S, c, g, b, hS, hD, hb => ⟨_, _, _, _, rfl, hS, hD⟩
  | f + 1, D, S, c, g, b, hS, hD, hb => by
    unfold topF
    split
    · exact ⟨_, _, _, _, rfl, hS, hD⟩
    · rename_i h0
      obtain ⟨D2, S2, c2, g2, h1, h2, h3⟩ := joinM_ex false (lou := lou) (c := c) (g := g) hS hD hn hb (by omega)
      rw [h1]
      exact topM_ex hn f h2 h3 (by omega)
theorem okD_upd {n : Nat} {D : Fn} (h : okD n D) {i : Nat} {x : Int32} (hx : ∃ k, k < 500 ∧ x = nI k) : okD n (upd D i x) := by
  intro b hb
  unfold upd
  split
  · exact hx
  · exact h b hb
theorem rmM_ex {lou D S : Fn} {n : Nat} {c g : Int32} (hS : okS S) (hD : okD n D) (hn : 1 ≤ n) (hn9 : n ≤ 63) {m : Nat} (hm : n - 1 = m) : ∃ (D2 S2 : Fn) (c2 g2 : Int32), rmF (vM lou D S n c g) = vM lou D2 S2 m c2 g2 ∧ okS S2 ∧ okD m D2 := by
  subst hm
  have hD1 : okD (n - 1) (upd D 0 (D (n - 1))) := okD_upd (fun b hb => hD b (by omega)) (hD (n - 1) (by omega))
  unfold rmF
  rw [mvM]
  split
  · rename_i h1
    have h1 : 1 < n - 1 := h1
    exact topM_ex (by omega) 63 hS hD1 (lowF_lt h1)
  · exact ⟨_, _, _, _, rfl, hS, hD1⟩
theorem riseM_ex (s : Bool) {lou : Fn} {n : Nat} : ∀ (f : Nat) {D S : Fn} {c g : Int32} {b : Nat}, okS S → okD n D → b < n → ∃ (D2 S2 : Fn) (c2 g2 : Int32), (riseF s f (vM lou D S n c g) b).1 = vM lou D2 S2 n c2 g2 ∧ okS S2 ∧ okD n D2
  | 0, D, S, c, g, b, hS, hD, hb => ⟨_, _, _, _, rfl, hS, hD⟩
  | f + 1, D, S, c, g, b, hS, hD, hb => by
    unfold riseF
    split
    · exact ⟨_, _, _, _, rfl, hS, hD⟩
    · rename_i h0
      have he : eld S b < b := eld_lt (by omega)
      obtain ⟨D2, S2, c2, g2, h1, h2, h3⟩ := joinM_ex s (lou := lou) (c := c) (g := g) (e := eld S b) hS hD (by omega) hb (by omega)
      split
      · show ∃ (D2 S2 : Fn) (c2 g2 : Int32), (riseF s f (joinF s (vM lou D S n c g) (eld S b) b) (eld S b)).1 = _ ∧ _
        rw [h1]
        exact riseM_ex s f h2 h3 (by omega)
      · exact ⟨_, _, _, _, h1, h2, h3⟩
def qtF (lou D : Fn) (x : Nat) : Nat → Int32
  | 0 => 0
  | i + 1 => if lou (D i).toNatClampNeg < lou x then qtF lou D x i + 1 else qtF lou D x i
theorem exF_sw (f : Fn) (i j : Nat) : upd (upd f j (f i)) i (f j) = exF f i j := by
  funext k
  rw [exF_at]
  unfold upd
  by_cases h1 : k = i
  · rw [if_pos h1]
    by_cases h2 : k = j
    · rw [if_pos h2, ← h1, ← h2]
    · rw [if_neg h2, if_pos h1]
  · rw [if_neg h1]
    by_cases h2 : k = j
    · rw [if_pos h2, if_pos h2]
    · rw [if_neg h2, if_neg h2, if_neg h1]
theorem isO_has {n : Nat} {x : Int32} (hn : n < 2 ^ 30) : isO x (nI 0) (nI n - nI 1) = hasI n x := by
  have h0 : (nI 0).toInt = 0 := nI_toInt (by decide)
  have h1 : (nI n - nI 1).toInt = (n : Int) - 1 := pk_sub_toInt hn (by decide)
  have h2 : (nI n).toInt = n := nI_toInt (by omega)
  unfold isO hasI
  congr 1
  refine decide_eq_decide.mpr ?_
  simp only [Int32.le_iff_toInt_le, Int32.lt_iff_toInt_lt, h1, h2]
  omega
theorem z_add0 (x : Int32) : x + nI 0 = x := by
  show x + 0 = x
  exact Int32.add_zero x
theorem okD_lay {n : Nat} {D : Fn} (h : okD n D) {k : Nat} (hk : k < 500) : okD (n + 1) (upd D n (nI k)) := by
  intro b hb
  unfold upd
  split
  · exact ⟨k, hk, rfl⟩
  · exact h b (by omega)
theorem fndI_no {D : Fn} {x : Int32} {n : Nat} (h : ¬ fnd D x n < n) : fndI D n x = (-1) := by unfold fndI; rw [if_neg h]
theorem fndI_at {D : Fn} {x : Int32} {n b : Nat} (h : fnd D x n = b) (hb : b < n) : fndI D n x = nI b := by unfold fndI; rw [h, if_pos hb]
/-- after so many of a coach have lain down: loudnesses by numbers, dukes and sides by berths -/
def lmL (lou : Fn) (came : Nat) (x y : Int32) : Nat → Fn
  | 0 => lou
  | i + 1 => upd (lmL lou came x y i) (came + i) (ldF x y i)
def lmD (D : Fn) (n came : Nat) : Nat → Fn
  | 0 => D
  | i + 1 => upd (lmD D n came i) (n + i) (nI (came + i))
def lmS (S : Fn) (n : Nat) : Nat → Fn
  | 0 => S
  | i + 1 => upd (lmS S n i) (n + i) 0
theorem lmS_ok {S : Fn} (h : okS S) {n : Nat} : ∀ i, okS (lmS S n i)
  | 0 => h
  | i + 1 => okS_upd0 (lmS_ok h i) _
theorem lmD_ok {D : Fn} {n came : Nat} (h : okD n D) : ∀ i, came + i ≤ 500 → okD (n + i) (lmD D n came i)
  | 0, _ => h
  | i + 1, hi => okD_lay (lmD_ok h i (by omega)) (by omega)
end
section
/-! the reference: its methods -/
set_option maxHeartbeats 4000000 in
set_option maxRecDepth 100000 in
theorem m_thrown (l : Launch) (G : va_G) (cI : ClassId) (oz loz liz siz shz saz : Nat) (nz camez : Nat) (cz gz : Int32) (louz Dz Sz shdz shsz : Fn) (thz : Int32)  : zC_i l yX2_thrown wsX2_thrown ({ frames := 0, cells := 0, slots := 0, locals := 0 }) G [(cI, .int)] (wm cI oz loz liz siz shz saz nz camez cz gz louz Dz Sz shdz shsz thz) (wm cI oz loz liz siz shz saz nz camez cz gz louz Dz Sz shdz shsz thz) [.ref oz] thz := by
  refine zB_i (cc := cX2_thrown) (maxL := 1) (ret := (some .int)) (by decide) rfl (Nat.le_of_ble_eq_true rfl) ?_
  intro p e s m args below meth c0 A hF hr hlk hK hA hP hD hS ls hl
  have hx := hF.1
  have hb := hF.2.1
  have hown := hF.2.2.2.1
  have hts := hF.2.2.2.2
  have hf25 := hts (.fieldLink RX2 25 "SnoringDukesModel" "thrown" "I") (by decide +kernel)
  have hinX2 : ∀ wz ∈ wsX20, wz ∈ wsX2_thrown := by decide +kernel
  have hl : lv_has ls 1 [(0, .ref oz)] := hl
  refine lv_aload_n hx hb dX2_thrown_0 rfl (lv_at hl 0 rfl) ?_
  refine va_get (D := G) (ci := 2) (v := .int thz) (C := RX2) (T := TX2) (N := 10) hx hb hts hinX2 hown hK hP 0 rfl rfl 9 (by decide) hf25 (fun _ h9 => h9) rfl dX2_thrown_1 ?_
  exact zE_i hF hr hlk hK hP hD hS dX2_thrown_4
set_option maxHeartbeats 4000000 in
set_option maxRecDepth 100000 in
theorem m_isOf (l : Launch) (G : va_G) (v1 a1 b1 : Int32) : zC_i l yX2_isOf wsX2_isOf ({ frames := 0, cells := 0, slots := 0, locals := 0 }) G [] ([]) ([]) [.int v1, .int a1, .int b1] (bI (isO v1 a1 b1)) := by
  refine zB_i (cc := cX2_isOf) (maxL := 3) (ret := (some .boolean)) (by decide) rfl (Nat.le_of_ble_eq_true rfl) ?_
  intro p e s m args below meth c0 A hF hr hlk hK hA hP hD hS ls hl
  have hx := hF.1
  have hb := hF.2.1
  have hown := hF.2.2.2.1
  have hts := hF.2.2.2.2
  have hl : lv_has ls 3 [(0, .int v1), (1, .int a1), (2, .int b1)] := hl
  refine lv_iload_n hx hb dX2_isOf_0 rfl (lv_at hl 0 rfl) ?_
  refine lv_iload_n hx hb dX2_isOf_1 rfl (lv_at hl 1 rfl) ?_
  refine lv_icmp_lt (tgt := 14) hx hb dX2_isOf_2 (by decide) (fun hc2 => ?_) (fun hc2 => ?_)
  · skip
    refine lv_iconst (v := nI 0) hx hb dX2_isOf_14 (by decide) ?_
    rw [isO_f1 hc2]
    exact zE_z hF hr hlk (Or.inl rfl) hK hP hD hS dX2_isOf_15
  · skip
    refine lv_iload_n hx hb dX2_isOf_5 rfl (lv_at hl 0 rfl) ?_
    refine lv_iload_n hx hb dX2_isOf_6 rfl (lv_at hl 2 rfl) ?_
    refine lv_icmp_gt (tgt := 14) hx hb dX2_isOf_7 (by decide) (fun hc7 => ?_) (fun hc7 => ?_)
    · skip
      refine lv_iconst (v := nI 0) hx hb dX2_isOf_14 (by decide) ?_
      rw [isO_f2 hc7]
      exact zE_z hF hr hlk (Or.inl rfl) hK hP hD hS dX2_isOf_15
    · skip
      refine lv_iconst (v := nI 1) hx hb dX2_isOf_10 (by decide) ?_
      refine lv_goto (tgt := 15) hx hb dX2_isOf_11 (by decide) ?_
      rw [isO_t hc2 hc7]
      exact zE_z hF hr hlk (Or.inr rfl) hK hP hD hS dX2_isOf_15
set_option maxHeartbeats 4000000 in
set_option maxRecDepth 100000 in
theorem m_find (l : Launch) (G : va_G) (cI : ClassId) (oz loz liz siz shz saz : Nat) (nz camez : Nat) (cz gz : Int32) (louz Dz Sz shdz shsz : Fn) (thz : Int32) (hn : nz ≤ 63) (hc9 : camez ≤ 500) (hS1 : okS Sz) (hD1 : okD nz Dz) (xz : Int32) : zC_i l yX2_find wsX2_find ({ frames := 0, cells := 0, slots := 0, locals := 0 }) G [(cI, .int)] (wm cI oz loz liz siz shz saz nz camez cz gz louz Dz Sz shdz shsz thz) (wm cI oz loz liz siz shz saz nz camez cz gz louz Dz Sz shdz shsz thz) [.ref oz, .int xz] (fndI Dz nz xz) := by
  refine zB_i (cc := cX2_find) (maxL := 3) (ret := (some .int)) (by decide) rfl (Nat.le_of_ble_eq_true rfl) ?_
  intro p e s m args below meth c0 A hF hr hlk hK hA hP hD hS ls hl
  have hx := hF.1
  have hb := hF.2.1
  have hown := hF.2.2.2.1
  have hts := hF.2.2.2.2
  have hf29 := hts (.fieldLink RX2 29 "SnoringDukesModel" "many" "I") (by decide +kernel)
  have hf13 := hts (.fieldLink RX2 13 "SnoringDukesModel" "lies" "[I") (by decide +kernel)
  have hinX2 : ∀ wz ∈ wsX20, wz ∈ wsX2_find := by decide +kernel
  have hl : lv_has ls 3 [(0, .ref oz), (1, .int xz)] := hl
  refine lv_iconst (v := nI 0) hx hb dX2_find_0 (by decide) ?_
  refine lv_istore_n (lv' := [(2, .int (nI 0)), (0, .ref oz), (1, .int xz)]) hx hb dX2_find_1 rfl hl (by decide) rfl (fun ls hl => ?_)
  have loop : ∀ (f9 : Nat) (iz : Nat), (iz ≤ nz) → (∀ j, j < iz → Dz j ≠ xz) → nz - iz < f9 → ∀ (H : Heap) (locs : List Loc) (ls : Array Slot), va_P G vwCl (wm cI oz loz liz siz shz saz nz camez cz gz louz Dz Sz shdz shsz thz) H → va_D A (wm cI oz loz liz siz shz saz nz camez cz gz louz Dz Sz shdz shsz thz) → va_S A s.heap H locs → lv_has ls 3 [(0, .ref oz), (1, .int xz), (2, .int (nI iz))] → W p l e ({ frames := 0, cells := 0, slots := 0, locals := 0 }) s m args below meth c0 H locs 0 0 (zQ_i below G [(cI, .int)] (wm cI oz loz liz siz shz saz nz camez cz gz louz Dz Sz shdz shsz thz) (fndI Dz nz xz) A args s) (F0 m 2 ls []) := by
    intro f9
    induction f9 with
    | zero => intro iz hi hi2 hf; exact absurd hf (Nat.not_lt_zero _)
    | succ f9 ih =>
      intro iz hi hi2 hf H locs ls hP hD hS hl
      refine lv_iload_n hx hb dX2_find_2 rfl (lv_at hl 2 rfl) ?_
      refine lv_aload_n hx hb dX2_find_3 rfl (lv_at hl 0 rfl) ?_
      refine va_get (D := G) (ci := 2) (v := .int (nI nz)) (C := RX2) (T := TX2) (N := 10) hx hb hts hinX2 hown hK hP 0 rfl rfl 0 (by decide) hf29 (fun _ h9 => h9) rfl dX2_find_4 ?_
      refine lv_icmp_ge (tgt := 28) hx hb dX2_find_7 (by decide) (fun hc7 => ?_) (fun hc7 => ?_)
      · skip
        have k7 : nz ≤ iz := k_le (by omega) (by omega) hc7
        refine lv_iconst (v := (-1)) hx hb dX2_find_28 (by decide) ?_
        have e9 : fndI Dz nz xz = -1 := by unfold fndI; rw [if_neg (fnd_none (n := nz) (fun j hj => hi2 j (by omega)))]
        rw [e9]
        exact zE_i hF hr hlk hK hP hD hS dX2_find_29
      · skip
        have k7 : iz < nz := k_nle (by omega) (by omega) hc7
        refine lv_aload_n hx hb dX2_find_10 rfl (lv_at hl 0 rfl) ?_
        refine va_get (D := G) (ci := 2) (v := .ref liz) (C := RX2) (T := TX2) (N := 10) hx hb hts hinX2 hown hK hP 0 rfl rfl 5 (by decide) hf13 (fun _ h9 => h9) rfl dX2_find_11 ?_
        refine lv_iload_n hx hb dX2_find_14 rfl (lv_at hl 2 rfl) ?_
        refine zA_ld hx hb hK hP 2 0 rfl rfl (by omega) (by decide) dX2_find_15 ?_
        refine lv_iload_n hx hb dX2_find_16 rfl (lv_at hl 1 rfl) ?_
        refine lv_icmp_ne (tgt := 22) hx hb dX2_find_17 (by decide) (fun hc17 => ?_) (fun hc17 => ?_)
        · skip
          refine lv_iinc (v := nI (iz + 1)) (lv' := [(2, .int (nI (iz + 1))), (0, .ref oz), (1, .int xz)]) hx hb dX2_find_22 hl (k := 2) rfl (nI_1 _) (by decide) rfl (fun ls hl => ?_)
          refine lv_goto (tgt := 2) hx hb dX2_find_25 (by decide) ?_
          exact ih (iz + 1) k7 (fun j hj => by rcases Nat.lt_succ_iff_lt_or_eq.mp hj with qz | qz; exact hi2 j qz; rw [qz]; exact hc17) (by omega) _ _ _ hP hD hS (lv_sub hl [1, 2, 0] rfl)
        · skip
          refine lv_iload_n hx hb dX2_find_20 rfl (lv_at hl 2 rfl) ?_
          have e9 : fndI Dz nz xz = nI iz := by unfold fndI; rw [fnd_at k7 hc17 hi2, if_pos k7]
          rw [e9]
          exact zE_i hF hr hlk hK hP hD hS dX2_find_21
  exact loop (nz + 1) 0 (Nat.zero_le _) (fun j hj => absurd hj (Nat.not_lt_zero _)) (by omega) _ _ _ hP hD hS (lv_sub hl [1, 2, 0] rfl)
set_option maxHeartbeats 4000000 in
set_option maxRecDepth 100000 in
theorem m_left (l : Launch) (G : va_G) (cI : ClassId) (oz loz liz siz shz saz : Nat) (nz camez : Nat) (cz gz : Int32) (louz Dz Sz shdz shsz : Fn) (thz : Int32) (hn : nz ≤ 63) (hc9 : camez ≤ 500) (hS1 : okS Sz) (hD1 : okD nz Dz) (bz : Nat) (hb9 : bz < 63) : zC_i l yX2_left wsX2_left ({ frames := 0, cells := 0, slots := 0, locals := 0 }) G [(cI, .int)] (wm cI oz loz liz siz shz saz nz camez cz gz louz Dz Sz shdz shsz thz) (wm cI oz loz liz siz shz saz nz camez cz gz louz Dz Sz shdz shsz thz) [.ref oz, .int (nI bz)] (nI (2 * bz + sd Sz bz)) := by
  refine zB_i (cc := cX2_left) (maxL := 2) (ret := (some .int)) (by decide) rfl (Nat.le_of_ble_eq_true rfl) ?_
  intro p e s m args below meth c0 A hF hr hlk hK hA hP hD hS ls hl
  have hx := hF.1
  have hb := hF.2.1
  have hown := hF.2.2.2.1
  have hts := hF.2.2.2.2
  have hf16 := hts (.fieldLink RX2 16 "SnoringDukesModel" "side" "[I") (by decide +kernel)
  have hinX2 : ∀ wz ∈ wsX20, wz ∈ wsX2_left := by decide +kernel
  have hl : lv_has ls 2 [(0, .ref oz), (1, .int (nI bz))] := hl
  refine lv_iconst (v := nI 2) hx hb dX2_left_0 (by decide) ?_
  refine lv_iload_n hx hb dX2_left_1 rfl (lv_at hl 1 rfl) ?_
  refine lv_imul hx hb dX2_left_2 ?_
  refine zN (nI (2 * bz)) (y := ((nI 2) * (nI bz))) (pk_mul _ _) ?_
  refine lv_aload_n hx hb dX2_left_3 rfl (lv_at hl 0 rfl) ?_
  refine va_get (D := G) (ci := 2) (v := .ref siz) (C := RX2) (T := TX2) (N := 10) hx hb hts hinX2 hown hK hP 0 rfl rfl 6 (by decide) hf16 (fun _ h9 => h9) rfl dX2_left_4 ?_
  refine lv_iload_n hx hb dX2_left_7 rfl (lv_at hl 1 rfl) ?_
  refine zA_ld hx hb hK hP 3 0 rfl rfl (by omega) (by decide) dX2_left_8 ?_
  refine zN (nI (sd Sz bz)) (y := (Sz bz)) (sd_nI hS1 bz) ?_
  refine lv_iadd hx hb dX2_left_9 ?_
  refine zN (nI ((2 * bz) + (sd Sz bz))) (y := ((nI (2 * bz)) + (nI (sd Sz bz)))) (nI_add _ _) ?_
  exact zE_i hF hr hlk hK hP hD hS dX2_left_10
set_option maxHeartbeats 4000000 in
set_option maxRecDepth 100000 in
theorem m_elder (l : Launch) (G : va_G) (cI : ClassId) (oz loz liz siz shz saz : Nat) (nz camez : Nat) (cz gz : Int32) (louz Dz Sz shdz shsz : Fn) (thz : Int32) (hn : nz ≤ 63) (hc9 : camez ≤ 500) (hS1 : okS Sz) (hD1 : okD nz Dz) (bz : Nat) (hb0 : 1 ≤ bz) (hb9 : bz < 63) : zC_i l yX2_elder wsX2_elder ({ frames := 1, cells := 0, slots := 0, locals := 21 }) G [(cI, .int)] (wm cI oz loz liz siz shz saz nz camez cz gz louz Dz Sz shdz shsz thz) (wm cI oz loz liz siz shz saz nz camez cz gz louz Dz Sz shdz shsz thz) [.ref oz, .int (nI bz)] (nI (eld Sz bz)) := by
  refine zB_i (cc := cX2_elder) (maxL := 3) (ret := (some .int)) (by decide) rfl (Nat.le_of_ble_eq_true rfl) ?_
  intro p e s m args below meth c0 A hF hr hlk hK hA hP hD hS ls hl
  have hx := hF.1
  have hb := hF.2.1
  have hown := hF.2.2.2.1
  have hts := hF.2.2.2.2
  have hl : lv_has ls 3 [(0, .ref oz), (1, .int (nI bz))] := hl
  refine lv_iload_n hx hb dX2_elder_0 rfl (lv_at hl 1 rfl) ?_
  refine lv_istore_n (lv' := [(2, .int (nI bz)), (0, .ref oz), (1, .int (nI bz))]) hx hb dX2_elder_1 rfl hl (by decide) rfl (fun ls hl => ?_)
  have loop : ∀ (f9 : Nat) (at9 : Nat), (1 ≤ at9) → (at9 ≤ bz) → (eld Sz at9 = eld Sz bz) → at9 < f9 → ∀ (H : Heap) (locs : List Loc) (ls : Array Slot), va_P G vwCl (wm cI oz loz liz siz shz saz nz camez cz gz louz Dz Sz shdz shsz thz) H → va_D A (wm cI oz loz liz siz shz saz nz camez cz gz louz Dz Sz shdz shsz thz) → va_S A s.heap H locs → lv_has ls 3 [(0, .ref oz), (1, .int (nI bz)), (2, .int (nI at9))] → W p l e ({ frames := 1, cells := 0, slots := 0, locals := 21 }) s m args below meth c0 H locs 0 0 (zQ_i below G [(cI, .int)] (wm cI oz loz liz siz shz saz nz camez cz gz louz Dz Sz shdz shsz thz) (nI (eld Sz bz)) A args s) (F0 m 2 ls []) := by
    intro f9
    induction f9 with
    | zero => intro at9 h0 h1 h2 hf; exact absurd hf (Nat.not_lt_zero _)
    | succ f9 ih =>
      intro at9 h0 h1 h2 hf H locs ls hP hD hS hl
      have z1 := sd_le Sz (at9 / 2)
      refine lv_iload_n hx hb dX2_elder_2 rfl (lv_at hl 2 rfl) ?_
      refine lv_aload_n hx hb dX2_elder_3 rfl (lv_at hl 0 rfl) ?_
      refine lv_iload_n hx hb dX2_elder_4 rfl (lv_at hl 2 rfl) ?_
      refine lv_iconst (v := nI 2) hx hb dX2_elder_5 (by decide) ?_
      refine lv_idiv hx hb dX2_elder_6 (by decide) ?_
      refine zN (nI (at9 / 2)) (y := ((nI at9) / (nI 2))) (pk_div (by omega) (by decide) (by decide)) ?_
      refine zK_vi (As := [.int (nI (at9 / 2))]) (rest := [.int (nI at9)]) hF (m_left l G cI oz loz liz siz shz saz nz camez cz gz louz Dz Sz shdz shsz thz (by omega) (by omega) hS1 hD1 (at9 / 2) (by omega)) (cwV 1 hts gX2_elder_X2_left rfl rfl rfl (by decide +kernel) ⟨Nat.le_of_ble_eq_true rfl, Nat.le_of_ble_eq_true rfl⟩) hK hP hD hS hA (ci := 2) (q0 := 0) rfl rfl rfl (isC := [0, 1, 2, 3, 4, 5]) (isR := []) (perm := [0, 1, 2, 3, 4, 5]) (wr := []) (wN := wm cI oz loz liz siz shz saz nz camez cz gz louz Dz Sz shdz shsz thz) ⟨rfl, by decide, rfl, rfl, (fun _ hz => by cases hz), rfl, by decide⟩ [0] rfl rfl hl.1 rfl (Nat.le_of_ble_eq_true rfl) dX2_elder_7 ⟨Nat.le_refl _, Nat.le_refl _⟩ (fun H locs hP hD hS => ?_)
      refine lv_icmp_ne (tgt := 20) hx hb dX2_elder_10 (by decide) (fun hc10 => ?_) (fun hc10 => ?_)
      · skip
        have k10 : at9 ≠ (2 * (at9 / 2) + sd Sz (at9 / 2)) := k_ne (by omega) (by omega) hc10
        refine lv_iload_n hx hb dX2_elder_20 rfl (lv_at hl 2 rfl) ?_
        refine lv_iconst (v := nI 2) hx hb dX2_elder_21 (by decide) ?_
        refine lv_idiv hx hb dX2_elder_22 (by decide) ?_
        refine zN (nI (at9 / 2)) (y := ((nI at9) / (nI 2))) (pk_div (by omega) (by decide) (by decide)) ?_
        have e9 : at9 / 2 = eld Sz bz := by
          rw [← h2]
          by_cases z9 : at9 ≤ 1
          · rw [eld_1 z9]; omega
          · rw [eld_st z9 (by omega)]
        rw [← e9]
        exact zE_i hF hr hlk hK hP hD hS dX2_elder_23
      · skip
        have k10 : at9 = (2 * (at9 / 2) + sd Sz (at9 / 2)) := k_eq (by omega) (by omega) hc10
        have z9 : ¬ at9 ≤ 1 := fun zz => by
          have e7 : at9 / 2 = 0 := by omega
          rw [e7, sd_0 hS1] at k10
          omega
        refine lv_iload_n hx hb dX2_elder_13 rfl (lv_at hl 2 rfl) ?_
        refine lv_iconst (v := nI 2) hx hb dX2_elder_14 (by decide) ?_
        refine lv_idiv hx hb dX2_elder_15 (by decide) ?_
        refine zN (nI (at9 / 2)) (y := ((nI at9) / (nI 2))) (pk_div (by omega) (by decide) (by decide)) ?_
        refine lv_istore_n (lv' := [(2, .int (nI (at9 / 2))), (0, .ref oz), (1, .int (nI bz))]) hx hb dX2_elder_16 rfl hl (by decide) rfl (fun ls hl => ?_)
        refine lv_goto (tgt := 2) hx hb dX2_elder_17 (by decide) ?_
        exact ih (at9 / 2) (by omega) (by omega) ((eld_up (b := at9) (by omega) (by omega)).symm.trans h2) (by omega) _ _ _ hP hD hS (lv_sub hl [1, 2, 0] rfl)
  exact loop (bz + 1) bz hb0 (Nat.le_refl _) rfl (by omega) _ _ _ hP hD hS (lv_sub hl [1, 2, 0] rfl)
set_option maxHeartbeats 4000000 in
set_option maxRecDepth 100000 in
theorem m_joins (l : Launch) (G : va_G) (cI : ClassId) (oz loz liz siz shz saz : Nat) (nz camez : Nat) (cz gz : Int32) (louz Dz Sz shdz shsz : Fn) (thz : Int32) (hn : nz ≤ 63) (hc9 : camez ≤ 500) (hS1 : okS Sz) (hD1 : okD nz Dz) (e1 j1 : Nat) (he : e1 < nz) (hj : j1 < nz) (sure : Bool) : zC_i l yX2_joins wsX2_joins ({ frames := 0, cells := 0, slots := 0, locals := 0 }) G [(cI, .int)] (wm cI oz loz liz siz shz saz nz camez cz gz louz Dz Sz shdz shsz thz) (wm cI oz loz liz siz shz saz nz camez (wc (joinF sure (vM louz Dz Sz nz cz gz) e1 j1)) (wg (joinF sure (vM louz Dz Sz nz cz gz) e1 j1)) louz (wD (joinF sure (vM louz Dz Sz nz cz gz) e1 j1)) (wS (joinF sure (vM louz Dz Sz nz cz gz) e1 j1)) shdz shsz thz) [.ref oz, .int (nI e1), .int (nI j1), .int (bI sure)] (bI (jc sure (vM louz Dz Sz nz cz gz) e1 j1)) := by
  refine zB_i (cc := cX2_joins) (maxL := 6) (ret := (some .boolean)) (by decide) rfl (Nat.le_of_ble_eq_true rfl) ?_
  intro p e s m args below meth c0 A hF hr hlk hK hA hP hD hS ls hl
  have hx := hF.1
  have hb := hF.2.1
  have hown := hF.2.2.2.1
  have hts := hF.2.2.2.2
  have hf36 := hts (.fieldLink RX2 36 "SnoringDukesModel" "compared" "I") (by decide +kernel)
  have hf7 := hts (.fieldLink RX2 7 "SnoringDukesModel" "loud" "[I") (by decide +kernel)
  have hf13 := hts (.fieldLink RX2 13 "SnoringDukesModel" "lies" "[I") (by decide +kernel)
  have hf16 := hts (.fieldLink RX2 16 "SnoringDukesModel" "side" "[I") (by decide +kernel)
  have hf39 := hts (.fieldLink RX2 39 "SnoringDukesModel" "changed" "I") (by decide +kernel)
  have hinX2 : ∀ wz ∈ wsX20, wz ∈ wsX2_joins := by decide +kernel
  have hl : lv_has ls 6 [(0, .ref oz), (1, .int (nI e1)), (2, .int (nI j1)), (3, .int (bI sure))] := hl
  obtain ⟨ke, hke, hDe⟩ := hD1 e1 he
  obtain ⟨kj, hkj, hDj⟩ := hD1 j1 hj
  have e5 : jc sure (vM louz Dz Sz nz cz gz) e1 j1 = (sure || decide (louz kj < louz ke)) := by unfold jc; show (sure || decide (louz (Dz j1).toNatClampNeg < louz (Dz e1).toNatClampNeg)) = _; rw [hDe, hDj, nI_clamp (by omega), nI_clamp (by omega)]
  refine lv_aload_n hx hb dX2_joins_0 rfl (lv_at hl 0 rfl) ?_
  refine lv_dup hx hb dX2_joins_1 rfl ?_
  refine va_get (D := G) (ci := 2) (v := .int cz) (C := RX2) (T := TX2) (N := 10) hx hb hts hinX2 hown hK hP 0 rfl rfl 2 (by decide) hf36 (fun _ h9 => h9) rfl dX2_joins_2 ?_
  refine lv_iconst (v := nI 1) hx hb dX2_joins_5 (by decide) ?_
  refine lv_iadd hx hb dX2_joins_6 ?_
  refine va_put (D := G) (ci := 2) (v := .int (cz + (nI 1))) (ty := .int) (C := RX2) (T := TX2) (N := 10) hx hb hts hinX2 tyX2 tyX2_ok nmX2 hown hK hP hD hS 0 rfl rfl 2 (by decide) hf36 (fun _ h9 => h9) rfl (by decide +kernel) rfl rfl (Nat.le_of_ble_eq_true rfl) dX2_joins_7 (fun H locs hP hD hS => ?_)
  have hP : va_P G vwCl (wm cI oz loz liz siz shz saz nz camez (cz + (nI 1)) gz louz Dz Sz shdz shsz thz) H := hP
  have hD : va_D A (wm cI oz loz liz siz shz saz nz camez (cz + (nI 1)) gz louz Dz Sz shdz shsz thz) := hD
  refine lv_iload_n hx hb dX2_joins_10 rfl (lv_at hl 3 rfl) ?_
  refine lv_if_ne (tgt := 39) hx hb dX2_joins_11 (by decide) (fun hc11 => ?_) (fun hc11 => ?_)
  · skip
    have k11 : sure = true := bI_ne.mp hc11
    refine lv_iconst (v := nI 1) hx hb dX2_joins_39 (by decide) ?_
    refine lv_goto (tgt := 44) hx hb dX2_joins_40 (by decide) ?_
    have e8 : jc sure (vM louz Dz Sz nz cz gz) e1 j1 = true := by rw [e5, k11]; rfl
    refine lv_istore (lv' := [(4, .int (nI 1)), (0, .ref oz), (1, .int (nI e1)), (2, .int (nI j1)), (3, .int (bI sure))]) hx hb dX2_joins_44 hl (by decide) rfl (fun ls hl => ?_)
    refine lv_iload hx hb dX2_joins_46 (lv_at hl 0 rfl) ?_
    refine lv_if_eq (tgt := 103) hx hb dX2_joins_48 (by decide) (fun hc48 => ?_) (fun hc48 => ?_)
    · exact absurd hc48 (by decide)
    · skip
      have k48 : 0 < 1 := k0_ne (by omega) hc48
      refine lv_aload_n hx hb dX2_joins_51 rfl (lv_at hl 1 rfl) ?_
      refine va_get (D := G) (ci := 2) (v := .ref liz) (C := RX2) (T := TX2) (N := 10) hx hb hts hinX2 hown hK hP 0 rfl rfl 5 (by decide) hf13 (fun _ h9 => h9) rfl dX2_joins_52 ?_
      refine lv_iload_n hx hb dX2_joins_55 rfl (lv_at hl 3 rfl) ?_
      refine zA_ld hx hb hK hP 2 0 rfl rfl (by omega) (by decide) dX2_joins_56 ?_
      refine lv_istore (lv' := [(5, .int (Dz j1)), (4, .int (nI 1)), (0, .ref oz), (1, .int (nI e1)), (2, .int (nI j1)), (3, .int (bI sure))]) hx hb dX2_joins_57 hl (by decide) rfl (fun ls hl => ?_)
      refine lv_aload_n hx hb dX2_joins_59 rfl (lv_at hl 2 rfl) ?_
      refine va_get (D := G) (ci := 2) (v := .ref liz) (C := RX2) (T := TX2) (N := 10) hx hb hts hinX2 hown hK hP 0 rfl rfl 5 (by decide) hf13 (fun _ h9 => h9) rfl dX2_joins_60 ?_
      refine lv_iload_n hx hb dX2_joins_63 rfl (lv_at hl 4 rfl) ?_
      refine lv_aload_n hx hb dX2_joins_64 rfl (lv_at hl 2 rfl) ?_
      refine va_get (D := G) (ci := 2) (v := .ref liz) (C := RX2) (T := TX2) (N := 10) hx hb hts hinX2 hown hK hP 0 rfl rfl 5 (by decide) hf13 (fun _ h9 => h9) rfl dX2_joins_65 ?_
      refine lv_iload_n hx hb dX2_joins_68 rfl (lv_at hl 3 rfl) ?_
      refine zA_ld hx hb hK hP 2 0 rfl rfl (by omega) (by decide) dX2_joins_69 ?_
      refine zA_st (x := Dz e1) hx hb hK hP hD hS 2 0 rfl rfl (by omega) (by decide) dX2_joins_70 (fun H locs hP hD hS => ?_)
      have hP : va_P G vwCl (wm cI oz loz liz siz shz saz nz camez (cz + (nI 1)) gz louz (upd Dz j1 (Dz e1)) Sz shdz shsz thz) H := hP
      have hD : va_D A (wm cI oz loz liz siz shz saz nz camez (cz + (nI 1)) gz louz (upd Dz j1 (Dz e1)) Sz shdz shsz thz) := hD
      refine lv_aload_n hx hb dX2_joins_71 rfl (lv_at hl 2 rfl) ?_
      refine va_get (D := G) (ci := 2) (v := .ref liz) (C := RX2) (T := TX2) (N := 10) hx hb hts hinX2 hown hK hP 0 rfl rfl 5 (by decide) hf13 (fun _ h9 => h9) rfl dX2_joins_72 ?_
      refine lv_iload_n hx hb dX2_joins_75 rfl (lv_at hl 3 rfl) ?_
      refine lv_iload hx hb dX2_joins_76 (lv_at hl 0 rfl) ?_
      refine zA_st (x := Dz j1) hx hb hK hP hD hS 2 0 rfl rfl (by omega) (by decide) dX2_joins_78 (fun H locs hP hD hS => ?_)
      have hP : va_P G vwCl (wm cI oz loz liz siz shz saz nz camez (cz + (nI 1)) gz louz (upd (upd Dz j1 (Dz e1)) e1 (Dz j1)) Sz shdz shsz thz) H := hP
      have hD : va_D A (wm cI oz loz liz siz shz saz nz camez (cz + (nI 1)) gz louz (upd (upd Dz j1 (Dz e1)) e1 (Dz j1)) Sz shdz shsz thz) := hD
      refine lv_aload_n hx hb dX2_joins_79 rfl (lv_at hl 2 rfl) ?_
      refine va_get (D := G) (ci := 2) (v := .ref siz) (C := RX2) (T := TX2) (N := 10) hx hb hts hinX2 hown hK hP 0 rfl rfl 6 (by decide) hf16 (fun _ h9 => h9) rfl dX2_joins_80 ?_
      refine lv_iload_n hx hb dX2_joins_83 rfl (lv_at hl 4 rfl) ?_
      refine lv_iconst (v := nI 1) hx hb dX2_joins_84 (by decide) ?_
      refine lv_aload_n hx hb dX2_joins_85 rfl (lv_at hl 2 rfl) ?_
      refine va_get (D := G) (ci := 2) (v := .ref siz) (C := RX2) (T := TX2) (N := 10) hx hb hts hinX2 hown hK hP 0 rfl rfl 6 (by decide) hf16 (fun _ h9 => h9) rfl dX2_joins_86 ?_
      refine lv_iload_n hx hb dX2_joins_89 rfl (lv_at hl 4 rfl) ?_
      refine zA_ld hx hb hK hP 3 0 rfl rfl (by omega) (by decide) dX2_joins_90 ?_
      refine lv_isub hx hb dX2_joins_91 ?_
      refine zA_st (x := (nI 1) - (Sz j1)) hx hb hK hP hD hS 3 0 rfl rfl (by omega) (by decide) dX2_joins_92 (fun H locs hP hD hS => ?_)
      have hP : va_P G vwCl (wm cI oz loz liz siz shz saz nz camez (cz + (nI 1)) gz louz (upd (upd Dz j1 (Dz e1)) e1 (Dz j1)) (upd Sz j1 ((nI 1) - (Sz j1))) shdz shsz thz) H := hP
      have hD : va_D A (wm cI oz loz liz siz shz saz nz camez (cz + (nI 1)) gz louz (upd (upd Dz j1 (Dz e1)) e1 (Dz j1)) (upd Sz j1 ((nI 1) - (Sz j1))) shdz shsz thz) := hD
      refine lv_aload_n hx hb dX2_joins_93 rfl (lv_at hl 2 rfl) ?_
      refine lv_dup hx hb dX2_joins_94 rfl ?_
      refine va_get (D := G) (ci := 2) (v := .int gz) (C := RX2) (T := TX2) (N := 10) hx hb hts hinX2 hown hK hP 0 rfl rfl 3 (by decide) hf39 (fun _ h9 => h9) rfl dX2_joins_95 ?_
      refine lv_iconst (v := nI 1) hx hb dX2_joins_98 (by decide) ?_
      refine lv_iadd hx hb dX2_joins_99 ?_
      refine va_put (D := G) (ci := 2) (v := .int (gz + (nI 1))) (ty := .int) (C := RX2) (T := TX2) (N := 10) hx hb hts hinX2 tyX2 tyX2_ok nmX2 hown hK hP hD hS 0 rfl rfl 3 (by decide) hf39 (fun _ h9 => h9) rfl (by decide +kernel) rfl rfl (Nat.le_of_ble_eq_true rfl) dX2_joins_100 (fun H locs hP hD hS => ?_)
      have hP : va_P G vwCl (wm cI oz loz liz siz shz saz nz camez (cz + (nI 1)) (gz + (nI 1)) louz (upd (upd Dz j1 (Dz e1)) e1 (Dz j1)) (upd Sz j1 ((nI 1) - (Sz j1))) shdz shsz thz) H := hP
      have hD : va_D A (wm cI oz loz liz siz shz saz nz camez (cz + (nI 1)) (gz + (nI 1)) louz (upd (upd Dz j1 (Dz e1)) e1 (Dz j1)) (upd Sz j1 ((nI 1) - (Sz j1))) shdz shsz thz) := hD
      refine lv_iload hx hb dX2_joins_103 (lv_at hl 1 rfl) ?_
      have e7 : joinF sure (vM louz Dz Sz nz cz gz) e1 j1 = vM louz (exF Dz e1 j1) (upd Sz j1 (nI 1 - Sz j1)) nz (cz + nI 1) (gz + nI 1) := by rw [joinM, e8]; rfl
      rw [e7, e8]
      have e6 : upd (upd Dz j1 (Dz e1)) e1 (Dz j1) = exF Dz e1 j1 := exF_sw Dz e1 j1
      rw [e6] at hP hD
      exact zE_z hF hr hlk (Or.inr rfl) hK hP hD hS dX2_joins_105
  · skip
    have k11 : sure = false := bI_e0.mp hc11
    refine lv_aload_n hx hb dX2_joins_14 rfl (lv_at hl 0 rfl) ?_
    refine va_get (D := G) (ci := 2) (v := .ref loz) (C := RX2) (T := TX2) (N := 10) hx hb hts hinX2 hown hK hP 0 rfl rfl 4 (by decide) hf7 (fun _ h9 => h9) rfl dX2_joins_15 ?_
    refine lv_aload_n hx hb dX2_joins_18 rfl (lv_at hl 0 rfl) ?_
    refine va_get (D := G) (ci := 2) (v := .ref liz) (C := RX2) (T := TX2) (N := 10) hx hb hts hinX2 hown hK hP 0 rfl rfl 5 (by decide) hf13 (fun _ h9 => h9) rfl dX2_joins_19 ?_
    refine lv_iload_n hx hb dX2_joins_22 rfl (lv_at hl 2 rfl) ?_
    refine zA_ld hx hb hK hP 2 0 rfl rfl (by omega) (by decide) dX2_joins_23 ?_
    refine zN (nI kj) (y := (Dz j1)) (hDj) ?_
    refine zA_ld hx hb hK hP 1 0 rfl rfl (by omega) (by decide) dX2_joins_24 ?_
    refine lv_aload_n hx hb dX2_joins_25 rfl (lv_at hl 0 rfl) ?_
    refine va_get (D := G) (ci := 2) (v := .ref loz) (C := RX2) (T := TX2) (N := 10) hx hb hts hinX2 hown hK hP 0 rfl rfl 4 (by decide) hf7 (fun _ h9 => h9) rfl dX2_joins_26 ?_
    refine lv_aload_n hx hb dX2_joins_29 rfl (lv_at hl 0 rfl) ?_
    refine va_get (D := G) (ci := 2) (v := .ref liz) (C := RX2) (T := TX2) (N := 10) hx hb hts hinX2 hown hK hP 0 rfl rfl 5 (by decide) hf13 (fun _ h9 => h9) rfl dX2_joins_30 ?_
    refine lv_iload_n hx hb dX2_joins_33 rfl (lv_at hl 1 rfl) ?_
    refine zA_ld hx hb hK hP 2 0 rfl rfl (by omega) (by decide) dX2_joins_34 ?_
    refine zN (nI ke) (y := (Dz e1)) (hDe) ?_
    refine zA_ld hx hb hK hP 1 0 rfl rfl (by omega) (by decide) dX2_joins_35 ?_
    refine lv_icmp_ge (tgt := 43) hx hb dX2_joins_36 (by decide) (fun hc36 => ?_) (fun hc36 => ?_)
    · skip
      refine lv_iconst (v := nI 0) hx hb dX2_joins_43 (by decide) ?_
      have e8 : jc sure (vM louz Dz Sz nz cz gz) e1 j1 = false := by rw [e5, k11, decide_eq_false (fa_nle hc36)]; rfl
      refine lv_istore (lv' := [(4, .int (nI 0)), (0, .ref oz), (1, .int (nI e1)), (2, .int (nI j1)), (3, .int (bI sure))]) hx hb dX2_joins_44 hl (by decide) rfl (fun ls hl => ?_)
      refine lv_iload hx hb dX2_joins_46 (lv_at hl 0 rfl) ?_
      refine lv_if_eq (tgt := 103) hx hb dX2_joins_48 (by decide) (fun hc48 => ?_) (fun hc48 => ?_)
      · skip
        have k48 : 0 = 0 := k0_eq (by omega) hc48
        refine lv_iload hx hb dX2_joins_103 (lv_at hl 0 rfl) ?_
        have e7 : joinF sure (vM louz Dz Sz nz cz gz) e1 j1 = vM louz Dz Sz nz (cz + nI 1) gz := by rw [joinM, e8]; rfl
        rw [e7, e8]
        exact zE_z hF hr hlk (Or.inl rfl) hK hP hD hS dX2_joins_105
      · exact absurd hc48 (by decide)
    · skip
      refine lv_iconst (v := nI 1) hx hb dX2_joins_39 (by decide) ?_
      refine lv_goto (tgt := 44) hx hb dX2_joins_40 (by decide) ?_
      have e8 : jc sure (vM louz Dz Sz nz cz gz) e1 j1 = true := by rw [e5, decide_eq_true (fa_nlt hc36), Bool.or_true]
      refine lv_istore (lv' := [(4, .int (nI 1)), (0, .ref oz), (1, .int (nI e1)), (2, .int (nI j1)), (3, .int (bI sure))]) hx hb dX2_joins_44 hl (by decide) rfl (fun ls hl => ?_)
      refine lv_iload hx hb dX2_joins_46 (lv_at hl 0 rfl) ?_
      refine lv_if_eq (tgt := 103) hx hb dX2_joins_48 (by decide) (fun hc48 => ?_) (fun hc48 => ?_)
      · exact absurd hc48 (by decide)
      · skip
        have k48 : 0 < 1 := k0_ne (by omega) hc48
        refine lv_aload_n hx hb dX2_joins_51 rfl (lv_at hl 1 rfl) ?_
        refine va_get (D := G) (ci := 2) (v := .ref liz) (C := RX2) (T := TX2) (N := 10) hx hb hts hinX2 hown hK hP 0 rfl rfl 5 (by decide) hf13 (fun _ h9 => h9) rfl dX2_joins_52 ?_
        refine lv_iload_n hx hb dX2_joins_55 rfl (lv_at hl 3 rfl) ?_
        refine zA_ld hx hb hK hP 2 0 rfl rfl (by omega) (by decide) dX2_joins_56 ?_
        refine lv_istore (lv' := [(5, .int (Dz j1)), (4, .int (nI 1)), (0, .ref oz), (1, .int (nI e1)), (2, .int (nI j1)), (3, .int (bI sure))]) hx hb dX2_joins_57 hl (by decide) rfl (fun ls hl => ?_)
        refine lv_aload_n hx hb dX2_joins_59 rfl (lv_at hl 2 rfl) ?_
        refine va_get (D := G) (ci := 2) (v := .ref liz) (C := RX2) (T := TX2) (N := 10) hx hb hts hinX2 hown hK hP 0 rfl rfl 5 (by decide) hf13 (fun _ h9 => h9) rfl dX2_joins_60 ?_
        refine lv_iload_n hx hb dX2_joins_63 rfl (lv_at hl 4 rfl) ?_
        refine lv_aload_n hx hb dX2_joins_64 rfl (lv_at hl 2 rfl) ?_
        refine va_get (D := G) (ci := 2) (v := .ref liz) (C := RX2) (T := TX2) (N := 10) hx hb hts hinX2 hown hK hP 0 rfl rfl 5 (by decide) hf13 (fun _ h9 => h9) rfl dX2_joins_65 ?_
        refine lv_iload_n hx hb dX2_joins_68 rfl (lv_at hl 3 rfl) ?_
        refine zA_ld hx hb hK hP 2 0 rfl rfl (by omega) (by decide) dX2_joins_69 ?_
        refine zA_st (x := Dz e1) hx hb hK hP hD hS 2 0 rfl rfl (by omega) (by decide) dX2_joins_70 (fun H locs hP hD hS => ?_)
        have hP : va_P G vwCl (wm cI oz loz liz siz shz saz nz camez (cz + (nI 1)) gz louz (upd Dz j1 (Dz e1)) Sz shdz shsz thz) H := hP
        have hD : va_D A (wm cI oz loz liz siz shz saz nz camez (cz + (nI 1)) gz louz (upd Dz j1 (Dz e1)) Sz shdz shsz thz) := hD
        refine lv_aload_n hx hb dX2_joins_71 rfl (lv_at hl 2 rfl) ?_
        refine va_get (D := G) (ci := 2) (v := .ref liz) (C := RX2) (T := TX2) (N := 10) hx hb hts hinX2 hown hK hP 0 rfl rfl 5 (by decide) hf13 (fun _ h9 => h9) rfl dX2_joins_72 ?_
        refine lv_iload_n hx hb dX2_joins_75 rfl (lv_at hl 3 rfl) ?_
        refine lv_iload hx hb dX2_joins_76 (lv_at hl 0 rfl) ?_
        refine zA_st (x := Dz j1) hx hb hK hP hD hS 2 0 rfl rfl (by omega) (by decide) dX2_joins_78 (fun H locs hP hD hS => ?_)
        have hP : va_P G vwCl (wm cI oz loz liz siz shz saz nz camez (cz + (nI 1)) gz louz (upd (upd Dz j1 (Dz e1)) e1 (Dz j1)) Sz shdz shsz thz) H := hP
        have hD : va_D A (wm cI oz loz liz siz shz saz nz camez (cz + (nI 1)) gz louz (upd (upd Dz j1 (Dz e1)) e1 (Dz j1)) Sz shdz shsz thz) := hD
        refine lv_aload_n hx hb dX2_joins_79 rfl (lv_at hl 2 rfl) ?_
        refine va_get (D := G) (ci := 2) (v := .ref siz) (C := RX2) (T := TX2) (N := 10) hx hb hts hinX2 hown hK hP 0 rfl rfl 6 (by decide) hf16 (fun _ h9 => h9) rfl dX2_joins_80 ?_
        refine lv_iload_n hx hb dX2_joins_83 rfl (lv_at hl 4 rfl) ?_
        refine lv_iconst (v := nI 1) hx hb dX2_joins_84 (by decide) ?_
        refine lv_aload_n hx hb dX2_joins_85 rfl (lv_at hl 2 rfl) ?_
        refine va_get (D := G) (ci := 2) (v := .ref siz) (C := RX2) (T := TX2) (N := 10) hx hb hts hinX2 hown hK hP 0 rfl rfl 6 (by decide) hf16 (fun _ h9 => h9) rfl dX2_joins_86 ?_
        refine lv_iload_n hx hb dX2_joins_89 rfl (lv_at hl 4 rfl) ?_
        refine zA_ld hx hb hK hP 3 0 rfl rfl (by omega) (by decide) dX2_joins_90 ?_
        refine lv_isub hx hb dX2_joins_91 ?_
        refine zA_st (x := (nI 1) - (Sz j1)) hx hb hK hP hD hS 3 0 rfl rfl (by omega) (by decide) dX2_joins_92 (fun H locs hP hD hS => ?_)
        have hP : va_P G vwCl (wm cI oz loz liz siz shz saz nz camez (cz + (nI 1)) gz louz (upd (upd Dz j1 (Dz e1)) e1 (Dz j1)) (upd Sz j1 ((nI 1) - (Sz j1))) shdz shsz thz) H := hP
        have hD : va_D A (wm cI oz loz liz siz shz saz nz camez (cz + (nI 1)) gz louz (upd (upd Dz j1 (Dz e1)) e1 (Dz j1)) (upd Sz j1 ((nI 1) - (Sz j1))) shdz shsz thz) := hD
        refine lv_aload_n hx hb dX2_joins_93 rfl (lv_at hl 2 rfl) ?_
        refine lv_dup hx hb dX2_joins_94 rfl ?_
        refine va_get (D := G) (ci := 2) (v := .int gz) (C := RX2) (T := TX2) (N := 10) hx hb hts hinX2 hown hK hP 0 rfl rfl 3 (by decide) hf39 (fun _ h9 => h9) rfl dX2_joins_95 ?_
        refine lv_iconst (v := nI 1) hx hb dX2_joins_98 (by decide) ?_
        refine lv_iadd hx hb dX2_joins_99 ?_
        refine va_put (D := G) (ci := 2) (v := .int (gz + (nI 1))) (ty := .int) (C := RX2) (T := TX2) (N := 10) hx hb hts hinX2 tyX2 tyX2_ok nmX2 hown hK hP hD hS 0 rfl rfl 3 (by decide) hf39 (fun _ h9 => h9) rfl (by decide +kernel) rfl rfl (Nat.le_of_ble_eq_true rfl) dX2_joins_100 (fun H locs hP hD hS => ?_)
        have hP : va_P G vwCl (wm cI oz loz liz siz shz saz nz camez (cz + (nI 1)) (gz + (nI 1)) louz (upd (upd Dz j1 (Dz e1)) e1 (Dz j1)) (upd Sz j1 ((nI 1) - (Sz j1))) shdz shsz thz) H := hP
        have hD : va_D A (wm cI oz loz liz siz shz saz nz camez (cz + (nI 1)) (gz + (nI 1)) louz (upd (upd Dz j1 (Dz e1)) e1 (Dz j1)) (upd Sz j1 ((nI 1) - (Sz j1))) shdz shsz thz) := hD
        refine lv_iload hx hb dX2_joins_103 (lv_at hl 1 rfl) ?_
        have e7 : joinF sure (vM louz Dz Sz nz cz gz) e1 j1 = vM louz (exF Dz e1 j1) (upd Sz j1 (nI 1 - Sz j1)) nz (cz + nI 1) (gz + nI 1) := by rw [joinM, e8]; rfl
        rw [e7, e8]
        have e6 : upd (upd Dz j1 (Dz e1)) e1 (Dz j1) = exF Dz e1 j1 := exF_sw Dz e1 j1
        rw [e6] at hP hD
        exact zE_z hF hr hlk (Or.inr rfl) hK hP hD hS dX2_joins_105
set_option maxHeartbeats 4000000 in
set_option maxRecDepth 100000 in
theorem m_rises (l : Launch) (G : va_G) (cI : ClassId) (oz loz liz siz shz saz : Nat) (nz camez : Nat) (cz gz : Int32) (louz Dz Sz shdz shsz : Fn) (thz : Int32) (hn : nz ≤ 63) (hc9 : camez ≤ 500) (hS1 : okS Sz) (hD1 : okD nz Dz) (bz : Nat) (hb9 : bz < nz) (sure : Bool) : zC_i l yX2_rises wsX2_rises ({ frames := 2, cells := 0, slots := 0, locals := 43 }) G [(cI, .int)] (wm cI oz loz liz siz shz saz nz camez cz gz louz Dz Sz shdz shsz thz) (wm cI oz loz liz siz shz saz nz camez (wc ((riseF sure 63 (vM louz Dz Sz nz cz gz) bz).1)) (wg ((riseF sure 63 (vM louz Dz Sz nz cz gz) bz).1)) louz (wD ((riseF sure 63 (vM louz Dz Sz nz cz gz) bz).1)) (wS ((riseF sure 63 (vM louz Dz Sz nz cz gz) bz).1)) shdz shsz thz) [.ref oz, .int (nI bz), .int (bI sure)] (nI (riseF sure 63 (vM louz Dz Sz nz cz gz) bz).2) := by
  refine zB_i (cc := cX2_rises) (maxL := 6) (ret := (some .int)) (by decide) rfl (Nat.le_of_ble_eq_true rfl) ?_
  intro p e s m args below meth c0 A hF hr hlk hK hA hP hD hS ls hl
  have hx := hF.1
  have hb := hF.2.1
  have hown := hF.2.2.2.1
  have hts := hF.2.2.2.2
  have hl : lv_has ls 6 [(0, .ref oz), (1, .int (nI bz)), (2, .int (bI sure))] := hl
  refine lv_iload_n hx hb dX2_rises_0 rfl (lv_at hl 1 rfl) ?_
  refine lv_istore_n (lv' := [(3, .int (nI bz)), (0, .ref oz), (1, .int (nI bz)), (2, .int (bI sure))]) hx hb dX2_rises_1 rfl hl (by decide) rfl (fun ls hl => ?_)
  refine lv_iconst (v := nI 1) hx hb dX2_rises_2 (by decide) ?_
  refine lv_istore (lv' := [(4, .int (nI 1)), (3, .int (nI bz)), (0, .ref oz), (1, .int (nI bz)), (2, .int (bI sure))]) hx hb dX2_rises_3 hl (by decide) rfl (fun ls hl => ?_)
  have loop : ∀ (f9 : Nat) (D1 : Fn) (S1 : Fn) (x1 : Int32) (y1 : Int32) (b1 : Nat) (f0 : Nat), (okS S1) → (okD nz D1) → (riseF sure f0 (vM louz D1 S1 nz x1 y1) b1 = riseF sure 63 (vM louz Dz Sz nz cz gz) bz) → (b1 < nz) → (b1 ≤ f0) → b1 < f9 → ∀ (H : Heap) (locs : List Loc) (ls : Array Slot), va_P G vwCl (wm cI oz loz liz siz shz saz nz camez x1 y1 louz D1 S1 shdz shsz thz) H → va_D A (wm cI oz loz liz siz shz saz nz camez x1 y1 louz D1 S1 shdz shsz thz) → va_S A s.heap H locs → lv_has ls 6 [(0, .ref oz), (1, .int (nI bz)), (2, .int (bI sure)), (3, .int (nI b1)), (4, .int (nI 1))] → W p l e ({ frames := 2, cells := 0, slots := 0, locals := 43 }) s m args below meth c0 H locs 0 0 (zQ_i below G [(cI, .int)] (wm cI oz loz liz siz shz saz nz camez (wc ((riseF sure 63 (vM louz Dz Sz nz cz gz) bz).1)) (wg ((riseF sure 63 (vM louz Dz Sz nz cz gz) bz).1)) louz (wD ((riseF sure 63 (vM louz Dz Sz nz cz gz) bz).1)) (wS ((riseF sure 63 (vM louz Dz Sz nz cz gz) bz).1)) shdz shsz thz) (nI (riseF sure 63 (vM louz Dz Sz nz cz gz) bz).2) A args s) (F0 m 5 ls []) := by
    intro f9
    induction f9 with
    | zero => intro D1 S1 x1 y1 b1 f0 hS1 hD1 hr9 hb1 hs1 hf; exact absurd hf (Nat.not_lt_zero _)
    | succ f9 ih =>
      intro D1 S1 x1 y1 b1 f0 hS1 hD1 hr9 hb1 hs1 hf H locs ls hP hD hS hl
      refine lv_iload_n hx hb dX2_rises_5 rfl (lv_at hl 3 rfl) ?_
      refine lv_if_le (tgt := 46) hx hb dX2_rises_6 (by decide) (fun hc6 => ?_) (fun hc6 => ?_)
      · skip
        have k6 : b1 = 0 := k0_le (by omega) hc6
        refine lv_iload_n hx hb dX2_rises_46 rfl (lv_at hl 3 rfl) ?_
        obtain rfl : 0 = b1 := k6.symm
        have e8 := hr9.symm.trans riseF_0
        rw [e8]
        exact zE_i hF hr hlk hK hP hD hS dX2_rises_47
      · skip
        have k6 : 0 < b1 := k0_nle (by omega) hc6
        obtain ⟨f1, rfl⟩ : ∃ kz, f0 = kz + 1 := ⟨f0 - 1, by omega⟩
        refine lv_iload hx hb dX2_rises_9 (lv_at hl 4 rfl) ?_
        refine lv_if_eq (tgt := 46) hx hb dX2_rises_11 (by decide) (fun hc11 => ?_) (fun hc11 => ?_)
        · exact absurd hc11 (by decide)
        · skip
          have k11 : 0 < 1 := k0_ne (by omega) hc11
          have ze := eld_lt (S := S1) (b := b1) k6
          refine lv_aload_n hx hb dX2_rises_14 rfl (lv_at hl 0 rfl) ?_
          refine lv_iload_n hx hb dX2_rises_15 rfl (lv_at hl 3 rfl) ?_
          refine zK_vi (As := [.int (nI b1)]) (rest := []) hF (m_elder l G cI oz loz liz siz shz saz nz camez x1 y1 louz D1 S1 shdz shsz thz (by omega) (by omega) hS1 hD1 b1 (by omega) (by omega)) (cwV 1 hts gX2_rises_X2_elder rfl rfl rfl (by decide +kernel) ⟨Nat.le_of_ble_eq_true rfl, Nat.le_of_ble_eq_true rfl⟩) hK hP hD hS hA (ci := 2) (q0 := 0) rfl rfl rfl (isC := [0, 1, 2, 3, 4, 5]) (isR := []) (perm := [0, 1, 2, 3, 4, 5]) (wr := []) (wN := wm cI oz loz liz siz shz saz nz camez x1 y1 louz D1 S1 shdz shsz thz) ⟨rfl, by decide, rfl, rfl, (fun _ hz => by cases hz), rfl, by decide⟩ [0] rfl rfl hl.1 rfl (Nat.le_of_ble_eq_true rfl) dX2_rises_16 ⟨Nat.le_refl _, Nat.le_refl _⟩ (fun H locs hP hD hS => ?_)
          refine lv_istore (lv' := [(5, .int (nI (eld S1 b1))), (0, .ref oz), (1, .int (nI bz)), (2, .int (bI sure)), (3, .int (nI b1)), (4, .int (nI 1))]) hx hb dX2_rises_19 hl (by decide) rfl (fun ls hl => ?_)
          refine lv_aload_n hx hb dX2_rises_21 rfl (lv_at hl 1 rfl) ?_
          refine lv_iload hx hb dX2_rises_22 (lv_at hl 0 rfl) ?_
          refine lv_iload_n hx hb dX2_rises_24 rfl (lv_at hl 4 rfl) ?_
          refine lv_iload_n hx hb dX2_rises_25 rfl (lv_at hl 3 rfl) ?_
          refine zK_vi (As := [.int (nI (eld S1 b1)), .int (nI b1), .int (bI sure)]) (rest := []) hF (m_joins l G cI oz loz liz siz shz saz nz camez x1 y1 louz D1 S1 shdz shsz thz (by omega) (by omega) hS1 hD1 (eld S1 b1) b1 (by omega) (by omega) sure) (cwV 3 hts gX2_rises_X2_joins rfl rfl rfl (by decide +kernel) ⟨Nat.le_of_ble_eq_true rfl, Nat.le_of_ble_eq_true rfl⟩) hK hP hD hS hA (ci := 2) (q0 := 0) rfl rfl rfl (isC := [0, 1, 2, 3, 4, 5]) (isR := []) (perm := [0, 1, 2, 3, 4, 5]) (wr := []) (wN := wm cI oz loz liz siz shz saz nz camez (wc (joinF sure (vM louz D1 S1 nz x1 y1) (eld S1 b1) b1)) (wg (joinF sure (vM louz D1 S1 nz x1 y1) (eld S1 b1) b1)) louz (wD (joinF sure (vM louz D1 S1 nz x1 y1) (eld S1 b1) b1)) (wS (joinF sure (vM louz D1 S1 nz x1 y1) (eld S1 b1) b1)) shdz shsz thz) ⟨rfl, by decide, rfl, rfl, (fun _ hz => by cases hz), rfl, by decide⟩ [0] rfl rfl hl.1 rfl (Nat.le_of_ble_eq_true rfl) dX2_rises_26 ⟨Nat.le_refl _, Nat.le_refl _⟩ (fun H locs hP hD hS => ?_)
          obtain ⟨D2, S2, c2, g2, hu2, hz2, hy2⟩ := joinM_ex sure (lou := louz) (c := x1) (g := y1) (e := eld S1 b1) (j := b1) hS1 hD1 (by omega) (by omega) (by omega)
          have hP : va_P G vwCl (wm cI oz loz liz siz shz saz nz camez c2 g2 louz D2 S2 shdz shsz thz) H := by have qz := hP; rw [hu2] at qz; exact qz
          have hD : va_D A (wm cI oz loz liz siz shz saz nz camez c2 g2 louz D2 S2 shdz shsz thz) := by have qz := hD; rw [hu2] at qz; exact qz
          refine lv_istore (lv' := [(4, .int (bI (jc sure (vM louz D1 S1 nz x1 y1) (eld S1 b1) b1))), (5, .int (nI (eld S1 b1))), (0, .ref oz), (1, .int (nI bz)), (2, .int (bI sure)), (3, .int (nI b1))]) hx hb dX2_rises_29 hl (by decide) rfl (fun ls hl => ?_)
          refine lv_iload hx hb dX2_rises_31 (lv_at hl 0 rfl) ?_
          refine lv_if_eq (tgt := 41) hx hb dX2_rises_33 (by decide) (fun hc33 => ?_) (fun hc33 => ?_)
          · skip
            have k33 : (jc sure (vM louz D1 S1 nz x1 y1) (eld S1 b1) b1) = false := bI_e0.mp hc33
            refine lv_iload_n hx hb dX2_rises_41 rfl (lv_at hl 5 rfl) ?_
            refine lv_istore_n (lv' := [(3, .int (nI b1)), (4, .int (bI (jc sure (vM louz D1 S1 nz x1 y1) (eld S1 b1) b1))), (5, .int (nI (eld S1 b1))), (0, .ref oz), (1, .int (nI bz)), (2, .int (bI sure))]) hx hb dX2_rises_42 rfl hl (by decide) rfl (fun ls hl => ?_)
            refine lv_goto (tgt := 5) hx hb dX2_rises_43 (by decide) ?_
            refine lv_iload_n hx hb dX2_rises_5 rfl (lv_at hl 0 rfl) ?_
            refine lv_if_le (tgt := 46) hx hb dX2_rises_6 (by decide) (fun hc6 => ?_) (fun hc6 => ?_)
            · skip
              have k6 : b1 = 0 := k0_le (by omega) hc6
              refine lv_iload_n hx hb dX2_rises_46 rfl (lv_at hl 0 rfl) ?_
              have e8 : riseF sure 63 (vM louz Dz Sz nz cz gz) bz = (joinF sure (vM louz D1 S1 nz x1 y1) (eld S1 b1) b1, b1) := hr9.symm.trans (riseF_no (by omega) k33)
              rw [e8, hu2]
              exact zE_i hF hr hlk hK hP hD hS dX2_rises_47
            · skip
              have k6 : 0 < b1 := k0_nle (by omega) hc6
              refine lv_iload hx hb dX2_rises_9 (lv_at hl 1 rfl) ?_
              refine lv_if_eq (tgt := 46) hx hb dX2_rises_11 (by decide) (fun hc11 => ?_) (fun hc11 => ?_)
              · skip
                have k11 : (jc sure (vM louz D1 S1 nz x1 y1) (eld S1 b1) b1) = false := bI_e0.mp hc11
                refine lv_iload_n hx hb dX2_rises_46 rfl (lv_at hl 0 rfl) ?_
                have e8 : riseF sure 63 (vM louz Dz Sz nz cz gz) bz = (joinF sure (vM louz D1 S1 nz x1 y1) (eld S1 b1) b1, b1) := hr9.symm.trans (riseF_no (by omega) k33)
                rw [e8, hu2]
                exact zE_i hF hr hlk hK hP hD hS dX2_rises_47
              · skip
                have k11 : (jc sure (vM louz D1 S1 nz x1 y1) (eld S1 b1) b1) = true := bI_ne.mp hc11
                exact absurd (k33.symm.trans k11) (by decide)
          · skip
            have k33 : (jc sure (vM louz D1 S1 nz x1 y1) (eld S1 b1) b1) = true := bI_ne.mp hc33
            refine lv_iload hx hb dX2_rises_36 (lv_at hl 1 rfl) ?_
            refine lv_goto (tgt := 42) hx hb dX2_rises_38 (by decide) ?_
            refine lv_istore_n (lv' := [(3, .int (nI (eld S1 b1))), (4, .int (bI (jc sure (vM louz D1 S1 nz x1 y1) (eld S1 b1) b1))), (5, .int (nI (eld S1 b1))), (0, .ref oz), (1, .int (nI bz)), (2, .int (bI sure))]) hx hb dX2_rises_42 rfl hl (by decide) rfl (fun ls hl => ?_)
            refine lv_goto (tgt := 5) hx hb dX2_rises_43 (by decide) ?_
            have hl : lv_has ls 6 [(3, .int (nI (eld S1 b1))), (4, .int (nI 1)), (5, .int (nI (eld S1 b1))), (0, .ref oz), (1, .int (nI bz)), (2, .int (bI sure))] := by have qz := hl; rw [k33] at qz; exact qz
            exact ih D2 S2 c2 g2 (eld S1 b1) f1 hz2 hy2 (by rw [← hu2]; exact (riseF_go (by omega) k33).symm.trans hr9) (by omega) (by omega) (by omega) _ _ _ hP hD hS (lv_sub hl [3, 4, 5, 0, 1] rfl)
  exact loop (bz + 1) Dz Sz cz gz bz 63 hS1 hD1 rfl hb9 (by omega) (by omega) _ _ _ hP hD hS (lv_sub hl [2, 3, 4, 1, 0] rfl)
set_option maxHeartbeats 4000000 in
set_option maxRecDepth 100000 in
theorem m_leaves (l : Launch) (G : va_G) (cI : ClassId) (oz loz liz siz shz saz : Nat) (nz camez : Nat) (cz gz : Int32) (louz Dz Sz shdz shsz : Fn) (thz : Int32) (hn : nz ≤ 63) (hc9 : camez ≤ 500) (hS1 : okS Sz) (hD1 : okD nz Dz) (hn1 : 1 ≤ nz) : zC_i l yX2_leaves wsX2_leaves ({ frames := 1, cells := 0, slots := 0, locals := 25 }) G [(cI, .int)] (wm cI oz loz liz siz shz saz nz camez cz gz louz Dz Sz shdz shsz thz) (wm cI oz loz liz siz shz saz (nz - 1) camez (wc (rmF (vM louz Dz Sz nz cz gz))) (wg (rmF (vM louz Dz Sz nz cz gz))) louz (wD (rmF (vM louz Dz Sz nz cz gz))) (wS (rmF (vM louz Dz Sz nz cz gz))) shdz shsz thz) [.ref oz] (Dz 0) := by
  refine zB_i (cc := cX2_leaves) (maxL := 4) (ret := (some .int)) (by decide) rfl (Nat.le_of_ble_eq_true rfl) ?_
  intro p e s m args below meth c0 A hF hr hlk hK hA hP hD hS ls hl
  have hx := hF.1
  have hb := hF.2.1
  have hown := hF.2.2.2.1
  have hts := hF.2.2.2.2
  have hf13 := hts (.fieldLink RX2 13 "SnoringDukesModel" "lies" "[I") (by decide +kernel)
  have hf29 := hts (.fieldLink RX2 29 "SnoringDukesModel" "many" "I") (by decide +kernel)
  have hinX2 : ∀ wz ∈ wsX20, wz ∈ wsX2_leaves := by decide +kernel
  have hl : lv_has ls 4 [(0, .ref oz)] := hl
  refine lv_aload_n hx hb dX2_leaves_0 rfl (lv_at hl 0 rfl) ?_
  refine va_get (D := G) (ci := 2) (v := .ref liz) (C := RX2) (T := TX2) (N := 10) hx hb hts hinX2 hown hK hP 0 rfl rfl 5 (by decide) hf13 (fun _ h9 => h9) rfl dX2_leaves_1 ?_
  refine lv_iconst (v := nI 0) hx hb dX2_leaves_4 (by decide) ?_
  refine zA_ld hx hb hK hP 2 0 rfl rfl (by omega) (by decide) dX2_leaves_5 ?_
  refine lv_istore_n (lv' := [(1, .int (Dz 0)), (0, .ref oz)]) hx hb dX2_leaves_6 rfl hl (by decide) rfl (fun ls hl => ?_)
  refine lv_aload_n hx hb dX2_leaves_7 rfl (lv_at hl 1 rfl) ?_
  refine lv_dup hx hb dX2_leaves_8 rfl ?_
  refine va_get (D := G) (ci := 2) (v := .int (nI nz)) (C := RX2) (T := TX2) (N := 10) hx hb hts hinX2 hown hK hP 0 rfl rfl 0 (by decide) hf29 (fun _ h9 => h9) rfl dX2_leaves_9 ?_
  refine lv_iconst (v := nI 1) hx hb dX2_leaves_12 (by decide) ?_
  refine lv_isub hx hb dX2_leaves_13 ?_
  refine zN (nI (nz - 1)) (y := ((nI nz) - (nI 1))) (pk_sub (by omega)) ?_
  refine va_put (D := G) (ci := 2) (v := .int (nI (nz - 1))) (ty := .int) (C := RX2) (T := TX2) (N := 10) hx hb hts hinX2 tyX2 tyX2_ok nmX2 hown hK hP hD hS 0 rfl rfl 0 (by decide) hf29 (fun _ h9 => h9) rfl (by decide +kernel) rfl rfl (Nat.le_of_ble_eq_true rfl) dX2_leaves_14 (fun H locs hP hD hS => ?_)
  have hP : va_P G vwCl (wm cI oz loz liz siz shz saz (nz - 1) camez cz gz louz Dz Sz shdz shsz thz) H := hP
  have hD : va_D A (wm cI oz loz liz siz shz saz (nz - 1) camez cz gz louz Dz Sz shdz shsz thz) := hD
  refine lv_aload_n hx hb dX2_leaves_17 rfl (lv_at hl 1 rfl) ?_
  refine va_get (D := G) (ci := 2) (v := .ref liz) (C := RX2) (T := TX2) (N := 10) hx hb hts hinX2 hown hK hP 0 rfl rfl 5 (by decide) hf13 (fun _ h9 => h9) rfl dX2_leaves_18 ?_
  refine lv_iconst (v := nI 0) hx hb dX2_leaves_21 (by decide) ?_
  refine lv_aload_n hx hb dX2_leaves_22 rfl (lv_at hl 1 rfl) ?_
  refine va_get (D := G) (ci := 2) (v := .ref liz) (C := RX2) (T := TX2) (N := 10) hx hb hts hinX2 hown hK hP 0 rfl rfl 5 (by decide) hf13 (fun _ h9 => h9) rfl dX2_leaves_23 ?_
  refine lv_aload_n hx hb dX2_leaves_26 rfl (lv_at hl 1 rfl) ?_
  refine va_get (D := G) (ci := 2) (v := .int (nI (nz - 1))) (C := RX2) (T := TX2) (N := 10) hx hb hts hinX2 hown hK hP 0 rfl rfl 0 (by decide) hf29 (fun _ h9 => h9) rfl dX2_leaves_27 ?_
  refine zA_ld hx hb hK hP 2 0 rfl rfl (by omega) (by decide) dX2_leaves_30 ?_
  refine zA_st (x := Dz (nz - 1)) hx hb hK hP hD hS 2 0 rfl rfl (by omega) (by decide) dX2_leaves_31 (fun H locs hP hD hS => ?_)
  have hP : va_P G vwCl (wm cI oz loz liz siz shz saz (nz - 1) camez cz gz louz (upd Dz 0 (Dz (nz - 1))) Sz shdz shsz thz) H := hP
  have hD : va_D A (wm cI oz loz liz siz shz saz (nz - 1) camez cz gz louz (upd Dz 0 (Dz (nz - 1))) Sz shdz shsz thz) := hD
  have hD9 : okD (nz - 1) (upd Dz 0 (Dz (nz - 1))) := okD_upd (fun bz hb => hD1 bz (by omega)) (hD1 (nz - 1) (by omega))
  refine lv_aload_n hx hb dX2_leaves_32 rfl (lv_at hl 1 rfl) ?_
  refine va_get (D := G) (ci := 2) (v := .int (nI (nz - 1))) (C := RX2) (T := TX2) (N := 10) hx hb hts hinX2 hown hK hP 0 rfl rfl 0 (by decide) hf29 (fun _ h9 => h9) rfl dX2_leaves_33 ?_
  refine lv_iconst (v := nI 1) hx hb dX2_leaves_36 (by decide) ?_
  refine lv_icmp_le (tgt := 82) hx hb dX2_leaves_37 (by decide) (fun hc37 => ?_) (fun hc37 => ?_)
  · skip
    have k37 : (nz - 1) ≤ 1 := k_le (by omega) (by omega) hc37
    have e7 : rmF (vM louz Dz Sz nz cz gz) = vM louz (upd Dz 0 (Dz (nz - 1))) Sz (nz - 1) cz gz := by
      rw [rmM, if_neg (show ¬ 1 < nz - 1 by omega)]
    rw [e7]
    refine lv_iload_n hx hb dX2_leaves_82 rfl (lv_at hl 0 rfl) ?_
    exact zE_i hF hr hlk hK hP hD hS dX2_leaves_83
  · skip
    have k37 : 1 < (nz - 1) := k_nle (by omega) (by omega) hc37
    refine lv_iconst (v := nI 1) hx hb dX2_leaves_40 (by decide) ?_
    refine lv_istore_n (lv' := [(2, .int (nI 1)), (1, .int (Dz 0)), (0, .ref oz)]) hx hb dX2_leaves_41 rfl hl (by decide) rfl (fun ls hl => ?_)
    have loop : ∀ (f9 : Nat) (b1 : Nat) (f0 : Nat), (lowF Sz (nz - 1) f0 b1 = lowF Sz (nz - 1) 63 1) → (b1 < nz - 1) → (nz ≤ b1 + f0) → (1 ≤ b1) → nz - b1 < f9 → ∀ (H : Heap) (locs : List Loc) (ls : Array Slot), va_P G vwCl (wm cI oz loz liz siz shz saz (nz - 1) camez cz gz louz (upd Dz 0 (Dz (nz - 1))) Sz shdz shsz thz) H → va_D A (wm cI oz loz liz siz shz saz (nz - 1) camez cz gz louz (upd Dz 0 (Dz (nz - 1))) Sz shdz shsz thz) → va_S A s.heap H locs → lv_has ls 4 [(0, .ref oz), (1, .int (Dz 0)), (2, .int (nI b1))] → W p l e ({ frames := 1, cells := 0, slots := 0, locals := 25 }) s m args below meth c0 H locs 0 0 (zQ_i below G [(cI, .int)] (wm cI oz loz liz siz shz saz (nz - 1) camez (wc (rmF (vM louz Dz Sz nz cz gz))) (wg (rmF (vM louz Dz Sz nz cz gz))) louz (wD (rmF (vM louz Dz Sz nz cz gz))) (wS (rmF (vM louz Dz Sz nz cz gz))) shdz shsz thz) (Dz 0) A args s) (F0 m 42 ls []) := by
      intro f9
      induction f9 with
      | zero => intro b1 f0 hr9 hb1 hs1 hs2 hf; exact absurd hf (Nat.not_lt_zero _)
      | succ f9 ih =>
        intro b1 f0 hr9 hb1 hs1 hs2 hf H locs ls hP hD hS hl
        obtain ⟨f1, rfl⟩ : ∃ kz, f0 = kz + 1 := ⟨f0 - 1, by omega⟩
        have z1 := sd_le Sz b1
        refine lv_aload_n hx hb dX2_leaves_42 rfl (lv_at hl 0 rfl) ?_
        refine lv_iload_n hx hb dX2_leaves_43 rfl (lv_at hl 2 rfl) ?_
        refine zK_vi (As := [.int (nI b1)]) (rest := []) hF (m_left l G cI oz loz liz siz shz saz (nz - 1) camez cz gz louz (upd Dz 0 (Dz (nz - 1))) Sz shdz shsz thz (by omega) (by omega) hS1 hD9 b1 (by omega)) (cwV 1 hts gX2_leaves_X2_left rfl rfl rfl (by decide +kernel) ⟨Nat.le_of_ble_eq_true rfl, Nat.le_of_ble_eq_true rfl⟩) hK hP hD hS hA (ci := 2) (q0 := 0) rfl rfl rfl (isC := [0, 1, 2, 3, 4, 5]) (isR := []) (perm := [0, 1, 2, 3, 4, 5]) (wr := []) (wN := wm cI oz loz liz siz shz saz (nz - 1) camez cz gz louz (upd Dz 0 (Dz (nz - 1))) Sz shdz shsz thz) ⟨rfl, by decide, rfl, rfl, (fun _ hz => by cases hz), rfl, by decide⟩ [0] rfl rfl hl.1 rfl (Nat.le_of_ble_eq_true rfl) dX2_leaves_44 ⟨Nat.le_refl _, Nat.le_refl _⟩ (fun H locs hP hD hS => ?_)
        refine lv_aload_n hx hb dX2_leaves_47 rfl (lv_at hl 0 rfl) ?_
        refine va_get (D := G) (ci := 2) (v := .int (nI (nz - 1))) (C := RX2) (T := TX2) (N := 10) hx hb hts hinX2 hown hK hP 0 rfl rfl 0 (by decide) hf29 (fun _ h9 => h9) rfl dX2_leaves_48 ?_
        refine lv_icmp_ge (tgt := 63) hx hb dX2_leaves_51 (by decide) (fun hc51 => ?_) (fun hc51 => ?_)
        · skip
          have k51 : (nz - 1) ≤ (2 * b1 + sd Sz b1) := k_le (by omega) (by omega) hc51
          have e8 : lowF Sz (nz - 1) 63 1 = b1 := by rw [← hr9]; exact lowF_no (by omega)
          have e7 : rmF (vM louz Dz Sz nz cz gz) = topF 63 (vM louz (upd Dz 0 (Dz (nz - 1))) Sz (nz - 1) cz gz) b1 := by
            rw [rmM, if_pos (show 1 < nz - 1 by omega), ← e8]
            rfl
          have loop2 : ∀ (f9 : Nat) (D1 : Fn) (S1 : Fn) (x1 : Int32) (y1 : Int32) (b2 : Nat) (f2 : Nat), (okS S1) → (okD (nz - 1) D1) → (topF f2 (vM louz D1 S1 (nz - 1) x1 y1) b2 = topF 63 (vM louz (upd Dz 0 (Dz (nz - 1))) Sz (nz - 1) cz gz) b1) → (b2 < nz - 1) → (b2 ≤ f2) → b2 < f9 → ∀ (H : Heap) (locs : List Loc) (ls : Array Slot), va_P G vwCl (wm cI oz loz liz siz shz saz (nz - 1) camez x1 y1 louz D1 S1 shdz shsz thz) H → va_D A (wm cI oz loz liz siz shz saz (nz - 1) camez x1 y1 louz D1 S1 shdz shsz thz) → va_S A s.heap H locs → lv_has ls 4 [(0, .ref oz), (1, .int (Dz 0)), (2, .int (nI b2))] → W p l e ({ frames := 1, cells := 0, slots := 0, locals := 25 }) s m args below meth c0 H locs 0 0 (zQ_i below G [(cI, .int)] (wm cI oz loz liz siz shz saz (nz - 1) camez (wc (rmF (vM louz Dz Sz nz cz gz))) (wg (rmF (vM louz Dz Sz nz cz gz))) louz (wD (rmF (vM louz Dz Sz nz cz gz))) (wS (rmF (vM louz Dz Sz nz cz gz))) shdz shsz thz) (Dz 0) A args s) (F0 m 63 ls []) := by
            intro f9
            induction f9 with
            | zero => intro D1 S1 x1 y1 b2 f2 hS3 hD3 hr8 hb2 hb3 hf; exact absurd hf (Nat.not_lt_zero _)
            | succ f9 ih =>
              intro D1 S1 x1 y1 b2 f2 hS3 hD3 hr8 hb2 hb3 hf H locs ls hP hD hS hl
              refine lv_iload_n hx hb dX2_leaves_63 rfl (lv_at hl 2 rfl) ?_
              refine lv_if_le (tgt := 82) hx hb dX2_leaves_64 (by decide) (fun hc64 => ?_) (fun hc64 => ?_)
              · skip
                have k64 : b2 = 0 := k0_le (by omega) hc64
                obtain rfl : 0 = b2 := k64.symm
                rw [e7, ← hr8, topF_0]
                refine lv_iload_n hx hb dX2_leaves_82 rfl (lv_at hl 1 rfl) ?_
                exact zE_i hF hr hlk hK hP hD hS dX2_leaves_83
              · skip
                have k64 : 0 < b2 := k0_nle (by omega) hc64
                obtain ⟨f3, rfl⟩ : ∃ kz, f2 = kz + 1 := ⟨f2 - 1, by omega⟩
                refine lv_aload_n hx hb dX2_leaves_67 rfl (lv_at hl 0 rfl) ?_
                refine lv_iconst (v := nI 0) hx hb dX2_leaves_68 (by decide) ?_
                refine lv_iload_n hx hb dX2_leaves_69 rfl (lv_at hl 2 rfl) ?_
                refine lv_iconst (v := nI 0) hx hb dX2_leaves_70 (by decide) ?_
                refine zK_vi (As := [.int (nI 0), .int (nI b2), .int (nI 0)]) (rest := []) hF (m_joins l G cI oz loz liz siz shz saz (nz - 1) camez x1 y1 louz D1 S1 shdz shsz thz (by omega) (by omega) hS3 hD3 0 b2 (by omega) (by omega) false) (cwV 3 hts gX2_leaves_X2_joins rfl rfl rfl (by decide +kernel) ⟨Nat.le_of_ble_eq_true rfl, Nat.le_of_ble_eq_true rfl⟩) hK hP hD hS hA (ci := 2) (q0 := 0) rfl rfl rfl (isC := [0, 1, 2, 3, 4, 5]) (isR := []) (perm := [0, 1, 2, 3, 4, 5]) (wr := []) (wN := wm cI oz loz liz siz shz saz (nz - 1) camez (wc (joinF false (vM louz D1 S1 (nz - 1) x1 y1) 0 b2)) (wg (joinF false (vM louz D1 S1 (nz - 1) x1 y1) 0 b2)) louz (wD (joinF false (vM louz D1 S1 (nz - 1) x1 y1) 0 b2)) (wS (joinF false (vM louz D1 S1 (nz - 1) x1 y1) 0 b2)) shdz shsz thz) ⟨rfl, by decide, rfl, rfl, (fun _ hz => by cases hz), rfl, by decide⟩ [0] rfl rfl hl.1 rfl (Nat.le_of_ble_eq_true rfl) dX2_leaves_71 ⟨Nat.le_refl _, Nat.le_refl _⟩ (fun H locs hP hD hS => ?_)
                obtain ⟨D3, S3, c3, g3, hu3, hz3, hy3⟩ := joinM_ex false (lou := louz) (c := x1) (g := y1) (e := 0) (j := b2) hS3 hD3 (by omega) (by omega) (by omega)
                have hP : va_P G vwCl (wm cI oz loz liz siz shz saz (nz - 1) camez c3 g3 louz D3 S3 shdz shsz thz) H := by have qz := hP; rw [hu3] at qz; exact qz
                have hD : va_D A (wm cI oz loz liz siz shz saz (nz - 1) camez c3 g3 louz D3 S3 shdz shsz thz) := by have qz := hD; rw [hu3] at qz; exact qz
                refine lv_istore_n (lv' := [(3, .int (bI (jc false (vM louz D1 S1 (nz - 1) x1 y1) 0 b2))), (0, .ref oz), (1, .int (Dz 0)), (2, .int (nI b2))]) hx hb dX2_leaves_74 rfl hl (by decide) rfl (fun ls hl => ?_)
                refine lv_iload_n hx hb dX2_leaves_75 rfl (lv_at hl 3 rfl) ?_
                refine lv_iconst (v := nI 2) hx hb dX2_leaves_76 (by decide) ?_
                refine lv_idiv hx hb dX2_leaves_77 (by decide) ?_
                refine zN (nI (b2 / 2)) (y := ((nI b2) / (nI 2))) (pk_div (by omega) (by decide) (by decide)) ?_
                refine lv_istore_n (lv' := [(2, .int (nI (b2 / 2))), (3, .int (bI (jc false (vM louz D1 S1 (nz - 1) x1 y1) 0 b2))), (0, .ref oz), (1, .int (Dz 0))]) hx hb dX2_leaves_78 rfl hl (by decide) rfl (fun ls hl => ?_)
                refine lv_goto (tgt := 63) hx hb dX2_leaves_79 (by decide) ?_
                exact ih D3 S3 c3 g3 (b2 / 2) f3 hz3 hy3 (by rw [← hu3]; exact (topF_go k64).symm.trans hr8) (by omega) (by omega) (by omega) _ _ _ hP hD hS (lv_sub hl [2, 3, 0] rfl)
          exact loop2 (nz + 1) (upd Dz 0 (Dz (nz - 1))) Sz cz gz b1 63 hS1 hD9 rfl (by omega) (by omega) (by omega) _ _ _ hP hD hS (lv_sub hl [0, 1, 2] rfl)
        · skip
          have k51 : (2 * b1 + sd Sz b1) < (nz - 1) := k_nle (by omega) (by omega) hc51
          refine lv_aload_n hx hb dX2_leaves_54 rfl (lv_at hl 0 rfl) ?_
          refine lv_iload_n hx hb dX2_leaves_55 rfl (lv_at hl 2 rfl) ?_
          refine zK_vi (As := [.int (nI b1)]) (rest := []) hF (m_left l G cI oz loz liz siz shz saz (nz - 1) camez cz gz louz (upd Dz 0 (Dz (nz - 1))) Sz shdz shsz thz (by omega) (by omega) hS1 hD9 b1 (by omega)) (cwV 1 hts gX2_leaves_X2_left rfl rfl rfl (by decide +kernel) ⟨Nat.le_of_ble_eq_true rfl, Nat.le_of_ble_eq_true rfl⟩) hK hP hD hS hA (ci := 2) (q0 := 0) rfl rfl rfl (isC := [0, 1, 2, 3, 4, 5]) (isR := []) (perm := [0, 1, 2, 3, 4, 5]) (wr := []) (wN := wm cI oz loz liz siz shz saz (nz - 1) camez cz gz louz (upd Dz 0 (Dz (nz - 1))) Sz shdz shsz thz) ⟨rfl, by decide, rfl, rfl, (fun _ hz => by cases hz), rfl, by decide⟩ [0] rfl rfl hl.1 rfl (Nat.le_of_ble_eq_true rfl) dX2_leaves_56 ⟨Nat.le_refl _, Nat.le_refl _⟩ (fun H locs hP hD hS => ?_)
          refine lv_istore_n (lv' := [(2, .int (nI (2 * b1 + sd Sz b1))), (0, .ref oz), (1, .int (Dz 0))]) hx hb dX2_leaves_59 rfl hl (by decide) rfl (fun ls hl => ?_)
          refine lv_goto (tgt := 42) hx hb dX2_leaves_60 (by decide) ?_
          exact ih (2 * b1 + sd Sz b1) f1 ((lowF_go k51).symm.trans hr9) (by omega) (by omega) (by omega) (by omega) _ _ _ hP hD hS (lv_sub hl [1, 2, 0] rfl)
    exact loop (nz + 1) 1 63 rfl (by omega) (by omega) (by omega) (by omega) _ _ _ hP hD hS (lv_sub hl [2, 1, 0] rfl)
set_option maxHeartbeats 4000000 in
set_option maxRecDepth 100000 in
theorem m_lays (l : Launch) (G : va_G) (cI : ClassId) (oz loz liz siz shz saz : Nat) (nz camez : Nat) (cz gz : Int32) (louz Dz Sz shdz shsz : Fn) (thz : Int32) (hn : nz ≤ 63) (hc9 : camez ≤ 500) (hS1 : okS Sz) (hD1 : okD nz Dz) (hn1 : nz < 63) (hc1 : camez < 500) (xz : Int32) : zC_v l yX2_lays wsX2_lays ({ frames := 0, cells := 0, slots := 0, locals := 0 }) G [(cI, .int)] (wm cI oz loz liz siz shz saz nz camez cz gz louz Dz Sz shdz shsz thz) (wm cI oz loz liz siz shz saz (nz + 1) (camez + 1) cz gz (upd louz camez xz) (upd Dz nz (nI camez)) (upd Sz nz 0) shdz shsz thz) [.ref oz, .int xz] := by
  refine zB_v (cc := cX2_lays) (maxL := 2) (ret := none) (by decide) rfl (Nat.le_of_ble_eq_true rfl) ?_
  intro p e s m args below meth c0 A hF hr hlk hK hA hP hD hS ls hl
  have hx := hF.1
  have hb := hF.2.1
  have hown := hF.2.2.2.1
  have hts := hF.2.2.2.2
  have hf7 := hts (.fieldLink RX2 7 "SnoringDukesModel" "loud" "[I") (by decide +kernel)
  have hf49 := hts (.fieldLink RX2 49 "SnoringDukesModel" "came" "I") (by decide +kernel)
  have hf13 := hts (.fieldLink RX2 13 "SnoringDukesModel" "lies" "[I") (by decide +kernel)
  have hf29 := hts (.fieldLink RX2 29 "SnoringDukesModel" "many" "I") (by decide +kernel)
  have hf16 := hts (.fieldLink RX2 16 "SnoringDukesModel" "side" "[I") (by decide +kernel)
  have hinX2 : ∀ wz ∈ wsX20, wz ∈ wsX2_lays := by decide +kernel
  have hl : lv_has ls 2 [(0, .ref oz), (1, .int xz)] := hl
  refine lv_aload_n hx hb dX2_lays_0 rfl (lv_at hl 0 rfl) ?_
  refine va_get (D := G) (ci := 2) (v := .ref loz) (C := RX2) (T := TX2) (N := 10) hx hb hts hinX2 hown hK hP 0 rfl rfl 4 (by decide) hf7 (fun _ h9 => h9) rfl dX2_lays_1 ?_
  refine lv_aload_n hx hb dX2_lays_4 rfl (lv_at hl 0 rfl) ?_
  refine va_get (D := G) (ci := 2) (v := .int (nI camez)) (C := RX2) (T := TX2) (N := 10) hx hb hts hinX2 hown hK hP 0 rfl rfl 1 (by decide) hf49 (fun _ h9 => h9) rfl dX2_lays_5 ?_
  refine lv_iload_n hx hb dX2_lays_8 rfl (lv_at hl 1 rfl) ?_
  refine zA_st (x := xz) hx hb hK hP hD hS 1 0 rfl rfl (by omega) (by decide) dX2_lays_9 (fun H locs hP hD hS => ?_)
  have hP : va_P G vwCl (wm cI oz loz liz siz shz saz nz camez cz gz (upd louz camez xz) Dz Sz shdz shsz thz) H := hP
  have hD : va_D A (wm cI oz loz liz siz shz saz nz camez cz gz (upd louz camez xz) Dz Sz shdz shsz thz) := hD
  refine lv_aload_n hx hb dX2_lays_10 rfl (lv_at hl 0 rfl) ?_
  refine va_get (D := G) (ci := 2) (v := .ref liz) (C := RX2) (T := TX2) (N := 10) hx hb hts hinX2 hown hK hP 0 rfl rfl 5 (by decide) hf13 (fun _ h9 => h9) rfl dX2_lays_11 ?_
  refine lv_aload_n hx hb dX2_lays_14 rfl (lv_at hl 0 rfl) ?_
  refine va_get (D := G) (ci := 2) (v := .int (nI nz)) (C := RX2) (T := TX2) (N := 10) hx hb hts hinX2 hown hK hP 0 rfl rfl 0 (by decide) hf29 (fun _ h9 => h9) rfl dX2_lays_15 ?_
  refine lv_aload_n hx hb dX2_lays_18 rfl (lv_at hl 0 rfl) ?_
  refine va_get (D := G) (ci := 2) (v := .int (nI camez)) (C := RX2) (T := TX2) (N := 10) hx hb hts hinX2 hown hK hP 0 rfl rfl 1 (by decide) hf49 (fun _ h9 => h9) rfl dX2_lays_19 ?_
  refine zA_st (x := nI camez) hx hb hK hP hD hS 2 0 rfl rfl (by omega) (by decide) dX2_lays_22 (fun H locs hP hD hS => ?_)
  have hP : va_P G vwCl (wm cI oz loz liz siz shz saz nz camez cz gz (upd louz camez xz) (upd Dz nz (nI camez)) Sz shdz shsz thz) H := hP
  have hD : va_D A (wm cI oz loz liz siz shz saz nz camez cz gz (upd louz camez xz) (upd Dz nz (nI camez)) Sz shdz shsz thz) := hD
  refine lv_aload_n hx hb dX2_lays_23 rfl (lv_at hl 0 rfl) ?_
  refine va_get (D := G) (ci := 2) (v := .ref siz) (C := RX2) (T := TX2) (N := 10) hx hb hts hinX2 hown hK hP 0 rfl rfl 6 (by decide) hf16 (fun _ h9 => h9) rfl dX2_lays_24 ?_
  refine lv_aload_n hx hb dX2_lays_27 rfl (lv_at hl 0 rfl) ?_
  refine va_get (D := G) (ci := 2) (v := .int (nI nz)) (C := RX2) (T := TX2) (N := 10) hx hb hts hinX2 hown hK hP 0 rfl rfl 0 (by decide) hf29 (fun _ h9 => h9) rfl dX2_lays_28 ?_
  refine lv_iconst (v := nI 0) hx hb dX2_lays_31 (by decide) ?_
  refine zA_st (x := nI 0) hx hb hK hP hD hS 3 0 rfl rfl (by omega) (by decide) dX2_lays_32 (fun H locs hP hD hS => ?_)
  have hP : va_P G vwCl (wm cI oz loz liz siz shz saz nz camez cz gz (upd louz camez xz) (upd Dz nz (nI camez)) (upd Sz nz (nI 0)) shdz shsz thz) H := hP
  have hD : va_D A (wm cI oz loz liz siz shz saz nz camez cz gz (upd louz camez xz) (upd Dz nz (nI camez)) (upd Sz nz (nI 0)) shdz shsz thz) := hD
  refine lv_aload_n hx hb dX2_lays_33 rfl (lv_at hl 0 rfl) ?_
  refine lv_dup hx hb dX2_lays_34 rfl ?_
  refine va_get (D := G) (ci := 2) (v := .int (nI camez)) (C := RX2) (T := TX2) (N := 10) hx hb hts hinX2 hown hK hP 0 rfl rfl 1 (by decide) hf49 (fun _ h9 => h9) rfl dX2_lays_35 ?_
  refine lv_iconst (v := nI 1) hx hb dX2_lays_38 (by decide) ?_
  refine lv_iadd hx hb dX2_lays_39 ?_
  refine zN (nI (camez + 1)) (y := ((nI camez) + (nI 1))) (nI_add _ _) ?_
  refine va_put (D := G) (ci := 2) (v := .int (nI (camez + 1))) (ty := .int) (C := RX2) (T := TX2) (N := 10) hx hb hts hinX2 tyX2 tyX2_ok nmX2 hown hK hP hD hS 0 rfl rfl 1 (by decide) hf49 (fun _ h9 => h9) rfl (by decide +kernel) rfl rfl (Nat.le_of_ble_eq_true rfl) dX2_lays_40 (fun H locs hP hD hS => ?_)
  have hP : va_P G vwCl (wm cI oz loz liz siz shz saz nz (camez + 1) cz gz (upd louz camez xz) (upd Dz nz (nI camez)) (upd Sz nz (nI 0)) shdz shsz thz) H := hP
  have hD : va_D A (wm cI oz loz liz siz shz saz nz (camez + 1) cz gz (upd louz camez xz) (upd Dz nz (nI camez)) (upd Sz nz (nI 0)) shdz shsz thz) := hD
  refine lv_aload_n hx hb dX2_lays_43 rfl (lv_at hl 0 rfl) ?_
  refine lv_dup hx hb dX2_lays_44 rfl ?_
  refine va_get (D := G) (ci := 2) (v := .int (nI nz)) (C := RX2) (T := TX2) (N := 10) hx hb hts hinX2 hown hK hP 0 rfl rfl 0 (by decide) hf29 (fun _ h9 => h9) rfl dX2_lays_45 ?_
  refine lv_iconst (v := nI 1) hx hb dX2_lays_48 (by decide) ?_
  refine lv_iadd hx hb dX2_lays_49 ?_
  refine zN (nI (nz + 1)) (y := ((nI nz) + (nI 1))) (nI_add _ _) ?_
  refine va_put (D := G) (ci := 2) (v := .int (nI (nz + 1))) (ty := .int) (C := RX2) (T := TX2) (N := 10) hx hb hts hinX2 tyX2 tyX2_ok nmX2 hown hK hP hD hS 0 rfl rfl 0 (by decide) hf29 (fun _ h9 => h9) rfl (by decide +kernel) rfl rfl (Nat.le_of_ble_eq_true rfl) dX2_lays_50 (fun H locs hP hD hS => ?_)
  have hP : va_P G vwCl (wm cI oz loz liz siz shz saz (nz + 1) (camez + 1) cz gz (upd louz camez xz) (upd Dz nz (nI camez)) (upd Sz nz (nI 0)) shdz shsz thz) H := hP
  have hD : va_D A (wm cI oz loz liz siz shz saz (nz + 1) (camez + 1) cz gz (upd louz camez xz) (upd Dz nz (nI camez)) (upd Sz nz (nI 0)) shdz shsz thz) := hD
  exact zE_v hF hr hlk hK hP hD hS dX2_lays_53
end
section
/-! the reference: its public methods, one contract a way that a call may go -/
set_option maxHeartbeats 4000000 in
set_option maxRecDepth 100000 in
theorem m_dukes (l : Launch) (G : va_G) (cI : ClassId) (oz loz liz siz shz saz : Nat) (nz camez : Nat) (cz gz : Int32) (louz Dz Sz shdz shsz : Fn) (thz : Int32) (hn : nz ≤ 63) (hc9 : camez ≤ 500) (hS1 : okS Sz) (hD1 : okD nz Dz)  : zC_i l yX2_dukes wsX2_dukes ({ frames := 0, cells := 0, slots := 0, locals := 0 }) G [(cI, .int)] (wm cI oz loz liz siz shz saz nz camez cz gz louz Dz Sz shdz shsz thz) (wm cI oz loz liz siz shz saz nz camez cz gz louz Dz Sz shdz shsz (nI 0)) [.ref oz] (nI nz) := by
  refine zB_i (cc := cX2_dukes) (maxL := 1) (ret := (some .int)) (by decide) rfl (Nat.le_of_ble_eq_true rfl) ?_
  intro p e s m args below meth c0 A hF hr hlk hK hA hP hD hS ls hl
  have hx := hF.1
  have hb := hF.2.1
  have hown := hF.2.2.2.1
  have hts := hF.2.2.2.2
  have hf25 := hts (.fieldLink RX2 25 "SnoringDukesModel" "thrown" "I") (by decide +kernel)
  have hf29 := hts (.fieldLink RX2 29 "SnoringDukesModel" "many" "I") (by decide +kernel)
  have hinX2 : ∀ wz ∈ wsX20, wz ∈ wsX2_dukes := by decide +kernel
  have hl : lv_has ls 1 [(0, .ref oz)] := hl
  refine lv_aload_n hx hb dX2_dukes_0 rfl (lv_at hl 0 rfl) ?_
  refine lv_iconst (v := nI 0) hx hb dX2_dukes_1 (by decide) ?_
  refine va_put (D := G) (ci := 2) (v := .int (nI 0)) (ty := .int) (C := RX2) (T := TX2) (N := 10) hx hb hts hinX2 tyX2 tyX2_ok nmX2 hown hK hP hD hS 0 rfl rfl 9 (by decide) hf25 (fun _ h9 => h9) rfl (by decide +kernel) rfl rfl (Nat.le_of_ble_eq_true rfl) dX2_dukes_2 (fun H locs hP hD hS => ?_)
  have hP : va_P G vwCl (wm cI oz loz liz siz shz saz nz camez cz gz louz Dz Sz shdz shsz (nI 0)) H := hP
  have hD : va_D A (wm cI oz loz liz siz shz saz nz camez cz gz louz Dz Sz shdz shsz (nI 0)) := hD
  refine lv_aload_n hx hb dX2_dukes_5 rfl (lv_at hl 0 rfl) ?_
  refine va_get (D := G) (ci := 2) (v := .int (nI nz)) (C := RX2) (T := TX2) (N := 10) hx hb hts hinX2 hown hK hP 0 rfl rfl 0 (by decide) hf29 (fun _ h9 => h9) rfl dX2_dukes_6 ?_
  exact zE_i hF hr hlk hK hP hD hS dX2_dukes_9
set_option maxHeartbeats 4000000 in
set_option maxRecDepth 100000 in
theorem m_comparisons (l : Launch) (G : va_G) (cI : ClassId) (oz loz liz siz shz saz : Nat) (nz camez : Nat) (cz gz : Int32) (louz Dz Sz shdz shsz : Fn) (thz : Int32) (hn : nz ≤ 63) (hc9 : camez ≤ 500) (hS1 : okS Sz) (hD1 : okD nz Dz)  : zC_i l yX2_comparisons wsX2_comparisons ({ frames := 0, cells := 0, slots := 0, locals := 0 }) G [(cI, .int)] (wm cI oz loz liz siz shz saz nz camez cz gz louz Dz Sz shdz shsz thz) (wm cI oz loz liz siz shz saz nz camez cz gz louz Dz Sz shdz shsz (nI 0)) [.ref oz] cz := by
  refine zB_i (cc := cX2_comparisons) (maxL := 1) (ret := (some .int)) (by decide) rfl (Nat.le_of_ble_eq_true rfl) ?_
  intro p e s m args below meth c0 A hF hr hlk hK hA hP hD hS ls hl
  have hx := hF.1
  have hb := hF.2.1
  have hown := hF.2.2.2.1
  have hts := hF.2.2.2.2
  have hf25 := hts (.fieldLink RX2 25 "SnoringDukesModel" "thrown" "I") (by decide +kernel)
  have hf36 := hts (.fieldLink RX2 36 "SnoringDukesModel" "compared" "I") (by decide +kernel)
  have hinX2 : ∀ wz ∈ wsX20, wz ∈ wsX2_comparisons := by decide +kernel
  have hl : lv_has ls 1 [(0, .ref oz)] := hl
  refine lv_aload_n hx hb dX2_comparisons_0 rfl (lv_at hl 0 rfl) ?_
  refine lv_iconst (v := nI 0) hx hb dX2_comparisons_1 (by decide) ?_
  refine va_put (D := G) (ci := 2) (v := .int (nI 0)) (ty := .int) (C := RX2) (T := TX2) (N := 10) hx hb hts hinX2 tyX2 tyX2_ok nmX2 hown hK hP hD hS 0 rfl rfl 9 (by decide) hf25 (fun _ h9 => h9) rfl (by decide +kernel) rfl rfl (Nat.le_of_ble_eq_true rfl) dX2_comparisons_2 (fun H locs hP hD hS => ?_)
  have hP : va_P G vwCl (wm cI oz loz liz siz shz saz nz camez cz gz louz Dz Sz shdz shsz (nI 0)) H := hP
  have hD : va_D A (wm cI oz loz liz siz shz saz nz camez cz gz louz Dz Sz shdz shsz (nI 0)) := hD
  refine lv_aload_n hx hb dX2_comparisons_5 rfl (lv_at hl 0 rfl) ?_
  refine va_get (D := G) (ci := 2) (v := .int cz) (C := RX2) (T := TX2) (N := 10) hx hb hts hinX2 hown hK hP 0 rfl rfl 2 (by decide) hf36 (fun _ h9 => h9) rfl dX2_comparisons_6 ?_
  exact zE_i hF hr hlk hK hP hD hS dX2_comparisons_9
set_option maxHeartbeats 4000000 in
set_option maxRecDepth 100000 in
theorem m_changes (l : Launch) (G : va_G) (cI : ClassId) (oz loz liz siz shz saz : Nat) (nz camez : Nat) (cz gz : Int32) (louz Dz Sz shdz shsz : Fn) (thz : Int32) (hn : nz ≤ 63) (hc9 : camez ≤ 500) (hS1 : okS Sz) (hD1 : okD nz Dz)  : zC_i l yX2_changes wsX2_changes ({ frames := 0, cells := 0, slots := 0, locals := 0 }) G [(cI, .int)] (wm cI oz loz liz siz shz saz nz camez cz gz louz Dz Sz shdz shsz thz) (wm cI oz loz liz siz shz saz nz camez cz gz louz Dz Sz shdz shsz (nI 0)) [.ref oz] gz := by
  refine zB_i (cc := cX2_changes) (maxL := 1) (ret := (some .int)) (by decide) rfl (Nat.le_of_ble_eq_true rfl) ?_
  intro p e s m args below meth c0 A hF hr hlk hK hA hP hD hS ls hl
  have hx := hF.1
  have hb := hF.2.1
  have hown := hF.2.2.2.1
  have hts := hF.2.2.2.2
  have hf25 := hts (.fieldLink RX2 25 "SnoringDukesModel" "thrown" "I") (by decide +kernel)
  have hf39 := hts (.fieldLink RX2 39 "SnoringDukesModel" "changed" "I") (by decide +kernel)
  have hinX2 : ∀ wz ∈ wsX20, wz ∈ wsX2_changes := by decide +kernel
  have hl : lv_has ls 1 [(0, .ref oz)] := hl
  refine lv_aload_n hx hb dX2_changes_0 rfl (lv_at hl 0 rfl) ?_
  refine lv_iconst (v := nI 0) hx hb dX2_changes_1 (by decide) ?_
  refine va_put (D := G) (ci := 2) (v := .int (nI 0)) (ty := .int) (C := RX2) (T := TX2) (N := 10) hx hb hts hinX2 tyX2 tyX2_ok nmX2 hown hK hP hD hS 0 rfl rfl 9 (by decide) hf25 (fun _ h9 => h9) rfl (by decide +kernel) rfl rfl (Nat.le_of_ble_eq_true rfl) dX2_changes_2 (fun H locs hP hD hS => ?_)
  have hP : va_P G vwCl (wm cI oz loz liz siz shz saz nz camez cz gz louz Dz Sz shdz shsz (nI 0)) H := hP
  have hD : va_D A (wm cI oz loz liz siz shz saz nz camez cz gz louz Dz Sz shdz shsz (nI 0)) := hD
  refine lv_aload_n hx hb dX2_changes_5 rfl (lv_at hl 0 rfl) ?_
  refine va_get (D := G) (ci := 2) (v := .int gz) (C := RX2) (T := TX2) (N := 10) hx hb hts hinX2 hown hK hP 0 rfl rfl 3 (by decide) hf39 (fun _ h9 => h9) rfl dX2_changes_6 ?_
  exact zE_i hF hr hlk hK hP hD hS dX2_changes_9
set_option maxHeartbeats 4000000 in
set_option maxRecDepth 100000 in
theorem m_berthOf (l : Launch) (G : va_G) (cI : ClassId) (oz loz liz siz shz saz : Nat) (nz camez : Nat) (cz gz : Int32) (louz Dz Sz shdz shsz : Fn) (thz : Int32) (hn : nz ≤ 63) (hc9 : camez ≤ 500) (hS1 : okS Sz) (hD1 : okD nz Dz) (xz : Int32) : zC_i l yX2_berthOf wsX2_berthOf ({ frames := 1, cells := 0, slots := 0, locals := 22 }) G [(cI, .int)] (wm cI oz loz liz siz shz saz nz camez cz gz louz Dz Sz shdz shsz thz) (wm cI oz loz liz siz shz saz nz camez cz gz louz Dz Sz shdz shsz (nI 0)) [.ref oz, .int xz] (fndI Dz nz xz) := by
  refine zB_i (cc := cX2_berthOf) (maxL := 2) (ret := (some .int)) (by decide) rfl (Nat.le_of_ble_eq_true rfl) ?_
  intro p e s m args below meth c0 A hF hr hlk hK hA hP hD hS ls hl
  have hx := hF.1
  have hb := hF.2.1
  have hown := hF.2.2.2.1
  have hts := hF.2.2.2.2
  have hf25 := hts (.fieldLink RX2 25 "SnoringDukesModel" "thrown" "I") (by decide +kernel)
  have hinX2 : ∀ wz ∈ wsX20, wz ∈ wsX2_berthOf := by decide +kernel
  have hl : lv_has ls 2 [(0, .ref oz), (1, .int xz)] := hl
  refine lv_aload_n hx hb dX2_berthOf_0 rfl (lv_at hl 0 rfl) ?_
  refine lv_iconst (v := nI 0) hx hb dX2_berthOf_1 (by decide) ?_
  refine va_put (D := G) (ci := 2) (v := .int (nI 0)) (ty := .int) (C := RX2) (T := TX2) (N := 10) hx hb hts hinX2 tyX2 tyX2_ok nmX2 hown hK hP hD hS 0 rfl rfl 9 (by decide) hf25 (fun _ h9 => h9) rfl (by decide +kernel) rfl rfl (Nat.le_of_ble_eq_true rfl) dX2_berthOf_2 (fun H locs hP hD hS => ?_)
  have hP : va_P G vwCl (wm cI oz loz liz siz shz saz nz camez cz gz louz Dz Sz shdz shsz (nI 0)) H := hP
  have hD : va_D A (wm cI oz loz liz siz shz saz nz camez cz gz louz Dz Sz shdz shsz (nI 0)) := hD
  refine lv_aload_n hx hb dX2_berthOf_5 rfl (lv_at hl 0 rfl) ?_
  refine lv_iload_n hx hb dX2_berthOf_6 rfl (lv_at hl 1 rfl) ?_
  refine zK_vi (As := [.int xz]) (rest := []) hF (m_find l G cI oz loz liz siz shz saz nz camez cz gz louz Dz Sz shdz shsz (nI 0) hn hc9 hS1 hD1 xz) (cwV 1 hts gX2_berthOf_X2_find rfl rfl rfl (by decide +kernel) ⟨Nat.le_of_ble_eq_true rfl, Nat.le_of_ble_eq_true rfl⟩) hK hP hD hS hA (ci := 2) (q0 := 0) rfl rfl rfl (isC := [0, 1, 2, 3, 4, 5]) (isR := []) (perm := [0, 1, 2, 3, 4, 5]) (wr := []) (wN := wm cI oz loz liz siz shz saz nz camez cz gz louz Dz Sz shdz shsz (nI 0)) ⟨rfl, by decide, rfl, rfl, (fun _ hz => by cases hz), rfl, by decide⟩ [0] rfl rfl hl.1 rfl (Nat.le_of_ble_eq_true rfl) dX2_berthOf_7 ⟨Nat.le_refl _, Nat.le_refl _⟩ (fun H locs hP hD hS => ?_)
  exact zE_i hF hr hlk hK hP hD hS dX2_berthOf_10
set_option maxHeartbeats 4000000 in
set_option maxRecDepth 100000 in
theorem m_quietest (l : Launch) (G : va_G) (cI : ClassId) (oz loz liz siz shz saz : Nat) (nz camez : Nat) (cz gz : Int32) (louz Dz Sz shdz shsz : Fn) (thz : Int32) (hn : nz ≤ 63) (hc9 : camez ≤ 500) (hS1 : okS Sz) (hD1 : okD nz Dz)  : zC_i l yX2_quietest wsX2_quietest ({ frames := 0, cells := 0, slots := 0, locals := 0 }) G [(cI, .int)] (wm cI oz loz liz siz shz saz nz camez cz gz louz Dz Sz shdz shsz thz) (wm cI oz loz liz siz shz saz nz camez cz gz louz Dz Sz shdz shsz (nI 0)) [.ref oz] (if nz = 0 then -1 else Dz 0) := by
  refine zB_i (cc := cX2_quietest) (maxL := 1) (ret := (some .int)) (by decide) rfl (Nat.le_of_ble_eq_true rfl) ?_
  intro p e s m args below meth c0 A hF hr hlk hK hA hP hD hS ls hl
  have hx := hF.1
  have hb := hF.2.1
  have hown := hF.2.2.2.1
  have hts := hF.2.2.2.2
  have hf25 := hts (.fieldLink RX2 25 "SnoringDukesModel" "thrown" "I") (by decide +kernel)
  have hf29 := hts (.fieldLink RX2 29 "SnoringDukesModel" "many" "I") (by decide +kernel)
  have hf13 := hts (.fieldLink RX2 13 "SnoringDukesModel" "lies" "[I") (by decide +kernel)
  have hinX2 : ∀ wz ∈ wsX20, wz ∈ wsX2_quietest := by decide +kernel
  have hl : lv_has ls 1 [(0, .ref oz)] := hl
  refine lv_aload_n hx hb dX2_quietest_0 rfl (lv_at hl 0 rfl) ?_
  refine lv_iconst (v := nI 0) hx hb dX2_quietest_1 (by decide) ?_
  refine va_put (D := G) (ci := 2) (v := .int (nI 0)) (ty := .int) (C := RX2) (T := TX2) (N := 10) hx hb hts hinX2 tyX2 tyX2_ok nmX2 hown hK hP hD hS 0 rfl rfl 9 (by decide) hf25 (fun _ h9 => h9) rfl (by decide +kernel) rfl rfl (Nat.le_of_ble_eq_true rfl) dX2_quietest_2 (fun H locs hP hD hS => ?_)
  have hP : va_P G vwCl (wm cI oz loz liz siz shz saz nz camez cz gz louz Dz Sz shdz shsz (nI 0)) H := hP
  have hD : va_D A (wm cI oz loz liz siz shz saz nz camez cz gz louz Dz Sz shdz shsz (nI 0)) := hD
  refine lv_aload_n hx hb dX2_quietest_5 rfl (lv_at hl 0 rfl) ?_
  refine va_get (D := G) (ci := 2) (v := .int (nI nz)) (C := RX2) (T := TX2) (N := 10) hx hb hts hinX2 hown hK hP 0 rfl rfl 0 (by decide) hf29 (fun _ h9 => h9) rfl dX2_quietest_6 ?_
  refine lv_if_ne (tgt := 16) hx hb dX2_quietest_9 (by decide) (fun hc9 => ?_) (fun hc9 => ?_)
  · skip
    have k9 : 0 < nz := k0_ne (by omega) hc9
    refine lv_aload_n hx hb dX2_quietest_16 rfl (lv_at hl 0 rfl) ?_
    refine va_get (D := G) (ci := 2) (v := .ref liz) (C := RX2) (T := TX2) (N := 10) hx hb hts hinX2 hown hK hP 0 rfl rfl 5 (by decide) hf13 (fun _ h9 => h9) rfl dX2_quietest_17 ?_
    refine lv_iconst (v := nI 0) hx hb dX2_quietest_20 (by decide) ?_
    refine zA_ld hx hb hK hP 2 0 rfl rfl (by omega) (by decide) dX2_quietest_21 ?_
    rw [if_neg (by omega)]
    exact zE_i hF hr hlk hK hP hD hS dX2_quietest_22
  · skip
    have k9 : nz = 0 := k0_eq (by omega) hc9
    refine lv_iconst (v := (-1)) hx hb dX2_quietest_12 (by decide) ?_
    refine lv_goto (tgt := 22) hx hb dX2_quietest_13 (by decide) ?_
    rw [if_pos k9]
    exact zE_i hF hr hlk hK hP hD hS dX2_quietest_22
set_option maxHeartbeats 4000000 in
set_option maxRecDepth 100000 in
theorem m_flipped (l : Launch) (G : va_G) (cI : ClassId) (oz loz liz siz shz saz : Nat) (nz camez : Nat) (cz gz : Int32) (louz Dz Sz shdz shsz : Fn) (thz : Int32) (hn : nz ≤ 63) (hc9 : camez ≤ 500) (hS1 : okS Sz) (hD1 : okD nz Dz)  : zC_i l yX2_flipped wsX2_flipped ({ frames := 0, cells := 0, slots := 0, locals := 0 }) G [(cI, .int)] (wm cI oz loz liz siz shz saz nz camez cz gz louz Dz Sz shdz shsz thz) (wm cI oz loz liz siz shz saz nz camez cz gz louz Dz Sz shdz shsz (nI 0)) [.ref oz] (flp Sz nz) := by
  refine zB_i (cc := cX2_flipped) (maxL := 3) (ret := (some .int)) (by decide) rfl (Nat.le_of_ble_eq_true rfl) ?_
  intro p e s m args below meth c0 A hF hr hlk hK hA hP hD hS ls hl
  have hx := hF.1
  have hb := hF.2.1
  have hown := hF.2.2.2.1
  have hts := hF.2.2.2.2
  have hf25 := hts (.fieldLink RX2 25 "SnoringDukesModel" "thrown" "I") (by decide +kernel)
  have hf29 := hts (.fieldLink RX2 29 "SnoringDukesModel" "many" "I") (by decide +kernel)
  have hf16 := hts (.fieldLink RX2 16 "SnoringDukesModel" "side" "[I") (by decide +kernel)
  have hinX2 : ∀ wz ∈ wsX20, wz ∈ wsX2_flipped := by decide +kernel
  have hl : lv_has ls 3 [(0, .ref oz)] := hl
  refine lv_aload_n hx hb dX2_flipped_0 rfl (lv_at hl 0 rfl) ?_
  refine lv_iconst (v := nI 0) hx hb dX2_flipped_1 (by decide) ?_
  refine va_put (D := G) (ci := 2) (v := .int (nI 0)) (ty := .int) (C := RX2) (T := TX2) (N := 10) hx hb hts hinX2 tyX2 tyX2_ok nmX2 hown hK hP hD hS 0 rfl rfl 9 (by decide) hf25 (fun _ h9 => h9) rfl (by decide +kernel) rfl rfl (Nat.le_of_ble_eq_true rfl) dX2_flipped_2 (fun H locs hP hD hS => ?_)
  have hP : va_P G vwCl (wm cI oz loz liz siz shz saz nz camez cz gz louz Dz Sz shdz shsz (nI 0)) H := hP
  have hD : va_D A (wm cI oz loz liz siz shz saz nz camez cz gz louz Dz Sz shdz shsz (nI 0)) := hD
  refine lv_iconst (v := nI 0) hx hb dX2_flipped_5 (by decide) ?_
  refine lv_istore_n (lv' := [(1, .int (nI 0)), (0, .ref oz)]) hx hb dX2_flipped_6 rfl hl (by decide) rfl (fun ls hl => ?_)
  refine lv_iconst (v := nI 0) hx hb dX2_flipped_7 (by decide) ?_
  refine lv_istore_n (lv' := [(2, .int (nI 0)), (1, .int (nI 0)), (0, .ref oz)]) hx hb dX2_flipped_8 rfl hl (by decide) rfl (fun ls hl => ?_)
  have hl : lv_has ls 3 [(2, .int (nI 0)), (1, .int (flp Sz 0)), (0, .ref oz)] := hl
  have loop : ∀ (f9 : Nat) (iz : Nat), (iz ≤ nz) → nz - iz < f9 → ∀ (H : Heap) (locs : List Loc) (ls : Array Slot), va_P G vwCl (wm cI oz loz liz siz shz saz nz camez cz gz louz Dz Sz shdz shsz (nI 0)) H → va_D A (wm cI oz loz liz siz shz saz nz camez cz gz louz Dz Sz shdz shsz (nI 0)) → va_S A s.heap H locs → lv_has ls 3 [(0, .ref oz), (1, .int (flp Sz iz)), (2, .int (nI iz))] → W p l e ({ frames := 0, cells := 0, slots := 0, locals := 0 }) s m args below meth c0 H locs 0 0 (zQ_i below G [(cI, .int)] (wm cI oz loz liz siz shz saz nz camez cz gz louz Dz Sz shdz shsz (nI 0)) (flp Sz nz) A args s) (F0 m 9 ls []) := by
    intro f9
    induction f9 with
    | zero => intro iz h2 hf; exact absurd hf (Nat.not_lt_zero _)
    | succ f9 ih =>
      intro iz h2 hf H locs ls hP hD hS hl
      refine lv_iload_n hx hb dX2_flipped_9 rfl (lv_at hl 2 rfl) ?_
      refine lv_aload_n hx hb dX2_flipped_10 rfl (lv_at hl 0 rfl) ?_
      refine va_get (D := G) (ci := 2) (v := .int (nI nz)) (C := RX2) (T := TX2) (N := 10) hx hb hts hinX2 hown hK hP 0 rfl rfl 0 (by decide) hf29 (fun _ h9 => h9) rfl dX2_flipped_11 ?_
      refine lv_icmp_ge (tgt := 32) hx hb dX2_flipped_14 (by decide) (fun hc14 => ?_) (fun hc14 => ?_)
      · skip
        have k14 : nz ≤ iz := k_le (by omega) (by omega) hc14
        refine lv_iload_n hx hb dX2_flipped_32 rfl (lv_at hl 1 rfl) ?_
        obtain rfl : nz = iz := by omega
        exact zE_i hF hr hlk hK hP hD hS dX2_flipped_33
      · skip
        have k14 : iz < nz := k_nle (by omega) (by omega) hc14
        refine lv_iload_n hx hb dX2_flipped_17 rfl (lv_at hl 1 rfl) ?_
        refine lv_aload_n hx hb dX2_flipped_18 rfl (lv_at hl 0 rfl) ?_
        refine va_get (D := G) (ci := 2) (v := .ref siz) (C := RX2) (T := TX2) (N := 10) hx hb hts hinX2 hown hK hP 0 rfl rfl 6 (by decide) hf16 (fun _ h9 => h9) rfl dX2_flipped_19 ?_
        refine lv_iload_n hx hb dX2_flipped_22 rfl (lv_at hl 2 rfl) ?_
        refine zA_ld hx hb hK hP 3 0 rfl rfl (by omega) (by decide) dX2_flipped_23 ?_
        refine lv_iadd hx hb dX2_flipped_24 ?_
        refine zN (flp Sz (iz + 1)) (y := ((flp Sz iz) + (Sz iz))) (rfl) ?_
        refine lv_istore_n (lv' := [(1, .int (flp Sz (iz + 1))), (0, .ref oz), (2, .int (nI iz))]) hx hb dX2_flipped_25 rfl hl (by decide) rfl (fun ls hl => ?_)
        refine lv_iinc (v := nI (iz + 1)) (lv' := [(2, .int (nI (iz + 1))), (1, .int (flp Sz (iz + 1))), (0, .ref oz)]) hx hb dX2_flipped_26 hl (k := 2) rfl (nI_1 _) (by decide) rfl (fun ls hl => ?_)
        refine lv_goto (tgt := 9) hx hb dX2_flipped_29 (by decide) ?_
        exact ih (iz + 1) (by omega) (by omega) _ _ _ hP hD hS (lv_sub hl [2, 1, 0] rfl)
  exact loop (nz + 1) 0 (by omega) (by omega) _ _ _ hP hD hS (lv_sub hl [2, 1, 0] rfl)
set_option maxHeartbeats 4000000 in
set_option maxRecDepth 100000 in
theorem m_isBerth (l : Launch) (G : va_G) (cI : ClassId) (oz loz liz siz shz saz : Nat) (nz camez : Nat) (cz gz : Int32) (louz Dz Sz shdz shsz : Fn) (thz : Int32) (hn : nz ≤ 63) (hc9 : camez ≤ 500) (hS1 : okS Sz) (hD1 : okD nz Dz) (xz : Int32) : zC_i l yX2_isBerth wsX2_isBerth ({ frames := 1, cells := 0, slots := 0, locals := 22 }) G [(cI, .int)] (wm cI oz loz liz siz shz saz nz camez cz gz louz Dz Sz shdz shsz thz) (wm cI oz loz liz siz shz saz nz camez cz gz louz Dz Sz shdz shsz (bI (!hasI nz xz))) [.ref oz, .int xz] (bI (hasI nz xz)) := by
  refine zB_i (cc := cX2_isBerth) (maxL := 2) (ret := (some .boolean)) (by decide) rfl (Nat.le_of_ble_eq_true rfl) ?_
  intro p e s m args below meth c0 A hF hr hlk hK hA hP hD hS ls hl
  have hx := hF.1
  have hb := hF.2.1
  have hown := hF.2.2.2.1
  have hts := hF.2.2.2.2
  have hf29 := hts (.fieldLink RX2 29 "SnoringDukesModel" "many" "I") (by decide +kernel)
  have hf25 := hts (.fieldLink RX2 25 "SnoringDukesModel" "thrown" "I") (by decide +kernel)
  have hinX2 : ∀ wz ∈ wsX20, wz ∈ wsX2_isBerth := by decide +kernel
  have hl : lv_has ls 2 [(0, .ref oz), (1, .int xz)] := hl
  have e9 : isO xz (nI 0) (nI nz - nI 1) = hasI nz xz := isO_has (by omega)
  refine lv_aload_n hx hb dX2_isBerth_0 rfl (lv_at hl 0 rfl) ?_
  refine lv_iload_n hx hb dX2_isBerth_1 rfl (lv_at hl 1 rfl) ?_
  refine lv_iconst (v := nI 0) hx hb dX2_isBerth_2 (by decide) ?_
  refine lv_aload_n hx hb dX2_isBerth_3 rfl (lv_at hl 0 rfl) ?_
  refine va_get (D := G) (ci := 2) (v := .int (nI nz)) (C := RX2) (T := TX2) (N := 10) hx hb hts hinX2 hown hK hP 0 rfl rfl 0 (by decide) hf29 (fun _ h9 => h9) rfl dX2_isBerth_4 ?_
  refine lv_iconst (v := nI 1) hx hb dX2_isBerth_7 (by decide) ?_
  refine lv_isub hx hb dX2_isBerth_8 ?_
  refine zK_si (av := [.int xz, .int (nI 0), .int ((nI nz) - (nI 1))]) (rest := [.ref oz]) hF (m_isOf l G xz (nI 0) ((nI nz) - (nI 1))) (va_cwS 3 hts gX2_isBerth_X2_isOf rfl rfl rfl (by decide +kernel) ⟨Nat.le_of_ble_eq_true rfl, Nat.le_of_ble_eq_true rfl⟩) hK hP hD hS hA (isC := []) (isR := [0, 1, 2, 3, 4, 5]) (perm := [0, 1, 2, 3, 4, 5]) (wr := wm cI oz loz liz siz shz saz nz camez cz gz louz Dz Sz shdz shsz thz) (wN := wm cI oz loz liz siz shz saz nz camez cz gz louz Dz Sz shdz shsz thz) ⟨rfl, by decide, rfl, by decide, (fun _ _ hz => by cases hz), rfl, by decide⟩ [] rfl rfl hl.1 rfl (Nat.le_of_ble_eq_true rfl) dX2_isBerth_9 ⟨Nat.le_refl _, Nat.le_refl _⟩ (fun H locs hP hD hS => ?_)
  refine zN (bI (hasI nz xz)) (y := (bI (isO xz (nI 0) ((nI nz) - (nI 1))))) (by rw [e9]) ?_
  refine lv_if_eq (tgt := 19) hx hb dX2_isBerth_12 (by decide) (fun hc12 => ?_) (fun hc12 => ?_)
  · skip
    have k12 : (hasI nz xz) = false := bI_e0.mp hc12
    refine lv_iconst (v := nI 1) hx hb dX2_isBerth_19 (by decide) ?_
    refine va_put (D := G) (ci := 2) (v := .int (nI 1)) (ty := .int) (C := RX2) (T := TX2) (N := 10) hx hb hts hinX2 tyX2 tyX2_ok nmX2 hown hK hP hD hS 0 rfl rfl 9 (by decide) hf25 (fun _ h9 => h9) rfl (by decide +kernel) rfl rfl (Nat.le_of_ble_eq_true rfl) dX2_isBerth_20 (fun H locs hP hD hS => ?_)
    have hP : va_P G vwCl (wm cI oz loz liz siz shz saz nz camez cz gz louz Dz Sz shdz shsz (nI 1)) H := hP
    have hD : va_D A (wm cI oz loz liz siz shz saz nz camez cz gz louz Dz Sz shdz shsz (nI 1)) := hD
    refine lv_aload_n hx hb dX2_isBerth_23 rfl (lv_at hl 0 rfl) ?_
    refine va_get (D := G) (ci := 2) (v := .int (nI 1)) (C := RX2) (T := TX2) (N := 10) hx hb hts hinX2 hown hK hP 0 rfl rfl 9 (by decide) hf25 (fun _ h9 => h9) rfl dX2_isBerth_24 ?_
    refine lv_if_ne (tgt := 34) hx hb dX2_isBerth_27 (by decide) (fun hc27 => ?_) (fun hc27 => ?_)
    · skip
      have k27 : 0 < 1 := k0_ne (by omega) hc27
      refine lv_iconst (v := nI 0) hx hb dX2_isBerth_34 (by decide) ?_
      rw [k12]
      exact zE_z hF hr hlk (Or.inl rfl) hK hP hD hS dX2_isBerth_35
    · exact absurd hc27 (by decide)
  · skip
    have k12 : (hasI nz xz) = true := bI_ne.mp hc12
    refine lv_iconst (v := nI 0) hx hb dX2_isBerth_15 (by decide) ?_
    refine lv_goto (tgt := 20) hx hb dX2_isBerth_16 (by decide) ?_
    refine va_put (D := G) (ci := 2) (v := .int (nI 0)) (ty := .int) (C := RX2) (T := TX2) (N := 10) hx hb hts hinX2 tyX2 tyX2_ok nmX2 hown hK hP hD hS 0 rfl rfl 9 (by decide) hf25 (fun _ h9 => h9) rfl (by decide +kernel) rfl rfl (Nat.le_of_ble_eq_true rfl) dX2_isBerth_20 (fun H locs hP hD hS => ?_)
    have hP : va_P G vwCl (wm cI oz loz liz siz shz saz nz camez cz gz louz Dz Sz shdz shsz (nI 0)) H := hP
    have hD : va_D A (wm cI oz loz liz siz shz saz nz camez cz gz louz Dz Sz shdz shsz (nI 0)) := hD
    refine lv_aload_n hx hb dX2_isBerth_23 rfl (lv_at hl 0 rfl) ?_
    refine va_get (D := G) (ci := 2) (v := .int (nI 0)) (C := RX2) (T := TX2) (N := 10) hx hb hts hinX2 hown hK hP 0 rfl rfl 9 (by decide) hf25 (fun _ h9 => h9) rfl dX2_isBerth_24 ?_
    refine lv_if_ne (tgt := 34) hx hb dX2_isBerth_27 (by decide) (fun hc27 => ?_) (fun hc27 => ?_)
    · exact absurd hc27 (by decide)
    · skip
      have k27 : 0 = 0 := k0_eq (by omega) hc27
      refine lv_iconst (v := nI 1) hx hb dX2_isBerth_30 (by decide) ?_
      refine lv_goto (tgt := 35) hx hb dX2_isBerth_31 (by decide) ?_
      rw [k12]
      exact zE_z hF hr hlk (Or.inr rfl) hK hP hD hS dX2_isBerth_35
set_option maxHeartbeats 4000000 in
set_option maxRecDepth 100000 in
theorem m_dukeIn_x (l : Launch) (G : va_G) (cI : ClassId) (oz loz liz siz shz saz : Nat) (nz camez : Nat) (cz gz : Int32) (louz Dz Sz shdz shsz : Fn) (thz : Int32) (hn : nz ≤ 63) (hc9 : camez ≤ 500) (hS1 : okS Sz) (hD1 : okD nz Dz) (xz : Int32) (hno : hasI nz xz = false) : zC_i l yX2_dukeIn wsX2_dukeIn ({ frames := 2, cells := 0, slots := 0, locals := 43 }) G [(cI, .int)] (wm cI oz loz liz siz shz saz nz camez cz gz louz Dz Sz shdz shsz thz) (wm cI oz loz liz siz shz saz nz camez cz gz louz Dz Sz shdz shsz (nI 1)) [.ref oz, .int xz] (nI 0) := by
  refine zB_i (cc := cX2_dukeIn) (maxL := 2) (ret := (some .int)) (by decide) rfl (Nat.le_of_ble_eq_true rfl) ?_
  intro p e s m args below meth c0 A hF hr hlk hK hA hP hD hS ls hl
  have hx := hF.1
  have hb := hF.2.1
  have hown := hF.2.2.2.1
  have hts := hF.2.2.2.2
  have hf13 := hts (.fieldLink RX2 13 "SnoringDukesModel" "lies" "[I") (by decide +kernel)
  have hinX2 : ∀ wz ∈ wsX20, wz ∈ wsX2_dukeIn := by decide +kernel
  have hl : lv_has ls 2 [(0, .ref oz), (1, .int xz)] := hl
  refine lv_aload_n hx hb dX2_dukeIn_0 rfl (lv_at hl 0 rfl) ?_
  refine lv_iload_n hx hb dX2_dukeIn_1 rfl (lv_at hl 1 rfl) ?_
  refine zK_vi (As := [.int xz]) (rest := []) hF (m_isBerth l G cI oz loz liz siz shz saz nz camez cz gz louz Dz Sz shdz shsz thz hn hc9 hS1 hD1 xz) (cwV 1 hts gX2_dukeIn_X2_isBerth rfl rfl rfl (by decide +kernel) ⟨Nat.le_of_ble_eq_true rfl, Nat.le_of_ble_eq_true rfl⟩) hK hP hD hS hA (ci := 2) (q0 := 0) rfl rfl rfl (isC := [0, 1, 2, 3, 4, 5]) (isR := []) (perm := [0, 1, 2, 3, 4, 5]) (wr := []) (wN := wm cI oz loz liz siz shz saz nz camez cz gz louz Dz Sz shdz shsz (bI (!hasI nz xz))) ⟨rfl, by decide, rfl, rfl, (fun _ hz => by cases hz), rfl, by decide⟩ [0] rfl rfl hl.1 rfl (Nat.le_of_ble_eq_true rfl) dX2_dukeIn_2 ⟨Nat.le_refl _, Nat.le_refl _⟩ (fun H locs hP hD hS => ?_)
  rw [hno] at hP hD
  have hP : va_P G vwCl (wm cI oz loz liz siz shz saz nz camez cz gz louz Dz Sz shdz shsz (nI 1)) H := hP
  have hD : va_D A (wm cI oz loz liz siz shz saz nz camez cz gz louz Dz Sz shdz shsz (nI 1)) := hD
  refine zN (nI 0) (y := (bI (hasI nz xz))) (by rw [hno]; rfl) ?_
  refine lv_if_eq (tgt := 17) hx hb dX2_dukeIn_5 (by decide) (fun hc5 => ?_) (fun hc5 => ?_)
  · skip
    have k5 : 0 = 0 := k0_eq (by omega) hc5
    refine lv_iconst (v := nI 0) hx hb dX2_dukeIn_17 (by decide) ?_
    exact zE_i hF hr hlk hK hP hD hS dX2_dukeIn_18
  · exact absurd hc5 (by decide)
set_option maxHeartbeats 4000000 in
set_option maxRecDepth 100000 in
theorem m_dukeIn_t (l : Launch) (G : va_G) (cI : ClassId) (oz loz liz siz shz saz : Nat) (nz camez : Nat) (cz gz : Int32) (louz Dz Sz shdz shsz : Fn) (thz : Int32) (hn : nz ≤ 63) (hc9 : camez ≤ 500) (hS1 : okS Sz) (hD1 : okD nz Dz) (bz : Nat) (hb9 : bz < nz) : zC_i l yX2_dukeIn wsX2_dukeIn ({ frames := 2, cells := 0, slots := 0, locals := 43 }) G [(cI, .int)] (wm cI oz loz liz siz shz saz nz camez cz gz louz Dz Sz shdz shsz thz) (wm cI oz loz liz siz shz saz nz camez cz gz louz Dz Sz shdz shsz (nI 0)) [.ref oz, .int (nI bz)] (Dz bz) := by
  refine zB_i (cc := cX2_dukeIn) (maxL := 2) (ret := (some .int)) (by decide) rfl (Nat.le_of_ble_eq_true rfl) ?_
  intro p e s m args below meth c0 A hF hr hlk hK hA hP hD hS ls hl
  have hx := hF.1
  have hb := hF.2.1
  have hown := hF.2.2.2.1
  have hts := hF.2.2.2.2
  have hf13 := hts (.fieldLink RX2 13 "SnoringDukesModel" "lies" "[I") (by decide +kernel)
  have hinX2 : ∀ wz ∈ wsX20, wz ∈ wsX2_dukeIn := by decide +kernel
  have hl : lv_has ls 2 [(0, .ref oz), (1, .int (nI bz))] := hl
  have hyes : hasI nz (nI bz) = true := by rw [hasI_nI (by omega) (by omega)]; exact decide_eq_true hb9
  refine lv_aload_n hx hb dX2_dukeIn_0 rfl (lv_at hl 0 rfl) ?_
  refine lv_iload_n hx hb dX2_dukeIn_1 rfl (lv_at hl 1 rfl) ?_
  refine zK_vi (As := [.int (nI bz)]) (rest := []) hF (m_isBerth l G cI oz loz liz siz shz saz nz camez cz gz louz Dz Sz shdz shsz thz hn hc9 hS1 hD1 (nI bz)) (cwV 1 hts gX2_dukeIn_X2_isBerth rfl rfl rfl (by decide +kernel) ⟨Nat.le_of_ble_eq_true rfl, Nat.le_of_ble_eq_true rfl⟩) hK hP hD hS hA (ci := 2) (q0 := 0) rfl rfl rfl (isC := [0, 1, 2, 3, 4, 5]) (isR := []) (perm := [0, 1, 2, 3, 4, 5]) (wr := []) (wN := wm cI oz loz liz siz shz saz nz camez cz gz louz Dz Sz shdz shsz (bI (!hasI nz (nI bz)))) ⟨rfl, by decide, rfl, rfl, (fun _ hz => by cases hz), rfl, by decide⟩ [0] rfl rfl hl.1 rfl (Nat.le_of_ble_eq_true rfl) dX2_dukeIn_2 ⟨Nat.le_refl _, Nat.le_refl _⟩ (fun H locs hP hD hS => ?_)
  rw [hyes] at hP hD
  have hP : va_P G vwCl (wm cI oz loz liz siz shz saz nz camez cz gz louz Dz Sz shdz shsz (nI 0)) H := hP
  have hD : va_D A (wm cI oz loz liz siz shz saz nz camez cz gz louz Dz Sz shdz shsz (nI 0)) := hD
  refine zN (nI 1) (y := (bI (hasI nz (nI bz)))) (by rw [hyes]; rfl) ?_
  refine lv_if_eq (tgt := 17) hx hb dX2_dukeIn_5 (by decide) (fun hc5 => ?_) (fun hc5 => ?_)
  · exact absurd hc5 (by decide)
  · skip
    have k5 : 0 < 1 := k0_ne (by omega) hc5
    refine lv_aload_n hx hb dX2_dukeIn_8 rfl (lv_at hl 0 rfl) ?_
    refine va_get (D := G) (ci := 2) (v := .ref liz) (C := RX2) (T := TX2) (N := 10) hx hb hts hinX2 hown hK hP 0 rfl rfl 5 (by decide) hf13 (fun _ h9 => h9) rfl dX2_dukeIn_9 ?_
    refine lv_iload_n hx hb dX2_dukeIn_12 rfl (lv_at hl 1 rfl) ?_
    refine zA_ld hx hb hK hP 2 0 rfl rfl (by omega) (by decide) dX2_dukeIn_13 ?_
    refine lv_goto (tgt := 18) hx hb dX2_dukeIn_14 (by decide) ?_
    exact zE_i hF hr hlk hK hP hD hS dX2_dukeIn_18
set_option maxHeartbeats 4000000 in
set_option maxRecDepth 100000 in
theorem m_sideOf_x (l : Launch) (G : va_G) (cI : ClassId) (oz loz liz siz shz saz : Nat) (nz camez : Nat) (cz gz : Int32) (louz Dz Sz shdz shsz : Fn) (thz : Int32) (hn : nz ≤ 63) (hc9 : camez ≤ 500) (hS1 : okS Sz) (hD1 : okD nz Dz) (xz : Int32) (hno : hasI nz xz = false) : zC_i l yX2_sideOf wsX2_sideOf ({ frames := 2, cells := 0, slots := 0, locals := 43 }) G [(cI, .int)] (wm cI oz loz liz siz shz saz nz camez cz gz louz Dz Sz shdz shsz thz) (wm cI oz loz liz siz shz saz nz camez cz gz louz Dz Sz shdz shsz (nI 1)) [.ref oz, .int xz] (nI 0) := by
  refine zB_i (cc := cX2_sideOf) (maxL := 2) (ret := (some .int)) (by decide) rfl (Nat.le_of_ble_eq_true rfl) ?_
  intro p e s m args below meth c0 A hF hr hlk hK hA hP hD hS ls hl
  have hx := hF.1
  have hb := hF.2.1
  have hown := hF.2.2.2.1
  have hts := hF.2.2.2.2
  have hf16 := hts (.fieldLink RX2 16 "SnoringDukesModel" "side" "[I") (by decide +kernel)
  have hinX2 : ∀ wz ∈ wsX20, wz ∈ wsX2_sideOf := by decide +kernel
  have hl : lv_has ls 2 [(0, .ref oz), (1, .int xz)] := hl
  refine lv_aload_n hx hb dX2_sideOf_0 rfl (lv_at hl 0 rfl) ?_
  refine lv_iload_n hx hb dX2_sideOf_1 rfl (lv_at hl 1 rfl) ?_
  refine zK_vi (As := [.int xz]) (rest := []) hF (m_isBerth l G cI oz loz liz siz shz saz nz camez cz gz louz Dz Sz shdz shsz thz hn hc9 hS1 hD1 xz) (cwV 1 hts gX2_sideOf_X2_isBerth rfl rfl rfl (by decide +kernel) ⟨Nat.le_of_ble_eq_true rfl, Nat.le_of_ble_eq_true rfl⟩) hK hP hD hS hA (ci := 2) (q0 := 0) rfl rfl rfl (isC := [0, 1, 2, 3, 4, 5]) (isR := []) (perm := [0, 1, 2, 3, 4, 5]) (wr := []) (wN := wm cI oz loz liz siz shz saz nz camez cz gz louz Dz Sz shdz shsz (bI (!hasI nz xz))) ⟨rfl, by decide, rfl, rfl, (fun _ hz => by cases hz), rfl, by decide⟩ [0] rfl rfl hl.1 rfl (Nat.le_of_ble_eq_true rfl) dX2_sideOf_2 ⟨Nat.le_refl _, Nat.le_refl _⟩ (fun H locs hP hD hS => ?_)
  rw [hno] at hP hD
  have hP : va_P G vwCl (wm cI oz loz liz siz shz saz nz camez cz gz louz Dz Sz shdz shsz (nI 1)) H := hP
  have hD : va_D A (wm cI oz loz liz siz shz saz nz camez cz gz louz Dz Sz shdz shsz (nI 1)) := hD
  refine zN (nI 0) (y := (bI (hasI nz xz))) (by rw [hno]; rfl) ?_
  refine lv_if_eq (tgt := 17) hx hb dX2_sideOf_5 (by decide) (fun hc5 => ?_) (fun hc5 => ?_)
  · skip
    have k5 : 0 = 0 := k0_eq (by omega) hc5
    refine lv_iconst (v := nI 0) hx hb dX2_sideOf_17 (by decide) ?_
    exact zE_i hF hr hlk hK hP hD hS dX2_sideOf_18
  · exact absurd hc5 (by decide)
set_option maxHeartbeats 4000000 in
set_option maxRecDepth 100000 in
theorem m_sideOf_t (l : Launch) (G : va_G) (cI : ClassId) (oz loz liz siz shz saz : Nat) (nz camez : Nat) (cz gz : Int32) (louz Dz Sz shdz shsz : Fn) (thz : Int32) (hn : nz ≤ 63) (hc9 : camez ≤ 500) (hS1 : okS Sz) (hD1 : okD nz Dz) (bz : Nat) (hb9 : bz < nz) : zC_i l yX2_sideOf wsX2_sideOf ({ frames := 2, cells := 0, slots := 0, locals := 43 }) G [(cI, .int)] (wm cI oz loz liz siz shz saz nz camez cz gz louz Dz Sz shdz shsz thz) (wm cI oz loz liz siz shz saz nz camez cz gz louz Dz Sz shdz shsz (nI 0)) [.ref oz, .int (nI bz)] (Sz bz) := by
  refine zB_i (cc := cX2_sideOf) (maxL := 2) (ret := (some .int)) (by decide) rfl (Nat.le_of_ble_eq_true rfl) ?_
  intro p e s m args below meth c0 A hF hr hlk hK hA hP hD hS ls hl
  have hx := hF.1
  have hb := hF.2.1
  have hown := hF.2.2.2.1
  have hts := hF.2.2.2.2
  have hf16 := hts (.fieldLink RX2 16 "SnoringDukesModel" "side" "[I") (by decide +kernel)
  have hinX2 : ∀ wz ∈ wsX20, wz ∈ wsX2_sideOf := by decide +kernel
  have hl : lv_has ls 2 [(0, .ref oz), (1, .int (nI bz))] := hl
  have hyes : hasI nz (nI bz) = true := by rw [hasI_nI (by omega) (by omega)]; exact decide_eq_true hb9
  refine lv_aload_n hx hb dX2_sideOf_0 rfl (lv_at hl 0 rfl) ?_
  refine lv_iload_n hx hb dX2_sideOf_1 rfl (lv_at hl 1 rfl) ?_
  refine zK_vi (As := [.int (nI bz)]) (rest := []) hF (m_isBerth l G cI oz loz liz siz shz saz nz camez cz gz louz Dz Sz shdz shsz thz hn hc9 hS1 hD1 (nI bz)) (cwV 1 hts gX2_sideOf_X2_isBerth rfl rfl rfl (by decide +kernel) ⟨Nat.le_of_ble_eq_true rfl, Nat.le_of_ble_eq_true rfl⟩) hK hP hD hS hA (ci := 2) (q0 := 0) rfl rfl rfl (isC := [0, 1, 2, 3, 4, 5]) (isR := []) (perm := [0, 1, 2, 3, 4, 5]) (wr := []) (wN := wm cI oz loz liz siz shz saz nz camez cz gz louz Dz Sz shdz shsz (bI (!hasI nz (nI bz)))) ⟨rfl, by decide, rfl, rfl, (fun _ hz => by cases hz), rfl, by decide⟩ [0] rfl rfl hl.1 rfl (Nat.le_of_ble_eq_true rfl) dX2_sideOf_2 ⟨Nat.le_refl _, Nat.le_refl _⟩ (fun H locs hP hD hS => ?_)
  rw [hyes] at hP hD
  have hP : va_P G vwCl (wm cI oz loz liz siz shz saz nz camez cz gz louz Dz Sz shdz shsz (nI 0)) H := hP
  have hD : va_D A (wm cI oz loz liz siz shz saz nz camez cz gz louz Dz Sz shdz shsz (nI 0)) := hD
  refine zN (nI 1) (y := (bI (hasI nz (nI bz)))) (by rw [hyes]; rfl) ?_
  refine lv_if_eq (tgt := 17) hx hb dX2_sideOf_5 (by decide) (fun hc5 => ?_) (fun hc5 => ?_)
  · exact absurd hc5 (by decide)
  · skip
    have k5 : 0 < 1 := k0_ne (by omega) hc5
    refine lv_aload_n hx hb dX2_sideOf_8 rfl (lv_at hl 0 rfl) ?_
    refine va_get (D := G) (ci := 2) (v := .ref siz) (C := RX2) (T := TX2) (N := 10) hx hb hts hinX2 hown hK hP 0 rfl rfl 6 (by decide) hf16 (fun _ h9 => h9) rfl dX2_sideOf_9 ?_
    refine lv_iload_n hx hb dX2_sideOf_12 rfl (lv_at hl 1 rfl) ?_
    refine zA_ld hx hb hK hP 3 0 rfl rfl (by omega) (by decide) dX2_sideOf_13 ?_
    refine lv_goto (tgt := 18) hx hb dX2_sideOf_14 (by decide) ?_
    exact zE_i hF hr hlk hK hP hD hS dX2_sideOf_18
set_option maxHeartbeats 4000000 in
set_option maxRecDepth 100000 in
theorem m_loudnessIn_x (l : Launch) (G : va_G) (cI : ClassId) (oz loz liz siz shz saz : Nat) (nz camez : Nat) (cz gz : Int32) (louz Dz Sz shdz shsz : Fn) (thz : Int32) (hn : nz ≤ 63) (hc9 : camez ≤ 500) (hS1 : okS Sz) (hD1 : okD nz Dz) (xz : Int32) (hno : hasI nz xz = false) : zC_i l yX2_loudnessIn wsX2_loudnessIn ({ frames := 2, cells := 0, slots := 0, locals := 43 }) G [(cI, .int)] (wm cI oz loz liz siz shz saz nz camez cz gz louz Dz Sz shdz shsz thz) (wm cI oz loz liz siz shz saz nz camez cz gz louz Dz Sz shdz shsz (nI 1)) [.ref oz, .int xz] (nI 0) := by
  refine zB_i (cc := cX2_loudnessIn) (maxL := 2) (ret := (some .int)) (by decide) rfl (Nat.le_of_ble_eq_true rfl) ?_
  intro p e s m args below meth c0 A hF hr hlk hK hA hP hD hS ls hl
  have hx := hF.1
  have hb := hF.2.1
  have hown := hF.2.2.2.1
  have hts := hF.2.2.2.2
  have hf7 := hts (.fieldLink RX2 7 "SnoringDukesModel" "loud" "[I") (by decide +kernel)
  have hf13 := hts (.fieldLink RX2 13 "SnoringDukesModel" "lies" "[I") (by decide +kernel)
  have hinX2 : ∀ wz ∈ wsX20, wz ∈ wsX2_loudnessIn := by decide +kernel
  have hl : lv_has ls 2 [(0, .ref oz), (1, .int xz)] := hl
  refine lv_aload_n hx hb dX2_loudnessIn_0 rfl (lv_at hl 0 rfl) ?_
  refine lv_iload_n hx hb dX2_loudnessIn_1 rfl (lv_at hl 1 rfl) ?_
  refine zK_vi (As := [.int xz]) (rest := []) hF (m_isBerth l G cI oz loz liz siz shz saz nz camez cz gz louz Dz Sz shdz shsz thz hn hc9 hS1 hD1 xz) (cwV 1 hts gX2_loudnessIn_X2_isBerth rfl rfl rfl (by decide +kernel) ⟨Nat.le_of_ble_eq_true rfl, Nat.le_of_ble_eq_true rfl⟩) hK hP hD hS hA (ci := 2) (q0 := 0) rfl rfl rfl (isC := [0, 1, 2, 3, 4, 5]) (isR := []) (perm := [0, 1, 2, 3, 4, 5]) (wr := []) (wN := wm cI oz loz liz siz shz saz nz camez cz gz louz Dz Sz shdz shsz (bI (!hasI nz xz))) ⟨rfl, by decide, rfl, rfl, (fun _ hz => by cases hz), rfl, by decide⟩ [0] rfl rfl hl.1 rfl (Nat.le_of_ble_eq_true rfl) dX2_loudnessIn_2 ⟨Nat.le_refl _, Nat.le_refl _⟩ (fun H locs hP hD hS => ?_)
  rw [hno] at hP hD
  have hP : va_P G vwCl (wm cI oz loz liz siz shz saz nz camez cz gz louz Dz Sz shdz shsz (nI 1)) H := hP
  have hD : va_D A (wm cI oz loz liz siz shz saz nz camez cz gz louz Dz Sz shdz shsz (nI 1)) := hD
  refine zN (nI 0) (y := (bI (hasI nz xz))) (by rw [hno]; rfl) ?_
  refine lv_if_eq (tgt := 22) hx hb dX2_loudnessIn_5 (by decide) (fun hc5 => ?_) (fun hc5 => ?_)
  · skip
    have k5 : 0 = 0 := k0_eq (by omega) hc5
    refine lv_iconst (v := nI 0) hx hb dX2_loudnessIn_22 (by decide) ?_
    exact zE_i hF hr hlk hK hP hD hS dX2_loudnessIn_23
  · exact absurd hc5 (by decide)
set_option maxHeartbeats 4000000 in
set_option maxRecDepth 100000 in
theorem m_loudnessIn_t (l : Launch) (G : va_G) (cI : ClassId) (oz loz liz siz shz saz : Nat) (nz camez : Nat) (cz gz : Int32) (louz Dz Sz shdz shsz : Fn) (thz : Int32) (hn : nz ≤ 63) (hc9 : camez ≤ 500) (hS1 : okS Sz) (hD1 : okD nz Dz) (bz : Nat) (hb9 : bz < nz) : zC_i l yX2_loudnessIn wsX2_loudnessIn ({ frames := 2, cells := 0, slots := 0, locals := 43 }) G [(cI, .int)] (wm cI oz loz liz siz shz saz nz camez cz gz louz Dz Sz shdz shsz thz) (wm cI oz loz liz siz shz saz nz camez cz gz louz Dz Sz shdz shsz (nI 0)) [.ref oz, .int (nI bz)] (louz (Dz bz).toNatClampNeg) := by
  refine zB_i (cc := cX2_loudnessIn) (maxL := 2) (ret := (some .int)) (by decide) rfl (Nat.le_of_ble_eq_true rfl) ?_
  intro p e s m args below meth c0 A hF hr hlk hK hA hP hD hS ls hl
  have hx := hF.1
  have hb := hF.2.1
  have hown := hF.2.2.2.1
  have hts := hF.2.2.2.2
  have hf7 := hts (.fieldLink RX2 7 "SnoringDukesModel" "loud" "[I") (by decide +kernel)
  have hf13 := hts (.fieldLink RX2 13 "SnoringDukesModel" "lies" "[I") (by decide +kernel)
  have hinX2 : ∀ wz ∈ wsX20, wz ∈ wsX2_loudnessIn := by decide +kernel
  have hl : lv_has ls 2 [(0, .ref oz), (1, .int (nI bz))] := hl
  have hyes : hasI nz (nI bz) = true := by rw [hasI_nI (by omega) (by omega)]; exact decide_eq_true hb9
  obtain ⟨kb, hkb, hDb⟩ := hD1 bz hb9
  rw [show louz (Dz bz).toNatClampNeg = louz kb by rw [hDb, nI_clamp (by omega)]]
  refine lv_aload_n hx hb dX2_loudnessIn_0 rfl (lv_at hl 0 rfl) ?_
  refine lv_iload_n hx hb dX2_loudnessIn_1 rfl (lv_at hl 1 rfl) ?_
  refine zK_vi (As := [.int (nI bz)]) (rest := []) hF (m_isBerth l G cI oz loz liz siz shz saz nz camez cz gz louz Dz Sz shdz shsz thz hn hc9 hS1 hD1 (nI bz)) (cwV 1 hts gX2_loudnessIn_X2_isBerth rfl rfl rfl (by decide +kernel) ⟨Nat.le_of_ble_eq_true rfl, Nat.le_of_ble_eq_true rfl⟩) hK hP hD hS hA (ci := 2) (q0 := 0) rfl rfl rfl (isC := [0, 1, 2, 3, 4, 5]) (isR := []) (perm := [0, 1, 2, 3, 4, 5]) (wr := []) (wN := wm cI oz loz liz siz shz saz nz camez cz gz louz Dz Sz shdz shsz (bI (!hasI nz (nI bz)))) ⟨rfl, by decide, rfl, rfl, (fun _ hz => by cases hz), rfl, by decide⟩ [0] rfl rfl hl.1 rfl (Nat.le_of_ble_eq_true rfl) dX2_loudnessIn_2 ⟨Nat.le_refl _, Nat.le_refl _⟩ (fun H locs hP hD hS => ?_)
  rw [hyes] at hP hD
  have hP : va_P G vwCl (wm cI oz loz liz siz shz saz nz camez cz gz louz Dz Sz shdz shsz (nI 0)) H := hP
  have hD : va_D A (wm cI oz loz liz siz shz saz nz camez cz gz louz Dz Sz shdz shsz (nI 0)) := hD
  refine zN (nI 1) (y := (bI (hasI nz (nI bz)))) (by rw [hyes]; rfl) ?_
  refine lv_if_eq (tgt := 22) hx hb dX2_loudnessIn_5 (by decide) (fun hc5 => ?_) (fun hc5 => ?_)
  · exact absurd hc5 (by decide)
  · skip
    have k5 : 0 < 1 := k0_ne (by omega) hc5
    refine lv_aload_n hx hb dX2_loudnessIn_8 rfl (lv_at hl 0 rfl) ?_
    refine va_get (D := G) (ci := 2) (v := .ref loz) (C := RX2) (T := TX2) (N := 10) hx hb hts hinX2 hown hK hP 0 rfl rfl 4 (by decide) hf7 (fun _ h9 => h9) rfl dX2_loudnessIn_9 ?_
    refine lv_aload_n hx hb dX2_loudnessIn_12 rfl (lv_at hl 0 rfl) ?_
    refine va_get (D := G) (ci := 2) (v := .ref liz) (C := RX2) (T := TX2) (N := 10) hx hb hts hinX2 hown hK hP 0 rfl rfl 5 (by decide) hf13 (fun _ h9 => h9) rfl dX2_loudnessIn_13 ?_
    refine lv_iload_n hx hb dX2_loudnessIn_16 rfl (lv_at hl 1 rfl) ?_
    refine zA_ld hx hb hK hP 2 0 rfl rfl (by omega) (by decide) dX2_loudnessIn_17 ?_
    refine zN (nI kb) (y := (Dz bz)) (hDb) ?_
    refine zA_ld hx hb hK hP 1 0 rfl rfl (by omega) (by decide) dX2_loudnessIn_18 ?_
    refine lv_goto (tgt := 23) hx hb dX2_loudnessIn_19 (by decide) ?_
    exact zE_i hF hr hlk hK hP hD hS dX2_loudnessIn_23
set_option maxHeartbeats 4000000 in
set_option maxRecDepth 100000 in
theorem m_elderOf_x (l : Launch) (G : va_G) (cI : ClassId) (oz loz liz siz shz saz : Nat) (nz camez : Nat) (cz gz : Int32) (louz Dz Sz shdz shsz : Fn) (thz : Int32) (hn : nz ≤ 63) (hc9 : camez ≤ 500) (hS1 : okS Sz) (hD1 : okD nz Dz) (xz : Int32) (hno : hasI nz xz = false) : zC_i l yX2_elderOf wsX2_elderOf ({ frames := 2, cells := 0, slots := 0, locals := 43 }) G [(cI, .int)] (wm cI oz loz liz siz shz saz nz camez cz gz louz Dz Sz shdz shsz thz) (wm cI oz loz liz siz shz saz nz camez cz gz louz Dz Sz shdz shsz (nI 1)) [.ref oz, .int xz] (nI 0) := by
  refine zB_i (cc := cX2_elderOf) (maxL := 2) (ret := (some .int)) (by decide) rfl (Nat.le_of_ble_eq_true rfl) ?_
  intro p e s m args below meth c0 A hF hr hlk hK hA hP hD hS ls hl
  have hx := hF.1
  have hb := hF.2.1
  have hown := hF.2.2.2.1
  have hts := hF.2.2.2.2
  have hl : lv_has ls 2 [(0, .ref oz), (1, .int xz)] := hl
  refine lv_aload_n hx hb dX2_elderOf_0 rfl (lv_at hl 0 rfl) ?_
  refine lv_iload_n hx hb dX2_elderOf_1 rfl (lv_at hl 1 rfl) ?_
  refine zK_vi (As := [.int xz]) (rest := []) hF (m_isBerth l G cI oz loz liz siz shz saz nz camez cz gz louz Dz Sz shdz shsz thz hn hc9 hS1 hD1 xz) (cwV 1 hts gX2_elderOf_X2_isBerth rfl rfl rfl (by decide +kernel) ⟨Nat.le_of_ble_eq_true rfl, Nat.le_of_ble_eq_true rfl⟩) hK hP hD hS hA (ci := 2) (q0 := 0) rfl rfl rfl (isC := [0, 1, 2, 3, 4, 5]) (isR := []) (perm := [0, 1, 2, 3, 4, 5]) (wr := []) (wN := wm cI oz loz liz siz shz saz nz camez cz gz louz Dz Sz shdz shsz (bI (!hasI nz xz))) ⟨rfl, by decide, rfl, rfl, (fun _ hz => by cases hz), rfl, by decide⟩ [0] rfl rfl hl.1 rfl (Nat.le_of_ble_eq_true rfl) dX2_elderOf_2 ⟨Nat.le_refl _, Nat.le_refl _⟩ (fun H locs hP hD hS => ?_)
  rw [hno] at hP hD
  have hP : va_P G vwCl (wm cI oz loz liz siz shz saz nz camez cz gz louz Dz Sz shdz shsz (nI 1)) H := hP
  have hD : va_D A (wm cI oz loz liz siz shz saz nz camez cz gz louz Dz Sz shdz shsz (nI 1)) := hD
  refine zN (nI 0) (y := (bI (hasI nz xz))) (by rw [hno]; rfl) ?_
  refine lv_if_ne (tgt := 12) hx hb dX2_elderOf_5 (by decide) (fun hc5 => ?_) (fun hc5 => ?_)
  · exact absurd hc5 (by decide)
  · skip
    have k5 : 0 = 0 := k0_eq (by omega) hc5
    refine lv_iconst (v := nI 0) hx hb dX2_elderOf_8 (by decide) ?_
    refine lv_goto (tgt := 25) hx hb dX2_elderOf_9 (by decide) ?_
    exact zE_i hF hr hlk hK hP hD hS dX2_elderOf_25
set_option maxHeartbeats 4000000 in
set_option maxRecDepth 100000 in
theorem m_elderOf_t (l : Launch) (G : va_G) (cI : ClassId) (oz loz liz siz shz saz : Nat) (nz camez : Nat) (cz gz : Int32) (louz Dz Sz shdz shsz : Fn) (thz : Int32) (hn : nz ≤ 63) (hc9 : camez ≤ 500) (hS1 : okS Sz) (hD1 : okD nz Dz) (bz : Nat) (hb9 : bz < nz) : zC_i l yX2_elderOf wsX2_elderOf ({ frames := 2, cells := 0, slots := 0, locals := 43 }) G [(cI, .int)] (wm cI oz loz liz siz shz saz nz camez cz gz louz Dz Sz shdz shsz thz) (wm cI oz loz liz siz shz saz nz camez cz gz louz Dz Sz shdz shsz (nI 0)) [.ref oz, .int (nI bz)] (if bz = 0 then -1 else nI (eld Sz bz)) := by
  refine zB_i (cc := cX2_elderOf) (maxL := 2) (ret := (some .int)) (by decide) rfl (Nat.le_of_ble_eq_true rfl) ?_
  intro p e s m args below meth c0 A hF hr hlk hK hA hP hD hS ls hl
  have hx := hF.1
  have hb := hF.2.1
  have hown := hF.2.2.2.1
  have hts := hF.2.2.2.2
  have hl : lv_has ls 2 [(0, .ref oz), (1, .int (nI bz))] := hl
  have hyes : hasI nz (nI bz) = true := by rw [hasI_nI (by omega) (by omega)]; exact decide_eq_true hb9
  refine lv_aload_n hx hb dX2_elderOf_0 rfl (lv_at hl 0 rfl) ?_
  refine lv_iload_n hx hb dX2_elderOf_1 rfl (lv_at hl 1 rfl) ?_
  refine zK_vi (As := [.int (nI bz)]) (rest := []) hF (m_isBerth l G cI oz loz liz siz shz saz nz camez cz gz louz Dz Sz shdz shsz thz hn hc9 hS1 hD1 (nI bz)) (cwV 1 hts gX2_elderOf_X2_isBerth rfl rfl rfl (by decide +kernel) ⟨Nat.le_of_ble_eq_true rfl, Nat.le_of_ble_eq_true rfl⟩) hK hP hD hS hA (ci := 2) (q0 := 0) rfl rfl rfl (isC := [0, 1, 2, 3, 4, 5]) (isR := []) (perm := [0, 1, 2, 3, 4, 5]) (wr := []) (wN := wm cI oz loz liz siz shz saz nz camez cz gz louz Dz Sz shdz shsz (bI (!hasI nz (nI bz)))) ⟨rfl, by decide, rfl, rfl, (fun _ hz => by cases hz), rfl, by decide⟩ [0] rfl rfl hl.1 rfl (Nat.le_of_ble_eq_true rfl) dX2_elderOf_2 ⟨Nat.le_refl _, Nat.le_refl _⟩ (fun H locs hP hD hS => ?_)
  rw [hyes] at hP hD
  have hP : va_P G vwCl (wm cI oz loz liz siz shz saz nz camez cz gz louz Dz Sz shdz shsz (nI 0)) H := hP
  have hD : va_D A (wm cI oz loz liz siz shz saz nz camez cz gz louz Dz Sz shdz shsz (nI 0)) := hD
  refine zN (nI 1) (y := (bI (hasI nz (nI bz)))) (by rw [hyes]; rfl) ?_
  refine lv_if_ne (tgt := 12) hx hb dX2_elderOf_5 (by decide) (fun hc5 => ?_) (fun hc5 => ?_)
  · skip
    have k5 : 0 < 1 := k0_ne (by omega) hc5
    refine lv_iload_n hx hb dX2_elderOf_12 rfl (lv_at hl 1 rfl) ?_
    refine lv_if_ne (tgt := 20) hx hb dX2_elderOf_13 (by decide) (fun hc13 => ?_) (fun hc13 => ?_)
    · skip
      have k13 : 0 < bz := k0_ne (by omega) hc13
      refine lv_aload_n hx hb dX2_elderOf_20 rfl (lv_at hl 0 rfl) ?_
      refine lv_iload_n hx hb dX2_elderOf_21 rfl (lv_at hl 1 rfl) ?_
      refine zK_vi (As := [.int (nI bz)]) (rest := []) hF (m_elder l G cI oz loz liz siz shz saz nz camez cz gz louz Dz Sz shdz shsz (nI 0) (by omega) (by omega) hS1 hD1 bz (by omega) (by omega)) (cwV 1 hts gX2_elderOf_X2_elder rfl rfl rfl (by decide +kernel) ⟨Nat.le_of_ble_eq_true rfl, Nat.le_of_ble_eq_true rfl⟩) hK hP hD hS hA (ci := 2) (q0 := 0) rfl rfl rfl (isC := [0, 1, 2, 3, 4, 5]) (isR := []) (perm := [0, 1, 2, 3, 4, 5]) (wr := []) (wN := wm cI oz loz liz siz shz saz nz camez cz gz louz Dz Sz shdz shsz (nI 0)) ⟨rfl, by decide, rfl, rfl, (fun _ hz => by cases hz), rfl, by decide⟩ [0] rfl rfl hl.1 rfl (Nat.le_of_ble_eq_true rfl) dX2_elderOf_22 ⟨Nat.le_refl _, Nat.le_refl _⟩ (fun H locs hP hD hS => ?_)
      rw [if_neg (by omega)]
      exact zE_i hF hr hlk hK hP hD hS dX2_elderOf_25
    · skip
      have k13 : bz = 0 := k0_eq (by omega) hc13
      refine lv_iconst (v := (-1)) hx hb dX2_elderOf_16 (by decide) ?_
      refine lv_goto (tgt := 25) hx hb dX2_elderOf_17 (by decide) ?_
      rw [if_pos k13]
      exact zE_i hF hr hlk hK hP hD hS dX2_elderOf_25
  · exact absurd hc5 (by decide)
set_option maxHeartbeats 4000000 in
set_option maxRecDepth 100000 in
theorem m_followersOf_x (l : Launch) (G : va_G) (cI : ClassId) (oz loz liz siz shz saz : Nat) (nz camez : Nat) (cz gz : Int32) (louz Dz Sz shdz shsz : Fn) (thz : Int32) (hn : nz ≤ 63) (hc9 : camez ≤ 500) (hS1 : okS Sz) (hD1 : okD nz Dz) (xz : Int32) (hno : hasI nz xz = false) : zC_i l yX2_followersOf wsX2_followersOf ({ frames := 2, cells := 0, slots := 0, locals := 43 }) G [(cI, .int)] (wm cI oz loz liz siz shz saz nz camez cz gz louz Dz Sz shdz shsz thz) (wm cI oz loz liz siz shz saz nz camez cz gz louz Dz Sz shdz shsz (nI 1)) [.ref oz, .int xz] (nI 0) := by
  refine zB_i (cc := cX2_followersOf) (maxL := 5) (ret := (some .int)) (by decide) rfl (Nat.le_of_ble_eq_true rfl) ?_
  intro p e s m args below meth c0 A hF hr hlk hK hA hP hD hS ls hl
  have hx := hF.1
  have hb := hF.2.1
  have hown := hF.2.2.2.1
  have hts := hF.2.2.2.2
  have hf29 := hts (.fieldLink RX2 29 "SnoringDukesModel" "many" "I") (by decide +kernel)
  have hinX2 : ∀ wz ∈ wsX20, wz ∈ wsX2_followersOf := by decide +kernel
  have hl : lv_has ls 5 [(0, .ref oz), (1, .int xz)] := hl
  refine lv_iconst (v := nI 0) hx hb dX2_followersOf_0 (by decide) ?_
  refine lv_istore_n (lv' := [(2, .int (nI 0)), (0, .ref oz), (1, .int xz)]) hx hb dX2_followersOf_1 rfl hl (by decide) rfl (fun ls hl => ?_)
  refine lv_aload_n hx hb dX2_followersOf_2 rfl (lv_at hl 1 rfl) ?_
  refine lv_iload_n hx hb dX2_followersOf_3 rfl (lv_at hl 2 rfl) ?_
  refine zK_vi (As := [.int xz]) (rest := []) hF (m_isBerth l G cI oz loz liz siz shz saz nz camez cz gz louz Dz Sz shdz shsz thz hn hc9 hS1 hD1 xz) (cwV 1 hts gX2_followersOf_X2_isBerth rfl rfl rfl (by decide +kernel) ⟨Nat.le_of_ble_eq_true rfl, Nat.le_of_ble_eq_true rfl⟩) hK hP hD hS hA (ci := 2) (q0 := 0) rfl rfl rfl (isC := [0, 1, 2, 3, 4, 5]) (isR := []) (perm := [0, 1, 2, 3, 4, 5]) (wr := []) (wN := wm cI oz loz liz siz shz saz nz camez cz gz louz Dz Sz shdz shsz (bI (!hasI nz xz))) ⟨rfl, by decide, rfl, rfl, (fun _ hz => by cases hz), rfl, by decide⟩ [0] rfl rfl hl.1 rfl (Nat.le_of_ble_eq_true rfl) dX2_followersOf_4 ⟨Nat.le_refl _, Nat.le_refl _⟩ (fun H locs hP hD hS => ?_)
  rw [hno] at hP hD
  have hP : va_P G vwCl (wm cI oz loz liz siz shz saz nz camez cz gz louz Dz Sz shdz shsz (nI 1)) H := hP
  have hD : va_D A (wm cI oz loz liz siz shz saz nz camez cz gz louz Dz Sz shdz shsz (nI 1)) := hD
  refine zN (nI 0) (y := (bI (hasI nz xz))) (by rw [hno]; rfl) ?_
  refine lv_istore_n (lv' := [(3, .int (nI 0)), (2, .int (nI 0)), (0, .ref oz), (1, .int xz)]) hx hb dX2_followersOf_7 rfl hl (by decide) rfl (fun ls hl => ?_)
  refine lv_iconst (v := nI 1) hx hb dX2_followersOf_8 (by decide) ?_
  refine lv_istore (lv' := [(4, .int (nI 1)), (3, .int (nI 0)), (2, .int (nI 0)), (0, .ref oz), (1, .int xz)]) hx hb dX2_followersOf_9 hl (by decide) rfl (fun ls hl => ?_)
  refine lv_iload hx hb dX2_followersOf_11 (lv_at hl 0 rfl) ?_
  refine lv_aload_n hx hb dX2_followersOf_13 rfl (lv_at hl 3 rfl) ?_
  refine va_get (D := G) (ci := 2) (v := .int (nI nz)) (C := RX2) (T := TX2) (N := 10) hx hb hts hinX2 hown hK hP 0 rfl rfl 0 (by decide) hf29 (fun _ h9 => h9) rfl dX2_followersOf_14 ?_
  refine lv_icmp_ge (tgt := 48) hx hb dX2_followersOf_17 (by decide) (fun hc17 => ?_) (fun hc17 => ?_)
  · skip
    have k17 : nz ≤ 1 := k_le (by omega) (by omega) hc17
    refine lv_iload_n hx hb dX2_followersOf_48 rfl (lv_at hl 2 rfl) ?_
    exact zE_i hF hr hlk hK hP hD hS dX2_followersOf_49
  · skip
    have k17 : 1 < nz := k_nle (by omega) (by omega) hc17
    refine lv_iload_n hx hb dX2_followersOf_20 rfl (lv_at hl 1 rfl) ?_
    refine lv_if_eq (tgt := 48) hx hb dX2_followersOf_21 (by decide) (fun hc21 => ?_) (fun hc21 => ?_)
    · skip
      have k21 : 0 = 0 := k0_eq (by omega) hc21
      refine lv_iload_n hx hb dX2_followersOf_48 rfl (lv_at hl 2 rfl) ?_
      exact zE_i hF hr hlk hK hP hD hS dX2_followersOf_49
    · exact absurd hc21 (by decide)
set_option maxHeartbeats 4000000 in
set_option maxRecDepth 100000 in
theorem m_followersOf_t (l : Launch) (G : va_G) (cI : ClassId) (oz loz liz siz shz saz : Nat) (nz camez : Nat) (cz gz : Int32) (louz Dz Sz shdz shsz : Fn) (thz : Int32) (hn : nz ≤ 63) (hc9 : camez ≤ 500) (hS1 : okS Sz) (hD1 : okD nz Dz) (bz : Nat) (hb9 : bz < nz) : zC_i l yX2_followersOf wsX2_followersOf ({ frames := 2, cells := 0, slots := 0, locals := 43 }) G [(cI, .int)] (wm cI oz loz liz siz shz saz nz camez cz gz louz Dz Sz shdz shsz thz) (wm cI oz loz liz siz shz saz nz camez cz gz louz Dz Sz shdz shsz (nI 0)) [.ref oz, .int (nI bz)] (flw Sz bz nz) := by
  refine zB_i (cc := cX2_followersOf) (maxL := 5) (ret := (some .int)) (by decide) rfl (Nat.le_of_ble_eq_true rfl) ?_
  intro p e s m args below meth c0 A hF hr hlk hK hA hP hD hS ls hl
  have hx := hF.1
  have hb := hF.2.1
  have hown := hF.2.2.2.1
  have hts := hF.2.2.2.2
  have hf29 := hts (.fieldLink RX2 29 "SnoringDukesModel" "many" "I") (by decide +kernel)
  have hinX2 : ∀ wz ∈ wsX20, wz ∈ wsX2_followersOf := by decide +kernel
  have hl : lv_has ls 5 [(0, .ref oz), (1, .int (nI bz))] := hl
  have hyes : hasI nz (nI bz) = true := by rw [hasI_nI (by omega) (by omega)]; exact decide_eq_true hb9
  refine lv_iconst (v := nI 0) hx hb dX2_followersOf_0 (by decide) ?_
  refine lv_istore_n (lv' := [(2, .int (nI 0)), (0, .ref oz), (1, .int (nI bz))]) hx hb dX2_followersOf_1 rfl hl (by decide) rfl (fun ls hl => ?_)
  refine lv_aload_n hx hb dX2_followersOf_2 rfl (lv_at hl 1 rfl) ?_
  refine lv_iload_n hx hb dX2_followersOf_3 rfl (lv_at hl 2 rfl) ?_
  refine zK_vi (As := [.int (nI bz)]) (rest := []) hF (m_isBerth l G cI oz loz liz siz shz saz nz camez cz gz louz Dz Sz shdz shsz thz hn hc9 hS1 hD1 (nI bz)) (cwV 1 hts gX2_followersOf_X2_isBerth rfl rfl rfl (by decide +kernel) ⟨Nat.le_of_ble_eq_true rfl, Nat.le_of_ble_eq_true rfl⟩) hK hP hD hS hA (ci := 2) (q0 := 0) rfl rfl rfl (isC := [0, 1, 2, 3, 4, 5]) (isR := []) (perm := [0, 1, 2, 3, 4, 5]) (wr := []) (wN := wm cI oz loz liz siz shz saz nz camez cz gz louz Dz Sz shdz shsz (bI (!hasI nz (nI bz)))) ⟨rfl, by decide, rfl, rfl, (fun _ hz => by cases hz), rfl, by decide⟩ [0] rfl rfl hl.1 rfl (Nat.le_of_ble_eq_true rfl) dX2_followersOf_4 ⟨Nat.le_refl _, Nat.le_refl _⟩ (fun H locs hP hD hS => ?_)
  rw [hyes] at hP hD
  have hP : va_P G vwCl (wm cI oz loz liz siz shz saz nz camez cz gz louz Dz Sz shdz shsz (nI 0)) H := hP
  have hD : va_D A (wm cI oz loz liz siz shz saz nz camez cz gz louz Dz Sz shdz shsz (nI 0)) := hD
  refine zN (nI 1) (y := (bI (hasI nz (nI bz)))) (by rw [hyes]; rfl) ?_
  refine lv_istore_n (lv' := [(3, .int (nI 1)), (2, .int (nI 0)), (0, .ref oz), (1, .int (nI bz))]) hx hb dX2_followersOf_7 rfl hl (by decide) rfl (fun ls hl => ?_)
  refine lv_iconst (v := nI 1) hx hb dX2_followersOf_8 (by decide) ?_
  refine lv_istore (lv' := [(4, .int (nI 1)), (3, .int (nI 1)), (2, .int (nI 0)), (0, .ref oz), (1, .int (nI bz))]) hx hb dX2_followersOf_9 hl (by decide) rfl (fun ls hl => ?_)
  have hl : lv_has ls 5 [(4, .int (nI 1)), (3, .int (nI 1)), (2, .int (flw Sz bz 1)), (0, .ref oz), (1, .int (nI bz))] := hl
  have loop : ∀ (f9 : Nat) (iz : Nat), (1 ≤ iz) → (iz ≤ nz) → nz - iz < f9 → ∀ (H : Heap) (locs : List Loc) (ls : Array Slot), va_P G vwCl (wm cI oz loz liz siz shz saz nz camez cz gz louz Dz Sz shdz shsz (nI 0)) H → va_D A (wm cI oz loz liz siz shz saz nz camez cz gz louz Dz Sz shdz shsz (nI 0)) → va_S A s.heap H locs → lv_has ls 5 [(0, .ref oz), (1, .int (nI bz)), (2, .int (flw Sz bz iz)), (3, .int (nI 1)), (4, .int (nI iz))] → W p l e ({ frames := 2, cells := 0, slots := 0, locals := 43 }) s m args below meth c0 H locs 0 0 (zQ_i below G [(cI, .int)] (wm cI oz loz liz siz shz saz nz camez cz gz louz Dz Sz shdz shsz (nI 0)) (flw Sz bz nz) A args s) (F0 m 11 ls []) := by
    intro f9
    induction f9 with
    | zero => intro iz h1 h2 hf; exact absurd hf (Nat.not_lt_zero _)
    | succ f9 ih =>
      intro iz h1 h2 hf H locs ls hP hD hS hl
      have ze := eld_le Sz iz
      refine lv_iload hx hb dX2_followersOf_11 (lv_at hl 4 rfl) ?_
      refine lv_aload_n hx hb dX2_followersOf_13 rfl (lv_at hl 0 rfl) ?_
      refine va_get (D := G) (ci := 2) (v := .int (nI nz)) (C := RX2) (T := TX2) (N := 10) hx hb hts hinX2 hown hK hP 0 rfl rfl 0 (by decide) hf29 (fun _ h9 => h9) rfl dX2_followersOf_14 ?_
      refine lv_icmp_ge (tgt := 48) hx hb dX2_followersOf_17 (by decide) (fun hc17 => ?_) (fun hc17 => ?_)
      · skip
        have k17 : nz ≤ iz := k_le (by omega) (by omega) hc17
        refine lv_iload_n hx hb dX2_followersOf_48 rfl (lv_at hl 2 rfl) ?_
        obtain rfl : nz = iz := by omega
        exact zE_i hF hr hlk hK hP hD hS dX2_followersOf_49
      · skip
        have k17 : iz < nz := k_nle (by omega) (by omega) hc17
        refine lv_iload_n hx hb dX2_followersOf_20 rfl (lv_at hl 3 rfl) ?_
        refine lv_if_eq (tgt := 48) hx hb dX2_followersOf_21 (by decide) (fun hc21 => ?_) (fun hc21 => ?_)
        · exact absurd hc21 (by decide)
        · skip
          have k21 : 0 < 1 := k0_ne (by omega) hc21
          refine lv_iload_n hx hb dX2_followersOf_24 rfl (lv_at hl 2 rfl) ?_
          refine lv_aload_n hx hb dX2_followersOf_25 rfl (lv_at hl 0 rfl) ?_
          refine lv_iload hx hb dX2_followersOf_26 (lv_at hl 4 rfl) ?_
          refine zK_vi (As := [.int (nI iz)]) (rest := [.int (flw Sz bz iz)]) hF (m_elder l G cI oz loz liz siz shz saz nz camez cz gz louz Dz Sz shdz shsz (nI 0) (by omega) (by omega) hS1 hD1 iz (by omega) (by omega)) (cwV 1 hts gX2_followersOf_X2_elder rfl rfl rfl (by decide +kernel) ⟨Nat.le_of_ble_eq_true rfl, Nat.le_of_ble_eq_true rfl⟩) hK hP hD hS hA (ci := 2) (q0 := 0) rfl rfl rfl (isC := [0, 1, 2, 3, 4, 5]) (isR := []) (perm := [0, 1, 2, 3, 4, 5]) (wr := []) (wN := wm cI oz loz liz siz shz saz nz camez cz gz louz Dz Sz shdz shsz (nI 0)) ⟨rfl, by decide, rfl, rfl, (fun _ hz => by cases hz), rfl, by decide⟩ [0] rfl rfl hl.1 rfl (Nat.le_of_ble_eq_true rfl) dX2_followersOf_28 ⟨Nat.le_refl _, Nat.le_refl _⟩ (fun H locs hP hD hS => ?_)
          refine lv_iload_n hx hb dX2_followersOf_31 rfl (lv_at hl 1 rfl) ?_
          refine lv_icmp_ne (tgt := 39) hx hb dX2_followersOf_32 (by decide) (fun hc32 => ?_) (fun hc32 => ?_)
          · skip
            have k32 : (eld Sz iz) ≠ bz := k_ne (by omega) (by omega) hc32
            refine lv_iconst (v := nI 0) hx hb dX2_followersOf_39 (by decide) ?_
            refine lv_iadd hx hb dX2_followersOf_40 ?_
            refine zN (flw Sz bz (iz + 1)) (y := ((flw Sz bz iz) + (nI 0))) (by rw [flw, if_neg (fun qz => k32 qz.2)]; exact z_add0 _) ?_
            refine lv_istore_n (lv' := [(2, .int (flw Sz bz (iz + 1))), (0, .ref oz), (1, .int (nI bz)), (3, .int (nI 1)), (4, .int (nI iz))]) hx hb dX2_followersOf_41 rfl hl (by decide) rfl (fun ls hl => ?_)
            refine lv_iinc (v := nI (iz + 1)) (lv' := [(4, .int (nI (iz + 1))), (2, .int (flw Sz bz (iz + 1))), (0, .ref oz), (1, .int (nI bz)), (3, .int (nI 1))]) hx hb dX2_followersOf_42 hl (k := 4) rfl (nI_1 _) (by decide) rfl (fun ls hl => ?_)
            refine lv_goto (tgt := 11) hx hb dX2_followersOf_45 (by decide) ?_
            exact ih (iz + 1) (by omega) (by omega) (by omega) _ _ _ hP hD hS (lv_sub hl [2, 3, 1, 4, 0] rfl)
          · skip
            have k32 : (eld Sz iz) = bz := k_eq (by omega) (by omega) hc32
            refine lv_iconst (v := nI 1) hx hb dX2_followersOf_35 (by decide) ?_
            refine lv_goto (tgt := 40) hx hb dX2_followersOf_36 (by decide) ?_
            refine lv_iadd hx hb dX2_followersOf_40 ?_
            refine zN (flw Sz bz (iz + 1)) (y := ((flw Sz bz iz) + (nI 1))) (by rw [flw, if_pos ⟨by omega, k32⟩]; rfl) ?_
            refine lv_istore_n (lv' := [(2, .int (flw Sz bz (iz + 1))), (0, .ref oz), (1, .int (nI bz)), (3, .int (nI 1)), (4, .int (nI iz))]) hx hb dX2_followersOf_41 rfl hl (by decide) rfl (fun ls hl => ?_)
            refine lv_iinc (v := nI (iz + 1)) (lv' := [(4, .int (nI (iz + 1))), (2, .int (flw Sz bz (iz + 1))), (0, .ref oz), (1, .int (nI bz)), (3, .int (nI 1))]) hx hb dX2_followersOf_42 hl (k := 4) rfl (nI_1 _) (by decide) rfl (fun ls hl => ?_)
            refine lv_goto (tgt := 11) hx hb dX2_followersOf_45 (by decide) ?_
            exact ih (iz + 1) (by omega) (by omega) (by omega) _ _ _ hP hD hS (lv_sub hl [2, 3, 1, 4, 0] rfl)
  exact loop (nz + 1) 1 (Nat.le_refl _) (by omega) (by omega) _ _ _ hP hD hS (lv_sub hl [3, 4, 2, 1, 0] rfl)
end
section
/-! the weak heap's order, and that class and reference go on alike -/
theorem ile_trans {a b c : Int32} (h : a ≤ b) (h2 : b ≤ c) : a ≤ c := by
  simp only [Int32.le_iff_toInt_le] at *
  omega
theorem ilt_le {a b : Int32} (h : a < b) : a ≤ b := by
  simp only [Int32.le_iff_toInt_le, Int32.lt_iff_toInt_lt] at *
  omega
theorem ile_rfl (a : Int32) : a ≤ a := by simp only [Int32.le_iff_toInt_le]; omega
theorem sd_flip {S : Fn} (h : okS S) (j x : Nat) : sd (upd S j (1 - S j)) x = if x = j then 1 - sd S j else sd S x := by
  unfold sd upd
  by_cases e : x = j
  · rw [if_pos e, if_pos e]
    rcases h.1 j with q | q
    · rw [q]; decide
    · rw [q]; decide
  · rw [if_neg e, if_neg e]
theorem eld_flip {S : Fn} (h : okS S) {j : Nat} (hj : 0 < j) : ∀ x, (eld (upd S j (1 - S j)) x = eld S x ∧ eld S x ≠ j) ∨ (eld S x = j ∧ eld (upd S j (1 - S j)) x = eld S j ∧ j < x) ∨ (eld S x = eld S j ∧ eld (upd S j (1 - S j)) x = j ∧ j < x) := by
  intro x
  induction x using Nat.strongRecOn with
  | ind x ih =>
    by_cases h1 : x ≤ 1
    · rw [eld_1 h1, eld_1 h1]
      exact Or.inl ⟨rfl, by omega⟩
    · have hs := sd_flip h j (x / 2)
      have hl := sd_le S (x / 2)
      by_cases h2 : x / 2 = j
      · rw [if_pos h2] at hs
        have hj2 : eld (upd S j (1 - S j)) j = eld S j := by
          rcases ih j (by omega) with q | q | q
          · exact q.1
          · omega
          · omega
        by_cases h3 : x % 2 = sd S (x / 2)
        · refine Or.inr (Or.inr ⟨?_, ?_, by omega⟩)
          · rw [eld_up h1 h3, h2]
          · rw [eld_st h1 (by rw [hs]; rw [h2] at h3 hl; omega), h2]
        · refine Or.inr (Or.inl ⟨?_, ?_, by omega⟩)
          · rw [eld_st h1 h3, h2]
          · rw [eld_up h1 (by rw [hs]; rw [h2] at h3 hl; omega), h2, hj2]
      · rw [if_neg h2] at hs
        by_cases h3 : x % 2 = sd S (x / 2)
        · rw [eld_up h1 h3, eld_up h1 (by rw [hs]; exact h3)]
          rcases ih (x / 2) (by omega) with q | q | q
          · exact Or.inl q
          · exact Or.inr (Or.inl ⟨q.1, q.2.1, by omega⟩)
          · exact Or.inr (Or.inr ⟨q.1, q.2.1, by omega⟩)
        · rw [eld_st h1 h3, eld_st h1 (by rw [hs]; exact h3)]
          exact Or.inl ⟨rfl, h2⟩
theorem eld_cong {S S2 : Fn} : ∀ b, (∀ i, i ≤ b / 2 → S i = S2 i) → eld S b = eld S2 b := by
  intro b
  induction b using Nat.strongRecOn with
  | ind b ih =>
    intro h
    by_cases h1 : b ≤ 1
    · rw [eld_1 h1, eld_1 h1]
    · have hs : sd S (b / 2) = sd S2 (b / 2) := by unfold sd; rw [h (b / 2) (by omega)]
      by_cases h3 : b % 2 = sd S (b / 2)
      · rw [eld_up h1 h3, eld_up h1 (by rw [← hs]; exact h3)]
        exact ih (b / 2) (by omega) (fun i hi => h i (by omega))
      · rw [eld_st h1 h3, eld_st h1 (by rw [← hs]; exact h3)]
def whp (n : Nat) (L S : Fn) : Prop := ∀ x, 0 < x → x < n → L (eld S x) ≤ L x
def holeP (n : Nat) (L S : Fn) (b : Nat) : Prop := (∀ x, 0 < x → x < n → x ≠ b → L (eld S x) ≤ L x) ∧ (0 < b → ∀ x, 0 < x → x < n → eld S x = b → L (eld S b) ≤ L x)
theorem ex_e {L : Fn} {e j : Nat} (h : e ≠ j) : exF L e j e = L j := by rw [exF_at, if_neg h, if_pos rfl]
theorem ex_j (L : Fn) (e j : Nat) : exF L e j j = L e := by rw [exF_at, if_pos rfl]
theorem ex_o {L : Fn} {e j k : Nat} (h1 : k ≠ e) (h2 : k ≠ j) : exF L e j k = L k := by rw [exF_at, if_neg h2, if_neg h1]
/-- one joining with a change: where the order holds, it still holds -/
theorem flip_ok {n : Nat} {L S : Fn} (hS : okS S) {b : Nat} (hb : 0 < b) (hlt : L b < L (eld S b)) {x : Nat} (hx : 0 < x) (hxn : x < n) (hxe : x ≠ eld S b) (hxb : x ≠ b) (h : L (eld S x) ≤ L x) : exF L (eld S b) b (eld (upd S b (1 - S b)) x) ≤ exF L (eld S b) b x := by
  have he := eld_lt (S := S) hb
  rw [ex_o (k := x) hxe hxb]
  rcases eld_flip hS hb x with ⟨q1, q2⟩ | ⟨q1, q2, q3⟩ | ⟨q1, q2, q3⟩
  · rw [q1]
    by_cases h2 : eld S x = eld S b
    · rw [h2, ex_e (by omega)]
      rw [h2] at h
      exact ile_trans (ilt_le hlt) h
    · rw [ex_o h2 q2]
      exact h
  · rw [q2, ex_e (by omega)]
    rw [q1] at h
    exact h
  · rw [q2, ex_j]
    rw [q1] at h
    exact h
theorem flip_b {S : Fn} (hS : okS S) {b : Nat} (hb : 0 < b) {x : Nat} (hx : x ≤ b) : eld (upd S b (1 - S b)) x = eld S x := by
  rcases eld_flip hS hb x with ⟨q1, q2⟩ | ⟨q1, q2, q3⟩ | ⟨q1, q2, q3⟩
  · exact q1
  · omega
  · omega
theorem joinF_t {s : Bool} {u : WH} {e j : Nat} (h : jc s u e j = true) : joinF s u e j = (exF (wD u) e j, exF (wL u) e j, upd (wS u) j (1 - wS u j), wn u, wc u + 1, wg u + 1) := by unfold joinF; rw [if_pos h]
theorem joinF_f {s : Bool} {u : WH} {e j : Nat} (h : jc s u e j = false) : joinF s u e j = (wD u, wL u, wS u, wn u, wc u + 1, wg u) := by unfold joinF; rw [if_neg (by rw [h]; decide)]
theorem jc_t {u : WH} {e j : Nat} : jc false u e j = true ↔ wL u j < wL u e := by unfold jc; rw [Bool.false_or]; exact decide_eq_true_iff
theorem jc_f {u : WH} {e j : Nat} (h : jc false u e j = false) : wL u e ≤ wL u j := by
  unfold jc at h
  rw [Bool.false_or] at h
  have := of_decide_eq_false h
  simp only [Int32.le_iff_toInt_le, Int32.lt_iff_toInt_lt] at *
  omega
theorem rise_whp : ∀ (f : Nat) {u : WH} {b : Nat}, okS (wS u) → holeP (wn u) (wL u) (wS u) b → b < wn u → b ≤ f → whp (wn u) (wL (riseF false f u b).1) (wS (riseF false f u b).1)
  | 0, u, b, hS, hh, hbn, hbf => by
    intro x hx hxn
    exact hh.1 x hx hxn (by omega)
  | f + 1, u, b, hS, hh, hbn, hbf => by
    unfold riseF
    by_cases h0 : b = 0
    · rw [if_pos h0]
      intro x hx hxn
      exact hh.1 x hx hxn (by omega)
    · rw [if_neg h0]
      have hb : 0 < b := by omega
      have he := eld_lt (S := wS u) hb
      by_cases hj : jc false u (eld (wS u) b) b = true
      · rw [if_pos hj]
        have hlt := jc_t.mp hj
        have key : holeP (wn (joinF false u (eld (wS u) b) b)) (wL (joinF false u (eld (wS u) b) b)) (wS (joinF false u (eld (wS u) b) b)) (eld (wS u) b) := by
          rw [joinF_t hj]
          show holeP (wn u) (exF (wL u) (eld (wS u) b) b) (upd (wS u) b (1 - wS u b)) (eld (wS u) b)
          refine ⟨fun x hx hxn hxe => ?_, fun he0 x hx hxn hex => ?_⟩
          · by_cases hxb : x = b
            · subst hxb
              rw [flip_b hS hb (Nat.le_refl _), ex_e (by omega), ex_j]
              exact ilt_le hlt
            · exact flip_ok hS hb hlt hx hxn hxe hxb (hh.1 x hx hxn hxb)
          · have h1 := eld_lt (S := wS u) he0
            have h2 := hh.1 (eld (wS u) b) he0 (by omega) (by omega)
            rw [flip_b hS hb (by omega), ex_o (by omega) (by omega)]
            by_cases hxb : x = b
            · subst hxb
              rw [ex_j]
              exact h2
            · have hxx : x ≠ eld (wS u) b := fun q => by
                have := eld_lt (S := upd (wS u) b (1 - wS u b)) hx
                omega
              rw [ex_o hxx hxb]
              rcases eld_flip hS hb x with ⟨q1, q2⟩ | ⟨q1, q2, q3⟩ | ⟨q1, q2, q3⟩
              · have h3 := hh.1 x hx hxn hxb
                rw [← q1, hex] at h3
                exact ile_trans h2 h3
              · exact ile_trans h2 (hh.2 hb x hx hxn q1)
              · omega
        have hn := joinF_n false u (eld (wS u) b) b
        rw [← hn]
        exact rise_whp f (joinF_okS hS hb) key (by rw [hn]; omega) (by omega)
      · have hj := Bool.not_eq_true _ ▸ hj
        rw [if_neg (by rw [hj]; decide), joinF_f hj]
        intro x hx hxn
        by_cases hxb : x = b
        · subst hxb
          exact jc_f hj
        · exact hh.1 x hx hxn hxb
theorem all_whp : ∀ (b : Nat) {u : WH}, okS (wS u) → (∀ x, b < x → x < wn u → wL u (eld (wS u) x) ≤ wL u x) → b < wn u → whp (wn u) (wL (allF b u)) (wS (allF b u))
  | 0, u, hS, h, hb => fun x hx hxn => h x hx hxn
  | b + 1, u, hS, h, hb => by
    have h0 : 0 < b + 1 := Nat.succ_pos b
    have he := eld_lt (S := wS u) h0
    unfold allF
    have hn := joinF_n false u (eld (wS u) (b + 1)) (b + 1)
    rw [← hn]
    refine all_whp b (joinF_okS hS h0) ?_ (by rw [hn]; omega)
    rw [hn]
    intro x hx hxn
    cases hj : jc false u (eld (wS u) (b + 1)) (b + 1) with
    | true =>
      rw [joinF_t hj]
      show exF (wL u) (eld (wS u) (b + 1)) (b + 1) (eld (upd (wS u) (b + 1) (1 - wS u (b + 1))) x) ≤ exF (wL u) (eld (wS u) (b + 1)) (b + 1) x
      have hlt := jc_t.mp hj
      by_cases hxb : x = b + 1
      · subst hxb
        rw [flip_b hS h0 (Nat.le_refl _), ex_e (by omega), ex_j]
        exact ilt_le hlt
      · exact flip_ok hS h0 hlt (by omega) hxn (by omega) hxb (h x (by omega) hxn)
    | false =>
      rw [joinF_f hj]
      show wL u (eld (wS u) x) ≤ wL u x
      by_cases hxb : x = b + 1
      · subst hxb
        exact jc_f hj
      · exact h x (by omega) hxn
/-- a berth, or one above it -/
def anc (a b : Nat) : Prop := ∃ k, a = b / 2 ^ k
theorem anc_self (b : Nat) : anc b b := ⟨0, by rw [Nat.pow_zero, Nat.div_one]⟩
theorem anc_up {a b : Nat} (h : anc a (b / 2)) : anc a b := by
  obtain ⟨k, rfl⟩ := h
  exact ⟨k + 1, by rw [Nat.div_div_eq_div_mul, Nat.pow_succ, Nat.mul_comm]⟩
theorem anc_dn {a b : Nat} (h : anc a b) : a = b ∨ anc a (b / 2) := by
  obtain ⟨k, rfl⟩ := h
  cases k with
  | zero => exact Or.inl (by rw [Nat.pow_zero, Nat.div_one])
  | succ k => exact Or.inr ⟨k, by rw [Nat.div_div_eq_div_mul, Nat.pow_succ, Nat.mul_comm]⟩
theorem anc_le {a b : Nat} (h : anc a b) : a ≤ b := by
  obtain ⟨k, rfl⟩ := h
  exact Nat.div_le_self _ _
theorem top_whp : ∀ (f : Nat) {u : WH} {b : Nat}, okS (wS u) → (∀ x, 0 < x → x < wn u → ¬ anc x b → wL u (eld (wS u) x) ≤ wL u x) → (∀ a, anc a b → 0 < a → eld (wS u) a = 0) → b < wn u → b ≤ f → whp (wn u) (wL (topF f u b)) (wS (topF f u b))
  | 0, u, b, hS, h1, h2, hb, hf => by
    intro x hx hxn
    exact h1 x hx hxn (fun q => by have := anc_le q; omega)
  | f + 1, u, b, hS, h1, h2, hb, hf => by
    by_cases h0 : b = 0
    · rw [topF, if_pos h0]
      intro x hx hxn
      exact h1 x hx hxn (fun q => by have := anc_le q; omega)
    · rw [topF, if_neg h0]
      have hb0 : 0 < b := by omega
      have he : eld (wS u) b = 0 := h2 b (anc_self b) hb0
      have hn := joinF_n false u 0 b
      rw [← hn]
      refine top_whp f (joinF_okS hS hb0) ?_ ?_ (by rw [hn]; omega) (by omega)
      · rw [hn]
        intro x hx hxn hax
        cases hj : jc false u 0 b with
        | true =>
          rw [joinF_t hj]
          show exF (wL u) 0 b (eld (upd (wS u) b (1 - wS u b)) x) ≤ exF (wL u) 0 b x
          have hlt := jc_t.mp hj
          by_cases hxb : x = b
          · subst hxb
            rw [flip_b hS hb0 (Nat.le_refl _), he, ex_e (by omega), ex_j]
            exact ilt_le hlt
          · have h3 : ¬ anc x b := fun q => by
              rcases anc_dn q with q | q
              · exact hxb q
              · exact hax q
            have h4 := flip_ok (n := wn u) (L := wL u) hS hb0 (by rw [he]; exact hlt) hx hxn (by omega) hxb (h1 x hx hxn h3)
            rw [he] at h4
            exact h4
        | false =>
          rw [joinF_f hj]
          show wL u (eld (wS u) x) ≤ wL u x
          by_cases hxb : x = b
          · subst hxb
            rw [he]
            exact jc_f hj
          · exact h1 x hx hxn (fun q => by
              rcases anc_dn q with q | q
              · exact hxb q
              · exact hax q)
      · intro a ha ha0
        have h3 := anc_le ha
        cases hj : jc false u 0 b with
        | true =>
          rw [joinF_t hj]
          show eld (upd (wS u) b (1 - wS u b)) a = 0
          rw [flip_b hS hb0 (by omega)]
          exact h2 a (anc_up ha) ha0
        | false =>
          rw [joinF_f hj]
          exact h2 a (anc_up ha) ha0
/-- to the left, and on -/
def spn (S : Fn) : Nat → Nat
  | 0 => 1
  | k + 1 => 2 * spn S k + sd S (spn S k)
theorem spn_pos (S : Fn) : ∀ k, 0 < spn S k
  | 0 => Nat.one_pos
  | k + 1 => by
    have := spn_pos S k
    unfold spn
    omega
theorem spn_half (S : Fn) (k : Nat) : spn S (k + 1) / 2 = spn S k := by
  have := sd_le S (spn S k)
  rw [spn]
  omega
theorem spn_eld (S : Fn) : ∀ k, eld S (spn S k) = 0
  | 0 => eld_1 (Nat.le_refl 1)
  | k + 1 => by
    have h1 := spn_pos S k
    have h2 := sd_le S (spn S k)
    have h3 := spn_half S k
    rw [eld_up (by rw [spn]; omega) (by rw [h3, spn]; omega), h3]
    exact spn_eld S k
theorem spn_lt (S : Fn) (k : Nat) : spn S k < spn S (k + 1) := by
  have := spn_pos S k
  rw [spn]
  omega
theorem spn_mono (S : Fn) (k : Nat) : ∀ m, spn S k ≤ spn S (k + m)
  | 0 => Nat.le_refl _
  | m + 1 => by
    have h1 := spn_mono S k m
    have h2 := spn_lt S (k + m)
    have e : k + (m + 1) = (k + m) + 1 := rfl
    rw [e]
    omega
theorem spn_all {S : Fn} : ∀ x, 0 < x → eld S x = 0 → ∃ k, x = spn S k := by
  intro x
  induction x using Nat.strongRecOn with
  | ind x ih =>
    intro hx h0
    by_cases h1 : x ≤ 1
    · exact ⟨0, by rw [spn]; omega⟩
    · by_cases h3 : x % 2 = sd S (x / 2)
      · rw [eld_up h1 h3] at h0
        obtain ⟨k, hk⟩ := ih (x / 2) (by omega) (by omega) h0
        refine ⟨k + 1, ?_⟩
        rw [spn, ← hk, ← h3]
        omega
      · rw [eld_st h1 h3] at h0
        omega
theorem low_spn {S : Fn} {n : Nat} : ∀ (f k : Nat), n ≤ spn S k + f → ∃ m, k ≤ m ∧ lowF S n f (spn S k) = spn S m ∧ n ≤ spn S (m + 1)
  | 0, k, h => ⟨k, Nat.le_refl _, rfl, by have := spn_lt S k; omega⟩
  | f + 1, k, h => by
    by_cases h1 : 2 * spn S k + sd S (spn S k) < n
    · rw [lowF_go h1]
      have h2 := spn_lt S k
      obtain ⟨m, q1, q2, q3⟩ := low_spn (S := S) (n := n) f (k + 1) (by omega)
      exact ⟨m, by omega, q2, q3⟩
    · rw [lowF_no h1]
      exact ⟨k, Nat.le_refl _, rfl, by rw [spn]; omega⟩
theorem anc_spn (S : Fn) (k : Nat) : ∀ m, anc (spn S k) (spn S (k + m))
  | 0 => anc_self _
  | m + 1 => by
    refine anc_up ?_
    rw [show k + (m + 1) = (k + m) + 1 from rfl, spn_half]
    exact anc_spn S k m
theorem spn_anc (S : Fn) : ∀ (m a : Nat), anc a (spn S m) → 0 < a → eld S a = 0
  | 0, a, h, ha => eld_1 (by have := anc_le h; rw [spn] at this; exact this)
  | m + 1, a, h, ha => by
    rcases anc_dn h with q | q
    · rw [q]; exact spn_eld S _
    · rw [spn_half] at q
      exact spn_anc S m a q ha
theorem rm_whp {u : WH} (hS : okS (wS u)) (h : whp (wn u) (wL u) (wS u)) (hn : wn u ≤ 63) : whp (wn u - 1) (wL (rmF u)) (wS (rmF u)) := by
  have hx0 : ∀ x, 0 < x → x < wn u - 1 → eld (wS u) x ≠ 0 → wL (mvF u) (eld (wS u) x) ≤ wL (mvF u) x := by
    intro x hx hxn he
    show upd (wL u) 0 _ _ ≤ upd (wL u) 0 _ _
    unfold upd
    rw [if_neg he, if_neg (by omega)]
    exact h x hx (by omega)
  unfold rmF
  by_cases h1 : 1 < wn u - 1
  · rw [if_pos h1]
    show whp (wn (mvF u)) (wL (topF 63 (mvF u) (lowF (wS u) (wn u - 1) 63 1))) (wS (topF 63 (mvF u) (lowF (wS u) (wn u - 1) 63 1)))
    obtain ⟨m, -, q2, q3⟩ := low_spn (S := wS u) (n := wn u - 1) 63 0 (by omega)
    have q2 : lowF (wS u) (wn u - 1) 63 1 = spn (wS u) m := q2
    have hlt := lowF_lt (S := wS u) (n := wn u - 1) (f := 63) h1
    refine top_whp 63 hS ?_ ?_ hlt (by omega)
    · intro x hx hxn hax
      refine hx0 x hx hxn (fun he => ?_)
      obtain ⟨k, rfl⟩ := spn_all x hx he
      refine hax ?_
      rw [q2]
      rcases Nat.lt_or_ge m k with q | q
      · have := spn_mono (wS u) (m + 1) (k - (m + 1))
        rw [show m + 1 + (k - (m + 1)) = k by omega] at this
        have hxn : spn (wS u) k < wn u - 1 := hxn
        omega
      · have := anc_spn (wS u) k (m - k)
        rw [show k + (m - k) = m by omega] at this
        exact this
    · intro a ha ha0
      rw [q2] at ha
      exact spn_anc (wS u) m a ha ha0
  · rw [if_neg h1]
    intro x hx hxn
    omega
end
section
/-! two heaps that agree below their size go on alike -/
def ag (u v : WH) : Prop := wn u = wn v ∧ wc u = wc v ∧ wg u = wg v ∧ ∀ b, b < wn u → wD u b = wD v b ∧ wL u b = wL v b ∧ wS u b = wS v b
theorem ag_rfl (u : WH) : ag u u := ⟨rfl, rfl, rfl, fun _ _ => ⟨rfl, rfl, rfl⟩⟩
theorem ag_trans {u v w : WH} (h : ag u v) (h2 : ag v w) : ag u w :=
  ⟨h.1.trans h2.1, h.2.1.trans h2.2.1, h.2.2.1.trans h2.2.2.1, fun b hb => ⟨(h.2.2.2 b hb).1.trans (h2.2.2.2 b (h.1 ▸ hb)).1, (h.2.2.2 b hb).2.1.trans (h2.2.2.2 b (h.1 ▸ hb)).2.1, (h.2.2.2 b hb).2.2.trans (h2.2.2.2 b (h.1 ▸ hb)).2.2⟩⟩
theorem ag_sym {u v : WH} (h : ag u v) : ag v u := ⟨h.1.symm, h.2.1.symm, h.2.2.1.symm, fun b hb => by
  obtain ⟨a1, a2, a3⟩ := h.2.2.2 b (by rw [h.1]; exact hb)
  exact ⟨a1.symm, a2.symm, a3.symm⟩⟩
theorem ag_eld {u v : WH} (h : ag u v) {b : Nat} (hb : b < wn u) : eld (wS u) b = eld (wS v) b := eld_cong b fun i hi => (h.2.2.2 i (by omega)).2.2
theorem ex_cong {f g : Fn} {n i j : Nat} (h : ∀ b, b < n → f b = g b) (hi : i < n) (hj : j < n) : ∀ b, b < n → exF f i j b = exF g i j b := by
  intro b hb
  rw [exF_at, exF_at]
  split
  · exact h i hi
  · split
    · exact h j hj
    · exact h b hb
theorem upd_cong {f g : Fn} {n i : Nat} {x y : Int32} (h : ∀ b, b < n → f b = g b) (hx : x = y) : ∀ b, b < n → upd f i x b = upd g i y b := by
  intro b hb
  unfold upd
  split
  · exact hx
  · exact h b hb
theorem ag_jc {u v : WH} (h : ag u v) (s : Bool) {e j : Nat} (he : e < wn u) (hj : j < wn u) : jc s u e j = jc s v e j := by
  unfold jc
  rw [(h.2.2.2 e he).2.1, (h.2.2.2 j hj).2.1]
theorem ag_join {u v : WH} (h : ag u v) (s : Bool) {e j : Nat} (he : e < wn u) (hj : j < wn u) : ag (joinF s u e j) (joinF s v e j) := by
  have hc := ag_jc h s he hj
  obtain ⟨h1, h2, h3, h4⟩ := h
  cases hb : jc s u e j with
  | true =>
    rw [joinF_t hb, joinF_t (by rw [← hc]; exact hb)]
    refine ⟨h1, by show wc u + 1 = wc v + 1; rw [h2], by show wg u + 1 = wg v + 1; rw [h3], fun b hbn => ?_⟩
    have hbn : b < wn u := hbn
    exact ⟨ex_cong (fun b hb => (h4 b hb).1) he hj b hbn, ex_cong (fun b hb => (h4 b hb).2.1) he hj b hbn, upd_cong (fun b hb => (h4 b hb).2.2) (by rw [(h4 j hj).2.2]) b hbn⟩
  | false =>
    rw [joinF_f hb, joinF_f (by rw [← hc]; exact hb)]
    exact ⟨h1, by show wc u + 1 = wc v + 1; rw [h2], h3, h4⟩
theorem ag_rise (s : Bool) : ∀ (f : Nat) {u v : WH} {b : Nat}, ag u v → b < wn u → ag (riseF s f u b).1 (riseF s f v b).1 ∧ (riseF s f u b).2 = (riseF s f v b).2
  | 0, u, v, b, h, hb => ⟨h, rfl⟩
  | f + 1, u, v, b, h, hb => by
    unfold riseF
    by_cases h0 : b = 0
    · rw [if_pos h0, if_pos h0]
      exact ⟨h, rfl⟩
    · rw [if_neg h0, if_neg h0, ← ag_eld h hb]
      have he := eld_lt (S := wS u) (b := b) (by omega)
      have hj := ag_join h s (e := eld (wS u) b) (by omega) hb
      rw [← ag_jc h s (e := eld (wS u) b) (by omega) hb]
      split
      · exact ag_rise s f hj (by rw [joinF_n]; omega)
      · exact ⟨hj, rfl⟩
theorem low_cong {S S2 : Fn} {n : Nat} (h : ∀ b, b < n → S b = S2 b) : ∀ (f : Nat) {b : Nat}, b < n → lowF S n f b = lowF S2 n f b
  | 0, b, hb => rfl
  | f + 1, b, hb => by
    have hs : sd S b = sd S2 b := by unfold sd; rw [h b hb]
    unfold lowF
    rw [← hs]
    split
    · rename_i h1
      exact low_cong h f h1
    · rfl
theorem ag_top : ∀ (f : Nat) {u v : WH} {b : Nat}, ag u v → b < wn u → ag (topF f u b) (topF f v b)
  | 0, u, v, b, h, hb => h
  | f + 1, u, v, b, h, hb => by
    unfold topF
    by_cases h0 : b = 0
    · rw [if_pos h0, if_pos h0]
      exact h
    · rw [if_neg h0, if_neg h0]
      exact ag_top f (ag_join h false (by omega) hb) (by rw [joinF_n]; omega)
theorem ag_rm1 {u v : WH} (h : ag (mvF u) (mvF v)) : ag (rmF u) (rmF v) := by
  have hn : wn u - 1 = wn v - 1 := h.1
  unfold rmF
  rw [← hn]
  split
  · rename_i h1
    show ag (topF 63 (mvF u) (lowF (wS u) (wn u - 1) 63 1)) (topF 63 (mvF v) (lowF (wS v) (wn v - 1) 63 1))
    have e9 : lowF (wS u) (wn u - 1) 63 1 = lowF (wS v) (wn u - 1) 63 1 := low_cong (S := wS u) (S2 := wS v) (fun b hb => (h.2.2.2 b hb).2.2) 63 h1
    rw [← hn, ← e9]
    exact ag_top 63 h (lowF_lt h1)
  · exact h
theorem ag_mv {u v : WH} (h : ag u v) (hn : 1 ≤ wn u) : ag (mvF u) (mvF v) := by
  obtain ⟨h1, h2, h3, h4⟩ := h
  refine ⟨by show wn u - 1 = wn v - 1; rw [h1], h2, h3, fun b hb => ?_⟩
  have hb : b < wn u - 1 := hb
  have h5 := h4 (wn u - 1) (by omega)
  have h6 := h4 b (by omega)
  refine ⟨?_, ?_, h6.2.2⟩
  · show upd (wD u) 0 (wD u (wn u - 1)) b = upd (wD v) 0 (wD v (wn v - 1)) b
    rw [← h1, h5.1]
    unfold upd
    rw [h6.1]
  · show upd (wL u) 0 (wL u (wn u - 1)) b = upd (wL v) 0 (wL v (wn v - 1)) b
    rw [← h1, h5.2.1]
    unfold upd
    rw [h6.2.1]
theorem ag_rm {u v : WH} (h : ag u v) (hn : 1 ≤ wn u) : ag (rmF u) (rmF v) := ag_rm1 (ag_mv h hn)
theorem ag_rms {u v : WH} (h : ag u v) : ∀ k, k ≤ wn u → ag (rmsF k u) (rmsF k v)
  | 0, _ => h
  | k + 1, hk => by
    unfold rmsF
    exact ag_rm (ag_rms h k (by omega)) (by rw [rmsF_n]; omega)
theorem ag_all : ∀ (b : Nat) {u v : WH}, ag u v → b < wn u → ag (allF b u) (allF b v)
  | 0, u, v, h, hb => h
  | b + 1, u, v, h, hb => by
    have he := eld_lt (S := wS u) (b := b + 1) (by omega)
    unfold allF
    rw [← ag_eld h hb]
    exact ag_all b (ag_join h false (by omega) hb) (by rw [joinF_n]; omega)
theorem fnd_cong {D D2 : Fn} {x : Int32} : ∀ n, (∀ b, b < n → D b = D2 b) → fnd D x n = fnd D2 x n
  | 0, _ => rfl
  | n + 1, h => by
    have ih := fnd_cong (x := x) n (fun b hb => h b (by omega))
    unfold fnd
    rw [ih, h n (by omega)]
theorem fndI_cong {D D2 : Fn} {x : Int32} {n : Nat} (h : ∀ b, b < n → D b = D2 b) : fndI D n x = fndI D2 n x := by
  unfold fndI
  rw [fnd_cong n h]
theorem flw_cong {S S2 : Fn} {x : Nat} : ∀ n, (∀ b, b < n → S b = S2 b) → flw S x n = flw S2 x n
  | 0, _ => rfl
  | n + 1, h => by
    have ih := flw_cong (x := x) n (fun b hb => h b (by omega))
    have he : eld S n = eld S2 n := eld_cong n fun i hi => h i (by omega)
    unfold flw
    rw [ih, he]
theorem flp_cong {S S2 : Fn} : ∀ n, (∀ b, b < n → S b = S2 b) → flp S n = flp S2 n
  | 0, _ => rfl
  | n + 1, h => by
    have ih := flp_cong n (fun b hb => h b (by omega))
    unfold flp
    rw [ih, h n (by omega)]
/-- the same dukes in other berths -/
def pm (u v : WH) : Prop := wn u = wn v ∧ ∃ t : Nat → Nat, (∀ b, b < wn u → t b < wn u) ∧ (∀ a b, a < wn u → b < wn u → t a = t b → a = b) ∧ ∀ b, b < wn u → wD v b = wD u (t b) ∧ wL v b = wL u (t b)
theorem pm_rfl (u : WH) : pm u u := ⟨rfl, id, fun _ h => h, fun _ _ _ _ h => h, fun _ _ => ⟨rfl, rfl⟩⟩
theorem pm_trans {u v w : WH} (h : pm u v) (h2 : pm v w) : pm u w := by
  obtain ⟨e1, t1, a1, b1, c1⟩ := h
  obtain ⟨e2, t2, a2, b2, c2⟩ := h2
  rw [← e1] at e2 a2 b2 c2
  refine ⟨e2, fun b => t1 (t2 b), fun b hb => a1 _ (a2 b hb), fun a b ha hb hab => b2 a b ha hb (b1 _ _ (a2 a ha) (a2 b hb) hab), fun b hb => ?_⟩
  exact ⟨(c2 b hb).1.trans (c1 _ (a2 b hb)).1, (c2 b hb).2.trans (c1 _ (a2 b hb)).2⟩
theorem pm_join (s : Bool) (u : WH) {e j : Nat} (he : e < wn u) (hj : j < wn u) : pm u (joinF s u e j) := by
  cases hb : jc s u e j with
  | true =>
    rw [joinF_t hb]
    refine ⟨rfl, fun b => if b = j then e else if b = e then j else b, fun b hbn => ?_, fun a b ha hb2 hab => ?_, fun b hbn => ⟨exF_at _ _ _ _, exF_at _ _ _ _⟩⟩
    · show (if b = j then e else if b = e then j else b) < wn u
      split
      · exact he
      · split
        · exact hj
        · exact hbn
    · have hab : (if a = j then e else if a = e then j else a) = (if b = j then e else if b = e then j else b) := hab
      by_cases p1 : a = j
      · rw [if_pos p1] at hab
        by_cases p2 : b = j
        · omega
        · rw [if_neg p2] at hab
          by_cases p3 : b = e
          · rw [if_pos p3] at hab; omega
          · rw [if_neg p3] at hab; omega
      · rw [if_neg p1] at hab
        by_cases p4 : a = e
        · rw [if_pos p4] at hab
          by_cases p2 : b = j
          · rw [if_pos p2] at hab; omega
          · rw [if_neg p2] at hab
            by_cases p3 : b = e
            · omega
            · rw [if_neg p3] at hab; omega
        · rw [if_neg p4] at hab
          by_cases p2 : b = j
          · rw [if_pos p2] at hab; omega
          · rw [if_neg p2] at hab
            by_cases p3 : b = e
            · rw [if_pos p3] at hab; omega
            · rw [if_neg p3] at hab; omega
  | false =>
    rw [joinF_f hb]
    exact pm_rfl u
theorem pm_rise (s : Bool) : ∀ (f : Nat) {u : WH} {b : Nat}, b < wn u → pm u (riseF s f u b).1
  | 0, u, b, hb => pm_rfl u
  | f + 1, u, b, hb => by
    unfold riseF
    split
    · exact pm_rfl u
    · rename_i h0
      have he := eld_lt (S := wS u) (b := b) (by omega)
      have h1 := pm_join s u (e := eld (wS u) b) (by omega) hb
      split
      · exact pm_trans h1 (pm_rise s f (by rw [joinF_n]; omega))
      · exact h1
theorem pm_top : ∀ (f : Nat) {u : WH} {b : Nat}, b < wn u → pm u (topF f u b)
  | 0, u, b, hb => pm_rfl u
  | f + 1, u, b, hb => by
    unfold topF
    split
    · exact pm_rfl u
    · exact pm_trans (pm_join false u (by omega) hb) (pm_top f (by rw [joinF_n]; omega))
theorem pm_all : ∀ (b : Nat) {u : WH}, b < wn u → pm u (allF b u)
  | 0, u, hb => pm_rfl u
  | b + 1, u, hb => by
    have he := eld_lt (S := wS u) (b := b + 1) (by omega)
    unfold allF
    exact pm_trans (pm_join false u (e := eld (wS u) (b + 1)) (by omega) hb) (pm_all b (by rw [joinF_n]; omega))
/-- who lies here: each a number below came, nobody twice, each with a loudness -/
def dk (u : WH) (came : Nat) : Prop := (∀ b, b < wn u → ∃ k, k < came ∧ wD u b = nI k) ∧ (∀ a b, a < wn u → b < wn u → wD u a = wD u b → a = b)
def lk (u : WH) : Prop := ∀ b, b < wn u → 0 ≤ wL u b
theorem dk_pm {u v : WH} {came : Nat} (h : dk u came) (p : pm u v) : dk v came := by
  obtain ⟨e1, t1, a1, b1, c1⟩ := p
  refine ⟨fun b hb => ?_, fun a b ha hb hab => ?_⟩
  · rw [← e1] at hb
    rw [(c1 b hb).1]
    exact h.1 _ (a1 b hb)
  · rw [← e1] at ha hb
    rw [(c1 a ha).1, (c1 b hb).1] at hab
    exact b1 a b ha hb (h.2 _ _ (a1 a ha) (a1 b hb) hab)
theorem lk_pm {u v : WH} (h : lk u) (p : pm u v) : lk v := by
  obtain ⟨e1, t1, a1, b1, c1⟩ := p
  intro b hb
  rw [← e1] at hb
  rw [(c1 b hb).2]
  exact h _ (a1 b hb)
/-- what always holds of the class's heap -/
def Iv (u : WH) (came : Nat) : Prop := wn u ≤ 63 ∧ came ≤ 500 ∧ okS (wS u) ∧ dk u came ∧ lk u ∧ whp (wn u) (wL u) (wS u)
theorem dk_mv {u : WH} {came : Nat} (h : dk u came) : dk (mvF u) came := by
  have hm : ∀ b, b < wn u - 1 → wD (mvF u) b = wD u (if b = 0 then wn u - 1 else b) := fun b _ => by
    show upd (wD u) 0 (wD u (wn u - 1)) b = _
    unfold upd
    split <;> rfl
  refine ⟨fun b hb => ?_, fun a b ha hb hab => ?_⟩
  · have hb : b < wn u - 1 := hb
    rw [hm b hb]
    split
    · exact h.1 _ (by omega)
    · exact h.1 _ (by omega)
  · have ha : a < wn u - 1 := ha
    have hb : b < wn u - 1 := hb
    rw [hm a ha, hm b hb] at hab
    by_cases p1 : a = 0
    · rw [if_pos p1] at hab
      by_cases p2 : b = 0
      · omega
      · rw [if_neg p2] at hab
        have := h.2 _ _ (by omega) (by omega) hab
        omega
    · rw [if_neg p1] at hab
      by_cases p2 : b = 0
      · rw [if_pos p2] at hab
        have := h.2 _ _ (by omega) (by omega) hab
        omega
      · rw [if_neg p2] at hab
        exact h.2 _ _ (by omega) (by omega) hab
theorem lk_mv {u : WH} (h : ∀ b, b < wn u → b ≠ 0 → 0 ≤ wL u b) : lk (mvF u) := by
  intro b hb
  have hb : b < wn u - 1 := hb
  show 0 ≤ upd (wL u) 0 (wL u (wn u - 1)) b
  unfold upd
  split
  · exact h _ (by omega) (by omega)
  · rename_i h0
    exact h b (by omega) h0
theorem pm_rm (u : WH) : pm (mvF u) (rmF u) := by
  unfold rmF
  split
  · rename_i h1
    show pm (mvF u) (topF 63 (mvF u) (lowF (wS u) (wn u - 1) 63 1))
    exact pm_top 63 (lowF_lt h1)
  · exact pm_rfl _
theorem Iv_rm {u : WH} {came : Nat} (h1 : wn u ≤ 63) (h2 : came ≤ 500) (h3 : okS (wS u)) (h4 : dk u came) (h5 : ∀ b, b < wn u → b ≠ 0 → 0 ≤ wL u b) (h6 : whp (wn u) (wL u) (wS u)) : Iv (rmF u) came := by
  refine ⟨by rw [rmF_n]; omega, h2, rmF_okS h3, dk_pm (dk_mv h4) (pm_rm u), lk_pm (lk_mv h5) (pm_rm u), ?_⟩
  rw [rmF_n]
  exact rm_whp h3 h6 h1
theorem Iv_leave {u : WH} {came : Nat} (h : Iv u came) : Iv (rmF u) came := Iv_rm h.1 h.2.1 h.2.2.1 h.2.2.2.1 (fun b hb _ => h.2.2.2.2.1 b hb) h.2.2.2.2.2
theorem Iv_hush {u : WH} {came b : Nat} (h : Iv u came) (hb : b < wn u) {x : Int32} (hx0 : 0 ≤ x) (hx : x ≤ wL u b) : Iv (riseF false 63 (setL u b x) b).1 came := by
  obtain ⟨h1, h2, h3, h4, h5, h6⟩ := h
  have hp : pm (setL u b x) (riseF false 63 (setL u b x) b).1 := pm_rise false 63 hb
  have hL : ∀ y, y ≠ b → wL (setL u b x) y = wL u y := fun y hy => by
    show upd (wL u) b x y = _
    unfold upd
    rw [if_neg hy]
  have hLb : wL (setL u b x) b = x := by
    show upd (wL u) b x b = _
    unfold upd
    rw [if_pos rfl]
  have hh : holeP (wn u) (wL (setL u b x)) (wS u) b := by
    refine ⟨fun y hy hyn hyb => ?_, fun hb0 y hy hyn hye => ?_⟩
    · rw [hL y hyb]
      by_cases e : eld (wS u) y = b
      · rw [e, hLb]
        have := h6 y hy hyn
        rw [e] at this
        exact ile_trans hx this
      · rw [hL _ e]
        exact h6 y hy hyn
    · have h7 := eld_lt (S := wS u) hb0
      have h8 := eld_lt (S := wS u) hy
      rw [hL _ (by omega), hL y (by omega)]
      have h9 := h6 y hy hyn
      rw [hye] at h9
      exact ile_trans (h6 b hb0 hb) h9
  refine ⟨by rw [riseF_n]; exact h1, h2, riseF_okS h3, dk_pm (u := setL u b x) h4 hp, lk_pm (u := setL u b x) (fun y hy => ?_) hp, ?_⟩
  · by_cases e : y = b
    · rw [e, hLb]
      exact hx0
    · rw [hL y e]
      exact h5 y hy
  · rw [riseF_n]
    exact rise_whp 63 (u := setL u b x) h3 hh hb (by have : b < wn u := hb; omega)
end
section
/-! the reference: those that change who lies where -/
set_option maxHeartbeats 4000000 in
set_option maxRecDepth 100000 in
theorem m_come_1 (l : Launch) (G : va_G) (cI : ClassId) (oz loz liz siz shz saz : Nat) (nz camez : Nat) (cz gz : Int32) (louz Dz Sz shdz shsz : Fn) (thz : Int32) (hn : nz ≤ 63) (hc9 : camez ≤ 500) (hS1 : okS Sz) (hD1 : okD nz Dz) (xz : Int32) (hbad : isO xz (nI 0) (nI 999) = false) : zC_i l yX2_come wsX2_come ({ frames := 3, cells := 0, slots := 0, locals := 68 }) G [(cI, .int)] (wm cI oz loz liz siz shz saz nz camez cz gz louz Dz Sz shdz shsz thz) (wm cI oz loz liz siz shz saz nz camez cz gz louz Dz Sz shdz shsz (nI 1)) [.ref oz, .int xz] (nI 0) := by
  refine zB_i (cc := cX2_come) (maxL := 4) (ret := (some .int)) (by decide) rfl (Nat.le_of_ble_eq_true rfl) ?_
  intro p e s m args below meth c0 A hF hr hlk hK hA hP hD hS ls hl
  have hx := hF.1
  have hb := hF.2.1
  have hown := hF.2.2.2.1
  have hts := hF.2.2.2.2
  have hf29 := hts (.fieldLink RX2 29 "SnoringDukesModel" "many" "I") (by decide +kernel)
  have hf49 := hts (.fieldLink RX2 49 "SnoringDukesModel" "came" "I") (by decide +kernel)
  have hf25 := hts (.fieldLink RX2 25 "SnoringDukesModel" "thrown" "I") (by decide +kernel)
  have hf16 := hts (.fieldLink RX2 16 "SnoringDukesModel" "side" "[I") (by decide +kernel)
  have hinX2 : ∀ wz ∈ wsX20, wz ∈ wsX2_come := by decide +kernel
  have hl : lv_has ls 4 [(0, .ref oz), (1, .int xz)] := hl
  refine lv_aload_n hx hb dX2_come_0 rfl (lv_at hl 0 rfl) ?_
  refine lv_iload_n hx hb dX2_come_1 rfl (lv_at hl 1 rfl) ?_
  refine lv_iconst (v := nI 0) hx hb dX2_come_2 (by decide) ?_
  refine lv_sipush (v := nI 999) hx hb dX2_come_3 (by decide) ?_
  refine zK_si (av := [.int xz, .int (nI 0), .int (nI 999)]) (rest := [.ref oz]) hF (m_isOf l G xz (nI 0) (nI 999)) (va_cwS 3 hts gX2_come_X2_isOf rfl rfl rfl (by decide +kernel) ⟨Nat.le_of_ble_eq_true rfl, Nat.le_of_ble_eq_true rfl⟩) hK hP hD hS hA (isC := []) (isR := [0, 1, 2, 3, 4, 5]) (perm := [0, 1, 2, 3, 4, 5]) (wr := wm cI oz loz liz siz shz saz nz camez cz gz louz Dz Sz shdz shsz thz) (wN := wm cI oz loz liz siz shz saz nz camez cz gz louz Dz Sz shdz shsz thz) ⟨rfl, by decide, rfl, by decide, (fun _ _ hz => by cases hz), rfl, by decide⟩ [] rfl rfl hl.1 rfl (Nat.le_of_ble_eq_true rfl) dX2_come_6 ⟨Nat.le_refl _, Nat.le_refl _⟩ (fun H locs hP hD hS => ?_)
  refine zN (nI 0) (y := (bI (isO xz (nI 0) (nI 999)))) (by rw [hbad]; rfl) ?_
  refine lv_if_ne (tgt := 16) hx hb dX2_come_9 (by decide) (fun hc9 => ?_) (fun hc9 => ?_)
  · exact absurd hc9 (by decide)
  · skip
    have k9 : 0 = 0 := k0_eq (by omega) hc9
    refine lv_iconst (v := nI 1) hx hb dX2_come_12 (by decide) ?_
    refine lv_goto (tgt := 40) hx hb dX2_come_13 (by decide) ?_
    refine va_put (D := G) (ci := 2) (v := .int (nI 1)) (ty := .int) (C := RX2) (T := TX2) (N := 10) hx hb hts hinX2 tyX2 tyX2_ok nmX2 hown hK hP hD hS 0 rfl rfl 9 (by decide) hf25 (fun _ h9 => h9) rfl (by decide +kernel) rfl rfl (Nat.le_of_ble_eq_true rfl) dX2_come_40 (fun H locs hP hD hS => ?_)
    have hP : va_P G vwCl (wm cI oz loz liz siz shz saz nz camez cz gz louz Dz Sz shdz shsz (nI 1)) H := hP
    have hD : va_D A (wm cI oz loz liz siz shz saz nz camez cz gz louz Dz Sz shdz shsz (nI 1)) := hD
    refine lv_aload_n hx hb dX2_come_43 rfl (lv_at hl 0 rfl) ?_
    refine va_get (D := G) (ci := 2) (v := .int (nI 1)) (C := RX2) (T := TX2) (N := 10) hx hb hts hinX2 hown hK hP 0 rfl rfl 9 (by decide) hf25 (fun _ h9 => h9) rfl dX2_come_44 ?_
    refine lv_if_le (tgt := 52) hx hb dX2_come_47 (by decide) (fun hc47 => ?_) (fun hc47 => ?_)
    · exact absurd hc47 (by decide)
    · skip
      have k47 : 0 < 1 := k0_nle (by omega) hc47
      refine lv_iconst (v := nI 0) hx hb dX2_come_50 (by decide) ?_
      exact zE_i hF hr hlk hK hP hD hS dX2_come_51
set_option maxHeartbeats 4000000 in
set_option maxRecDepth 100000 in
theorem m_come_2 (l : Launch) (G : va_G) (cI : ClassId) (oz loz liz siz shz saz : Nat) (nz camez : Nat) (cz gz : Int32) (louz Dz Sz shdz shsz : Fn) (thz : Int32) (hn : nz ≤ 63) (hc9 : camez ≤ 500) (hS1 : okS Sz) (hD1 : okD nz Dz) (xz : Int32) (hok : isO xz (nI 0) (nI 999) = true) (hfull : nz = 63 ∨ camez = 500) : zC_i l yX2_come wsX2_come ({ frames := 3, cells := 0, slots := 0, locals := 68 }) G [(cI, .int)] (wm cI oz loz liz siz shz saz nz camez cz gz louz Dz Sz shdz shsz thz) (wm cI oz loz liz siz shz saz nz camez cz gz louz Dz Sz shdz shsz (nI 2)) [.ref oz, .int xz] (nI 0) := by
  refine zB_i (cc := cX2_come) (maxL := 4) (ret := (some .int)) (by decide) rfl (Nat.le_of_ble_eq_true rfl) ?_
  intro p e s m args below meth c0 A hF hr hlk hK hA hP hD hS ls hl
  have hx := hF.1
  have hb := hF.2.1
  have hown := hF.2.2.2.1
  have hts := hF.2.2.2.2
  have hf29 := hts (.fieldLink RX2 29 "SnoringDukesModel" "many" "I") (by decide +kernel)
  have hf49 := hts (.fieldLink RX2 49 "SnoringDukesModel" "came" "I") (by decide +kernel)
  have hf25 := hts (.fieldLink RX2 25 "SnoringDukesModel" "thrown" "I") (by decide +kernel)
  have hf16 := hts (.fieldLink RX2 16 "SnoringDukesModel" "side" "[I") (by decide +kernel)
  have hinX2 : ∀ wz ∈ wsX20, wz ∈ wsX2_come := by decide +kernel
  have hl : lv_has ls 4 [(0, .ref oz), (1, .int xz)] := hl
  refine lv_aload_n hx hb dX2_come_0 rfl (lv_at hl 0 rfl) ?_
  refine lv_iload_n hx hb dX2_come_1 rfl (lv_at hl 1 rfl) ?_
  refine lv_iconst (v := nI 0) hx hb dX2_come_2 (by decide) ?_
  refine lv_sipush (v := nI 999) hx hb dX2_come_3 (by decide) ?_
  refine zK_si (av := [.int xz, .int (nI 0), .int (nI 999)]) (rest := [.ref oz]) hF (m_isOf l G xz (nI 0) (nI 999)) (va_cwS 3 hts gX2_come_X2_isOf rfl rfl rfl (by decide +kernel) ⟨Nat.le_of_ble_eq_true rfl, Nat.le_of_ble_eq_true rfl⟩) hK hP hD hS hA (isC := []) (isR := [0, 1, 2, 3, 4, 5]) (perm := [0, 1, 2, 3, 4, 5]) (wr := wm cI oz loz liz siz shz saz nz camez cz gz louz Dz Sz shdz shsz thz) (wN := wm cI oz loz liz siz shz saz nz camez cz gz louz Dz Sz shdz shsz thz) ⟨rfl, by decide, rfl, by decide, (fun _ _ hz => by cases hz), rfl, by decide⟩ [] rfl rfl hl.1 rfl (Nat.le_of_ble_eq_true rfl) dX2_come_6 ⟨Nat.le_refl _, Nat.le_refl _⟩ (fun H locs hP hD hS => ?_)
  refine zN (nI 1) (y := (bI (isO xz (nI 0) (nI 999)))) (by rw [hok]; rfl) ?_
  refine lv_if_ne (tgt := 16) hx hb dX2_come_9 (by decide) (fun hc9 => ?_) (fun hc9 => ?_)
  · skip
    have k9 : 0 < 1 := k0_ne (by omega) hc9
    refine lv_aload_n hx hb dX2_come_16 rfl (lv_at hl 0 rfl) ?_
    refine va_get (D := G) (ci := 2) (v := .int (nI nz)) (C := RX2) (T := TX2) (N := 10) hx hb hts hinX2 hown hK hP 0 rfl rfl 0 (by decide) hf29 (fun _ h9 => h9) rfl dX2_come_17 ?_
    refine lv_bipush (v := nI 63) hx hb dX2_come_20 (by decide) ?_
    refine lv_icmp_eq (tgt := 35) hx hb dX2_come_22 (by decide) (fun hc22 => ?_) (fun hc22 => ?_)
    · skip
      have k22 : nz = 63 := k_eq (by omega) (by omega) hc22
      refine lv_iconst (v := nI 2) hx hb dX2_come_35 (by decide) ?_
      refine lv_goto (tgt := 40) hx hb dX2_come_36 (by decide) ?_
      refine va_put (D := G) (ci := 2) (v := .int (nI 2)) (ty := .int) (C := RX2) (T := TX2) (N := 10) hx hb hts hinX2 tyX2 tyX2_ok nmX2 hown hK hP hD hS 0 rfl rfl 9 (by decide) hf25 (fun _ h9 => h9) rfl (by decide +kernel) rfl rfl (Nat.le_of_ble_eq_true rfl) dX2_come_40 (fun H locs hP hD hS => ?_)
      have hP : va_P G vwCl (wm cI oz loz liz siz shz saz nz camez cz gz louz Dz Sz shdz shsz (nI 2)) H := hP
      have hD : va_D A (wm cI oz loz liz siz shz saz nz camez cz gz louz Dz Sz shdz shsz (nI 2)) := hD
      refine lv_aload_n hx hb dX2_come_43 rfl (lv_at hl 0 rfl) ?_
      refine va_get (D := G) (ci := 2) (v := .int (nI 2)) (C := RX2) (T := TX2) (N := 10) hx hb hts hinX2 hown hK hP 0 rfl rfl 9 (by decide) hf25 (fun _ h9 => h9) rfl dX2_come_44 ?_
      refine lv_if_le (tgt := 52) hx hb dX2_come_47 (by decide) (fun hc47 => ?_) (fun hc47 => ?_)
      · exact absurd hc47 (by decide)
      · skip
        have k47 : 0 < 2 := k0_nle (by omega) hc47
        refine lv_iconst (v := nI 0) hx hb dX2_come_50 (by decide) ?_
        exact zE_i hF hr hlk hK hP hD hS dX2_come_51
    · skip
      have k22 : nz ≠ 63 := k_ne (by omega) (by omega) hc22
      refine lv_aload_n hx hb dX2_come_25 rfl (lv_at hl 0 rfl) ?_
      refine va_get (D := G) (ci := 2) (v := .int (nI camez)) (C := RX2) (T := TX2) (N := 10) hx hb hts hinX2 hown hK hP 0 rfl rfl 1 (by decide) hf49 (fun _ h9 => h9) rfl dX2_come_26 ?_
      refine lv_sipush (v := nI 500) hx hb dX2_come_29 (by decide) ?_
      refine lv_icmp_ne (tgt := 39) hx hb dX2_come_32 (by decide) (fun hc32 => ?_) (fun hc32 => ?_)
      · skip
        have k32 : camez ≠ 500 := k_ne (by omega) (by omega) hc32
        exact absurd hfull (by omega)
      · skip
        have k32 : camez = 500 := k_eq (by omega) (by omega) hc32
        refine lv_iconst (v := nI 2) hx hb dX2_come_35 (by decide) ?_
        refine lv_goto (tgt := 40) hx hb dX2_come_36 (by decide) ?_
        refine va_put (D := G) (ci := 2) (v := .int (nI 2)) (ty := .int) (C := RX2) (T := TX2) (N := 10) hx hb hts hinX2 tyX2 tyX2_ok nmX2 hown hK hP hD hS 0 rfl rfl 9 (by decide) hf25 (fun _ h9 => h9) rfl (by decide +kernel) rfl rfl (Nat.le_of_ble_eq_true rfl) dX2_come_40 (fun H locs hP hD hS => ?_)
        have hP : va_P G vwCl (wm cI oz loz liz siz shz saz nz camez cz gz louz Dz Sz shdz shsz (nI 2)) H := hP
        have hD : va_D A (wm cI oz loz liz siz shz saz nz camez cz gz louz Dz Sz shdz shsz (nI 2)) := hD
        refine lv_aload_n hx hb dX2_come_43 rfl (lv_at hl 0 rfl) ?_
        refine va_get (D := G) (ci := 2) (v := .int (nI 2)) (C := RX2) (T := TX2) (N := 10) hx hb hts hinX2 hown hK hP 0 rfl rfl 9 (by decide) hf25 (fun _ h9 => h9) rfl dX2_come_44 ?_
        refine lv_if_le (tgt := 52) hx hb dX2_come_47 (by decide) (fun hc47 => ?_) (fun hc47 => ?_)
        · exact absurd hc47 (by decide)
        · skip
          have k47 : 0 < 2 := k0_nle (by omega) hc47
          refine lv_iconst (v := nI 0) hx hb dX2_come_50 (by decide) ?_
          exact zE_i hF hr hlk hK hP hD hS dX2_come_51
  · exact absurd hc9 (by decide)
set_option maxHeartbeats 4000000 in
set_option maxRecDepth 100000 in
theorem m_come_0 (l : Launch) (G : va_G) (cI : ClassId) (oz loz liz siz shz saz : Nat) (nz camez : Nat) (cz gz : Int32) (louz Dz Sz shdz shsz : Fn) (thz : Int32) (hn : nz ≤ 63) (hc9 : camez ≤ 500) (hS1 : okS Sz) (hD1 : okD nz Dz) (xz : Int32) (hok : isO xz (nI 0) (nI 999) = true) (hn1 : nz < 63) (hc1 : camez < 500) : zC_i l yX2_come wsX2_come ({ frames := 3, cells := 0, slots := 0, locals := 68 }) G [(cI, .int)] (wm cI oz loz liz siz shz saz nz camez cz gz louz Dz Sz shdz shsz thz) (wm cI oz loz liz siz shz saz (nz + 1) (camez + 1) (wc ((riseF false 63 (newF (vM (upd louz camez xz) (upd Dz nz (nI camez)) (upd Sz nz 0) (nz + 1) cz gz) nz) nz).1)) (wg ((riseF false 63 (newF (vM (upd louz camez xz) (upd Dz nz (nI camez)) (upd Sz nz 0) (nz + 1) cz gz) nz) nz).1)) (upd louz camez xz) (wD ((riseF false 63 (newF (vM (upd louz camez xz) (upd Dz nz (nI camez)) (upd Sz nz 0) (nz + 1) cz gz) nz) nz).1)) (wS ((riseF false 63 (newF (vM (upd louz camez xz) (upd Dz nz (nI camez)) (upd Sz nz 0) (nz + 1) cz gz) nz) nz).1)) shdz shsz (nI 0)) [.ref oz, .int xz] (nI camez) := by
  refine zB_i (cc := cX2_come) (maxL := 4) (ret := (some .int)) (by decide) rfl (Nat.le_of_ble_eq_true rfl) ?_
  intro p e s m args below meth c0 A hF hr hlk hK hA hP hD hS ls hl
  have hx := hF.1
  have hb := hF.2.1
  have hown := hF.2.2.2.1
  have hts := hF.2.2.2.2
  have hf29 := hts (.fieldLink RX2 29 "SnoringDukesModel" "many" "I") (by decide +kernel)
  have hf49 := hts (.fieldLink RX2 49 "SnoringDukesModel" "came" "I") (by decide +kernel)
  have hf25 := hts (.fieldLink RX2 25 "SnoringDukesModel" "thrown" "I") (by decide +kernel)
  have hf16 := hts (.fieldLink RX2 16 "SnoringDukesModel" "side" "[I") (by decide +kernel)
  have hinX2 : ∀ wz ∈ wsX20, wz ∈ wsX2_come := by decide +kernel
  have hl : lv_has ls 4 [(0, .ref oz), (1, .int xz)] := hl
  refine lv_aload_n hx hb dX2_come_0 rfl (lv_at hl 0 rfl) ?_
  refine lv_iload_n hx hb dX2_come_1 rfl (lv_at hl 1 rfl) ?_
  refine lv_iconst (v := nI 0) hx hb dX2_come_2 (by decide) ?_
  refine lv_sipush (v := nI 999) hx hb dX2_come_3 (by decide) ?_
  refine zK_si (av := [.int xz, .int (nI 0), .int (nI 999)]) (rest := [.ref oz]) hF (m_isOf l G xz (nI 0) (nI 999)) (va_cwS 3 hts gX2_come_X2_isOf rfl rfl rfl (by decide +kernel) ⟨Nat.le_of_ble_eq_true rfl, Nat.le_of_ble_eq_true rfl⟩) hK hP hD hS hA (isC := []) (isR := [0, 1, 2, 3, 4, 5]) (perm := [0, 1, 2, 3, 4, 5]) (wr := wm cI oz loz liz siz shz saz nz camez cz gz louz Dz Sz shdz shsz thz) (wN := wm cI oz loz liz siz shz saz nz camez cz gz louz Dz Sz shdz shsz thz) ⟨rfl, by decide, rfl, by decide, (fun _ _ hz => by cases hz), rfl, by decide⟩ [] rfl rfl hl.1 rfl (Nat.le_of_ble_eq_true rfl) dX2_come_6 ⟨Nat.le_refl _, Nat.le_refl _⟩ (fun H locs hP hD hS => ?_)
  refine zN (nI 1) (y := (bI (isO xz (nI 0) (nI 999)))) (by rw [hok]; rfl) ?_
  refine lv_if_ne (tgt := 16) hx hb dX2_come_9 (by decide) (fun hc9 => ?_) (fun hc9 => ?_)
  · skip
    have k9 : 0 < 1 := k0_ne (by omega) hc9
    refine lv_aload_n hx hb dX2_come_16 rfl (lv_at hl 0 rfl) ?_
    refine va_get (D := G) (ci := 2) (v := .int (nI nz)) (C := RX2) (T := TX2) (N := 10) hx hb hts hinX2 hown hK hP 0 rfl rfl 0 (by decide) hf29 (fun _ h9 => h9) rfl dX2_come_17 ?_
    refine lv_bipush (v := nI 63) hx hb dX2_come_20 (by decide) ?_
    refine lv_icmp_eq (tgt := 35) hx hb dX2_come_22 (by decide) (fun hc22 => ?_) (fun hc22 => ?_)
    · skip
      have k22 : nz = 63 := k_eq (by omega) (by omega) hc22
      exact absurd k22 (by omega)
    · skip
      have k22 : nz ≠ 63 := k_ne (by omega) (by omega) hc22
      refine lv_aload_n hx hb dX2_come_25 rfl (lv_at hl 0 rfl) ?_
      refine va_get (D := G) (ci := 2) (v := .int (nI camez)) (C := RX2) (T := TX2) (N := 10) hx hb hts hinX2 hown hK hP 0 rfl rfl 1 (by decide) hf49 (fun _ h9 => h9) rfl dX2_come_26 ?_
      refine lv_sipush (v := nI 500) hx hb dX2_come_29 (by decide) ?_
      refine lv_icmp_ne (tgt := 39) hx hb dX2_come_32 (by decide) (fun hc32 => ?_) (fun hc32 => ?_)
      · skip
        have k32 : camez ≠ 500 := k_ne (by omega) (by omega) hc32
        refine lv_iconst (v := nI 0) hx hb dX2_come_39 (by decide) ?_
        refine va_put (D := G) (ci := 2) (v := .int (nI 0)) (ty := .int) (C := RX2) (T := TX2) (N := 10) hx hb hts hinX2 tyX2 tyX2_ok nmX2 hown hK hP hD hS 0 rfl rfl 9 (by decide) hf25 (fun _ h9 => h9) rfl (by decide +kernel) rfl rfl (Nat.le_of_ble_eq_true rfl) dX2_come_40 (fun H locs hP hD hS => ?_)
        have hP : va_P G vwCl (wm cI oz loz liz siz shz saz nz camez cz gz louz Dz Sz shdz shsz (nI 0)) H := hP
        have hD : va_D A (wm cI oz loz liz siz shz saz nz camez cz gz louz Dz Sz shdz shsz (nI 0)) := hD
        refine lv_aload_n hx hb dX2_come_43 rfl (lv_at hl 0 rfl) ?_
        refine va_get (D := G) (ci := 2) (v := .int (nI 0)) (C := RX2) (T := TX2) (N := 10) hx hb hts hinX2 hown hK hP 0 rfl rfl 9 (by decide) hf25 (fun _ h9 => h9) rfl dX2_come_44 ?_
        refine lv_if_le (tgt := 52) hx hb dX2_come_47 (by decide) (fun hc47 => ?_) (fun hc47 => ?_)
        · skip
          have k47 : 0 = 0 := k0_le (by omega) hc47
          refine lv_aload_n hx hb dX2_come_52 rfl (lv_at hl 0 rfl) ?_
          refine lv_iload_n hx hb dX2_come_53 rfl (lv_at hl 1 rfl) ?_
          refine zK_vv (As := [.int xz]) (rest := []) hF (m_lays l G cI oz loz liz siz shz saz nz camez cz gz louz Dz Sz shdz shsz (nI 0) (by omega) (by omega) hS1 hD1 (by omega) (by omega) xz) (cwV 1 hts gX2_come_X2_lays rfl rfl rfl (by decide +kernel) ⟨Nat.le_of_ble_eq_true rfl, Nat.le_of_ble_eq_true rfl⟩) hK hP hD hS hA (ci := 2) (q0 := 0) rfl rfl rfl (isC := [0, 1, 2, 3, 4, 5]) (isR := []) (perm := [0, 1, 2, 3, 4, 5]) (wr := []) (wN := wm cI oz loz liz siz shz saz (nz + 1) (camez + 1) cz gz (upd louz camez xz) (upd Dz nz (nI camez)) (upd Sz nz 0) shdz shsz (nI 0)) ⟨rfl, by decide, rfl, rfl, (fun _ hz => by cases hz), rfl, by decide⟩ [0] rfl rfl hl.1 rfl (Nat.le_of_ble_eq_true rfl) dX2_come_54 ⟨Nat.le_refl _, Nat.le_refl _⟩ (fun H locs hP hD hS => ?_)
          have hD9 : okD (nz + 1) (upd Dz nz (nI camez)) := okD_lay hD1 (by omega)
          refine lv_aload_n hx hb dX2_come_57 rfl (lv_at hl 0 rfl) ?_
          refine va_get (D := G) (ci := 2) (v := .int (nI (nz + 1))) (C := RX2) (T := TX2) (N := 10) hx hb hts hinX2 hown hK hP 0 rfl rfl 0 (by decide) hf29 (fun _ h9 => h9) rfl dX2_come_58 ?_
          refine lv_iconst (v := nI 1) hx hb dX2_come_61 (by decide) ?_
          refine lv_isub hx hb dX2_come_62 ?_
          refine zN (nI nz) (y := ((nI (nz + 1)) - (nI 1))) (pk_sub (by omega)) ?_
          refine lv_istore_n (lv' := [(2, .int (nI nz)), (0, .ref oz), (1, .int xz)]) hx hb dX2_come_63 rfl hl (by decide) rfl (fun ls hl => ?_)
          refine lv_iload_n hx hb dX2_come_64 rfl (lv_at hl 0 rfl) ?_
          refine lv_iconst (v := nI 2) hx hb dX2_come_65 (by decide) ?_
          refine lv_irem hx hb dX2_come_66 (by decide) ?_
          refine zN (nI (nz % 2)) (y := ((nI nz) - (nI nz) / (nI 2) * (nI 2))) (pk_rem (by omega) (by decide) (by decide)) ?_
          refine lv_if_ne (tgt := 79) hx hb dX2_come_67 (by decide) (fun hc67 => ?_) (fun hc67 => ?_)
          · skip
            have k67 : 0 < (nz % 2) := k0_ne (by omega) hc67
            have e9 : newF (vM (upd louz camez xz) (upd Dz nz (nI camez)) (upd Sz nz 0) (nz + 1) cz gz) nz = vM (upd louz camez xz) (upd Dz nz (nI camez)) (upd Sz nz 0) (nz + 1) cz gz := by unfold newF; rw [if_neg (by omega)] <;> rfl
            refine lv_aload_n hx hb dX2_come_79 rfl (lv_at hl 1 rfl) ?_
            refine lv_iload_n hx hb dX2_come_80 rfl (lv_at hl 0 rfl) ?_
            refine lv_iconst (v := nI 0) hx hb dX2_come_81 (by decide) ?_
            refine zK_vi (As := [.int (nI nz), .int (nI 0)]) (rest := []) hF (m_rises l G cI oz loz liz siz shz saz (nz + 1) (camez + 1) cz gz (upd louz camez xz) (upd Dz nz (nI camez)) (upd Sz nz 0) shdz shsz (nI 0) (by omega) (by omega) (okS_upd0 hS1 nz) hD9 nz (by omega) false) (cwV 2 hts gX2_come_X2_rises rfl rfl rfl (by decide +kernel) ⟨Nat.le_of_ble_eq_true rfl, Nat.le_of_ble_eq_true rfl⟩) hK hP hD hS hA (ci := 2) (q0 := 0) rfl rfl rfl (isC := [0, 1, 2, 3, 4, 5]) (isR := []) (perm := [0, 1, 2, 3, 4, 5]) (wr := []) (wN := wm cI oz loz liz siz shz saz (nz + 1) (camez + 1) (wc ((riseF false 63 (vM (upd louz camez xz) (upd Dz nz (nI camez)) (upd Sz nz 0) (nz + 1) cz gz) nz).1)) (wg ((riseF false 63 (vM (upd louz camez xz) (upd Dz nz (nI camez)) (upd Sz nz 0) (nz + 1) cz gz) nz).1)) (upd louz camez xz) (wD ((riseF false 63 (vM (upd louz camez xz) (upd Dz nz (nI camez)) (upd Sz nz 0) (nz + 1) cz gz) nz).1)) (wS ((riseF false 63 (vM (upd louz camez xz) (upd Dz nz (nI camez)) (upd Sz nz 0) (nz + 1) cz gz) nz).1)) shdz shsz (nI 0)) ⟨rfl, by decide, rfl, rfl, (fun _ hz => by cases hz), rfl, by decide⟩ [0] rfl rfl hl.1 rfl (Nat.le_of_ble_eq_true rfl) dX2_come_82 ⟨Nat.le_refl _, Nat.le_refl _⟩ (fun H locs hP hD hS => ?_)
            obtain ⟨D4, S4, c4, g4, hu4, hz4, hy4⟩ := riseM_ex false (lou := upd louz camez xz) 63 (c := cz) (g := gz) (b := nz) (okS_upd0 hS1 nz) hD9 (by omega)
            have hP : va_P G vwCl (wm cI oz loz liz siz shz saz (nz + 1) (camez + 1) c4 g4 (upd louz camez xz) D4 S4 shdz shsz (nI 0)) H := by have qz := hP; rw [hu4] at qz; exact qz
            have hD : va_D A (wm cI oz loz liz siz shz saz (nz + 1) (camez + 1) c4 g4 (upd louz camez xz) D4 S4 shdz shsz (nI 0)) := by have qz := hD; rw [hu4] at qz; exact qz
            refine lv_istore_n (lv' := [(3, .int (nI (riseF false 63 (vM (upd louz camez xz) (upd Dz nz (nI camez)) (upd Sz nz 0) (nz + 1) cz gz) nz).2)), (2, .int (nI nz)), (0, .ref oz), (1, .int xz)]) hx hb dX2_come_85 rfl hl (by decide) rfl (fun ls hl => ?_)
            refine lv_aload_n hx hb dX2_come_86 rfl (lv_at hl 2 rfl) ?_
            refine va_get (D := G) (ci := 2) (v := .int (nI (camez + 1))) (C := RX2) (T := TX2) (N := 10) hx hb hts hinX2 hown hK hP 0 rfl rfl 1 (by decide) hf49 (fun _ h9 => h9) rfl dX2_come_87 ?_
            refine lv_iconst (v := nI 1) hx hb dX2_come_90 (by decide) ?_
            refine lv_isub hx hb dX2_come_91 ?_
            refine zN (nI camez) (y := ((nI (camez + 1)) - (nI 1))) (pk_sub (by omega)) ?_
            rw [e9, hu4]
            exact zE_i hF hr hlk hK hP hD hS dX2_come_92
          · skip
            have k67 : (nz % 2) = 0 := k0_eq (by omega) hc67
            refine lv_aload_n hx hb dX2_come_70 rfl (lv_at hl 1 rfl) ?_
            refine va_get (D := G) (ci := 2) (v := .ref siz) (C := RX2) (T := TX2) (N := 10) hx hb hts hinX2 hown hK hP 0 rfl rfl 6 (by decide) hf16 (fun _ h9 => h9) rfl dX2_come_71 ?_
            refine lv_iload_n hx hb dX2_come_74 rfl (lv_at hl 0 rfl) ?_
            refine lv_iconst (v := nI 2) hx hb dX2_come_75 (by decide) ?_
            refine lv_idiv hx hb dX2_come_76 (by decide) ?_
            refine zN (nI (nz / 2)) (y := ((nI nz) / (nI 2))) (pk_div (by omega) (by decide) (by decide)) ?_
            refine lv_iconst (v := nI 0) hx hb dX2_come_77 (by decide) ?_
            refine zA_st (x := nI 0) hx hb hK hP hD hS 3 0 rfl rfl (by omega) (by decide) dX2_come_78 (fun H locs hP hD hS => ?_)
            have hP : va_P G vwCl (wm cI oz loz liz siz shz saz (nz + 1) (camez + 1) cz gz (upd louz camez xz) (upd Dz nz (nI camez)) (upd (upd Sz nz 0) (nz / 2) (nI 0)) shdz shsz (nI 0)) H := hP
            have hD : va_D A (wm cI oz loz liz siz shz saz (nz + 1) (camez + 1) cz gz (upd louz camez xz) (upd Dz nz (nI camez)) (upd (upd Sz nz 0) (nz / 2) (nI 0)) shdz shsz (nI 0)) := hD
            have e9 : newF (vM (upd louz camez xz) (upd Dz nz (nI camez)) (upd Sz nz 0) (nz + 1) cz gz) nz = vM (upd louz camez xz) (upd Dz nz (nI camez)) (upd (upd Sz nz 0) (nz / 2) (nI 0)) (nz + 1) cz gz := by unfold newF; rw [if_pos (by omega)] <;> rfl
            have hS9 : okS (upd (upd Sz nz 0) (nz / 2) (nI 0)) := okS_upd0 (okS_upd0 hS1 nz) (nz / 2)
            refine lv_aload_n hx hb dX2_come_79 rfl (lv_at hl 1 rfl) ?_
            refine lv_iload_n hx hb dX2_come_80 rfl (lv_at hl 0 rfl) ?_
            refine lv_iconst (v := nI 0) hx hb dX2_come_81 (by decide) ?_
            refine zK_vi (As := [.int (nI nz), .int (nI 0)]) (rest := []) hF (m_rises l G cI oz loz liz siz shz saz (nz + 1) (camez + 1) cz gz (upd louz camez xz) (upd Dz nz (nI camez)) (upd (upd Sz nz 0) (nz / 2) (nI 0)) shdz shsz (nI 0) (by omega) (by omega) hS9 hD9 nz (by omega) false) (cwV 2 hts gX2_come_X2_rises rfl rfl rfl (by decide +kernel) ⟨Nat.le_of_ble_eq_true rfl, Nat.le_of_ble_eq_true rfl⟩) hK hP hD hS hA (ci := 2) (q0 := 0) rfl rfl rfl (isC := [0, 1, 2, 3, 4, 5]) (isR := []) (perm := [0, 1, 2, 3, 4, 5]) (wr := []) (wN := wm cI oz loz liz siz shz saz (nz + 1) (camez + 1) (wc ((riseF false 63 (vM (upd louz camez xz) (upd Dz nz (nI camez)) (upd (upd Sz nz 0) (nz / 2) (nI 0)) (nz + 1) cz gz) nz).1)) (wg ((riseF false 63 (vM (upd louz camez xz) (upd Dz nz (nI camez)) (upd (upd Sz nz 0) (nz / 2) (nI 0)) (nz + 1) cz gz) nz).1)) (upd louz camez xz) (wD ((riseF false 63 (vM (upd louz camez xz) (upd Dz nz (nI camez)) (upd (upd Sz nz 0) (nz / 2) (nI 0)) (nz + 1) cz gz) nz).1)) (wS ((riseF false 63 (vM (upd louz camez xz) (upd Dz nz (nI camez)) (upd (upd Sz nz 0) (nz / 2) (nI 0)) (nz + 1) cz gz) nz).1)) shdz shsz (nI 0)) ⟨rfl, by decide, rfl, rfl, (fun _ hz => by cases hz), rfl, by decide⟩ [0] rfl rfl hl.1 rfl (Nat.le_of_ble_eq_true rfl) dX2_come_82 ⟨Nat.le_refl _, Nat.le_refl _⟩ (fun H locs hP hD hS => ?_)
            obtain ⟨D5, S5, c5, g5, hu5, hz5, hy5⟩ := riseM_ex false (lou := upd louz camez xz) 63 (c := cz) (g := gz) (b := nz) hS9 hD9 (by omega)
            have hP : va_P G vwCl (wm cI oz loz liz siz shz saz (nz + 1) (camez + 1) c5 g5 (upd louz camez xz) D5 S5 shdz shsz (nI 0)) H := by have qz := hP; rw [hu5] at qz; exact qz
            have hD : va_D A (wm cI oz loz liz siz shz saz (nz + 1) (camez + 1) c5 g5 (upd louz camez xz) D5 S5 shdz shsz (nI 0)) := by have qz := hD; rw [hu5] at qz; exact qz
            refine lv_istore_n (lv' := [(3, .int (nI (riseF false 63 (vM (upd louz camez xz) (upd Dz nz (nI camez)) (upd (upd Sz nz 0) (nz / 2) (nI 0)) (nz + 1) cz gz) nz).2)), (2, .int (nI nz)), (0, .ref oz), (1, .int xz)]) hx hb dX2_come_85 rfl hl (by decide) rfl (fun ls hl => ?_)
            refine lv_aload_n hx hb dX2_come_86 rfl (lv_at hl 2 rfl) ?_
            refine va_get (D := G) (ci := 2) (v := .int (nI (camez + 1))) (C := RX2) (T := TX2) (N := 10) hx hb hts hinX2 hown hK hP 0 rfl rfl 1 (by decide) hf49 (fun _ h9 => h9) rfl dX2_come_87 ?_
            refine lv_iconst (v := nI 1) hx hb dX2_come_90 (by decide) ?_
            refine lv_isub hx hb dX2_come_91 ?_
            refine zN (nI camez) (y := ((nI (camez + 1)) - (nI 1))) (pk_sub (by omega)) ?_
            rw [e9, hu5]
            exact zE_i hF hr hlk hK hP hD hS dX2_come_92
        · exact absurd hc47 (by decide)
      · skip
        have k32 : camez = 500 := k_eq (by omega) (by omega) hc32
        exact absurd k32 (by omega)
  · exact absurd hc9 (by decide)
set_option maxHeartbeats 4000000 in
set_option maxRecDepth 100000 in
theorem m_leave_1 (l : Launch) (G : va_G) (cI : ClassId) (oz loz liz siz shz saz : Nat) (nz camez : Nat) (cz gz : Int32) (louz Dz Sz shdz shsz : Fn) (thz : Int32) (hn : nz ≤ 63) (hc9 : camez ≤ 500) (hS1 : okS Sz) (hD1 : okD nz Dz) (h0 : nz = 0) : zC_i l yX2_leave wsX2_leave ({ frames := 2, cells := 0, slots := 0, locals := 48 }) G [(cI, .int)] (wm cI oz loz liz siz shz saz nz camez cz gz louz Dz Sz shdz shsz thz) (wm cI oz loz liz siz shz saz nz camez cz gz louz Dz Sz shdz shsz (nI 1)) [.ref oz] (nI 0) := by
  refine zB_i (cc := cX2_leave) (maxL := 1) (ret := (some .int)) (by decide) rfl (Nat.le_of_ble_eq_true rfl) ?_
  intro p e s m args below meth c0 A hF hr hlk hK hA hP hD hS ls hl
  have hx := hF.1
  have hb := hF.2.1
  have hown := hF.2.2.2.1
  have hts := hF.2.2.2.2
  have hf29 := hts (.fieldLink RX2 29 "SnoringDukesModel" "many" "I") (by decide +kernel)
  have hf25 := hts (.fieldLink RX2 25 "SnoringDukesModel" "thrown" "I") (by decide +kernel)
  have hinX2 : ∀ wz ∈ wsX20, wz ∈ wsX2_leave := by decide +kernel
  have hl : lv_has ls 1 [(0, .ref oz)] := hl
  refine lv_aload_n hx hb dX2_leave_0 rfl (lv_at hl 0 rfl) ?_
  refine lv_aload_n hx hb dX2_leave_1 rfl (lv_at hl 0 rfl) ?_
  refine va_get (D := G) (ci := 2) (v := .int (nI nz)) (C := RX2) (T := TX2) (N := 10) hx hb hts hinX2 hown hK hP 0 rfl rfl 0 (by decide) hf29 (fun _ h9 => h9) rfl dX2_leave_2 ?_
  refine lv_if_le (tgt := 12) hx hb dX2_leave_5 (by decide) (fun hc5 => ?_) (fun hc5 => ?_)
  · skip
    have k5 : nz = 0 := k0_le (by omega) hc5
    refine lv_iconst (v := nI 1) hx hb dX2_leave_12 (by decide) ?_
    refine va_put (D := G) (ci := 2) (v := .int (nI 1)) (ty := .int) (C := RX2) (T := TX2) (N := 10) hx hb hts hinX2 tyX2 tyX2_ok nmX2 hown hK hP hD hS 0 rfl rfl 9 (by decide) hf25 (fun _ h9 => h9) rfl (by decide +kernel) rfl rfl (Nat.le_of_ble_eq_true rfl) dX2_leave_13 (fun H locs hP hD hS => ?_)
    have hP : va_P G vwCl (wm cI oz loz liz siz shz saz nz camez cz gz louz Dz Sz shdz shsz (nI 1)) H := hP
    have hD : va_D A (wm cI oz loz liz siz shz saz nz camez cz gz louz Dz Sz shdz shsz (nI 1)) := hD
    refine lv_aload_n hx hb dX2_leave_16 rfl (lv_at hl 0 rfl) ?_
    refine va_get (D := G) (ci := 2) (v := .int (nI 1)) (C := RX2) (T := TX2) (N := 10) hx hb hts hinX2 hown hK hP 0 rfl rfl 9 (by decide) hf25 (fun _ h9 => h9) rfl dX2_leave_17 ?_
    refine lv_if_ne (tgt := 30) hx hb dX2_leave_20 (by decide) (fun hc20 => ?_) (fun hc20 => ?_)
    · skip
      have k20 : 0 < 1 := k0_ne (by omega) hc20
      refine lv_iconst (v := nI 0) hx hb dX2_leave_30 (by decide) ?_
      exact zE_i hF hr hlk hK hP hD hS dX2_leave_31
    · exact absurd hc20 (by decide)
  · skip
    have k5 : 0 < nz := k0_nle (by omega) hc5
    exact absurd k5 (by omega)
set_option maxHeartbeats 4000000 in
set_option maxRecDepth 100000 in
theorem m_leave_0 (l : Launch) (G : va_G) (cI : ClassId) (oz loz liz siz shz saz : Nat) (nz camez : Nat) (cz gz : Int32) (louz Dz Sz shdz shsz : Fn) (thz : Int32) (hn : nz ≤ 63) (hc9 : camez ≤ 500) (hS1 : okS Sz) (hD1 : okD nz Dz) (hn1 : 1 ≤ nz) : zC_i l yX2_leave wsX2_leave ({ frames := 2, cells := 0, slots := 0, locals := 48 }) G [(cI, .int)] (wm cI oz loz liz siz shz saz nz camez cz gz louz Dz Sz shdz shsz thz) (wm cI oz loz liz siz shz saz (nz - 1) camez (wc (rmF (vM louz Dz Sz nz cz gz))) (wg (rmF (vM louz Dz Sz nz cz gz))) louz (wD (rmF (vM louz Dz Sz nz cz gz))) (wS (rmF (vM louz Dz Sz nz cz gz))) shdz shsz (nI 0)) [.ref oz] (Dz 0) := by
  refine zB_i (cc := cX2_leave) (maxL := 1) (ret := (some .int)) (by decide) rfl (Nat.le_of_ble_eq_true rfl) ?_
  intro p e s m args below meth c0 A hF hr hlk hK hA hP hD hS ls hl
  have hx := hF.1
  have hb := hF.2.1
  have hown := hF.2.2.2.1
  have hts := hF.2.2.2.2
  have hf29 := hts (.fieldLink RX2 29 "SnoringDukesModel" "many" "I") (by decide +kernel)
  have hf25 := hts (.fieldLink RX2 25 "SnoringDukesModel" "thrown" "I") (by decide +kernel)
  have hinX2 : ∀ wz ∈ wsX20, wz ∈ wsX2_leave := by decide +kernel
  have hl : lv_has ls 1 [(0, .ref oz)] := hl
  refine lv_aload_n hx hb dX2_leave_0 rfl (lv_at hl 0 rfl) ?_
  refine lv_aload_n hx hb dX2_leave_1 rfl (lv_at hl 0 rfl) ?_
  refine va_get (D := G) (ci := 2) (v := .int (nI nz)) (C := RX2) (T := TX2) (N := 10) hx hb hts hinX2 hown hK hP 0 rfl rfl 0 (by decide) hf29 (fun _ h9 => h9) rfl dX2_leave_2 ?_
  refine lv_if_le (tgt := 12) hx hb dX2_leave_5 (by decide) (fun hc5 => ?_) (fun hc5 => ?_)
  · skip
    have k5 : nz = 0 := k0_le (by omega) hc5
    exact absurd k5 (by omega)
  · skip
    have k5 : 0 < nz := k0_nle (by omega) hc5
    refine lv_iconst (v := nI 0) hx hb dX2_leave_8 (by decide) ?_
    refine lv_goto (tgt := 13) hx hb dX2_leave_9 (by decide) ?_
    refine va_put (D := G) (ci := 2) (v := .int (nI 0)) (ty := .int) (C := RX2) (T := TX2) (N := 10) hx hb hts hinX2 tyX2 tyX2_ok nmX2 hown hK hP hD hS 0 rfl rfl 9 (by decide) hf25 (fun _ h9 => h9) rfl (by decide +kernel) rfl rfl (Nat.le_of_ble_eq_true rfl) dX2_leave_13 (fun H locs hP hD hS => ?_)
    have hP : va_P G vwCl (wm cI oz loz liz siz shz saz nz camez cz gz louz Dz Sz shdz shsz (nI 0)) H := hP
    have hD : va_D A (wm cI oz loz liz siz shz saz nz camez cz gz louz Dz Sz shdz shsz (nI 0)) := hD
    refine lv_aload_n hx hb dX2_leave_16 rfl (lv_at hl 0 rfl) ?_
    refine va_get (D := G) (ci := 2) (v := .int (nI 0)) (C := RX2) (T := TX2) (N := 10) hx hb hts hinX2 hown hK hP 0 rfl rfl 9 (by decide) hf25 (fun _ h9 => h9) rfl dX2_leave_17 ?_
    refine lv_if_ne (tgt := 30) hx hb dX2_leave_20 (by decide) (fun hc20 => ?_) (fun hc20 => ?_)
    · exact absurd hc20 (by decide)
    · skip
      have k20 : 0 = 0 := k0_eq (by omega) hc20
      refine lv_aload_n hx hb dX2_leave_23 rfl (lv_at hl 0 rfl) ?_
      refine zK_vi (As := []) (rest := []) hF (m_leaves l G cI oz loz liz siz shz saz nz camez cz gz louz Dz Sz shdz shsz (nI 0) (by omega) (by omega) hS1 hD1 (by omega)) (cwV 0 hts gX2_leave_X2_leaves rfl rfl rfl (by decide +kernel) ⟨Nat.le_of_ble_eq_true rfl, Nat.le_of_ble_eq_true rfl⟩) hK hP hD hS hA (ci := 2) (q0 := 0) rfl rfl rfl (isC := [0, 1, 2, 3, 4, 5]) (isR := []) (perm := [0, 1, 2, 3, 4, 5]) (wr := []) (wN := wm cI oz loz liz siz shz saz (nz - 1) camez (wc (rmF (vM louz Dz Sz nz cz gz))) (wg (rmF (vM louz Dz Sz nz cz gz))) louz (wD (rmF (vM louz Dz Sz nz cz gz))) (wS (rmF (vM louz Dz Sz nz cz gz))) shdz shsz (nI 0)) ⟨rfl, by decide, rfl, rfl, (fun _ hz => by cases hz), rfl, by decide⟩ [0] rfl rfl hl.1 rfl (Nat.le_of_ble_eq_true rfl) dX2_leave_24 ⟨Nat.le_refl _, Nat.le_refl _⟩ (fun H locs hP hD hS => ?_)
      obtain ⟨D6, S6, c6, g6, hu6, hz6, hy6⟩ := rmM_ex (lou := louz) (c := cz) (g := gz) hS1 hD1 (by omega) (by omega) (m := nz - 1) (by omega)
      have hP : va_P G vwCl (wm cI oz loz liz siz shz saz (nz - 1) camez c6 g6 louz D6 S6 shdz shsz (nI 0)) H := by have qz := hP; rw [hu6] at qz; exact qz
      have hD : va_D A (wm cI oz loz liz siz shz saz (nz - 1) camez c6 g6 louz D6 S6 shdz shsz (nI 0)) := by have qz := hD; rw [hu6] at qz; exact qz
      refine lv_goto (tgt := 31) hx hb dX2_leave_27 (by decide) ?_
      rw [hu6]
      exact zE_i hF hr hlk hK hP hD hS dX2_leave_31
set_option maxHeartbeats 4000000 in
set_option maxRecDepth 100000 in
theorem m_hush_1 (l : Launch) (G : va_G) (cI : ClassId) (oz loz liz siz shz saz : Nat) (nz camez : Nat) (cz gz : Int32) (louz Dz Sz shdz shsz : Fn) (thz : Int32) (hn : nz ≤ 63) (hc9 : camez ≤ 500) (hS1 : okS Sz) (hD1 : okD nz Dz) (xz yz : Int32) (hno : ¬ fnd Dz xz nz < nz) : zC_i l yX2_hush wsX2_hush ({ frames := 3, cells := 0, slots := 0, locals := 68 }) G [(cI, .int)] (wm cI oz loz liz siz shz saz nz camez cz gz louz Dz Sz shdz shsz thz) (wm cI oz loz liz siz shz saz nz camez cz gz louz Dz Sz shdz shsz (nI 1)) [.ref oz, .int xz, .int yz] (nI 0) := by
  refine zB_i (cc := cX2_hush) (maxL := 4) (ret := (some .int)) (by decide) rfl (Nat.le_of_ble_eq_true rfl) ?_
  intro p e s m args below meth c0 A hF hr hlk hK hA hP hD hS ls hl
  have hx := hF.1
  have hb := hF.2.1
  have hown := hF.2.2.2.1
  have hts := hF.2.2.2.2
  have hf7 := hts (.fieldLink RX2 7 "SnoringDukesModel" "loud" "[I") (by decide +kernel)
  have hf25 := hts (.fieldLink RX2 25 "SnoringDukesModel" "thrown" "I") (by decide +kernel)
  have hinX2 : ∀ wz ∈ wsX20, wz ∈ wsX2_hush := by decide +kernel
  have hl : lv_has ls 4 [(0, .ref oz), (1, .int xz), (2, .int yz)] := hl
  refine lv_aload_n hx hb dX2_hush_0 rfl (lv_at hl 0 rfl) ?_
  refine lv_iload_n hx hb dX2_hush_1 rfl (lv_at hl 1 rfl) ?_
  refine zK_vi (As := [.int xz]) (rest := []) hF (m_find l G cI oz loz liz siz shz saz nz camez cz gz louz Dz Sz shdz shsz thz hn hc9 hS1 hD1 xz) (cwV 1 hts gX2_hush_X2_find rfl rfl rfl (by decide +kernel) ⟨Nat.le_of_ble_eq_true rfl, Nat.le_of_ble_eq_true rfl⟩) hK hP hD hS hA (ci := 2) (q0 := 0) rfl rfl rfl (isC := [0, 1, 2, 3, 4, 5]) (isR := []) (perm := [0, 1, 2, 3, 4, 5]) (wr := []) (wN := wm cI oz loz liz siz shz saz nz camez cz gz louz Dz Sz shdz shsz thz) ⟨rfl, by decide, rfl, rfl, (fun _ hz => by cases hz), rfl, by decide⟩ [0] rfl rfl hl.1 rfl (Nat.le_of_ble_eq_true rfl) dX2_hush_2 ⟨Nat.le_refl _, Nat.le_refl _⟩ (fun H locs hP hD hS => ?_)
  refine zN (-1) (y := (fndI Dz nz xz)) (fndI_no hno) ?_
  refine lv_istore_n (lv' := [(3, .int (-1)), (0, .ref oz), (1, .int xz), (2, .int yz)]) hx hb dX2_hush_5 rfl hl (by decide) rfl (fun ls hl => ?_)
  refine lv_aload_n hx hb dX2_hush_6 rfl (lv_at hl 1 rfl) ?_
  refine lv_iload_n hx hb dX2_hush_7 rfl (lv_at hl 0 rfl) ?_
  refine lv_if_ge (tgt := 15) hx hb dX2_hush_8 (by decide) (fun hc8 => ?_) (fun hc8 => ?_)
  · exact absurd hc8 (by decide)
  · skip
    refine lv_iconst (v := nI 1) hx hb dX2_hush_11 (by decide) ?_
    refine lv_goto (tgt := 34) hx hb dX2_hush_12 (by decide) ?_
    refine va_put (D := G) (ci := 2) (v := .int (nI 1)) (ty := .int) (C := RX2) (T := TX2) (N := 10) hx hb hts hinX2 tyX2 tyX2_ok nmX2 hown hK hP hD hS 0 rfl rfl 9 (by decide) hf25 (fun _ h9 => h9) rfl (by decide +kernel) rfl rfl (Nat.le_of_ble_eq_true rfl) dX2_hush_34 (fun H locs hP hD hS => ?_)
    have hP : va_P G vwCl (wm cI oz loz liz siz shz saz nz camez cz gz louz Dz Sz shdz shsz (nI 1)) H := hP
    have hD : va_D A (wm cI oz loz liz siz shz saz nz camez cz gz louz Dz Sz shdz shsz (nI 1)) := hD
    refine lv_aload_n hx hb dX2_hush_37 rfl (lv_at hl 1 rfl) ?_
    refine va_get (D := G) (ci := 2) (v := .int (nI 1)) (C := RX2) (T := TX2) (N := 10) hx hb hts hinX2 hown hK hP 0 rfl rfl 9 (by decide) hf25 (fun _ h9 => h9) rfl dX2_hush_38 ?_
    refine lv_if_le (tgt := 46) hx hb dX2_hush_41 (by decide) (fun hc41 => ?_) (fun hc41 => ?_)
    · exact absurd hc41 (by decide)
    · skip
      have k41 : 0 < 1 := k0_nle (by omega) hc41
      refine lv_iconst (v := nI 0) hx hb dX2_hush_44 (by decide) ?_
      exact zE_i hF hr hlk hK hP hD hS dX2_hush_45
set_option maxHeartbeats 4000000 in
set_option maxRecDepth 100000 in
theorem m_hush_2 (l : Launch) (G : va_G) (cI : ClassId) (oz loz liz siz shz saz : Nat) (nz camez : Nat) (cz gz : Int32) (louz Dz Sz shdz shsz : Fn) (thz : Int32) (hn : nz ≤ 63) (hc9 : camez ≤ 500) (hS1 : okS Sz) (hD1 : okD nz Dz) (bz kb : Nat) (hb9 : bz < nz) (hkb : kb < 500) (hf : fnd Dz (nI kb) nz = bz) (yz : Int32) (hbad : isO yz (nI 0) (louz kb) = false) : zC_i l yX2_hush wsX2_hush ({ frames := 3, cells := 0, slots := 0, locals := 68 }) G [(cI, .int)] (wm cI oz loz liz siz shz saz nz camez cz gz louz Dz Sz shdz shsz thz) (wm cI oz loz liz siz shz saz nz camez cz gz louz Dz Sz shdz shsz (nI 2)) [.ref oz, .int (nI kb), .int yz] (nI 0) := by
  refine zB_i (cc := cX2_hush) (maxL := 4) (ret := (some .int)) (by decide) rfl (Nat.le_of_ble_eq_true rfl) ?_
  intro p e s m args below meth c0 A hF hr hlk hK hA hP hD hS ls hl
  have hx := hF.1
  have hb := hF.2.1
  have hown := hF.2.2.2.1
  have hts := hF.2.2.2.2
  have hf7 := hts (.fieldLink RX2 7 "SnoringDukesModel" "loud" "[I") (by decide +kernel)
  have hf25 := hts (.fieldLink RX2 25 "SnoringDukesModel" "thrown" "I") (by decide +kernel)
  have hinX2 : ∀ wz ∈ wsX20, wz ∈ wsX2_hush := by decide +kernel
  have hl : lv_has ls 4 [(0, .ref oz), (1, .int (nI kb)), (2, .int yz)] := hl
  refine lv_aload_n hx hb dX2_hush_0 rfl (lv_at hl 0 rfl) ?_
  refine lv_iload_n hx hb dX2_hush_1 rfl (lv_at hl 1 rfl) ?_
  refine zK_vi (As := [.int (nI kb)]) (rest := []) hF (m_find l G cI oz loz liz siz shz saz nz camez cz gz louz Dz Sz shdz shsz thz hn hc9 hS1 hD1 (nI kb)) (cwV 1 hts gX2_hush_X2_find rfl rfl rfl (by decide +kernel) ⟨Nat.le_of_ble_eq_true rfl, Nat.le_of_ble_eq_true rfl⟩) hK hP hD hS hA (ci := 2) (q0 := 0) rfl rfl rfl (isC := [0, 1, 2, 3, 4, 5]) (isR := []) (perm := [0, 1, 2, 3, 4, 5]) (wr := []) (wN := wm cI oz loz liz siz shz saz nz camez cz gz louz Dz Sz shdz shsz thz) ⟨rfl, by decide, rfl, rfl, (fun _ hz => by cases hz), rfl, by decide⟩ [0] rfl rfl hl.1 rfl (Nat.le_of_ble_eq_true rfl) dX2_hush_2 ⟨Nat.le_refl _, Nat.le_refl _⟩ (fun H locs hP hD hS => ?_)
  refine zN (nI bz) (y := (fndI Dz nz (nI kb))) (fndI_at hf hb9) ?_
  refine lv_istore_n (lv' := [(3, .int (nI bz)), (0, .ref oz), (1, .int (nI kb)), (2, .int yz)]) hx hb dX2_hush_5 rfl hl (by decide) rfl (fun ls hl => ?_)
  refine lv_aload_n hx hb dX2_hush_6 rfl (lv_at hl 1 rfl) ?_
  refine lv_iload_n hx hb dX2_hush_7 rfl (lv_at hl 0 rfl) ?_
  refine lv_if_ge (tgt := 15) hx hb dX2_hush_8 (by decide) (fun hc8 => ?_) (fun hc8 => ?_)
  · skip
    refine lv_iload_n hx hb dX2_hush_15 rfl (lv_at hl 3 rfl) ?_
    refine lv_iconst (v := nI 0) hx hb dX2_hush_16 (by decide) ?_
    refine lv_aload_n hx hb dX2_hush_17 rfl (lv_at hl 1 rfl) ?_
    refine va_get (D := G) (ci := 2) (v := .ref loz) (C := RX2) (T := TX2) (N := 10) hx hb hts hinX2 hown hK hP 0 rfl rfl 4 (by decide) hf7 (fun _ h9 => h9) rfl dX2_hush_18 ?_
    refine lv_iload_n hx hb dX2_hush_21 rfl (lv_at hl 2 rfl) ?_
    refine zA_ld hx hb hK hP 1 0 rfl rfl (by omega) (by decide) dX2_hush_22 ?_
    refine zK_si (av := [.int yz, .int (nI 0), .int (louz kb)]) (rest := [.ref oz]) hF (m_isOf l G yz (nI 0) (louz kb)) (va_cwS 3 hts gX2_hush_X2_isOf rfl rfl rfl (by decide +kernel) ⟨Nat.le_of_ble_eq_true rfl, Nat.le_of_ble_eq_true rfl⟩) hK hP hD hS hA (isC := []) (isR := [0, 1, 2, 3, 4, 5]) (perm := [0, 1, 2, 3, 4, 5]) (wr := wm cI oz loz liz siz shz saz nz camez cz gz louz Dz Sz shdz shsz thz) (wN := wm cI oz loz liz siz shz saz nz camez cz gz louz Dz Sz shdz shsz thz) ⟨rfl, by decide, rfl, by decide, (fun _ _ hz => by cases hz), rfl, by decide⟩ [] rfl rfl hl.1 rfl (Nat.le_of_ble_eq_true rfl) dX2_hush_23 ⟨Nat.le_refl _, Nat.le_refl _⟩ (fun H locs hP hD hS => ?_)
    refine zN (nI 0) (y := (bI (isO yz (nI 0) (louz kb)))) (by rw [hbad]; rfl) ?_
    refine lv_if_ne (tgt := 33) hx hb dX2_hush_26 (by decide) (fun hc26 => ?_) (fun hc26 => ?_)
    · exact absurd hc26 (by decide)
    · skip
      have k26 : 0 = 0 := k0_eq (by omega) hc26
      refine lv_iconst (v := nI 2) hx hb dX2_hush_29 (by decide) ?_
      refine lv_goto (tgt := 34) hx hb dX2_hush_30 (by decide) ?_
      refine va_put (D := G) (ci := 2) (v := .int (nI 2)) (ty := .int) (C := RX2) (T := TX2) (N := 10) hx hb hts hinX2 tyX2 tyX2_ok nmX2 hown hK hP hD hS 0 rfl rfl 9 (by decide) hf25 (fun _ h9 => h9) rfl (by decide +kernel) rfl rfl (Nat.le_of_ble_eq_true rfl) dX2_hush_34 (fun H locs hP hD hS => ?_)
      have hP : va_P G vwCl (wm cI oz loz liz siz shz saz nz camez cz gz louz Dz Sz shdz shsz (nI 2)) H := hP
      have hD : va_D A (wm cI oz loz liz siz shz saz nz camez cz gz louz Dz Sz shdz shsz (nI 2)) := hD
      refine lv_aload_n hx hb dX2_hush_37 rfl (lv_at hl 1 rfl) ?_
      refine va_get (D := G) (ci := 2) (v := .int (nI 2)) (C := RX2) (T := TX2) (N := 10) hx hb hts hinX2 hown hK hP 0 rfl rfl 9 (by decide) hf25 (fun _ h9 => h9) rfl dX2_hush_38 ?_
      refine lv_if_le (tgt := 46) hx hb dX2_hush_41 (by decide) (fun hc41 => ?_) (fun hc41 => ?_)
      · exact absurd hc41 (by decide)
      · skip
        have k41 : 0 < 2 := k0_nle (by omega) hc41
        refine lv_iconst (v := nI 0) hx hb dX2_hush_44 (by decide) ?_
        exact zE_i hF hr hlk hK hP hD hS dX2_hush_45
  · skip
    exact absurd hc8 (fun zz => zz (nI_pos' (by omega)))
set_option maxHeartbeats 4000000 in
set_option maxRecDepth 100000 in
theorem m_hush_0 (l : Launch) (G : va_G) (cI : ClassId) (oz loz liz siz shz saz : Nat) (nz camez : Nat) (cz gz : Int32) (louz Dz Sz shdz shsz : Fn) (thz : Int32) (hn : nz ≤ 63) (hc9 : camez ≤ 500) (hS1 : okS Sz) (hD1 : okD nz Dz) (bz kb : Nat) (hb9 : bz < nz) (hkb : kb < 500) (hf : fnd Dz (nI kb) nz = bz) (yz : Int32) (hok : isO yz (nI 0) (louz kb) = true) : zC_i l yX2_hush wsX2_hush ({ frames := 3, cells := 0, slots := 0, locals := 68 }) G [(cI, .int)] (wm cI oz loz liz siz shz saz nz camez cz gz louz Dz Sz shdz shsz thz) (wm cI oz loz liz siz shz saz nz camez (wc ((riseF false 63 (vM (upd louz kb yz) Dz Sz nz cz gz) bz).1)) (wg ((riseF false 63 (vM (upd louz kb yz) Dz Sz nz cz gz) bz).1)) (upd louz kb yz) (wD ((riseF false 63 (vM (upd louz kb yz) Dz Sz nz cz gz) bz).1)) (wS ((riseF false 63 (vM (upd louz kb yz) Dz Sz nz cz gz) bz).1)) shdz shsz (nI 0)) [.ref oz, .int (nI kb), .int yz] (nI (riseF false 63 (vM (upd louz kb yz) Dz Sz nz cz gz) bz).2) := by
  refine zB_i (cc := cX2_hush) (maxL := 4) (ret := (some .int)) (by decide) rfl (Nat.le_of_ble_eq_true rfl) ?_
  intro p e s m args below meth c0 A hF hr hlk hK hA hP hD hS ls hl
  have hx := hF.1
  have hb := hF.2.1
  have hown := hF.2.2.2.1
  have hts := hF.2.2.2.2
  have hf7 := hts (.fieldLink RX2 7 "SnoringDukesModel" "loud" "[I") (by decide +kernel)
  have hf25 := hts (.fieldLink RX2 25 "SnoringDukesModel" "thrown" "I") (by decide +kernel)
  have hinX2 : ∀ wz ∈ wsX20, wz ∈ wsX2_hush := by decide +kernel
  have hl : lv_has ls 4 [(0, .ref oz), (1, .int (nI kb)), (2, .int yz)] := hl
  refine lv_aload_n hx hb dX2_hush_0 rfl (lv_at hl 0 rfl) ?_
  refine lv_iload_n hx hb dX2_hush_1 rfl (lv_at hl 1 rfl) ?_
  refine zK_vi (As := [.int (nI kb)]) (rest := []) hF (m_find l G cI oz loz liz siz shz saz nz camez cz gz louz Dz Sz shdz shsz thz hn hc9 hS1 hD1 (nI kb)) (cwV 1 hts gX2_hush_X2_find rfl rfl rfl (by decide +kernel) ⟨Nat.le_of_ble_eq_true rfl, Nat.le_of_ble_eq_true rfl⟩) hK hP hD hS hA (ci := 2) (q0 := 0) rfl rfl rfl (isC := [0, 1, 2, 3, 4, 5]) (isR := []) (perm := [0, 1, 2, 3, 4, 5]) (wr := []) (wN := wm cI oz loz liz siz shz saz nz camez cz gz louz Dz Sz shdz shsz thz) ⟨rfl, by decide, rfl, rfl, (fun _ hz => by cases hz), rfl, by decide⟩ [0] rfl rfl hl.1 rfl (Nat.le_of_ble_eq_true rfl) dX2_hush_2 ⟨Nat.le_refl _, Nat.le_refl _⟩ (fun H locs hP hD hS => ?_)
  refine zN (nI bz) (y := (fndI Dz nz (nI kb))) (fndI_at hf hb9) ?_
  refine lv_istore_n (lv' := [(3, .int (nI bz)), (0, .ref oz), (1, .int (nI kb)), (2, .int yz)]) hx hb dX2_hush_5 rfl hl (by decide) rfl (fun ls hl => ?_)
  refine lv_aload_n hx hb dX2_hush_6 rfl (lv_at hl 1 rfl) ?_
  refine lv_iload_n hx hb dX2_hush_7 rfl (lv_at hl 0 rfl) ?_
  refine lv_if_ge (tgt := 15) hx hb dX2_hush_8 (by decide) (fun hc8 => ?_) (fun hc8 => ?_)
  · skip
    refine lv_iload_n hx hb dX2_hush_15 rfl (lv_at hl 3 rfl) ?_
    refine lv_iconst (v := nI 0) hx hb dX2_hush_16 (by decide) ?_
    refine lv_aload_n hx hb dX2_hush_17 rfl (lv_at hl 1 rfl) ?_
    refine va_get (D := G) (ci := 2) (v := .ref loz) (C := RX2) (T := TX2) (N := 10) hx hb hts hinX2 hown hK hP 0 rfl rfl 4 (by decide) hf7 (fun _ h9 => h9) rfl dX2_hush_18 ?_
    refine lv_iload_n hx hb dX2_hush_21 rfl (lv_at hl 2 rfl) ?_
    refine zA_ld hx hb hK hP 1 0 rfl rfl (by omega) (by decide) dX2_hush_22 ?_
    refine zK_si (av := [.int yz, .int (nI 0), .int (louz kb)]) (rest := [.ref oz]) hF (m_isOf l G yz (nI 0) (louz kb)) (va_cwS 3 hts gX2_hush_X2_isOf rfl rfl rfl (by decide +kernel) ⟨Nat.le_of_ble_eq_true rfl, Nat.le_of_ble_eq_true rfl⟩) hK hP hD hS hA (isC := []) (isR := [0, 1, 2, 3, 4, 5]) (perm := [0, 1, 2, 3, 4, 5]) (wr := wm cI oz loz liz siz shz saz nz camez cz gz louz Dz Sz shdz shsz thz) (wN := wm cI oz loz liz siz shz saz nz camez cz gz louz Dz Sz shdz shsz thz) ⟨rfl, by decide, rfl, by decide, (fun _ _ hz => by cases hz), rfl, by decide⟩ [] rfl rfl hl.1 rfl (Nat.le_of_ble_eq_true rfl) dX2_hush_23 ⟨Nat.le_refl _, Nat.le_refl _⟩ (fun H locs hP hD hS => ?_)
    refine zN (nI 1) (y := (bI (isO yz (nI 0) (louz kb)))) (by rw [hok]; rfl) ?_
    refine lv_if_ne (tgt := 33) hx hb dX2_hush_26 (by decide) (fun hc26 => ?_) (fun hc26 => ?_)
    · skip
      have k26 : 0 < 1 := k0_ne (by omega) hc26
      refine lv_iconst (v := nI 0) hx hb dX2_hush_33 (by decide) ?_
      refine va_put (D := G) (ci := 2) (v := .int (nI 0)) (ty := .int) (C := RX2) (T := TX2) (N := 10) hx hb hts hinX2 tyX2 tyX2_ok nmX2 hown hK hP hD hS 0 rfl rfl 9 (by decide) hf25 (fun _ h9 => h9) rfl (by decide +kernel) rfl rfl (Nat.le_of_ble_eq_true rfl) dX2_hush_34 (fun H locs hP hD hS => ?_)
      have hP : va_P G vwCl (wm cI oz loz liz siz shz saz nz camez cz gz louz Dz Sz shdz shsz (nI 0)) H := hP
      have hD : va_D A (wm cI oz loz liz siz shz saz nz camez cz gz louz Dz Sz shdz shsz (nI 0)) := hD
      refine lv_aload_n hx hb dX2_hush_37 rfl (lv_at hl 1 rfl) ?_
      refine va_get (D := G) (ci := 2) (v := .int (nI 0)) (C := RX2) (T := TX2) (N := 10) hx hb hts hinX2 hown hK hP 0 rfl rfl 9 (by decide) hf25 (fun _ h9 => h9) rfl dX2_hush_38 ?_
      refine lv_if_le (tgt := 46) hx hb dX2_hush_41 (by decide) (fun hc41 => ?_) (fun hc41 => ?_)
      · skip
        have k41 : 0 = 0 := k0_le (by omega) hc41
        refine lv_aload_n hx hb dX2_hush_46 rfl (lv_at hl 1 rfl) ?_
        refine va_get (D := G) (ci := 2) (v := .ref loz) (C := RX2) (T := TX2) (N := 10) hx hb hts hinX2 hown hK hP 0 rfl rfl 4 (by decide) hf7 (fun _ h9 => h9) rfl dX2_hush_47 ?_
        refine lv_iload_n hx hb dX2_hush_50 rfl (lv_at hl 2 rfl) ?_
        refine lv_iload_n hx hb dX2_hush_51 rfl (lv_at hl 3 rfl) ?_
        refine zA_st (x := yz) hx hb hK hP hD hS 1 0 rfl rfl (by omega) (by decide) dX2_hush_52 (fun H locs hP hD hS => ?_)
        have hP : va_P G vwCl (wm cI oz loz liz siz shz saz nz camez cz gz (upd louz kb yz) Dz Sz shdz shsz (nI 0)) H := hP
        have hD : va_D A (wm cI oz loz liz siz shz saz nz camez cz gz (upd louz kb yz) Dz Sz shdz shsz (nI 0)) := hD
        refine lv_aload_n hx hb dX2_hush_53 rfl (lv_at hl 1 rfl) ?_
        refine lv_iload_n hx hb dX2_hush_54 rfl (lv_at hl 0 rfl) ?_
        refine lv_iconst (v := nI 0) hx hb dX2_hush_55 (by decide) ?_
        refine zK_vi (As := [.int (nI bz), .int (nI 0)]) (rest := []) hF (m_rises l G cI oz loz liz siz shz saz nz camez cz gz (upd louz kb yz) Dz Sz shdz shsz (nI 0) (by omega) (by omega) hS1 hD1 bz (by omega) false) (cwV 2 hts gX2_hush_X2_rises rfl rfl rfl (by decide +kernel) ⟨Nat.le_of_ble_eq_true rfl, Nat.le_of_ble_eq_true rfl⟩) hK hP hD hS hA (ci := 2) (q0 := 0) rfl rfl rfl (isC := [0, 1, 2, 3, 4, 5]) (isR := []) (perm := [0, 1, 2, 3, 4, 5]) (wr := []) (wN := wm cI oz loz liz siz shz saz nz camez (wc ((riseF false 63 (vM (upd louz kb yz) Dz Sz nz cz gz) bz).1)) (wg ((riseF false 63 (vM (upd louz kb yz) Dz Sz nz cz gz) bz).1)) (upd louz kb yz) (wD ((riseF false 63 (vM (upd louz kb yz) Dz Sz nz cz gz) bz).1)) (wS ((riseF false 63 (vM (upd louz kb yz) Dz Sz nz cz gz) bz).1)) shdz shsz (nI 0)) ⟨rfl, by decide, rfl, rfl, (fun _ hz => by cases hz), rfl, by decide⟩ [0] rfl rfl hl.1 rfl (Nat.le_of_ble_eq_true rfl) dX2_hush_56 ⟨Nat.le_refl _, Nat.le_refl _⟩ (fun H locs hP hD hS => ?_)
        obtain ⟨D7, S7, c7, g7, hu7, hz7, hy7⟩ := riseM_ex false (lou := upd louz kb yz) 63 (c := cz) (g := gz) (b := bz) hS1 hD1 (by omega)
        have hP : va_P G vwCl (wm cI oz loz liz siz shz saz nz camez c7 g7 (upd louz kb yz) D7 S7 shdz shsz (nI 0)) H := by have qz := hP; rw [hu7] at qz; exact qz
        have hD : va_D A (wm cI oz loz liz siz shz saz nz camez c7 g7 (upd louz kb yz) D7 S7 shdz shsz (nI 0)) := by have qz := hD; rw [hu7] at qz; exact qz
        rw [hu7]
        exact zE_i hF hr hlk hK hP hD hS dX2_hush_59
      · exact absurd hc41 (by decide)
    · exact absurd hc26 (by decide)
  · skip
    exact absurd hc8 (fun zz => zz (nI_pos' (by omega)))
set_option maxHeartbeats 4000000 in
set_option maxRecDepth 100000 in
theorem m_fetch_1 (l : Launch) (G : va_G) (cI : ClassId) (oz loz liz siz shz saz : Nat) (nz camez : Nat) (cz gz : Int32) (louz Dz Sz shdz shsz : Fn) (thz : Int32) (hn : nz ≤ 63) (hc9 : camez ≤ 500) (hS1 : okS Sz) (hD1 : okD nz Dz) (xz : Int32) (hno : ¬ fnd Dz xz nz < nz) : zC_i l yX2_fetch wsX2_fetch ({ frames := 3, cells := 0, slots := 0, locals := 68 }) G [(cI, .int)] (wm cI oz loz liz siz shz saz nz camez cz gz louz Dz Sz shdz shsz thz) (wm cI oz loz liz siz shz saz nz camez cz gz louz Dz Sz shdz shsz (nI 1)) [.ref oz, .int xz] (nI 0) := by
  refine zB_i (cc := cX2_fetch) (maxL := 6) (ret := (some .int)) (by decide) rfl (Nat.le_of_ble_eq_true rfl) ?_
  intro p e s m args below meth c0 A hF hr hlk hK hA hP hD hS ls hl
  have hx := hF.1
  have hb := hF.2.1
  have hown := hF.2.2.2.1
  have hts := hF.2.2.2.2
  have hf25 := hts (.fieldLink RX2 25 "SnoringDukesModel" "thrown" "I") (by decide +kernel)
  have hf36 := hts (.fieldLink RX2 36 "SnoringDukesModel" "compared" "I") (by decide +kernel)
  have hinX2 : ∀ wz ∈ wsX20, wz ∈ wsX2_fetch := by decide +kernel
  have hl : lv_has ls 6 [(0, .ref oz), (1, .int xz)] := hl
  refine lv_aload_n hx hb dX2_fetch_0 rfl (lv_at hl 0 rfl) ?_
  refine lv_iload_n hx hb dX2_fetch_1 rfl (lv_at hl 1 rfl) ?_
  refine zK_vi (As := [.int xz]) (rest := []) hF (m_find l G cI oz loz liz siz shz saz nz camez cz gz louz Dz Sz shdz shsz thz hn hc9 hS1 hD1 xz) (cwV 1 hts gX2_fetch_X2_find rfl rfl rfl (by decide +kernel) ⟨Nat.le_of_ble_eq_true rfl, Nat.le_of_ble_eq_true rfl⟩) hK hP hD hS hA (ci := 2) (q0 := 0) rfl rfl rfl (isC := [0, 1, 2, 3, 4, 5]) (isR := []) (perm := [0, 1, 2, 3, 4, 5]) (wr := []) (wN := wm cI oz loz liz siz shz saz nz camez cz gz louz Dz Sz shdz shsz thz) ⟨rfl, by decide, rfl, rfl, (fun _ hz => by cases hz), rfl, by decide⟩ [0] rfl rfl hl.1 rfl (Nat.le_of_ble_eq_true rfl) dX2_fetch_2 ⟨Nat.le_refl _, Nat.le_refl _⟩ (fun H locs hP hD hS => ?_)
  refine zN (-1) (y := (fndI Dz nz xz)) (fndI_no hno) ?_
  refine lv_istore_n (lv' := [(2, .int (-1)), (0, .ref oz), (1, .int xz)]) hx hb dX2_fetch_5 rfl hl (by decide) rfl (fun ls hl => ?_)
  refine lv_aload_n hx hb dX2_fetch_6 rfl (lv_at hl 1 rfl) ?_
  refine lv_iload_n hx hb dX2_fetch_7 rfl (lv_at hl 0 rfl) ?_
  refine lv_if_ge (tgt := 15) hx hb dX2_fetch_8 (by decide) (fun hc8 => ?_) (fun hc8 => ?_)
  · exact absurd hc8 (by decide)
  · skip
    refine lv_iconst (v := nI 1) hx hb dX2_fetch_11 (by decide) ?_
    refine lv_goto (tgt := 16) hx hb dX2_fetch_12 (by decide) ?_
    refine va_put (D := G) (ci := 2) (v := .int (nI 1)) (ty := .int) (C := RX2) (T := TX2) (N := 10) hx hb hts hinX2 tyX2 tyX2_ok nmX2 hown hK hP hD hS 0 rfl rfl 9 (by decide) hf25 (fun _ h9 => h9) rfl (by decide +kernel) rfl rfl (Nat.le_of_ble_eq_true rfl) dX2_fetch_16 (fun H locs hP hD hS => ?_)
    have hP : va_P G vwCl (wm cI oz loz liz siz shz saz nz camez cz gz louz Dz Sz shdz shsz (nI 1)) H := hP
    have hD : va_D A (wm cI oz loz liz siz shz saz nz camez cz gz louz Dz Sz shdz shsz (nI 1)) := hD
    refine lv_aload_n hx hb dX2_fetch_19 rfl (lv_at hl 1 rfl) ?_
    refine va_get (D := G) (ci := 2) (v := .int (nI 1)) (C := RX2) (T := TX2) (N := 10) hx hb hts hinX2 hown hK hP 0 rfl rfl 9 (by decide) hf25 (fun _ h9 => h9) rfl dX2_fetch_20 ?_
    refine lv_if_le (tgt := 28) hx hb dX2_fetch_23 (by decide) (fun hc23 => ?_) (fun hc23 => ?_)
    · exact absurd hc23 (by decide)
    · skip
      have k23 : 0 < 1 := k0_nle (by omega) hc23
      refine lv_iconst (v := nI 0) hx hb dX2_fetch_26 (by decide) ?_
      exact zE_i hF hr hlk hK hP hD hS dX2_fetch_27
set_option maxHeartbeats 4000000 in
set_option maxRecDepth 100000 in
theorem m_fetch_0 (l : Launch) (G : va_G) (cI : ClassId) (oz loz liz siz shz saz : Nat) (nz camez : Nat) (cz gz : Int32) (louz Dz Sz shdz shsz : Fn) (thz : Int32) (hn : nz ≤ 63) (hc9 : camez ≤ 500) (hS1 : okS Sz) (hD1 : okD nz Dz) (bz kb : Nat) (hb9 : bz < nz) (hkb : kb < 500) (hf : fnd Dz (nI kb) nz = bz)  : zC_i l yX2_fetch wsX2_fetch ({ frames := 3, cells := 0, slots := 0, locals := 68 }) G [(cI, .int)] (wm cI oz loz liz siz shz saz nz camez cz gz louz Dz Sz shdz shsz thz) (wm cI oz loz liz siz shz saz (nz - 1) camez (wc (rmF (riseF true 63 (vM louz Dz Sz nz cz gz) bz).1)) (wg (rmF (riseF true 63 (vM louz Dz Sz nz cz gz) bz).1)) louz (wD (rmF (riseF true 63 (vM louz Dz Sz nz cz gz) bz).1)) (wS (rmF (riseF true 63 (vM louz Dz Sz nz cz gz) bz).1)) shdz shsz (nI 0)) [.ref oz, .int (nI kb)] (wc (rmF (riseF true 63 (vM louz Dz Sz nz cz gz) bz).1) - cz) := by
  refine zB_i (cc := cX2_fetch) (maxL := 6) (ret := (some .int)) (by decide) rfl (Nat.le_of_ble_eq_true rfl) ?_
  intro p e s m args below meth c0 A hF hr hlk hK hA hP hD hS ls hl
  have hx := hF.1
  have hb := hF.2.1
  have hown := hF.2.2.2.1
  have hts := hF.2.2.2.2
  have hf25 := hts (.fieldLink RX2 25 "SnoringDukesModel" "thrown" "I") (by decide +kernel)
  have hf36 := hts (.fieldLink RX2 36 "SnoringDukesModel" "compared" "I") (by decide +kernel)
  have hinX2 : ∀ wz ∈ wsX20, wz ∈ wsX2_fetch := by decide +kernel
  have hl : lv_has ls 6 [(0, .ref oz), (1, .int (nI kb))] := hl
  refine lv_aload_n hx hb dX2_fetch_0 rfl (lv_at hl 0 rfl) ?_
  refine lv_iload_n hx hb dX2_fetch_1 rfl (lv_at hl 1 rfl) ?_
  refine zK_vi (As := [.int (nI kb)]) (rest := []) hF (m_find l G cI oz loz liz siz shz saz nz camez cz gz louz Dz Sz shdz shsz thz hn hc9 hS1 hD1 (nI kb)) (cwV 1 hts gX2_fetch_X2_find rfl rfl rfl (by decide +kernel) ⟨Nat.le_of_ble_eq_true rfl, Nat.le_of_ble_eq_true rfl⟩) hK hP hD hS hA (ci := 2) (q0 := 0) rfl rfl rfl (isC := [0, 1, 2, 3, 4, 5]) (isR := []) (perm := [0, 1, 2, 3, 4, 5]) (wr := []) (wN := wm cI oz loz liz siz shz saz nz camez cz gz louz Dz Sz shdz shsz thz) ⟨rfl, by decide, rfl, rfl, (fun _ hz => by cases hz), rfl, by decide⟩ [0] rfl rfl hl.1 rfl (Nat.le_of_ble_eq_true rfl) dX2_fetch_2 ⟨Nat.le_refl _, Nat.le_refl _⟩ (fun H locs hP hD hS => ?_)
  refine zN (nI bz) (y := (fndI Dz nz (nI kb))) (fndI_at hf hb9) ?_
  refine lv_istore_n (lv' := [(2, .int (nI bz)), (0, .ref oz), (1, .int (nI kb))]) hx hb dX2_fetch_5 rfl hl (by decide) rfl (fun ls hl => ?_)
  refine lv_aload_n hx hb dX2_fetch_6 rfl (lv_at hl 1 rfl) ?_
  refine lv_iload_n hx hb dX2_fetch_7 rfl (lv_at hl 0 rfl) ?_
  refine lv_if_ge (tgt := 15) hx hb dX2_fetch_8 (by decide) (fun hc8 => ?_) (fun hc8 => ?_)
  · skip
    refine lv_iconst (v := nI 0) hx hb dX2_fetch_15 (by decide) ?_
    refine va_put (D := G) (ci := 2) (v := .int (nI 0)) (ty := .int) (C := RX2) (T := TX2) (N := 10) hx hb hts hinX2 tyX2 tyX2_ok nmX2 hown hK hP hD hS 0 rfl rfl 9 (by decide) hf25 (fun _ h9 => h9) rfl (by decide +kernel) rfl rfl (Nat.le_of_ble_eq_true rfl) dX2_fetch_16 (fun H locs hP hD hS => ?_)
    have hP : va_P G vwCl (wm cI oz loz liz siz shz saz nz camez cz gz louz Dz Sz shdz shsz (nI 0)) H := hP
    have hD : va_D A (wm cI oz loz liz siz shz saz nz camez cz gz louz Dz Sz shdz shsz (nI 0)) := hD
    refine lv_aload_n hx hb dX2_fetch_19 rfl (lv_at hl 1 rfl) ?_
    refine va_get (D := G) (ci := 2) (v := .int (nI 0)) (C := RX2) (T := TX2) (N := 10) hx hb hts hinX2 hown hK hP 0 rfl rfl 9 (by decide) hf25 (fun _ h9 => h9) rfl dX2_fetch_20 ?_
    refine lv_if_le (tgt := 28) hx hb dX2_fetch_23 (by decide) (fun hc23 => ?_) (fun hc23 => ?_)
    · skip
      have k23 : 0 = 0 := k0_le (by omega) hc23
      refine lv_aload_n hx hb dX2_fetch_28 rfl (lv_at hl 1 rfl) ?_
      refine va_get (D := G) (ci := 2) (v := .int cz) (C := RX2) (T := TX2) (N := 10) hx hb hts hinX2 hown hK hP 0 rfl rfl 2 (by decide) hf36 (fun _ h9 => h9) rfl dX2_fetch_29 ?_
      refine lv_istore_n (lv' := [(3, .int cz), (2, .int (nI bz)), (0, .ref oz), (1, .int (nI kb))]) hx hb dX2_fetch_32 rfl hl (by decide) rfl (fun ls hl => ?_)
      refine lv_aload_n hx hb dX2_fetch_33 rfl (lv_at hl 2 rfl) ?_
      refine lv_iload_n hx hb dX2_fetch_34 rfl (lv_at hl 1 rfl) ?_
      refine lv_iconst (v := nI 1) hx hb dX2_fetch_35 (by decide) ?_
      refine zK_vi (As := [.int (nI bz), .int (nI 1)]) (rest := []) hF (m_rises l G cI oz loz liz siz shz saz nz camez cz gz louz Dz Sz shdz shsz (nI 0) (by omega) (by omega) hS1 hD1 bz (by omega) true) (cwV 2 hts gX2_fetch_X2_rises rfl rfl rfl (by decide +kernel) ⟨Nat.le_of_ble_eq_true rfl, Nat.le_of_ble_eq_true rfl⟩) hK hP hD hS hA (ci := 2) (q0 := 0) rfl rfl rfl (isC := [0, 1, 2, 3, 4, 5]) (isR := []) (perm := [0, 1, 2, 3, 4, 5]) (wr := []) (wN := wm cI oz loz liz siz shz saz nz camez (wc ((riseF true 63 (vM louz Dz Sz nz cz gz) bz).1)) (wg ((riseF true 63 (vM louz Dz Sz nz cz gz) bz).1)) louz (wD ((riseF true 63 (vM louz Dz Sz nz cz gz) bz).1)) (wS ((riseF true 63 (vM louz Dz Sz nz cz gz) bz).1)) shdz shsz (nI 0)) ⟨rfl, by decide, rfl, rfl, (fun _ hz => by cases hz), rfl, by decide⟩ [0] rfl rfl hl.1 rfl (Nat.le_of_ble_eq_true rfl) dX2_fetch_36 ⟨Nat.le_refl _, Nat.le_refl _⟩ (fun H locs hP hD hS => ?_)
      obtain ⟨D8, S8, c8, g8, hu8, hz8, hy8⟩ := riseM_ex true (lou := louz) 63 (c := cz) (g := gz) (b := bz) hS1 hD1 (by omega)
      have hP : va_P G vwCl (wm cI oz loz liz siz shz saz nz camez c8 g8 louz D8 S8 shdz shsz (nI 0)) H := by have qz := hP; rw [hu8] at qz; exact qz
      have hD : va_D A (wm cI oz loz liz siz shz saz nz camez c8 g8 louz D8 S8 shdz shsz (nI 0)) := by have qz := hD; rw [hu8] at qz; exact qz
      refine lv_istore (lv' := [(4, .int (nI (riseF true 63 (vM louz Dz Sz nz cz gz) bz).2)), (3, .int cz), (2, .int (nI bz)), (0, .ref oz), (1, .int (nI kb))]) hx hb dX2_fetch_39 hl (by decide) rfl (fun ls hl => ?_)
      refine lv_aload_n hx hb dX2_fetch_41 rfl (lv_at hl 3 rfl) ?_
      refine zK_vi (As := []) (rest := []) hF (m_leaves l G cI oz loz liz siz shz saz nz camez c8 g8 louz D8 S8 shdz shsz (nI 0) (by omega) (by omega) hz8 hy8 (by omega)) (cwV 0 hts gX2_fetch_X2_leaves rfl rfl rfl (by decide +kernel) ⟨Nat.le_of_ble_eq_true rfl, Nat.le_of_ble_eq_true rfl⟩) hK hP hD hS hA (ci := 2) (q0 := 0) rfl rfl rfl (isC := [0, 1, 2, 3, 4, 5]) (isR := []) (perm := [0, 1, 2, 3, 4, 5]) (wr := []) (wN := wm cI oz loz liz siz shz saz (nz - 1) camez (wc (rmF (vM louz D8 S8 nz c8 g8))) (wg (rmF (vM louz D8 S8 nz c8 g8))) louz (wD (rmF (vM louz D8 S8 nz c8 g8))) (wS (rmF (vM louz D8 S8 nz c8 g8))) shdz shsz (nI 0)) ⟨rfl, by decide, rfl, rfl, (fun _ hz => by cases hz), rfl, by decide⟩ [0] rfl rfl hl.1 rfl (Nat.le_of_ble_eq_true rfl) dX2_fetch_42 ⟨Nat.le_refl _, Nat.le_refl _⟩ (fun H locs hP hD hS => ?_)
      obtain ⟨D9, S9, c9, g9, hu9, hz9, hy9⟩ := rmM_ex (lou := louz) (c := c8) (g := g8) hz8 hy8 (by omega) (by omega) (m := nz - 1) (by omega)
      have hP : va_P G vwCl (wm cI oz loz liz siz shz saz (nz - 1) camez c9 g9 louz D9 S9 shdz shsz (nI 0)) H := by have qz := hP; rw [hu9] at qz; exact qz
      have hD : va_D A (wm cI oz loz liz siz shz saz (nz - 1) camez c9 g9 louz D9 S9 shdz shsz (nI 0)) := by have qz := hD; rw [hu9] at qz; exact qz
      refine lv_istore (lv' := [(5, .int (D8 0)), (4, .int (nI (riseF true 63 (vM louz Dz Sz nz cz gz) bz).2)), (3, .int cz), (2, .int (nI bz)), (0, .ref oz), (1, .int (nI kb))]) hx hb dX2_fetch_45 hl (by decide) rfl (fun ls hl => ?_)
      refine lv_aload_n hx hb dX2_fetch_47 rfl (lv_at hl 4 rfl) ?_
      refine va_get (D := G) (ci := 2) (v := .int c9) (C := RX2) (T := TX2) (N := 10) hx hb hts hinX2 hown hK hP 0 rfl rfl 2 (by decide) hf36 (fun _ h9 => h9) rfl dX2_fetch_48 ?_
      refine lv_iload_n hx hb dX2_fetch_51 rfl (lv_at hl 2 rfl) ?_
      refine lv_isub hx hb dX2_fetch_52 ?_
      rw [hu8, hu9]
      exact zE_i hF hr hlk hK hP hD hS dX2_fetch_53
    · exact absurd hc23 (by decide)
  · skip
    exact absurd hc8 (fun zz => zz (nI_pos' (by omega)))
set_option maxHeartbeats 4000000 in
set_option maxRecDepth 100000 in
theorem m_coach_1 (l : Launch) (G : va_G) (cI : ClassId) (oz loz liz siz shz saz : Nat) (nz camez : Nat) (cz gz : Int32) (louz Dz Sz shdz shsz : Fn) (thz : Int32) (hn : nz ≤ 63) (hc9 : camez ≤ 500) (hS1 : okS Sz) (hD1 : okD nz Dz) (zz xz yz : Int32) (hbad : (isO zz (nI 1) (nI 20) && isO xz (nI 0) (nI 999) && isO yz (nI 0) (nI 999)) = false) : zC_i l yX2_coach wsX2_coach ({ frames := 2, cells := 0, slots := 0, locals := 43 }) G [(cI, .int)] (wm cI oz loz liz siz shz saz nz camez cz gz louz Dz Sz shdz shsz thz) (wm cI oz loz liz siz shz saz nz camez cz gz louz Dz Sz shdz shsz (nI 1)) [.ref oz, .int zz, .int xz, .int yz] (nI 0) := by
  refine zB_i (cc := cX2_coach) (maxL := 7) (ret := (some .int)) (by decide) rfl (Nat.le_of_ble_eq_true rfl) ?_
  intro p e s m args below meth c0 A hF hr hlk hK hA hP hD hS ls hl
  have hx := hF.1
  have hb := hF.2.1
  have hown := hF.2.2.2.1
  have hts := hF.2.2.2.2
  have hf29 := hts (.fieldLink RX2 29 "SnoringDukesModel" "many" "I") (by decide +kernel)
  have hf49 := hts (.fieldLink RX2 49 "SnoringDukesModel" "came" "I") (by decide +kernel)
  have hf25 := hts (.fieldLink RX2 25 "SnoringDukesModel" "thrown" "I") (by decide +kernel)
  have hf16 := hts (.fieldLink RX2 16 "SnoringDukesModel" "side" "[I") (by decide +kernel)
  have hinX2 : ∀ wz ∈ wsX20, wz ∈ wsX2_coach := by decide +kernel
  have hl : lv_has ls 7 [(0, .ref oz), (1, .int zz), (2, .int xz), (3, .int yz)] := hl
  refine lv_iload_n hx hb dX2_coach_0 rfl (lv_at hl 1 rfl) ?_
  refine lv_iconst (v := nI 1) hx hb dX2_coach_1 (by decide) ?_
  refine lv_bipush (v := nI 20) hx hb dX2_coach_2 (by decide) ?_
  refine zK_si (av := [.int zz, .int (nI 1), .int (nI 20)]) (rest := []) hF (m_isOf l G zz (nI 1) (nI 20)) (va_cwS 3 hts gX2_coach_X2_isOf rfl rfl rfl (by decide +kernel) ⟨Nat.le_of_ble_eq_true rfl, Nat.le_of_ble_eq_true rfl⟩) hK hP hD hS hA (isC := []) (isR := [0, 1, 2, 3, 4, 5]) (perm := [0, 1, 2, 3, 4, 5]) (wr := wm cI oz loz liz siz shz saz nz camez cz gz louz Dz Sz shdz shsz thz) (wN := wm cI oz loz liz siz shz saz nz camez cz gz louz Dz Sz shdz shsz thz) ⟨rfl, by decide, rfl, by decide, (fun _ _ hz => by cases hz), rfl, by decide⟩ [] rfl rfl hl.1 rfl (Nat.le_of_ble_eq_true rfl) dX2_coach_4 ⟨Nat.le_refl _, Nat.le_refl _⟩ (fun H locs hP hD hS => ?_)
  refine lv_if_eq (tgt := 36) hx hb dX2_coach_7 (by decide) (fun hc7 => ?_) (fun hc7 => ?_)
  · skip
    have k7 : (isO zz (nI 1) (nI 20)) = false := bI_e0.mp hc7
    refine lv_iconst (v := nI 0) hx hb dX2_coach_36 (by decide) ?_
    refine lv_istore (lv' := [(4, .int (nI 0)), (0, .ref oz), (1, .int zz), (2, .int xz), (3, .int yz)]) hx hb dX2_coach_37 hl (by decide) rfl (fun ls hl => ?_)
    refine lv_aload_n hx hb dX2_coach_39 rfl (lv_at hl 1 rfl) ?_
    refine lv_iload hx hb dX2_coach_40 (lv_at hl 0 rfl) ?_
    refine lv_if_ne (tgt := 49) hx hb dX2_coach_42 (by decide) (fun hc42 => ?_) (fun hc42 => ?_)
    · exact absurd hc42 (by decide)
    · skip
      have k42 : 0 = 0 := k0_eq (by omega) hc42
      refine lv_iconst (v := nI 1) hx hb dX2_coach_45 (by decide) ?_
      refine lv_goto (tgt := 77) hx hb dX2_coach_46 (by decide) ?_
      refine va_put (D := G) (ci := 2) (v := .int (nI 1)) (ty := .int) (C := RX2) (T := TX2) (N := 10) hx hb hts hinX2 tyX2 tyX2_ok nmX2 hown hK hP hD hS 0 rfl rfl 9 (by decide) hf25 (fun _ h9 => h9) rfl (by decide +kernel) rfl rfl (Nat.le_of_ble_eq_true rfl) dX2_coach_77 (fun H locs hP hD hS => ?_)
      have hP : va_P G vwCl (wm cI oz loz liz siz shz saz nz camez cz gz louz Dz Sz shdz shsz (nI 1)) H := hP
      have hD : va_D A (wm cI oz loz liz siz shz saz nz camez cz gz louz Dz Sz shdz shsz (nI 1)) := hD
      refine lv_aload_n hx hb dX2_coach_80 rfl (lv_at hl 1 rfl) ?_
      refine va_get (D := G) (ci := 2) (v := .int (nI 1)) (C := RX2) (T := TX2) (N := 10) hx hb hts hinX2 hown hK hP 0 rfl rfl 9 (by decide) hf25 (fun _ h9 => h9) rfl dX2_coach_81 ?_
      refine lv_if_le (tgt := 89) hx hb dX2_coach_84 (by decide) (fun hc84 => ?_) (fun hc84 => ?_)
      · exact absurd hc84 (by decide)
      · skip
        have k84 : 0 < 1 := k0_nle (by omega) hc84
        refine lv_iconst (v := nI 0) hx hb dX2_coach_87 (by decide) ?_
        exact zE_i hF hr hlk hK hP hD hS dX2_coach_88
  · skip
    have k7 : (isO zz (nI 1) (nI 20)) = true := bI_ne.mp hc7
    refine lv_iload_n hx hb dX2_coach_10 rfl (lv_at hl 2 rfl) ?_
    refine lv_iconst (v := nI 0) hx hb dX2_coach_11 (by decide) ?_
    refine lv_sipush (v := nI 999) hx hb dX2_coach_12 (by decide) ?_
    refine zK_si (av := [.int xz, .int (nI 0), .int (nI 999)]) (rest := []) hF (m_isOf l G xz (nI 0) (nI 999)) (va_cwS 3 hts gX2_coach_X2_isOf rfl rfl rfl (by decide +kernel) ⟨Nat.le_of_ble_eq_true rfl, Nat.le_of_ble_eq_true rfl⟩) hK hP hD hS hA (isC := []) (isR := [0, 1, 2, 3, 4, 5]) (perm := [0, 1, 2, 3, 4, 5]) (wr := wm cI oz loz liz siz shz saz nz camez cz gz louz Dz Sz shdz shsz thz) (wN := wm cI oz loz liz siz shz saz nz camez cz gz louz Dz Sz shdz shsz thz) ⟨rfl, by decide, rfl, by decide, (fun _ _ hz => by cases hz), rfl, by decide⟩ [] rfl rfl hl.1 rfl (Nat.le_of_ble_eq_true rfl) dX2_coach_15 ⟨Nat.le_refl _, Nat.le_refl _⟩ (fun H locs hP hD hS => ?_)
    refine lv_if_eq (tgt := 36) hx hb dX2_coach_18 (by decide) (fun hc18 => ?_) (fun hc18 => ?_)
    · skip
      have k18 : (isO xz (nI 0) (nI 999)) = false := bI_e0.mp hc18
      refine lv_iconst (v := nI 0) hx hb dX2_coach_36 (by decide) ?_
      refine lv_istore (lv' := [(4, .int (nI 0)), (0, .ref oz), (1, .int zz), (2, .int xz), (3, .int yz)]) hx hb dX2_coach_37 hl (by decide) rfl (fun ls hl => ?_)
      refine lv_aload_n hx hb dX2_coach_39 rfl (lv_at hl 1 rfl) ?_
      refine lv_iload hx hb dX2_coach_40 (lv_at hl 0 rfl) ?_
      refine lv_if_ne (tgt := 49) hx hb dX2_coach_42 (by decide) (fun hc42 => ?_) (fun hc42 => ?_)
      · exact absurd hc42 (by decide)
      · skip
        have k42 : 0 = 0 := k0_eq (by omega) hc42
        refine lv_iconst (v := nI 1) hx hb dX2_coach_45 (by decide) ?_
        refine lv_goto (tgt := 77) hx hb dX2_coach_46 (by decide) ?_
        refine va_put (D := G) (ci := 2) (v := .int (nI 1)) (ty := .int) (C := RX2) (T := TX2) (N := 10) hx hb hts hinX2 tyX2 tyX2_ok nmX2 hown hK hP hD hS 0 rfl rfl 9 (by decide) hf25 (fun _ h9 => h9) rfl (by decide +kernel) rfl rfl (Nat.le_of_ble_eq_true rfl) dX2_coach_77 (fun H locs hP hD hS => ?_)
        have hP : va_P G vwCl (wm cI oz loz liz siz shz saz nz camez cz gz louz Dz Sz shdz shsz (nI 1)) H := hP
        have hD : va_D A (wm cI oz loz liz siz shz saz nz camez cz gz louz Dz Sz shdz shsz (nI 1)) := hD
        refine lv_aload_n hx hb dX2_coach_80 rfl (lv_at hl 1 rfl) ?_
        refine va_get (D := G) (ci := 2) (v := .int (nI 1)) (C := RX2) (T := TX2) (N := 10) hx hb hts hinX2 hown hK hP 0 rfl rfl 9 (by decide) hf25 (fun _ h9 => h9) rfl dX2_coach_81 ?_
        refine lv_if_le (tgt := 89) hx hb dX2_coach_84 (by decide) (fun hc84 => ?_) (fun hc84 => ?_)
        · exact absurd hc84 (by decide)
        · skip
          have k84 : 0 < 1 := k0_nle (by omega) hc84
          refine lv_iconst (v := nI 0) hx hb dX2_coach_87 (by decide) ?_
          exact zE_i hF hr hlk hK hP hD hS dX2_coach_88
    · skip
      have k18 : (isO xz (nI 0) (nI 999)) = true := bI_ne.mp hc18
      refine lv_iload_n hx hb dX2_coach_21 rfl (lv_at hl 3 rfl) ?_
      refine lv_iconst (v := nI 0) hx hb dX2_coach_22 (by decide) ?_
      refine lv_sipush (v := nI 999) hx hb dX2_coach_23 (by decide) ?_
      refine zK_si (av := [.int yz, .int (nI 0), .int (nI 999)]) (rest := []) hF (m_isOf l G yz (nI 0) (nI 999)) (va_cwS 3 hts gX2_coach_X2_isOf rfl rfl rfl (by decide +kernel) ⟨Nat.le_of_ble_eq_true rfl, Nat.le_of_ble_eq_true rfl⟩) hK hP hD hS hA (isC := []) (isR := [0, 1, 2, 3, 4, 5]) (perm := [0, 1, 2, 3, 4, 5]) (wr := wm cI oz loz liz siz shz saz nz camez cz gz louz Dz Sz shdz shsz thz) (wN := wm cI oz loz liz siz shz saz nz camez cz gz louz Dz Sz shdz shsz thz) ⟨rfl, by decide, rfl, by decide, (fun _ _ hz => by cases hz), rfl, by decide⟩ [] rfl rfl hl.1 rfl (Nat.le_of_ble_eq_true rfl) dX2_coach_26 ⟨Nat.le_refl _, Nat.le_refl _⟩ (fun H locs hP hD hS => ?_)
      refine lv_if_eq (tgt := 36) hx hb dX2_coach_29 (by decide) (fun hc29 => ?_) (fun hc29 => ?_)
      · skip
        have k29 : (isO yz (nI 0) (nI 999)) = false := bI_e0.mp hc29
        refine lv_iconst (v := nI 0) hx hb dX2_coach_36 (by decide) ?_
        refine lv_istore (lv' := [(4, .int (nI 0)), (0, .ref oz), (1, .int zz), (2, .int xz), (3, .int yz)]) hx hb dX2_coach_37 hl (by decide) rfl (fun ls hl => ?_)
        refine lv_aload_n hx hb dX2_coach_39 rfl (lv_at hl 1 rfl) ?_
        refine lv_iload hx hb dX2_coach_40 (lv_at hl 0 rfl) ?_
        refine lv_if_ne (tgt := 49) hx hb dX2_coach_42 (by decide) (fun hc42 => ?_) (fun hc42 => ?_)
        · exact absurd hc42 (by decide)
        · skip
          have k42 : 0 = 0 := k0_eq (by omega) hc42
          refine lv_iconst (v := nI 1) hx hb dX2_coach_45 (by decide) ?_
          refine lv_goto (tgt := 77) hx hb dX2_coach_46 (by decide) ?_
          refine va_put (D := G) (ci := 2) (v := .int (nI 1)) (ty := .int) (C := RX2) (T := TX2) (N := 10) hx hb hts hinX2 tyX2 tyX2_ok nmX2 hown hK hP hD hS 0 rfl rfl 9 (by decide) hf25 (fun _ h9 => h9) rfl (by decide +kernel) rfl rfl (Nat.le_of_ble_eq_true rfl) dX2_coach_77 (fun H locs hP hD hS => ?_)
          have hP : va_P G vwCl (wm cI oz loz liz siz shz saz nz camez cz gz louz Dz Sz shdz shsz (nI 1)) H := hP
          have hD : va_D A (wm cI oz loz liz siz shz saz nz camez cz gz louz Dz Sz shdz shsz (nI 1)) := hD
          refine lv_aload_n hx hb dX2_coach_80 rfl (lv_at hl 1 rfl) ?_
          refine va_get (D := G) (ci := 2) (v := .int (nI 1)) (C := RX2) (T := TX2) (N := 10) hx hb hts hinX2 hown hK hP 0 rfl rfl 9 (by decide) hf25 (fun _ h9 => h9) rfl dX2_coach_81 ?_
          refine lv_if_le (tgt := 89) hx hb dX2_coach_84 (by decide) (fun hc84 => ?_) (fun hc84 => ?_)
          · exact absurd hc84 (by decide)
          · skip
            have k84 : 0 < 1 := k0_nle (by omega) hc84
            refine lv_iconst (v := nI 0) hx hb dX2_coach_87 (by decide) ?_
            exact zE_i hF hr hlk hK hP hD hS dX2_coach_88
      · skip
        have k29 : (isO yz (nI 0) (nI 999)) = true := bI_ne.mp hc29
        rw [k7, k18, k29] at hbad
        exact absurd hbad (by decide)
set_option maxHeartbeats 4000000 in
set_option maxRecDepth 100000 in
theorem m_coach_2 (l : Launch) (G : va_G) (cI : ClassId) (oz loz liz siz shz saz : Nat) (nz camez : Nat) (cz gz : Int32) (louz Dz Sz shdz shsz : Fn) (thz : Int32) (hn : nz ≤ 63) (hc9 : camez ≤ 500) (hS1 : okS Sz) (hD1 : okD nz Dz) (kk : Nat) (xz yz : Int32) (ho1 : isO (nI kk) (nI 1) (nI 20) = true) (ho2 : isO xz (nI 0) (nI 999) = true) (ho3 : isO yz (nI 0) (nI 999) = true) (hk9 : kk ≤ 20) (hfull : 63 < nz + kk ∨ 500 < camez + kk) : zC_i l yX2_coach wsX2_coach ({ frames := 2, cells := 0, slots := 0, locals := 43 }) G [(cI, .int)] (wm cI oz loz liz siz shz saz nz camez cz gz louz Dz Sz shdz shsz thz) (wm cI oz loz liz siz shz saz nz camez cz gz louz Dz Sz shdz shsz (nI 2)) [.ref oz, .int (nI kk), .int xz, .int yz] (nI 0) := by
  refine zB_i (cc := cX2_coach) (maxL := 7) (ret := (some .int)) (by decide) rfl (Nat.le_of_ble_eq_true rfl) ?_
  intro p e s m args below meth c0 A hF hr hlk hK hA hP hD hS ls hl
  have hx := hF.1
  have hb := hF.2.1
  have hown := hF.2.2.2.1
  have hts := hF.2.2.2.2
  have hf29 := hts (.fieldLink RX2 29 "SnoringDukesModel" "many" "I") (by decide +kernel)
  have hf49 := hts (.fieldLink RX2 49 "SnoringDukesModel" "came" "I") (by decide +kernel)
  have hf25 := hts (.fieldLink RX2 25 "SnoringDukesModel" "thrown" "I") (by decide +kernel)
  have hf16 := hts (.fieldLink RX2 16 "SnoringDukesModel" "side" "[I") (by decide +kernel)
  have hinX2 : ∀ wz ∈ wsX20, wz ∈ wsX2_coach := by decide +kernel
  have hl : lv_has ls 7 [(0, .ref oz), (1, .int (nI kk)), (2, .int xz), (3, .int yz)] := hl
  refine lv_iload_n hx hb dX2_coach_0 rfl (lv_at hl 1 rfl) ?_
  refine lv_iconst (v := nI 1) hx hb dX2_coach_1 (by decide) ?_
  refine lv_bipush (v := nI 20) hx hb dX2_coach_2 (by decide) ?_
  refine zK_si (av := [.int (nI kk), .int (nI 1), .int (nI 20)]) (rest := []) hF (m_isOf l G (nI kk) (nI 1) (nI 20)) (va_cwS 3 hts gX2_coach_X2_isOf rfl rfl rfl (by decide +kernel) ⟨Nat.le_of_ble_eq_true rfl, Nat.le_of_ble_eq_true rfl⟩) hK hP hD hS hA (isC := []) (isR := [0, 1, 2, 3, 4, 5]) (perm := [0, 1, 2, 3, 4, 5]) (wr := wm cI oz loz liz siz shz saz nz camez cz gz louz Dz Sz shdz shsz thz) (wN := wm cI oz loz liz siz shz saz nz camez cz gz louz Dz Sz shdz shsz thz) ⟨rfl, by decide, rfl, by decide, (fun _ _ hz => by cases hz), rfl, by decide⟩ [] rfl rfl hl.1 rfl (Nat.le_of_ble_eq_true rfl) dX2_coach_4 ⟨Nat.le_refl _, Nat.le_refl _⟩ (fun H locs hP hD hS => ?_)
  refine zN (nI 1) (y := (bI (isO (nI kk) (nI 1) (nI 20)))) (by rw [ho1]; rfl) ?_
  refine lv_if_eq (tgt := 36) hx hb dX2_coach_7 (by decide) (fun hc7 => ?_) (fun hc7 => ?_)
  · exact absurd hc7 (by decide)
  · skip
    have k7 : 0 < 1 := k0_ne (by omega) hc7
    refine lv_iload_n hx hb dX2_coach_10 rfl (lv_at hl 2 rfl) ?_
    refine lv_iconst (v := nI 0) hx hb dX2_coach_11 (by decide) ?_
    refine lv_sipush (v := nI 999) hx hb dX2_coach_12 (by decide) ?_
    refine zK_si (av := [.int xz, .int (nI 0), .int (nI 999)]) (rest := []) hF (m_isOf l G xz (nI 0) (nI 999)) (va_cwS 3 hts gX2_coach_X2_isOf rfl rfl rfl (by decide +kernel) ⟨Nat.le_of_ble_eq_true rfl, Nat.le_of_ble_eq_true rfl⟩) hK hP hD hS hA (isC := []) (isR := [0, 1, 2, 3, 4, 5]) (perm := [0, 1, 2, 3, 4, 5]) (wr := wm cI oz loz liz siz shz saz nz camez cz gz louz Dz Sz shdz shsz thz) (wN := wm cI oz loz liz siz shz saz nz camez cz gz louz Dz Sz shdz shsz thz) ⟨rfl, by decide, rfl, by decide, (fun _ _ hz => by cases hz), rfl, by decide⟩ [] rfl rfl hl.1 rfl (Nat.le_of_ble_eq_true rfl) dX2_coach_15 ⟨Nat.le_refl _, Nat.le_refl _⟩ (fun H locs hP hD hS => ?_)
    refine zN (nI 1) (y := (bI (isO xz (nI 0) (nI 999)))) (by rw [ho2]; rfl) ?_
    refine lv_if_eq (tgt := 36) hx hb dX2_coach_18 (by decide) (fun hc18 => ?_) (fun hc18 => ?_)
    · exact absurd hc18 (by decide)
    · skip
      have k18 : 0 < 1 := k0_ne (by omega) hc18
      refine lv_iload_n hx hb dX2_coach_21 rfl (lv_at hl 3 rfl) ?_
      refine lv_iconst (v := nI 0) hx hb dX2_coach_22 (by decide) ?_
      refine lv_sipush (v := nI 999) hx hb dX2_coach_23 (by decide) ?_
      refine zK_si (av := [.int yz, .int (nI 0), .int (nI 999)]) (rest := []) hF (m_isOf l G yz (nI 0) (nI 999)) (va_cwS 3 hts gX2_coach_X2_isOf rfl rfl rfl (by decide +kernel) ⟨Nat.le_of_ble_eq_true rfl, Nat.le_of_ble_eq_true rfl⟩) hK hP hD hS hA (isC := []) (isR := [0, 1, 2, 3, 4, 5]) (perm := [0, 1, 2, 3, 4, 5]) (wr := wm cI oz loz liz siz shz saz nz camez cz gz louz Dz Sz shdz shsz thz) (wN := wm cI oz loz liz siz shz saz nz camez cz gz louz Dz Sz shdz shsz thz) ⟨rfl, by decide, rfl, by decide, (fun _ _ hz => by cases hz), rfl, by decide⟩ [] rfl rfl hl.1 rfl (Nat.le_of_ble_eq_true rfl) dX2_coach_26 ⟨Nat.le_refl _, Nat.le_refl _⟩ (fun H locs hP hD hS => ?_)
      refine zN (nI 1) (y := (bI (isO yz (nI 0) (nI 999)))) (by rw [ho3]; rfl) ?_
      refine lv_if_eq (tgt := 36) hx hb dX2_coach_29 (by decide) (fun hc29 => ?_) (fun hc29 => ?_)
      · exact absurd hc29 (by decide)
      · skip
        have k29 : 0 < 1 := k0_ne (by omega) hc29
        refine lv_iconst (v := nI 1) hx hb dX2_coach_32 (by decide) ?_
        refine lv_goto (tgt := 37) hx hb dX2_coach_33 (by decide) ?_
        refine lv_istore (lv' := [(4, .int (nI 1)), (0, .ref oz), (1, .int (nI kk)), (2, .int xz), (3, .int yz)]) hx hb dX2_coach_37 hl (by decide) rfl (fun ls hl => ?_)
        refine lv_aload_n hx hb dX2_coach_39 rfl (lv_at hl 1 rfl) ?_
        refine lv_iload hx hb dX2_coach_40 (lv_at hl 0 rfl) ?_
        refine lv_if_ne (tgt := 49) hx hb dX2_coach_42 (by decide) (fun hc42 => ?_) (fun hc42 => ?_)
        · skip
          have k42 : 0 < 1 := k0_ne (by omega) hc42
          refine lv_aload_n hx hb dX2_coach_49 rfl (lv_at hl 1 rfl) ?_
          refine va_get (D := G) (ci := 2) (v := .int (nI nz)) (C := RX2) (T := TX2) (N := 10) hx hb hts hinX2 hown hK hP 0 rfl rfl 0 (by decide) hf29 (fun _ h9 => h9) rfl dX2_coach_50 ?_
          refine lv_iload_n hx hb dX2_coach_53 rfl (lv_at hl 2 rfl) ?_
          refine lv_iadd hx hb dX2_coach_54 ?_
          refine zN (nI (nz + kk)) (y := ((nI nz) + (nI kk))) (nI_add _ _) ?_
          refine lv_bipush (v := nI 63) hx hb dX2_coach_55 (by decide) ?_
          refine lv_icmp_gt (tgt := 72) hx hb dX2_coach_57 (by decide) (fun hc57 => ?_) (fun hc57 => ?_)
          · skip
            have k57 : 63 < (nz + kk) := k_lt (by omega) (by omega) hc57
            refine lv_iconst (v := nI 2) hx hb dX2_coach_72 (by decide) ?_
            refine lv_goto (tgt := 77) hx hb dX2_coach_73 (by decide) ?_
            refine va_put (D := G) (ci := 2) (v := .int (nI 2)) (ty := .int) (C := RX2) (T := TX2) (N := 10) hx hb hts hinX2 tyX2 tyX2_ok nmX2 hown hK hP hD hS 0 rfl rfl 9 (by decide) hf25 (fun _ h9 => h9) rfl (by decide +kernel) rfl rfl (Nat.le_of_ble_eq_true rfl) dX2_coach_77 (fun H locs hP hD hS => ?_)
            have hP : va_P G vwCl (wm cI oz loz liz siz shz saz nz camez cz gz louz Dz Sz shdz shsz (nI 2)) H := hP
            have hD : va_D A (wm cI oz loz liz siz shz saz nz camez cz gz louz Dz Sz shdz shsz (nI 2)) := hD
            refine lv_aload_n hx hb dX2_coach_80 rfl (lv_at hl 1 rfl) ?_
            refine va_get (D := G) (ci := 2) (v := .int (nI 2)) (C := RX2) (T := TX2) (N := 10) hx hb hts hinX2 hown hK hP 0 rfl rfl 9 (by decide) hf25 (fun _ h9 => h9) rfl dX2_coach_81 ?_
            refine lv_if_le (tgt := 89) hx hb dX2_coach_84 (by decide) (fun hc84 => ?_) (fun hc84 => ?_)
            · exact absurd hc84 (by decide)
            · skip
              have k84 : 0 < 2 := k0_nle (by omega) hc84
              refine lv_iconst (v := nI 0) hx hb dX2_coach_87 (by decide) ?_
              exact zE_i hF hr hlk hK hP hD hS dX2_coach_88
          · skip
            have k57 : (nz + kk) ≤ 63 := k_nlt (by omega) (by omega) hc57
            refine lv_aload_n hx hb dX2_coach_60 rfl (lv_at hl 1 rfl) ?_
            refine va_get (D := G) (ci := 2) (v := .int (nI camez)) (C := RX2) (T := TX2) (N := 10) hx hb hts hinX2 hown hK hP 0 rfl rfl 1 (by decide) hf49 (fun _ h9 => h9) rfl dX2_coach_61 ?_
            refine lv_iload_n hx hb dX2_coach_64 rfl (lv_at hl 2 rfl) ?_
            refine lv_iadd hx hb dX2_coach_65 ?_
            refine zN (nI (camez + kk)) (y := ((nI camez) + (nI kk))) (nI_add _ _) ?_
            refine lv_sipush (v := nI 500) hx hb dX2_coach_66 (by decide) ?_
            refine lv_icmp_le (tgt := 76) hx hb dX2_coach_69 (by decide) (fun hc69 => ?_) (fun hc69 => ?_)
            · skip
              have k69 : (camez + kk) ≤ 500 := k_le (by omega) (by omega) hc69
              exact absurd hfull (by omega)
            · skip
              have k69 : 500 < (camez + kk) := k_nle (by omega) (by omega) hc69
              refine lv_iconst (v := nI 2) hx hb dX2_coach_72 (by decide) ?_
              refine lv_goto (tgt := 77) hx hb dX2_coach_73 (by decide) ?_
              refine va_put (D := G) (ci := 2) (v := .int (nI 2)) (ty := .int) (C := RX2) (T := TX2) (N := 10) hx hb hts hinX2 tyX2 tyX2_ok nmX2 hown hK hP hD hS 0 rfl rfl 9 (by decide) hf25 (fun _ h9 => h9) rfl (by decide +kernel) rfl rfl (Nat.le_of_ble_eq_true rfl) dX2_coach_77 (fun H locs hP hD hS => ?_)
              have hP : va_P G vwCl (wm cI oz loz liz siz shz saz nz camez cz gz louz Dz Sz shdz shsz (nI 2)) H := hP
              have hD : va_D A (wm cI oz loz liz siz shz saz nz camez cz gz louz Dz Sz shdz shsz (nI 2)) := hD
              refine lv_aload_n hx hb dX2_coach_80 rfl (lv_at hl 1 rfl) ?_
              refine va_get (D := G) (ci := 2) (v := .int (nI 2)) (C := RX2) (T := TX2) (N := 10) hx hb hts hinX2 hown hK hP 0 rfl rfl 9 (by decide) hf25 (fun _ h9 => h9) rfl dX2_coach_81 ?_
              refine lv_if_le (tgt := 89) hx hb dX2_coach_84 (by decide) (fun hc84 => ?_) (fun hc84 => ?_)
              · exact absurd hc84 (by decide)
              · skip
                have k84 : 0 < 2 := k0_nle (by omega) hc84
                refine lv_iconst (v := nI 0) hx hb dX2_coach_87 (by decide) ?_
                exact zE_i hF hr hlk hK hP hD hS dX2_coach_88
        · exact absurd hc42 (by decide)
set_option maxHeartbeats 4000000 in
set_option maxRecDepth 100000 in
theorem m_coach_0 (l : Launch) (G : va_G) (cI : ClassId) (oz loz liz siz shz saz : Nat) (nz camez : Nat) (cz gz : Int32) (louz Dz Sz shdz shsz : Fn) (thz : Int32) (hn : nz ≤ 63) (hc9 : camez ≤ 500) (hS1 : okS Sz) (hD1 : okD nz Dz) (kk : Nat) (xz yz : Int32) (ho1 : isO (nI kk) (nI 1) (nI 20) = true) (ho2 : isO xz (nI 0) (nI 999) = true) (ho3 : isO yz (nI 0) (nI 999) = true) (hk9 : kk ≤ 20) (hk1 : 1 ≤ kk) (hn1 : nz + kk ≤ 63) (hc1 : camez + kk ≤ 500) : zC_i l yX2_coach wsX2_coach ({ frames := 2, cells := 0, slots := 0, locals := 43 }) G [(cI, .int)] (wm cI oz loz liz siz shz saz nz camez cz gz louz Dz Sz shdz shsz thz) (wm cI oz loz liz siz shz saz (nz + kk) (camez + kk) (wc (allF (nz + kk - 1) (vM (lmL louz camez xz yz kk) (lmD Dz nz camez kk) (zfF (nz + kk) (lmS Sz nz kk)) (nz + kk) cz gz))) (wg (allF (nz + kk - 1) (vM (lmL louz camez xz yz kk) (lmD Dz nz camez kk) (zfF (nz + kk) (lmS Sz nz kk)) (nz + kk) cz gz))) (lmL louz camez xz yz kk) (wD (allF (nz + kk - 1) (vM (lmL louz camez xz yz kk) (lmD Dz nz camez kk) (zfF (nz + kk) (lmS Sz nz kk)) (nz + kk) cz gz))) (wS (allF (nz + kk - 1) (vM (lmL louz camez xz yz kk) (lmD Dz nz camez kk) (zfF (nz + kk) (lmS Sz nz kk)) (nz + kk) cz gz))) shdz shsz (nI 0)) [.ref oz, .int (nI kk), .int xz, .int yz] (nI (nz + kk - 1)) := by
  refine zB_i (cc := cX2_coach) (maxL := 7) (ret := (some .int)) (by decide) rfl (Nat.le_of_ble_eq_true rfl) ?_
  intro p e s m args below meth c0 A hF hr hlk hK hA hP hD hS ls hl
  have hx := hF.1
  have hb := hF.2.1
  have hown := hF.2.2.2.1
  have hts := hF.2.2.2.2
  have hf29 := hts (.fieldLink RX2 29 "SnoringDukesModel" "many" "I") (by decide +kernel)
  have hf49 := hts (.fieldLink RX2 49 "SnoringDukesModel" "came" "I") (by decide +kernel)
  have hf25 := hts (.fieldLink RX2 25 "SnoringDukesModel" "thrown" "I") (by decide +kernel)
  have hf16 := hts (.fieldLink RX2 16 "SnoringDukesModel" "side" "[I") (by decide +kernel)
  have hinX2 : ∀ wz ∈ wsX20, wz ∈ wsX2_coach := by decide +kernel
  have hl : lv_has ls 7 [(0, .ref oz), (1, .int (nI kk)), (2, .int xz), (3, .int yz)] := hl
  refine lv_iload_n hx hb dX2_coach_0 rfl (lv_at hl 1 rfl) ?_
  refine lv_iconst (v := nI 1) hx hb dX2_coach_1 (by decide) ?_
  refine lv_bipush (v := nI 20) hx hb dX2_coach_2 (by decide) ?_
  refine zK_si (av := [.int (nI kk), .int (nI 1), .int (nI 20)]) (rest := []) hF (m_isOf l G (nI kk) (nI 1) (nI 20)) (va_cwS 3 hts gX2_coach_X2_isOf rfl rfl rfl (by decide +kernel) ⟨Nat.le_of_ble_eq_true rfl, Nat.le_of_ble_eq_true rfl⟩) hK hP hD hS hA (isC := []) (isR := [0, 1, 2, 3, 4, 5]) (perm := [0, 1, 2, 3, 4, 5]) (wr := wm cI oz loz liz siz shz saz nz camez cz gz louz Dz Sz shdz shsz thz) (wN := wm cI oz loz liz siz shz saz nz camez cz gz louz Dz Sz shdz shsz thz) ⟨rfl, by decide, rfl, by decide, (fun _ _ hz => by cases hz), rfl, by decide⟩ [] rfl rfl hl.1 rfl (Nat.le_of_ble_eq_true rfl) dX2_coach_4 ⟨Nat.le_refl _, Nat.le_refl _⟩ (fun H locs hP hD hS => ?_)
  refine zN (nI 1) (y := (bI (isO (nI kk) (nI 1) (nI 20)))) (by rw [ho1]; rfl) ?_
  refine lv_if_eq (tgt := 36) hx hb dX2_coach_7 (by decide) (fun hc7 => ?_) (fun hc7 => ?_)
  · exact absurd hc7 (by decide)
  · skip
    have k7 : 0 < 1 := k0_ne (by omega) hc7
    refine lv_iload_n hx hb dX2_coach_10 rfl (lv_at hl 2 rfl) ?_
    refine lv_iconst (v := nI 0) hx hb dX2_coach_11 (by decide) ?_
    refine lv_sipush (v := nI 999) hx hb dX2_coach_12 (by decide) ?_
    refine zK_si (av := [.int xz, .int (nI 0), .int (nI 999)]) (rest := []) hF (m_isOf l G xz (nI 0) (nI 999)) (va_cwS 3 hts gX2_coach_X2_isOf rfl rfl rfl (by decide +kernel) ⟨Nat.le_of_ble_eq_true rfl, Nat.le_of_ble_eq_true rfl⟩) hK hP hD hS hA (isC := []) (isR := [0, 1, 2, 3, 4, 5]) (perm := [0, 1, 2, 3, 4, 5]) (wr := wm cI oz loz liz siz shz saz nz camez cz gz louz Dz Sz shdz shsz thz) (wN := wm cI oz loz liz siz shz saz nz camez cz gz louz Dz Sz shdz shsz thz) ⟨rfl, by decide, rfl, by decide, (fun _ _ hz => by cases hz), rfl, by decide⟩ [] rfl rfl hl.1 rfl (Nat.le_of_ble_eq_true rfl) dX2_coach_15 ⟨Nat.le_refl _, Nat.le_refl _⟩ (fun H locs hP hD hS => ?_)
    refine zN (nI 1) (y := (bI (isO xz (nI 0) (nI 999)))) (by rw [ho2]; rfl) ?_
    refine lv_if_eq (tgt := 36) hx hb dX2_coach_18 (by decide) (fun hc18 => ?_) (fun hc18 => ?_)
    · exact absurd hc18 (by decide)
    · skip
      have k18 : 0 < 1 := k0_ne (by omega) hc18
      refine lv_iload_n hx hb dX2_coach_21 rfl (lv_at hl 3 rfl) ?_
      refine lv_iconst (v := nI 0) hx hb dX2_coach_22 (by decide) ?_
      refine lv_sipush (v := nI 999) hx hb dX2_coach_23 (by decide) ?_
      refine zK_si (av := [.int yz, .int (nI 0), .int (nI 999)]) (rest := []) hF (m_isOf l G yz (nI 0) (nI 999)) (va_cwS 3 hts gX2_coach_X2_isOf rfl rfl rfl (by decide +kernel) ⟨Nat.le_of_ble_eq_true rfl, Nat.le_of_ble_eq_true rfl⟩) hK hP hD hS hA (isC := []) (isR := [0, 1, 2, 3, 4, 5]) (perm := [0, 1, 2, 3, 4, 5]) (wr := wm cI oz loz liz siz shz saz nz camez cz gz louz Dz Sz shdz shsz thz) (wN := wm cI oz loz liz siz shz saz nz camez cz gz louz Dz Sz shdz shsz thz) ⟨rfl, by decide, rfl, by decide, (fun _ _ hz => by cases hz), rfl, by decide⟩ [] rfl rfl hl.1 rfl (Nat.le_of_ble_eq_true rfl) dX2_coach_26 ⟨Nat.le_refl _, Nat.le_refl _⟩ (fun H locs hP hD hS => ?_)
      refine zN (nI 1) (y := (bI (isO yz (nI 0) (nI 999)))) (by rw [ho3]; rfl) ?_
      refine lv_if_eq (tgt := 36) hx hb dX2_coach_29 (by decide) (fun hc29 => ?_) (fun hc29 => ?_)
      · exact absurd hc29 (by decide)
      · skip
        have k29 : 0 < 1 := k0_ne (by omega) hc29
        refine lv_iconst (v := nI 1) hx hb dX2_coach_32 (by decide) ?_
        refine lv_goto (tgt := 37) hx hb dX2_coach_33 (by decide) ?_
        refine lv_istore (lv' := [(4, .int (nI 1)), (0, .ref oz), (1, .int (nI kk)), (2, .int xz), (3, .int yz)]) hx hb dX2_coach_37 hl (by decide) rfl (fun ls hl => ?_)
        refine lv_aload_n hx hb dX2_coach_39 rfl (lv_at hl 1 rfl) ?_
        refine lv_iload hx hb dX2_coach_40 (lv_at hl 0 rfl) ?_
        refine lv_if_ne (tgt := 49) hx hb dX2_coach_42 (by decide) (fun hc42 => ?_) (fun hc42 => ?_)
        · skip
          have k42 : 0 < 1 := k0_ne (by omega) hc42
          refine lv_aload_n hx hb dX2_coach_49 rfl (lv_at hl 1 rfl) ?_
          refine va_get (D := G) (ci := 2) (v := .int (nI nz)) (C := RX2) (T := TX2) (N := 10) hx hb hts hinX2 hown hK hP 0 rfl rfl 0 (by decide) hf29 (fun _ h9 => h9) rfl dX2_coach_50 ?_
          refine lv_iload_n hx hb dX2_coach_53 rfl (lv_at hl 2 rfl) ?_
          refine lv_iadd hx hb dX2_coach_54 ?_
          refine zN (nI (nz + kk)) (y := ((nI nz) + (nI kk))) (nI_add _ _) ?_
          refine lv_bipush (v := nI 63) hx hb dX2_coach_55 (by decide) ?_
          refine lv_icmp_gt (tgt := 72) hx hb dX2_coach_57 (by decide) (fun hc57 => ?_) (fun hc57 => ?_)
          · skip
            have k57 : 63 < (nz + kk) := k_lt (by omega) (by omega) hc57
            exact absurd k57 (by omega)
          · skip
            have k57 : (nz + kk) ≤ 63 := k_nlt (by omega) (by omega) hc57
            refine lv_aload_n hx hb dX2_coach_60 rfl (lv_at hl 1 rfl) ?_
            refine va_get (D := G) (ci := 2) (v := .int (nI camez)) (C := RX2) (T := TX2) (N := 10) hx hb hts hinX2 hown hK hP 0 rfl rfl 1 (by decide) hf49 (fun _ h9 => h9) rfl dX2_coach_61 ?_
            refine lv_iload_n hx hb dX2_coach_64 rfl (lv_at hl 2 rfl) ?_
            refine lv_iadd hx hb dX2_coach_65 ?_
            refine zN (nI (camez + kk)) (y := ((nI camez) + (nI kk))) (nI_add _ _) ?_
            refine lv_sipush (v := nI 500) hx hb dX2_coach_66 (by decide) ?_
            refine lv_icmp_le (tgt := 76) hx hb dX2_coach_69 (by decide) (fun hc69 => ?_) (fun hc69 => ?_)
            · skip
              have k69 : (camez + kk) ≤ 500 := k_le (by omega) (by omega) hc69
              refine lv_iconst (v := nI 0) hx hb dX2_coach_76 (by decide) ?_
              refine va_put (D := G) (ci := 2) (v := .int (nI 0)) (ty := .int) (C := RX2) (T := TX2) (N := 10) hx hb hts hinX2 tyX2 tyX2_ok nmX2 hown hK hP hD hS 0 rfl rfl 9 (by decide) hf25 (fun _ h9 => h9) rfl (by decide +kernel) rfl rfl (Nat.le_of_ble_eq_true rfl) dX2_coach_77 (fun H locs hP hD hS => ?_)
              have hP : va_P G vwCl (wm cI oz loz liz siz shz saz nz camez cz gz louz Dz Sz shdz shsz (nI 0)) H := hP
              have hD : va_D A (wm cI oz loz liz siz shz saz nz camez cz gz louz Dz Sz shdz shsz (nI 0)) := hD
              refine lv_aload_n hx hb dX2_coach_80 rfl (lv_at hl 1 rfl) ?_
              refine va_get (D := G) (ci := 2) (v := .int (nI 0)) (C := RX2) (T := TX2) (N := 10) hx hb hts hinX2 hown hK hP 0 rfl rfl 9 (by decide) hf25 (fun _ h9 => h9) rfl dX2_coach_81 ?_
              refine lv_if_le (tgt := 89) hx hb dX2_coach_84 (by decide) (fun hc84 => ?_) (fun hc84 => ?_)
              · skip
                have k84 : 0 = 0 := k0_le (by omega) hc84
                refine lv_iconst (v := nI 0) hx hb dX2_coach_89 (by decide) ?_
                refine lv_istore (lv' := [(5, .int (nI 0)), (4, .int (nI 1)), (0, .ref oz), (1, .int (nI kk)), (2, .int xz), (3, .int yz)]) hx hb dX2_coach_90 hl (by decide) rfl (fun ls hl => ?_)
                have hP : va_P G vwCl (wm cI oz loz liz siz shz saz (nz + 0) (camez + 0) cz gz (lmL louz camez xz yz 0) (lmD Dz nz camez 0) (lmS Sz nz 0) shdz shsz (nI 0)) H := hP
                have hD : va_D A (wm cI oz loz liz siz shz saz (nz + 0) (camez + 0) cz gz (lmL louz camez xz yz 0) (lmD Dz nz camez 0) (lmS Sz nz 0) shdz shsz (nI 0)) := hD
                have loop : ∀ (f9 : Nat) (iz : Nat), (iz ≤ kk) → kk - iz < f9 → ∀ (H : Heap) (locs : List Loc) (ls : Array Slot), va_P G vwCl (wm cI oz loz liz siz shz saz (nz + iz) (camez + iz) cz gz (lmL louz camez xz yz iz) (lmD Dz nz camez iz) (lmS Sz nz iz) shdz shsz (nI 0)) H → va_D A (wm cI oz loz liz siz shz saz (nz + iz) (camez + iz) cz gz (lmL louz camez xz yz iz) (lmD Dz nz camez iz) (lmS Sz nz iz) shdz shsz (nI 0)) → va_S A s.heap H locs → lv_has ls 7 [(0, .ref oz), (1, .int (nI kk)), (2, .int xz), (3, .int yz), (5, .int (nI iz))] → W p l e ({ frames := 2, cells := 0, slots := 0, locals := 43 }) s m args below meth c0 H locs 0 0 (zQ_i below G [(cI, .int)] (wm cI oz loz liz siz shz saz (nz + kk) (camez + kk) (wc (allF (nz + kk - 1) (vM (lmL louz camez xz yz kk) (lmD Dz nz camez kk) (zfF (nz + kk) (lmS Sz nz kk)) (nz + kk) cz gz))) (wg (allF (nz + kk - 1) (vM (lmL louz camez xz yz kk) (lmD Dz nz camez kk) (zfF (nz + kk) (lmS Sz nz kk)) (nz + kk) cz gz))) (lmL louz camez xz yz kk) (wD (allF (nz + kk - 1) (vM (lmL louz camez xz yz kk) (lmD Dz nz camez kk) (zfF (nz + kk) (lmS Sz nz kk)) (nz + kk) cz gz))) (wS (allF (nz + kk - 1) (vM (lmL louz camez xz yz kk) (lmD Dz nz camez kk) (zfF (nz + kk) (lmS Sz nz kk)) (nz + kk) cz gz))) shdz shsz (nI 0)) (nI (nz + kk - 1)) A args s) (F0 m 92 ls []) := by
                  intro f9
                  induction f9 with
                  | zero => intro iz hi hf; exact absurd hf (Nat.not_lt_zero _)
                  | succ f9 ih =>
                    intro iz hi hf H locs ls hP hD hS hl
                    refine lv_iload hx hb dX2_coach_92 (lv_at hl 4 rfl) ?_
                    refine lv_iload_n hx hb dX2_coach_94 rfl (lv_at hl 1 rfl) ?_
                    refine lv_icmp_ge (tgt := 118) hx hb dX2_coach_95 (by decide) (fun hc95 => ?_) (fun hc95 => ?_)
                    · skip
                      have k95 : kk ≤ iz := k_le (by omega) (by omega) hc95
                      obtain rfl : kk = iz := by omega
                      have hS2 : okS (lmS Sz nz kk) := lmS_ok hS1 kk
                      have hD2 : okD (nz + kk) (lmD Dz nz camez kk) := lmD_ok hD1 kk (by omega)
                      have hl : lv_has ls 7 [(0, .ref oz)] := lv_sub hl [0] rfl
                      refine lv_iconst (v := nI 0) hx hb dX2_coach_118 (by decide) ?_
                      refine lv_istore (lv' := [(5, .int (nI 0)), (0, .ref oz)]) hx hb dX2_coach_119 hl (by decide) rfl (fun ls hl => ?_)
                      have e0 : lmS Sz nz kk = zfF 0 (lmS Sz nz kk) := (zfF_0 _).symm
                      have hP : va_P G vwCl (wm cI oz loz liz siz shz saz (nz + kk) (camez + kk) cz gz (lmL louz camez xz yz kk) (lmD Dz nz camez kk) (zfF 0 (lmS Sz nz kk)) shdz shsz (nI 0)) H := by rw [zfF_0]; exact hP
                      have hD : va_D A (wm cI oz loz liz siz shz saz (nz + kk) (camez + kk) cz gz (lmL louz camez xz yz kk) (lmD Dz nz camez kk) (zfF 0 (lmS Sz nz kk)) shdz shsz (nI 0)) := by rw [zfF_0]; exact hD
                      have loop2 : ∀ (f9 : Nat) (i2 : Nat), (i2 ≤ nz + kk) → nz + kk - i2 < f9 → ∀ (H : Heap) (locs : List Loc) (ls : Array Slot), va_P G vwCl (wm cI oz loz liz siz shz saz (nz + kk) (camez + kk) cz gz (lmL louz camez xz yz kk) (lmD Dz nz camez kk) (zfF i2 (lmS Sz nz kk)) shdz shsz (nI 0)) H → va_D A (wm cI oz loz liz siz shz saz (nz + kk) (camez + kk) cz gz (lmL louz camez xz yz kk) (lmD Dz nz camez kk) (zfF i2 (lmS Sz nz kk)) shdz shsz (nI 0)) → va_S A s.heap H locs → lv_has ls 7 [(0, .ref oz), (5, .int (nI i2))] → W p l e ({ frames := 2, cells := 0, slots := 0, locals := 43 }) s m args below meth c0 H locs 0 0 (zQ_i below G [(cI, .int)] (wm cI oz loz liz siz shz saz (nz + kk) (camez + kk) (wc (allF (nz + kk - 1) (vM (lmL louz camez xz yz kk) (lmD Dz nz camez kk) (zfF (nz + kk) (lmS Sz nz kk)) (nz + kk) cz gz))) (wg (allF (nz + kk - 1) (vM (lmL louz camez xz yz kk) (lmD Dz nz camez kk) (zfF (nz + kk) (lmS Sz nz kk)) (nz + kk) cz gz))) (lmL louz camez xz yz kk) (wD (allF (nz + kk - 1) (vM (lmL louz camez xz yz kk) (lmD Dz nz camez kk) (zfF (nz + kk) (lmS Sz nz kk)) (nz + kk) cz gz))) (wS (allF (nz + kk - 1) (vM (lmL louz camez xz yz kk) (lmD Dz nz camez kk) (zfF (nz + kk) (lmS Sz nz kk)) (nz + kk) cz gz))) shdz shsz (nI 0)) (nI (nz + kk - 1)) A args s) (F0 m 121 ls []) := by
                        intro f9
                        induction f9 with
                        | zero => intro i2 hi2 hf; exact absurd hf (Nat.not_lt_zero _)
                        | succ f9 ih =>
                          intro i2 hi2 hf H locs ls hP hD hS hl
                          refine lv_iload hx hb dX2_coach_121 (lv_at hl 1 rfl) ?_
                          refine lv_aload_n hx hb dX2_coach_123 rfl (lv_at hl 0 rfl) ?_
                          refine va_get (D := G) (ci := 2) (v := .int (nI (nz + kk))) (C := RX2) (T := TX2) (N := 10) hx hb hts hinX2 hown hK hP 0 rfl rfl 0 (by decide) hf29 (fun _ h9 => h9) rfl dX2_coach_124 ?_
                          refine lv_icmp_ge (tgt := 144) hx hb dX2_coach_127 (by decide) (fun hc127 => ?_) (fun hc127 => ?_)
                          · skip
                            have k127 : (nz + kk) ≤ i2 := k_le (by omega) (by omega) hc127
                            have e2 : i2 = nz + kk := by omega
                            subst e2
                            have hl : lv_has ls 7 [(0, .ref oz)] := lv_sub hl [0] rfl
                            have hS3 : okS (zfF (nz + kk) (lmS Sz nz kk)) := okS_zf hS2 _
                            refine lv_aload_n hx hb dX2_coach_144 rfl (lv_at hl 0 rfl) ?_
                            refine va_get (D := G) (ci := 2) (v := .int (nI (nz + kk))) (C := RX2) (T := TX2) (N := 10) hx hb hts hinX2 hown hK hP 0 rfl rfl 0 (by decide) hf29 (fun _ h9 => h9) rfl dX2_coach_145 ?_
                            refine lv_iconst (v := nI 1) hx hb dX2_coach_148 (by decide) ?_
                            refine lv_isub hx hb dX2_coach_149 ?_
                            refine zN (nI ((nz + kk) - 1)) (y := ((nI (nz + kk)) - (nI 1))) (pk_sub (by omega)) ?_
                            refine lv_istore (lv' := [(5, .int (nI ((nz + kk) - 1))), (0, .ref oz)]) hx hb dX2_coach_150 hl (by decide) rfl (fun ls hl => ?_)
                            have loop3 : ∀ (f9 : Nat) (D1 : Fn) (S1 : Fn) (x1 : Int32) (y1 : Int32) (b1 : Nat), (okS S1) → (okD (nz + kk) D1) → (allF b1 (vM (lmL louz camez xz yz kk) D1 S1 (nz + kk) x1 y1) = allF (nz + kk - 1) (vM (lmL louz camez xz yz kk) (lmD Dz nz camez kk) (zfF (nz + kk) (lmS Sz nz kk)) (nz + kk) cz gz)) → (b1 < nz + kk) → b1 < f9 → ∀ (H : Heap) (locs : List Loc) (ls : Array Slot), va_P G vwCl (wm cI oz loz liz siz shz saz (nz + kk) (camez + kk) x1 y1 (lmL louz camez xz yz kk) D1 S1 shdz shsz (nI 0)) H → va_D A (wm cI oz loz liz siz shz saz (nz + kk) (camez + kk) x1 y1 (lmL louz camez xz yz kk) D1 S1 shdz shsz (nI 0)) → va_S A s.heap H locs → lv_has ls 7 [(0, .ref oz), (5, .int (nI b1))] → W p l e ({ frames := 2, cells := 0, slots := 0, locals := 43 }) s m args below meth c0 H locs 0 0 (zQ_i below G [(cI, .int)] (wm cI oz loz liz siz shz saz (nz + kk) (camez + kk) (wc (allF (nz + kk - 1) (vM (lmL louz camez xz yz kk) (lmD Dz nz camez kk) (zfF (nz + kk) (lmS Sz nz kk)) (nz + kk) cz gz))) (wg (allF (nz + kk - 1) (vM (lmL louz camez xz yz kk) (lmD Dz nz camez kk) (zfF (nz + kk) (lmS Sz nz kk)) (nz + kk) cz gz))) (lmL louz camez xz yz kk) (wD (allF (nz + kk - 1) (vM (lmL louz camez xz yz kk) (lmD Dz nz camez kk) (zfF (nz + kk) (lmS Sz nz kk)) (nz + kk) cz gz))) (wS (allF (nz + kk - 1) (vM (lmL louz camez xz yz kk) (lmD Dz nz camez kk) (zfF (nz + kk) (lmS Sz nz kk)) (nz + kk) cz gz))) shdz shsz (nI 0)) (nI (nz + kk - 1)) A args s) (F0 m 152 ls []) := by
                              intro f9
                              induction f9 with
                              | zero => intro D1 S1 x1 y1 b1 hS4 hD4 hr9 hb1 hf; exact absurd hf (Nat.not_lt_zero _)
                              | succ f9 ih =>
                                intro D1 S1 x1 y1 b1 hS4 hD4 hr9 hb1 hf H locs ls hP hD hS hl
                                refine lv_iload hx hb dX2_coach_152 (lv_at hl 1 rfl) ?_
                                refine lv_if_le (tgt := 178) hx hb dX2_coach_154 (by decide) (fun hc154 => ?_) (fun hc154 => ?_)
                                · skip
                                  have k154 : b1 = 0 := k0_le (by omega) hc154
                                  refine lv_aload_n hx hb dX2_coach_178 rfl (lv_at hl 0 rfl) ?_
                                  refine va_get (D := G) (ci := 2) (v := .int (nI (nz + kk))) (C := RX2) (T := TX2) (N := 10) hx hb hts hinX2 hown hK hP 0 rfl rfl 0 (by decide) hf29 (fun _ h9 => h9) rfl dX2_coach_179 ?_
                                  refine lv_iconst (v := nI 1) hx hb dX2_coach_182 (by decide) ?_
                                  refine lv_isub hx hb dX2_coach_183 ?_
                                  refine zN (nI ((nz + kk) - 1)) (y := ((nI (nz + kk)) - (nI 1))) (pk_sub (by omega)) ?_
                                  obtain rfl : 0 = b1 := k154.symm
                                  rw [← hr9]
                                  exact zE_i hF hr hlk hK hP hD hS dX2_coach_184
                                · skip
                                  have k154 : 0 < b1 := k0_nle (by omega) hc154
                                  have ze := eld_lt (S := S1) (b := b1) k154
                                  refine lv_aload_n hx hb dX2_coach_157 rfl (lv_at hl 0 rfl) ?_
                                  refine lv_aload_n hx hb dX2_coach_158 rfl (lv_at hl 0 rfl) ?_
                                  refine lv_iload hx hb dX2_coach_159 (lv_at hl 1 rfl) ?_
                                  refine zK_vi (As := [.int (nI b1)]) (rest := [.ref oz]) hF (m_elder l G cI oz loz liz siz shz saz (nz + kk) (camez + kk) x1 y1 (lmL louz camez xz yz kk) D1 S1 shdz shsz (nI 0) (by omega) (by omega) hS4 hD4 b1 (by omega) (by omega)) (cwV 1 hts gX2_coach_X2_elder rfl rfl rfl (by decide +kernel) ⟨Nat.le_of_ble_eq_true rfl, Nat.le_of_ble_eq_true rfl⟩) hK hP hD hS hA (ci := 2) (q0 := 0) rfl rfl rfl (isC := [0, 1, 2, 3, 4, 5]) (isR := []) (perm := [0, 1, 2, 3, 4, 5]) (wr := []) (wN := wm cI oz loz liz siz shz saz (nz + kk) (camez + kk) x1 y1 (lmL louz camez xz yz kk) D1 S1 shdz shsz (nI 0)) ⟨rfl, by decide, rfl, rfl, (fun _ hz => by cases hz), rfl, by decide⟩ [0] rfl rfl hl.1 rfl (Nat.le_of_ble_eq_true rfl) dX2_coach_161 ⟨Nat.le_refl _, Nat.le_refl _⟩ (fun H locs hP hD hS => ?_)
                                  refine lv_iload hx hb dX2_coach_164 (lv_at hl 1 rfl) ?_
                                  refine lv_iconst (v := nI 0) hx hb dX2_coach_166 (by decide) ?_
                                  refine zK_vi (As := [.int (nI (eld S1 b1)), .int (nI b1), .int (nI 0)]) (rest := []) hF (m_joins l G cI oz loz liz siz shz saz (nz + kk) (camez + kk) x1 y1 (lmL louz camez xz yz kk) D1 S1 shdz shsz (nI 0) (by omega) (by omega) hS4 hD4 (eld S1 b1) b1 (by omega) (by omega) false) (cwV 3 hts gX2_coach_X2_joins rfl rfl rfl (by decide +kernel) ⟨Nat.le_of_ble_eq_true rfl, Nat.le_of_ble_eq_true rfl⟩) hK hP hD hS hA (ci := 2) (q0 := 0) rfl rfl rfl (isC := [0, 1, 2, 3, 4, 5]) (isR := []) (perm := [0, 1, 2, 3, 4, 5]) (wr := []) (wN := wm cI oz loz liz siz shz saz (nz + kk) (camez + kk) (wc (joinF false (vM (lmL louz camez xz yz kk) D1 S1 (nz + kk) x1 y1) (eld S1 b1) b1)) (wg (joinF false (vM (lmL louz camez xz yz kk) D1 S1 (nz + kk) x1 y1) (eld S1 b1) b1)) (lmL louz camez xz yz kk) (wD (joinF false (vM (lmL louz camez xz yz kk) D1 S1 (nz + kk) x1 y1) (eld S1 b1) b1)) (wS (joinF false (vM (lmL louz camez xz yz kk) D1 S1 (nz + kk) x1 y1) (eld S1 b1) b1)) shdz shsz (nI 0)) ⟨rfl, by decide, rfl, rfl, (fun _ hz => by cases hz), rfl, by decide⟩ [0] rfl rfl hl.1 rfl (Nat.le_of_ble_eq_true rfl) dX2_coach_167 ⟨Nat.le_refl _, Nat.le_refl _⟩ (fun H locs hP hD hS => ?_)
                                  obtain ⟨D10, S10, c10, g10, hu10, hz10, hy10⟩ := joinM_ex false (lou := lmL louz camez xz yz kk) (c := x1) (g := y1) (e := eld S1 b1) (j := b1) hS4 hD4 (by omega) (by omega) (by omega)
                                  have hP : va_P G vwCl (wm cI oz loz liz siz shz saz (nz + kk) (camez + kk) c10 g10 (lmL louz camez xz yz kk) D10 S10 shdz shsz (nI 0)) H := by have qz := hP; rw [hu10] at qz; exact qz
                                  have hD : va_D A (wm cI oz loz liz siz shz saz (nz + kk) (camez + kk) c10 g10 (lmL louz camez xz yz kk) D10 S10 shdz shsz (nI 0)) := by have qz := hD; rw [hu10] at qz; exact qz
                                  refine lv_istore (lv' := [(6, .int (bI (jc false (vM (lmL louz camez xz yz kk) D1 S1 (nz + kk) x1 y1) (eld S1 b1) b1))), (0, .ref oz), (5, .int (nI b1))]) hx hb dX2_coach_170 hl (by decide) rfl (fun ls hl => ?_)
                                  refine lv_iinc (v := nI (b1 - 1)) (lv' := [(5, .int (nI (b1 - 1))), (6, .int (bI (jc false (vM (lmL louz camez xz yz kk) D1 S1 (nz + kk) x1 y1) (eld S1 b1) b1))), (0, .ref oz)]) hx hb dX2_coach_172 hl (k := 2) rfl (z_dec k154) (by decide) rfl (fun ls hl => ?_)
                                  refine lv_goto (tgt := 152) hx hb dX2_coach_175 (by decide) ?_
                                  exact ih D10 S10 c10 g10 (b1 - 1) hz10 hy10 (by rw [← hu10, ← hr9]; obtain ⟨b2, rfl⟩ : ∃ kz, b1 = kz + 1 := ⟨b1 - 1, by omega⟩; rfl) (by omega) (by omega) _ _ _ hP hD hS (lv_sub hl [2, 0] rfl)
                            exact loop3 (nz + kk + 1) (lmD Dz nz camez kk) (zfF (nz + kk) (lmS Sz nz kk)) cz gz (nz + kk - 1) hS3 hD2 rfl (by omega) (by omega) _ _ _ hP hD hS (lv_sub hl [1, 0] rfl)
                          · skip
                            have k127 : i2 < (nz + kk) := k_nle (by omega) (by omega) hc127
                            refine lv_aload_n hx hb dX2_coach_130 rfl (lv_at hl 0 rfl) ?_
                            refine va_get (D := G) (ci := 2) (v := .ref siz) (C := RX2) (T := TX2) (N := 10) hx hb hts hinX2 hown hK hP 0 rfl rfl 6 (by decide) hf16 (fun _ h9 => h9) rfl dX2_coach_131 ?_
                            refine lv_iload hx hb dX2_coach_134 (lv_at hl 1 rfl) ?_
                            refine lv_iconst (v := nI 0) hx hb dX2_coach_136 (by decide) ?_
                            refine zA_st (x := nI 0) hx hb hK hP hD hS 3 0 rfl rfl (by omega) (by decide) dX2_coach_137 (fun H locs hP hD hS => ?_)
                            have hP : va_P G vwCl (wm cI oz loz liz siz shz saz (nz + kk) (camez + kk) cz gz (lmL louz camez xz yz kk) (lmD Dz nz camez kk) (upd (zfF i2 (lmS Sz nz kk)) i2 (nI 0)) shdz shsz (nI 0)) H := hP
                            have hD : va_D A (wm cI oz loz liz siz shz saz (nz + kk) (camez + kk) cz gz (lmL louz camez xz yz kk) (lmD Dz nz camez kk) (upd (zfF i2 (lmS Sz nz kk)) i2 (nI 0)) shdz shsz (nI 0)) := hD
                            have hP : va_P G vwCl (wm cI oz loz liz siz shz saz (nz + kk) (camez + kk) cz gz (lmL louz camez xz yz kk) (lmD Dz nz camez kk) (zfF (i2 + 1) (lmS Sz nz kk)) shdz shsz (nI 0)) H := by have qz := hP; rw [zfF_succ] at qz; exact qz
                            have hD : va_D A (wm cI oz loz liz siz shz saz (nz + kk) (camez + kk) cz gz (lmL louz camez xz yz kk) (lmD Dz nz camez kk) (zfF (i2 + 1) (lmS Sz nz kk)) shdz shsz (nI 0)) := by have qz := hD; rw [zfF_succ] at qz; exact qz
                            refine lv_iinc (v := nI (i2 + 1)) (lv' := [(5, .int (nI (i2 + 1))), (0, .ref oz)]) hx hb dX2_coach_138 hl (k := 1) rfl (nI_1 _) (by decide) rfl (fun ls hl => ?_)
                            refine lv_goto (tgt := 121) hx hb dX2_coach_141 (by decide) ?_
                            exact ih (i2 + 1) (by omega) (by omega) _ _ _ hP hD hS (lv_sub hl [1, 0] rfl)
                      exact loop2 (nz + kk + 1) 0 (by omega) (by omega) _ _ _ hP hD hS (lv_sub hl [1, 0] rfl)
                    · skip
                      have k95 : iz < kk := k_nle (by omega) (by omega) hc95
                      refine lv_aload_n hx hb dX2_coach_98 rfl (lv_at hl 0 rfl) ?_
                      refine lv_iload_n hx hb dX2_coach_99 rfl (lv_at hl 2 rfl) ?_
                      refine lv_iload hx hb dX2_coach_100 (lv_at hl 4 rfl) ?_
                      refine lv_iload_n hx hb dX2_coach_102 rfl (lv_at hl 3 rfl) ?_
                      refine lv_imul hx hb dX2_coach_103 ?_
                      refine lv_iadd hx hb dX2_coach_104 ?_
                      refine lv_sipush (v := nI 1000) hx hb dX2_coach_105 (by decide) ?_
                      refine lv_irem hx hb dX2_coach_108 (by decide) ?_
                      refine zK_vv (As := [.int ((xz + ((nI iz) * yz)) - (xz + ((nI iz) * yz)) / (nI 1000) * (nI 1000))]) (rest := []) hF (m_lays l G cI oz loz liz siz shz saz (nz + iz) (camez + iz) cz gz (lmL louz camez xz yz iz) (lmD Dz nz camez iz) (lmS Sz nz iz) shdz shsz (nI 0) (by omega) (by omega) (lmS_ok hS1 iz) (lmD_ok hD1 iz (by omega)) (by omega) (by omega) ((xz + ((nI iz) * yz)) - (xz + ((nI iz) * yz)) / (nI 1000) * (nI 1000))) (cwV 1 hts gX2_coach_X2_lays rfl rfl rfl (by decide +kernel) ⟨Nat.le_of_ble_eq_true rfl, Nat.le_of_ble_eq_true rfl⟩) hK hP hD hS hA (ci := 2) (q0 := 0) rfl rfl rfl (isC := [0, 1, 2, 3, 4, 5]) (isR := []) (perm := [0, 1, 2, 3, 4, 5]) (wr := []) (wN := wm cI oz loz liz siz shz saz (nz + iz + 1) (camez + iz + 1) cz gz (upd (lmL louz camez xz yz iz) (camez + iz) ((xz + ((nI iz) * yz)) - (xz + ((nI iz) * yz)) / (nI 1000) * (nI 1000))) (upd (lmD Dz nz camez iz) (nz + iz) (nI (camez + iz))) (upd (lmS Sz nz iz) (nz + iz) 0) shdz shsz (nI 0)) ⟨rfl, by decide, rfl, rfl, (fun _ hz => by cases hz), rfl, by decide⟩ [0] rfl rfl hl.1 rfl (Nat.le_of_ble_eq_true rfl) dX2_coach_109 ⟨Nat.le_refl _, Nat.le_refl _⟩ (fun H locs hP hD hS => ?_)
                      have hP : va_P G vwCl (wm cI oz loz liz siz shz saz (nz + (iz + 1)) (camez + (iz + 1)) cz gz (lmL louz camez xz yz (iz + 1)) (lmD Dz nz camez (iz + 1)) (lmS Sz nz (iz + 1)) shdz shsz (nI 0)) H := hP
                      have hD : va_D A (wm cI oz loz liz siz shz saz (nz + (iz + 1)) (camez + (iz + 1)) cz gz (lmL louz camez xz yz (iz + 1)) (lmD Dz nz camez (iz + 1)) (lmS Sz nz (iz + 1)) shdz shsz (nI 0)) := hD
                      refine lv_iinc (v := nI (iz + 1)) (lv' := [(5, .int (nI (iz + 1))), (0, .ref oz), (1, .int (nI kk)), (2, .int xz), (3, .int yz)]) hx hb dX2_coach_112 hl (k := 4) rfl (nI_1 _) (by decide) rfl (fun ls hl => ?_)
                      refine lv_goto (tgt := 92) hx hb dX2_coach_115 (by decide) ?_
                      exact ih (iz + 1) (by omega) (by omega) _ _ _ hP hD hS (lv_sub hl [1, 2, 3, 4, 0] rfl)
                exact loop (kk + 1) 0 (by omega) (by omega) _ _ _ hP hD hS (lv_sub hl [2, 3, 4, 5, 0] rfl)
              · exact absurd hc84 (by decide)
            · skip
              have k69 : 500 < (camez + kk) := k_nle (by omega) (by omega) hc69
              exact absurd k69 (by omega)
        · exact absurd hc42 (by decide)
end
