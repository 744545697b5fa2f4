section
-- ===== PART A: goes FIRST, ahead of the names: the tables' words, and 'selects' of the private methods out of them =====
/-- a private method of a class that the tables say can be made, by its rows of tables_1 -/
def lw_okq (q : MethodName × Nat) : Prop := (q.1.cls ≠ "java/lang/invoke/MethodHandle" ∧ q.1.cls ≠ "java/lang/invoke/VarHandle") ∧ Cond.instantiable q.1.cls q.2 ∈ tables_1 ∧ Cond.privateMethod q.1 ∈ tables_1 ∧ Cond.instanceMethod q.1 ∈ tables_1
theorem lw_p0 : lw_okq (⟨"java/lang/Throwable", "fillInStackTrace", "(I)Ljava/lang/Throwable;"⟩, 6) := ⟨⟨by decide +kernel, by decide +kernel⟩, List.mem_of_getElem? (i := 218) (by decide +kernel), List.mem_of_getElem? (i := 216) (by decide +kernel), List.mem_of_getElem? (i := 217) (by decide +kernel)⟩
theorem lw_p1 : lw_okq (⟨"SteepleWords$Text", "signHere", "()I"⟩, 5) := ⟨⟨by decide +kernel, by decide +kernel⟩, List.mem_of_getElem? (i := 94) (by decide +kernel), List.mem_of_getElem? (i := 289) (by decide +kernel), List.mem_of_getElem? (i := 290) (by decide +kernel)⟩
theorem lw_p2 : lw_okq (⟨"SteepleWords$Text", "readNumbers", "([I)Z"⟩, 5) := ⟨⟨by decide +kernel, by decide +kernel⟩, List.mem_of_getElem? (i := 94) (by decide +kernel), List.mem_of_getElem? (i := 299) (by decide +kernel), List.mem_of_getElem? (i := 300) (by decide +kernel)⟩
theorem lw_p3 : lw_okq (⟨"SteepleWords$Text", "readNumber", "(III)I"⟩, 5) := ⟨⟨by decide +kernel, by decide +kernel⟩, List.mem_of_getElem? (i := 94) (by decide +kernel), List.mem_of_getElem? (i := 303) (by decide +kernel), List.mem_of_getElem? (i := 304) (by decide +kernel)⟩
theorem lw_p4 : lw_okq (⟨"SteepleWords", "doCommandOfText", "()Z"⟩, 7) := ⟨⟨by decide +kernel, by decide +kernel⟩, List.mem_of_getElem? (i := 18) (by decide +kernel), List.mem_of_getElem? (i := 330) (by decide +kernel), List.mem_of_getElem? (i := 331) (by decide +kernel)⟩
theorem lw_p5 : lw_okq (⟨"SteepleWords$Parish", "matters", "(II)Z"⟩, 11) := ⟨⟨by decide +kernel, by decide +kernel⟩, List.mem_of_getElem? (i := 26) (by decide +kernel), List.mem_of_getElem? (i := 417) (by decide +kernel), List.mem_of_getElem? (i := 418) (by decide +kernel)⟩
theorem lw_p6 : lw_okq (⟨"SteepleWords$Parish", "shameLighter", "(II)V"⟩, 11) := ⟨⟨by decide +kernel, by decide +kernel⟩, List.mem_of_getElem? (i := 26) (by decide +kernel), List.mem_of_getElem? (i := 429) (by decide +kernel), List.mem_of_getElem? (i := 430) (by decide +kernel)⟩
theorem lw_p7 : lw_okq (⟨"SteepleWords$Parish", "judge", "(IZ)V"⟩, 11) := ⟨⟨by decide +kernel, by decide +kernel⟩, List.mem_of_getElem? (i := 26) (by decide +kernel), List.mem_of_getElem? (i := 453) (by decide +kernel), List.mem_of_getElem? (i := 454) (by decide +kernel)⟩
theorem lw_p8 : lw_okq (⟨"SteepleWords$Parish", "removeMeasuresOf", "(I)V"⟩, 11) := ⟨⟨by decide +kernel, by decide +kernel⟩, List.mem_of_getElem? (i := 26) (by decide +kernel), List.mem_of_getElem? (i := 457) (by decide +kernel), List.mem_of_getElem? (i := 458) (by decide +kernel)⟩
theorem lw_p9 : lw_okq (⟨"SteepleWords$Parish", "quarrel", "(II)Z"⟩, 11) := ⟨⟨by decide +kernel, by decide +kernel⟩, List.mem_of_getElem? (i := 26) (by decide +kernel), List.mem_of_getElem? (i := 488) (by decide +kernel), List.mem_of_getElem? (i := 489) (by decide +kernel)⟩
theorem lw_p10 : lw_okq (⟨"SteepleWords", "needMeasure", "(I)V"⟩, 7) := ⟨⟨by decide +kernel, by decide +kernel⟩, List.mem_of_getElem? (i := 18) (by decide +kernel), List.mem_of_getElem? (i := 523) (by decide +kernel), List.mem_of_getElem? (i := 524) (by decide +kernel)⟩
theorem lw_p11 : lw_okq (⟨"SteepleWords$Ballot", "noteChanges", "(LSteepleWords$Parish;I)V"⟩, 4) := ⟨⟨by decide +kernel, by decide +kernel⟩, List.mem_of_getElem? (i := 116) (by decide +kernel), List.mem_of_getElem? (i := 631) (by decide +kernel), List.mem_of_getElem? (i := 632) (by decide +kernel)⟩
theorem lw_p12 : lw_okq (⟨"SteepleWords$Ballot", "tryLowest", "(II)V"⟩, 4) := ⟨⟨by decide +kernel, by decide +kernel⟩, List.mem_of_getElem? (i := 116) (by decide +kernel), List.mem_of_getElem? (i := 645) (by decide +kernel), List.mem_of_getElem? (i := 646) (by decide +kernel)⟩
theorem lw_p13 : lw_okq (⟨"SteepleWords$Parish", "isLouder", "(III)Z"⟩, 11) := ⟨⟨by decide +kernel, by decide +kernel⟩, List.mem_of_getElem? (i := 26) (by decide +kernel), List.mem_of_getElem? (i := 755) (by decide +kernel), List.mem_of_getElem? (i := 756) (by decide +kernel)⟩
theorem lw_p14 : lw_okq (⟨"SteepleWords$Parish", "feetFrom", "(II)I"⟩, 11) := ⟨⟨by decide +kernel, by decide +kernel⟩, List.mem_of_getElem? (i := 26) (by decide +kernel), List.mem_of_getElem? (i := 759) (by decide +kernel), List.mem_of_getElem? (i := 760) (by decide +kernel)⟩
theorem lw_p15 : lw_okq (⟨"SteepleWords$Parish", "isTruer", "(II)Z"⟩, 11) := ⟨⟨by decide +kernel, by decide +kernel⟩, List.mem_of_getElem? (i := 26) (by decide +kernel), List.mem_of_getElem? (i := 889) (by decide +kernel), List.mem_of_getElem? (i := 890) (by decide +kernel)⟩
def lw_privs_1 : List (MethodName × Nat) := [(⟨"java/lang/Throwable", "fillInStackTrace", "(I)Ljava/lang/Throwable;"⟩, 6), (⟨"SteepleWords$Text", "signHere", "()I"⟩, 5), (⟨"SteepleWords$Text", "readNumbers", "([I)Z"⟩, 5), (⟨"SteepleWords$Text", "readNumber", "(III)I"⟩, 5), (⟨"SteepleWords", "doCommandOfText", "()Z"⟩, 7), (⟨"SteepleWords$Parish", "matters", "(II)Z"⟩, 11), (⟨"SteepleWords$Parish", "shameLighter", "(II)V"⟩, 11), (⟨"SteepleWords$Parish", "judge", "(IZ)V"⟩, 11), (⟨"SteepleWords$Parish", "removeMeasuresOf", "(I)V"⟩, 11), (⟨"SteepleWords$Parish", "quarrel", "(II)Z"⟩, 11), (⟨"SteepleWords", "needMeasure", "(I)V"⟩, 7), (⟨"SteepleWords$Ballot", "noteChanges", "(LSteepleWords$Parish;I)V"⟩, 4), (⟨"SteepleWords$Ballot", "tryLowest", "(II)V"⟩, 4), (⟨"SteepleWords$Parish", "isLouder", "(III)Z"⟩, 11), (⟨"SteepleWords$Parish", "feetFrom", "(II)I"⟩, 11), (⟨"SteepleWords$Parish", "isTruer", "(II)Z"⟩, 11)]
theorem lw_r1 : ∀ q ∈ lw_privs_1, lw_okq q := List.forall_mem_cons.mpr ⟨lw_p0, List.forall_mem_cons.mpr ⟨lw_p1, List.forall_mem_cons.mpr ⟨lw_p2, List.forall_mem_cons.mpr ⟨lw_p3, List.forall_mem_cons.mpr ⟨lw_p4, List.forall_mem_cons.mpr ⟨lw_p5, List.forall_mem_cons.mpr ⟨lw_p6, List.forall_mem_cons.mpr ⟨lw_p7, List.forall_mem_cons.mpr ⟨lw_p8, List.forall_mem_cons.mpr ⟨lw_p9, List.forall_mem_cons.mpr ⟨lw_p10, List.forall_mem_cons.mpr ⟨lw_p11, List.forall_mem_cons.mpr ⟨lw_p12, List.forall_mem_cons.mpr ⟨lw_p13, List.forall_mem_cons.mpr ⟨lw_p14, List.forall_mem_cons.mpr ⟨lw_p15, fun _ h => absurd h List.not_mem_nil⟩⟩⟩⟩⟩⟩⟩⟩⟩⟩⟩⟩⟩⟩⟩⟩
def lw_privs : List (MethodName × Nat) := lw_privs_1
def lw_tbl : List Cond := k2_sels lw_privs ++ tables_1
theorem lw_privs_ok : ∀ q ∈ lw_privs, lw_okq q := lw_r1
/-! ===== BEGIN words of one list among another's, by their places ===== -/
theorem goodIn_r {big : List Cond} (ws : List Cond) (ps : List Nat) (hp : ws = ps.filterMap (fun i => big[i]?)) (h : ws.all goodWord = true) : GoodIn big ws := by
  intro w hw
  have h1 := List.all_eq_true.mp h w hw
  rw [hp] at hw
  obtain ⟨i, -, hi⟩ := List.mem_filterMap.mp hw
  have hm : w ∈ big := by first | exact List.mem_of_getElem? hi | exact List.getElem?_mem hi
  exact ⟨hm, good_of_word h1⟩
theorem goodIn_app {big a b : List Cond} (ha : GoodIn big a) (hb : GoodIn big b) : GoodIn big (a ++ b) := fun w h => (List.mem_append.mp h).elim (ha w) (hb w)
theorem goodIn_ca {big a b : List Cond} {c : Cond} (ha : GoodIn big (c :: a)) (hb : GoodIn big b) : GoodIn big (c :: (a ++ b)) := fun w h => (List.mem_cons.mp h).elim (fun e => ha w (List.mem_cons.mpr (Or.inl e))) (fun h => (List.mem_append.mp h).elim (fun h => ha w (List.mem_cons.mpr (Or.inr h))) (hb w))
theorem goodIn_sub {big ws : List Cond} (hm : ∀ w ∈ ws, w ∈ big) (h : ws.all goodWord = true) : GoodIn big ws := fun w hw => ⟨hm w hw, good_of_word (List.all_eq_true.mp h w hw)⟩
/-! ===== END ===== -/

/-! ===== BEGIN exceptions that leave a method, and their catching by the caller (launches without stack traces) ===== -/
section VXA
/-! The laws vx_back, vx_callV, vx_callS, vx_callSW, vx_throw0, vx_throwS follow proofs of the library, with one case more: JvmDerived/Free/Laws.lean (Back.of_free), Shelf42/LK1.lean (callV, callS), Shelf/KitTraced.lean (throwNew0V, throwNewS). -/
/-- where a method has thrown q: the class by its name, the cell, what was written, the world -/
def vx_T (XC : String → State → State → Prop) (st : State) (q : Addr) (t : State) (mc ms : Nat) (free : Addr → Prop) : Prop :=
  ∃ (E : String) (ce : Cell) (L : List Loc), XC E st t ∧ t.heap[q]? = some ce ∧ ce.vm = .none ∧ st.vm.findClass E = some ce.cls ∧ st.WarmedH t.vm ∧ st.sameButNew ({ t with vm := st.vm } : State) L mc ms ∧ ∀ z ∈ L, free z.base
def vx_Q (Qc : Array Value → State → Outcome → State → Prop) (XC : String → State → State → Prop) (mc ms : Nat) (free : Addr → Prop) : Array Value → State → Outcome → State → Prop := fun a st o t =>
  (Qc a st o t ∧ ∃ L, FrameEnd st o t L mc ms ∧ ∀ q ∈ L, free q.base) ∨ ∃ q, o = .threw q ∧ vx_T XC st q t mc ms free
/-- a callee that returns or throws -/
def vx_Met (l : Launch) (y : MethodName) (ws : List Cond) (rm : Room) (Pc : Array Value → State → Prop) (Qc : Array Value → State → Outcome → State → Prop) (XC : String → State → State → Prop) (mc ms : Nat) (free : Addr → Prop) : Prop :=
  MetFree l y (headSpec ws rm) Pc (fun _ _ _ _ _ => True) (vx_Q Qc XC mc ms free)
def vx_Post (XC : String → State → State → Prop) (mc ms : Nat) (free : Addr → Prop) : Pt → Array Value → Addr → Pt → Prop := fun A a q B =>
  ∃ (g : JFrame) (mk : MethodId) (t : State) (L : List Loc) (E : String) (ce : Cell), B.U.heap = t.heap ∧ B.U.vm = t.vm ∧ XC E (A.U.calling g mk a) t ∧ t.heap[q]? = some ce ∧ ce.vm = .none ∧ A.U.vm.findClass E = some ce.cls ∧ B.locs = A.locs ++ L ∧ (∀ z ∈ L, free z.base) ∧ B.cells = A.cells + mc ∧ B.slots = A.slots + ms
def vx_Back (l : Launch) (R : Room) (p : Program) (e : Env) (below : List Frame) (s : State) (sargs : Array Value) (y : MethodName) (len W9 : Nat)
    (Pre : Pt → Array Value → Prop) (Post : Pt → Array Value → Option Value → Pt → Prop) (PostX : Pt → Array Value → Addr → Pt → Prop) : Prop :=
  ∀ (m : MethodId) (meth : Method) (c : Code) (A : Pt) (g : JFrame) (ig : Instr) (mk : MethodId) (a : Array Value),
    Stand p l e R s m sargs below meth c A.U A.locs A.cells A.slots → g.method = m → g.locals.size = c.maxLocals → decode c.code g.pc = .ok (ig, len) →
    2 * g.monitorRoom + (g.stack.map fun v => v.category).sum ≤ W9 → A.U.methodNamed? y = some mk → Pre A a →
    (∃ (v : Option Value) (B : Pt), Stand p l e R s m sargs below meth c B.U B.locs B.cells B.slots ∧ Post A a v B ∧
      Steps p.tables e below (doInvoke e (A.U.setTop g) [] mk a).1 (B.U.setTop { g with pc := g.pc + len, stack := v.toList ++ g.stack })) ∨
    (∃ (q : Addr) (B : Pt), Stand p l e R s m sargs below meth c B.U B.locs B.cells B.slots ∧ PostX A a q B ∧
      Steps p.tables e below (doInvoke e (A.U.setTop g) [] mk a).1 ((B.U.setTop g).pushFrame (.throwing q)))
section Payer
variable {l : Launch} {R : Room} {p : Program} {e : Env} {below : List Frame} {s : State} {sargs : Array Value} {y : MethodName} {len W9 : Nat}
theorem vx_back {ws : List Cond} {rm : Room} {Pc : Array Value → State → Prop} {Qc : Array Value → State → Outcome → State → Prop} {XC : String → State → State → Prop} {mc ms : Nat} {free : Addr → Prop} {bytes : ByteArray} {maxL : Nat} {ret : Option FieldType}
    (hM : vx_Met l y ws rm Pc Qc XC mc ms free) (hblind : FrameBlind Pc) (hrc : rm.cells = mc) (hrs : rm.slots = ms)
    (hframes : rm.frames + 1 ≤ R.frames) (hlocals : W9 + (maxL + 11) + rm.locals ≤ R.locals)
    (hws : ∀ w ∈ ws, ∀ a' U, s.WarmedH U.vm → w.before a' U = true) (hcode : Cond.code y bytes maxL ret ∈ ws) (hinit : ∀ a' U, s.WarmedH U.vm → (Cond.initialized y.cls).before a' U = true) :
    vx_Back l R p e below s sargs y len W9 (PreOf R mc ms Pc) (PostOf Qc mc ms free) (vx_Post XC mc ms free) := by
  intro m meth c A g ig mk a X hg hsize hdg hW hn hp
  have h1 : (headSpec ws rm).pre.before a A.U = true := atoms_intro fun w hw => hws w hw _ _ X.warmed
  have h2 : (Cond.code y bytes maxL ret).before a A.U = true := hws _ hcode _ _ X.warmed
  have h3 : (Cond.initialized y.cls).before a A.U = true := hinit _ _ X.warmed
  have h4 : A.cells + (headSpec ws rm).room.cells ≤ R.cells := by rw [show (headSpec ws rm).room.cells = mc from hrc]; exact hp.1
  have h5 : A.slots + (headSpec ws rm).room.slots ≤ R.slots := by rw [show (headSpec ws rm).room.slots = ms from hrs]; exact hp.2.1
  have hPc : Pc a (A.U.calling g mk a) := hblind _ _ _ _ hp.2.2
  obtain ⟨U, Ls, c0, s0⟩ := A
  dsimp only [Pt.U, Pt.locs, Pt.cells, Pt.slots] at h1 h2 h3 h4 h5 X hn hPc ⊢
  obtain ⟨methY, cY, hmY, hcY, -, hlY, -, -, -, -⟩ := Cond.code_spec hn h2
  obtain ⟨kY, hkY, -⟩ := className_of_methodNamed hn
  have hinitY : kY.init = .initialized := Cond.initialized_spec (findClass_of_methodNamed hn) hkY h3
  have h : At U g.method c below := by rw [hg]; exact X.here
  have hlocals9 : W9 + (maxL + 11) + (headSpec ws rm).room.locals ≤ R.locals := hlocals
  have happ : (headSpec ws rm).appliesLoose y e.platform (U.calling g mk a) = true :=
    Spec.appliesLoose_calling (g := g) h hdg hn hkY hinitY
      (X.room_calling (g := g) (R' := (headSpec ws rm).room) hsize hmY hcY hframes (by rw [hlY]; omega) h4 h5) h1
  obtain ⟨mid, hmid⟩ := h.above
  have hfr : (U.setTop g).frames = (.java g :: mid) ++ below := by rw [State.frames_setTop' g h.top, hmid]; rfl
  obtain ⟨o, s₂, hsteps, -, hend, hq⟩ := Steps.callFree hM p X.admits X.cas X.clock (acts := []) hfr happ hPc trivial
  have hq' : vx_Q Qc XC mc ms free a (U.calling g mk a) o s₂ := hq
  rw [State.frames_setTop' g h.top] at hend
  obtain ⟨g₀, hg0⟩ := Option.isSome_iff_exists.mp h.top
  obtain ⟨r, hr⟩ := State.topJava?_eq_some.mp hg0
  have hr' : (({ U with heap := s₂.heap, slotsUsed := s₂.slotsUsed } : State).setVm s₂.vm).frames = .java g₀ :: r := hr
  rcases hq' with ⟨hqc, L, hfe, hL⟩ | ⟨q, rfl, E, ce, L, hx, hce, hcv, hcl, hW₂, hsm, hL⟩
  · obtain ⟨⟨v, rfl⟩, hW₂, e2, q2, q3, q4, q5, q6⟩ := id hfe
    have e3 : s₂ = ({ (U.calling g mk a).setFrames s₂.frames with heap := s₂.heap, slotsUsed := s₂.slotsUsed } : State).setVm s₂.vm := by
      have : s₂ = ({ s₂ with vm := (U.calling g mk a).vm } : State).setVm s₂.vm := rfl
      rw [e2] at this
      exact this
    obtain ⟨c₂, i₂, len₂, hc₂, hd₂, hf₂⟩ := hend
    have hW' : U.WarmedH s₂.vm := hW₂
    have hcc : c₂ = c := by
      have h1 : s₂.code? g.method = U.code? g.method := by
        rw [State.code?_eq, State.code?_eq, hW'.alike.method?]
      exact Option.some.inj (hc₂.symm.trans (h1.trans h.code))
    subst hcc
    have hlen : len₂ = len := by rw [hdg] at hd₂; cases hd₂; rfl
    subst hlen
    have hs₂ : s₂ = (({ U with heap := s₂.heap, slotsUsed := s₂.slotsUsed } : State).setVm s₂.vm).setTop { g with pc := g.pc + len₂, stack := v.toList ++ g.stack } := by
      refine e3.trans ?_
      rw [hf₂, State.calling_eq h.top, State.setFrames_setFrames, State.setTop_of_frames _ hr', hr]
      rfl
    have hsame : U.sameButNew ({ U with heap := s₂.heap, slotsUsed := s₂.slotsUsed } : State) L mc ms := by
      refine ⟨?_, q2, q3, q4, q5, q6⟩
      obtain ⟨t, ht, -⟩ := State.frames_cons hr
      show ({ U with heap := s₂.heap, slotsUsed := s₂.slotsUsed } : State) = { U.setFrames U.frames with heap := s₂.heap, slotsUsed := s₂.slotsUsed }
      rw [State.setFrames_self ht]
    subst hg
    refine Or.inl ⟨v, ⟨(({ U with heap := s₂.heap, slotsUsed := s₂.slotsUsed } : State).setVm s₂.vm), Ls ++ L, c0 + mc, s0 + ms⟩,
      ⟨X.admits, X.cas, X.clock, X.frames, X.room, X.hears, X.method, X.code, (X.here.setHeapUsed s₂.heap s₂.slotsUsed).setVm hW'.alike, X.tail, State.WarmedH.trans X.warmed hW', X.limits, X.bytes, X.same.trans (hsame.setVm s.vm)⟩,
      ⟨g, mk, s₂, L, rfl, rfl, hqc, rfl, hL, rfl, rfl⟩, ?_⟩
    show Steps p.tables e below _ ((({ U with heap := s₂.heap, slotsUsed := s₂.slotsUsed } : State).setVm s₂.vm).setTop { g with pc := g.pc + len₂, stack := v.toList ++ g.stack })
    rw [← hs₂]
    exact hsteps
  · obtain ⟨e2, q2, q3, q4, q5, q6⟩ := id hsm
    have e3 : s₂ = ({ (U.calling g mk a).setFrames s₂.frames with heap := s₂.heap, slotsUsed := s₂.slotsUsed } : State).setVm s₂.vm := by
      have : s₂ = ({ s₂ with vm := (U.calling g mk a).vm } : State).setVm s₂.vm := rfl
      rw [e2] at this
      exact this
    have hf₂ : s₂.frames = .throwing q :: .java g :: U.frames.tail := hend
    have hW' : U.WarmedH s₂.vm := hW₂
    have hs₂ : s₂ = ((({ U with heap := s₂.heap, slotsUsed := s₂.slotsUsed } : State).setVm s₂.vm).setTop g).pushFrame (.throwing q) := by
      refine e3.trans ?_
      rw [hf₂, State.calling_eq h.top, State.setFrames_setFrames, State.pushFrame, State.frames_setTop _ hr', State.setTop_of_frames _ hr', State.setFrames_setFrames, hr]
      rfl
    have hsame : U.sameButNew ({ U with heap := s₂.heap, slotsUsed := s₂.slotsUsed } : State) L mc ms := by
      refine ⟨?_, q2, q3, q4, q5, q6⟩
      obtain ⟨t, ht, -⟩ := State.frames_cons hr
      show ({ U with heap := s₂.heap, slotsUsed := s₂.slotsUsed } : State) = { U.setFrames U.frames with heap := s₂.heap, slotsUsed := s₂.slotsUsed }
      rw [State.setFrames_self ht]
    subst hg
    refine Or.inr ⟨q, ⟨(({ U with heap := s₂.heap, slotsUsed := s₂.slotsUsed } : State).setVm s₂.vm), Ls ++ L, c0 + mc, s0 + ms⟩,
      ⟨X.admits, X.cas, X.clock, X.frames, X.room, X.hears, X.method, X.code, (X.here.setHeapUsed s₂.heap s₂.slotsUsed).setVm hW'.alike, X.tail, State.WarmedH.trans X.warmed hW', X.limits, X.bytes, X.same.trans (hsame.setVm s.vm)⟩,
      ⟨g, mk, s₂, L, E, ce, rfl, rfl, hx, hce, hcv, hcl, rfl, hL, rfl, rfl⟩, ?_⟩
    show Steps p.tables e below _ (((({ U with heap := s₂.heap, slotsUsed := s₂.slotsUsed } : State).setVm s₂.vm).setTop g).pushFrame (.throwing q))
    rw [← hs₂]
    exact hsteps
end Payer
section Calls
variable {p : Program} {l : Launch} {e : Env} {R : Room} {s : State} {m : MethodId} {args : Array Value} {below : List Frame} {meth : Method} {c : Code} {T : State} {locs : List Loc} {cells slots : Nat}
theorem vx_callV (X : Stand p l e R s m args below meth c T locs cells slots) (hexec : p.tables.exec = Jvm.exec) {own C : String} {index : Nat} {y : MethodName} {bytes : ByteArray} {maxL : Nat} {ret : Option FieldType}
    (hown : s.vm.findClass own = some m.cls) (hlink : (Cond.methodLink own index y).before args s = true) (hinst : (Cond.instanceMethod y).before args s = true) (hsel : (Cond.selects C y y).before args s = true)
    (hcode : (Cond.code y bytes maxL ret).before args s = true) (hy : y.cls ≠ "java/lang/invoke/MethodHandle" ∧ y.cls ≠ "java/lang/invoke/VarHandle")
    {W9 : Nat} {Pre : Pt → Array Value → Prop} {Post : Pt → Array Value → Option Value → Pt → Prop} {PostX : Pt → Array Value → Addr → Pt → Prop} (hK : vx_Back l R p e below s args y 3 W9 Pre Post PostX)
    {b : Addr} {cellB : Cell} (hcell : T.heap[b]? = some cellB) (hobj : cellB.vm.isStatics = false) (hcls : s.vm.findClass C = some cellB.cls)
    {g : JFrame} (hg : g.method = m) (hsize : g.locals.size = c.maxLocals) {argsL rest : List Value} (hlen : ∀ sig, parseMethodDescriptor y.desc = some sig → argsL.length = sig.parameters.length)
    (hstack : g.stack = argsL.reverse ++ .ref b :: rest) (hW : 2 * g.monitorRoom + (rest.map fun v => v.category).sum ≤ W9) (hdg : decode c.code g.pc = .ok (.invokevirtual index, 3))
    (hpre : ∀ vm₁, s.WarmedH vm₁ → Pre ⟨T.setVm vm₁, locs, cells, slots⟩ (Value.ref b :: argsL).toArray) :
    (∃ (v : Option Value) (vm₁ : Vm) (B : Pt), s.WarmedH vm₁ ∧ Stand p l e R s m args below meth c B.U B.locs B.cells B.slots ∧ Post ⟨T.setVm vm₁, locs, cells, slots⟩ (Value.ref b :: argsL).toArray v B ∧
      ∀ target, Steps p.tables e below (B.U.setTop { g with pc := g.pc + 3, stack := v.toList ++ rest }) target → Steps p.tables e below (T.setTop g) target) ∨
    (∃ (q : Addr) (vm₁ : Vm) (B : Pt), s.WarmedH vm₁ ∧ Stand p l e R s m args below meth c B.U B.locs B.cells B.slots ∧ PostX ⟨T.setVm vm₁, locs, cells, slots⟩ (Value.ref b :: argsL).toArray q B ∧
      Steps p.tables e below (T.setTop g) ((B.U.setTop { g with stack := rest }).pushFrame (.throwing q))) := by
  obtain ⟨mk, methM, hnamed, hmethM, hstM, habM⟩ := Cond.instanceMethod_spec hinst
  obtain ⟨methM', cM, hmethM', -, -, -, -, -, -, hsigM⟩ := Cond.code_spec hnamed hcode
  cases hmethM.symm.trans hmethM'
  obtain ⟨c2, r2, m2, q1, q2, q3, q4, kP, hkP, hkPi⟩ := Cond.selects_spec hsel
  cases hcls.symm.trans q1
  cases (State.methodFound?_of_named hnamed hy).symm.trans q2
  cases hnamed.symm.trans q3
  have hselP : selectMethod e.platform s.vm cellB.cls mk = .method mk := by rw [Launch.admits_selectMethod X.admits]; exact q4
  obtain ⟨vm₁, X₁, hstep₁⟩ := X.invokevirtual hexec hown hlink hnamed hmethM hstM hkP hkPi hy (a := b) (cell := cellB) hcell
    (fun z h => by rw [h] at hobj; cases hobj) hselP hmethM habM hkP hkPi (g := g) hg (argsL := argsL) (rest := rest) (hlen _ hsigM) hstack hdg
  rcases hK m meth c ⟨T.setVm vm₁, locs, cells, slots⟩ { g with stack := rest } (.invokevirtual index) mk (Value.ref b :: argsL).toArray X₁ hg hsize hdg hW (X₁.named hnamed) (hpre vm₁ X₁.warmed) with ⟨v, B, X', hpost, hsteps⟩ | ⟨q, B, X', hpost, hsteps⟩
  · exact Or.inl ⟨v, vm₁, B, X₁.warmed, X', hpost, fun target h => hstep₁ _ fun acts => by rw [doInvoke_state]; exact hsteps.trans h⟩
  · exact Or.inr ⟨q, vm₁, B, X₁.warmed, X', hpost, hstep₁ _ fun acts => by rw [doInvoke_state]; exact hsteps⟩
theorem vx_callS (X : Stand p l e R s m args below meth c T locs cells slots) (hexec : p.tables.exec = Jvm.exec) {own : String} {index : Nat} {y : MethodName} {bytes : ByteArray} {maxL : Nat} {ret : Option FieldType}
    (hown : s.vm.findClass own = some m.cls) (hlink : (Cond.methodLink own index y).before args s = true) (hstat : (Cond.static y).before args s = true) (hinit : (Cond.initialized y.cls).before args s = true)
    (hcode : (Cond.code y bytes maxL ret).before args s = true) (hy : y.cls ≠ "java/lang/invoke/MethodHandle" ∧ y.cls ≠ "java/lang/invoke/VarHandle")
    {W9 : Nat} {Pre : Pt → Array Value → Prop} {Post : Pt → Array Value → Option Value → Pt → Prop} {PostX : Pt → Array Value → Addr → Pt → Prop} (hK : vx_Back l R p e below s args y 3 W9 Pre Post PostX)
    {g : JFrame} (hg : g.method = m) (hsize : g.locals.size = c.maxLocals) {argsL rest : List Value} (hlen : ∀ sig, parseMethodDescriptor y.desc = some sig → argsL.length = sig.parameters.length)
    (hstack : g.stack = argsL.reverse ++ rest) (hW : 2 * g.monitorRoom + (rest.map fun v => v.category).sum ≤ W9) (hdg : decode c.code g.pc = .ok (.invokestatic index, 3))
    (hpre : ∀ vm₁, s.WarmedH vm₁ → Pre ⟨T.setVm vm₁, locs, cells, slots⟩ argsL.toArray) :
    (∃ (v : Option Value) (vm₁ : Vm) (B : Pt), s.WarmedH vm₁ ∧ Stand p l e R s m args below meth c B.U B.locs B.cells B.slots ∧ Post ⟨T.setVm vm₁, locs, cells, slots⟩ argsL.toArray v B ∧
      ∀ target, Steps p.tables e below (B.U.setTop { g with pc := g.pc + 3, stack := v.toList ++ rest }) target → Steps p.tables e below (T.setTop g) target) ∨
    (∃ (q : Addr) (vm₁ : Vm) (B : Pt), s.WarmedH vm₁ ∧ Stand p l e R s m args below meth c B.U B.locs B.cells B.slots ∧ PostX ⟨T.setVm vm₁, locs, cells, slots⟩ argsL.toArray q B ∧
      Steps p.tables e below (T.setTop g) ((B.U.setTop { g with stack := rest }).pushFrame (.throwing q))) := by
  obtain ⟨mk, hnamed⟩ := Cond.code_named hcode
  obtain ⟨methM, cM, hmethM, -, -, -, -, -, -, hsigM⟩ := Cond.code_spec hnamed hcode
  have hstatic : methM.isStatic = true := Cond.static_spec hnamed hmethM hstat
  obtain ⟨kP, hkP, -⟩ := className_of_methodNamed hnamed
  have hinitP : kP.init = .initialized := Cond.initialized_spec (findClass_of_methodNamed hnamed) hkP hinit
  obtain ⟨vm₁, X₁, hstep₁⟩ := X.invokestatic hexec hown hlink hnamed hmethM hstatic hkP hinitP hy (g := g) hg (argsL := argsL) (rest := rest) (hlen _ hsigM) hstack hdg
  rcases hK m meth c ⟨T.setVm vm₁, locs, cells, slots⟩ { g with stack := rest } (.invokestatic index) mk argsL.toArray X₁ hg hsize hdg hW (X₁.named hnamed) (hpre vm₁ X₁.warmed) with ⟨v, B, X', hpost, hsteps⟩ | ⟨q, B, X', hpost, hsteps⟩
  · exact Or.inl ⟨v, vm₁, B, X₁.warmed, X', hpost, fun target h => hstep₁ _ fun acts => by rw [doInvoke_state]; exact hsteps.trans h⟩
  · exact Or.inr ⟨q, vm₁, B, X₁.warmed, X', hpost, hstep₁ _ fun acts => by rw [doInvoke_state]; exact hsteps⟩
end Calls
theorem vx_cls {s : State} {T : State} {vm₁ : Vm} {E : String} {k : ClassId} (hW : s.WarmedH vm₁) (h : (T.setVm vm₁).vm.findClass E = some k) : s.vm.findClass E = some k := by
  have h1 : vm₁.findClass E = some k := h
  rw [hW.alike.findClass] at h1
  exact h1
/-- the method's frame g, with q thrown over it -/
def vx_W (p : Program) (l : Launch) (e : Env) (R : Room) (s : State) (m : MethodId) (args : Array Value) (below : List Frame) (meth : Method) (c : Code) (H : Heap) (locs : List Loc) (cells slots : Nat) (Q : State → Prop) (g : JFrame) (q : Addr) : Prop :=
  ∀ T : State, T.heap = H → Stand p l e R s m args below meth c T locs cells slots → ∃ t, Steps p.tables e below ((T.setTop g).pushFrame (.throwing q)) t ∧ Q t
def vx_Run (p : Program) (l : Launch) (e : Env) (R : Room) (s : State) (m : MethodId) (args : Array Value) (below : List Frame) (meth : Method) (c : Code) (H : Heap) (locs : List Loc) (cells slots mc ms : Nat) (g : JFrame) (rest : List Value) (Qa : State → Outcome → State → Prop) (XC : String → State → State → Prop) (free : Addr → Prop) : Prop :=
  ∀ T : State, T.heap = H → Stand p l e R s m args below meth c T locs cells slots →
    (∃ (v : Option Value) (st₀ t T' : State) (L : List Loc), st₀.heap = H ∧ Stand p l e R s m args below meth c T' (locs ++ L) (cells + mc) (slots + ms) ∧ (∀ q ∈ L, free q.base) ∧ T'.heap = t.heap ∧ T'.vm = t.vm ∧ Qa st₀ (.returned v) t ∧
      Goes p e below T g T' { g with pc := g.pc + 3, stack := v.toList ++ rest }) ∨
    (∃ (q : Addr) (st₀ t T' : State) (L : List Loc) (E : String) (ce : Cell), st₀.heap = H ∧ Stand p l e R s m args below meth c T' (locs ++ L) (cells + mc) (slots + ms) ∧ (∀ z ∈ L, free z.base) ∧ T'.heap = t.heap ∧ T'.vm = t.vm ∧ XC E st₀ t ∧ t.heap[q]? = some ce ∧ ce.vm = .none ∧ s.vm.findClass E = some ce.cls ∧
      Steps p.tables e below (T.setTop g) ((T'.setTop { g with stack := rest }).pushFrame (.throwing q)))
def vx_X {S : Type} (px : S → Prop) (B : String → S → State → Prop) (A : Nat → Prop) : String → State → State → Prop := fun E st t => ∃ u : S, px u ∧ B E u t ∧ va_F A st t
section Runs
variable {p : Program} {l : Launch} {e : Env} {R : Room} {s : State} {m : MethodId} {args : Array Value} {below : List Frame} {meth : Method} {c : Code} {H : Heap} {locs : List Loc} {cells slots : Nat}
variable {y : MethodName} {bytes cc : ByteArray} {maxL nL mc ms n index : Nat} {ret : Option FieldType} {ws : List Cond} {rm : Room} {Pc : Array Value → State → Prop} {Qc : Array Value → State → Outcome → State → Prop} {XC : String → State → State → Prop} {free : Addr → Prop} {Ts : List Cond} {own C : String} {b : Addr} {As rest : List Value} {g : JFrame}
theorem vx_callBack (cb : CallB R s args own index y bytes maxL ret ws rm mc ms n) (hM : vx_Met l y ws rm Pc Qc XC mc ms free) (hbl : FrameBlind Pc) : vx_Back l R p e below s args y 3 8 (PreOf R mc ms Pc) (PostOf Qc mc ms free) (vx_Post XC mc ms free) := by
  obtain ⟨hrc, hrs, hfr, hlo, hws, hcw, -, hini, -⟩ := cb
  exact vx_back (bytes := bytes) (maxL := maxL) (ret := ret) hM hbl hrc hrs hfr hlo hws hcw (fun a' U hW => word_at hW (Or.inl (by first | rfl | simp [Cond.onTables, Cond.keeps, Cond.steady])) hini)
theorem vx_runV (S : CallFix p m c cc nL s args Ts own) (hM : vx_Met l y ws rm Pc Qc XC mc ms free) (cw : CallW R s args own C index y bytes maxL ret ws rm mc ms n) (hp : PreV s H C b Pc As)
    (hg : g.method = m) (hn : As.length = n) (hsize : g.locals.size = nL) (hstack : g.stack = As.reverse ++ .ref b :: rest) (hW : 2 * g.monitorRoom + (rest.map fun v => v.category).sum ≤ 8) (hdg : decode cc g.pc = .ok (.invokevirtual index, 3)) (hf : cells + mc ≤ R.cells ∧ slots + ms ≤ R.slots) :
    vx_Run p l e R s m args below meth c H locs cells slots mc ms g rest (Qc (Value.ref b :: As).toArray) XC free := by
  have hK : vx_Back l R p e below s args y 3 8 (PreOf R mc ms Pc) (PostOf Qc mc ms free) (vx_Post XC mc ms free) := vx_callBack cw.1 hM hp.1
  obtain ⟨⟨-, -, -, -, -, -, hcode, -, hy, hlen, hl⟩, hin, hse⟩ := cw
  obtain ⟨hx, hb, hml, ho, -⟩ := S
  obtain ⟨-, ⟨cellB, hcB, hoB, hclB⟩, hPc⟩ := hp
  intro T hT X
  rcases vx_callV X hx (C := C) (bytes := bytes) (maxL := maxL) (ret := ret) ho hl hin hse hcode hy hK (by rw [hT]; exact hcB) hoB hclB hg (hsize.trans hml.symm) (argsL := As) (rest := rest) (fun sig h => hn.trans (hlen sig h)) hstack hW (by rw [hb]; exact hdg)
    (fun vm₁ hW₁ => ⟨hf.1, hf.2, hPc (T.setVm vm₁) hT hW₁⟩) with ⟨v, vm₁, ⟨U', l2, c2, s2⟩, hW₁, X', ⟨g', mk, t, L, e1, e2, hq, h1, hL, h2, h3⟩, st⟩ | ⟨q, vm₁, ⟨U', l2, c2, s2⟩, hW₁, X', ⟨g', mk, t, L, E, ce, e1, e2, hq, hce, hcv, hcl, h1, hL, h2, h3⟩, st⟩
  · dsimp only [Pt.U, Pt.locs, Pt.cells, Pt.slots] at X' e1 e2 h1 h2 h3 st
    subst h1; subst h2; subst h3
    exact Or.inl ⟨v, (T.setVm vm₁).calling g' mk (Value.ref b :: As).toArray, t, U', L, hT, X', hL, e1, e2, hq, st⟩
  · dsimp only [Pt.U, Pt.locs, Pt.cells, Pt.slots] at X' e1 e2 h1 h2 h3 st hcl
    subst h1; subst h2; subst h3
    exact Or.inr ⟨q, (T.setVm vm₁).calling g' mk (Value.ref b :: As).toArray, t, U', L, E, ce, hT, X', hL, e1, e2, hq, hce, hcv, vx_cls hW₁ hcl, st⟩
theorem vx_runS (S : CallFix p m c cc nL s args Ts own) (hM : vx_Met l y ws rm Pc Qc XC mc ms free) (cw : CallB R s args own index y bytes maxL ret ws rm mc ms n ∧ (Cond.static y).before args s = true) (hp : PreS s H Pc As)
    (hg : g.method = m) (hn : As.length = n) (hsize : g.locals.size = nL) (hstack : g.stack = As.reverse ++ rest) (hW : 2 * g.monitorRoom + (rest.map fun v => v.category).sum ≤ 8) (hdg : decode cc g.pc = .ok (.invokestatic index, 3)) (hf : cells + mc ≤ R.cells ∧ slots + ms ≤ R.slots) :
    vx_Run p l e R s m args below meth c H locs cells slots mc ms g rest (Qc As.toArray) XC free := by
  have hK : vx_Back l R p e below s args y 3 8 (PreOf R mc ms Pc) (PostOf Qc mc ms free) (vx_Post XC mc ms free) := vx_callBack cw.1 hM hp.1
  obtain ⟨⟨-, -, -, -, -, -, hcode, hini, hy, hlen, hl⟩, hstt⟩ := cw
  obtain ⟨hx, hb, hml, ho, -⟩ := S
  intro T hT X
  rcases vx_callS X hx (bytes := bytes) (maxL := maxL) (ret := ret) ho hl hstt hini hcode hy hK hg (hsize.trans hml.symm) (argsL := As) (rest := rest) (fun sig h => hn.trans (hlen sig h)) hstack hW (by rw [hb]; exact hdg)
    (fun vm₁ hW₁ => ⟨hf.1, hf.2, hp.2 (T.setVm vm₁) hT hW₁⟩) with ⟨v, vm₁, ⟨U', l2, c2, s2⟩, hW₁, X', ⟨g', mk, t, L, e1, e2, hq, h1, hL, h2, h3⟩, st⟩ | ⟨q, vm₁, ⟨U', l2, c2, s2⟩, hW₁, X', ⟨g', mk, t, L, E, ce, e1, e2, hq, hce, hcv, hcl, h1, hL, h2, h3⟩, st⟩
  · dsimp only [Pt.U, Pt.locs, Pt.cells, Pt.slots] at X' e1 e2 h1 h2 h3 st
    subst h1; subst h2; subst h3
    exact Or.inl ⟨v, (T.setVm vm₁).calling g' mk As.toArray, t, U', L, hT, X', hL, e1, e2, hq, st⟩
  · dsimp only [Pt.U, Pt.locs, Pt.cells, Pt.slots] at X' e1 e2 h1 h2 h3 st hcl
    subst h1; subst h2; subst h3
    exact Or.inr ⟨q, (T.setVm vm₁).calling g' mk As.toArray, t, U', L, E, ce, hT, X', hL, e1, e2, hq, hce, hcv, vx_cls hW₁ hcl, st⟩
end Runs
section Rows
variable {p : Program} {l : Launch} {e : Env} {R : Room} {s : State} {m : MethodId} {args : Array Value} {below : List Frame} {meth : Method} {c : Code} {H : Heap} {locs : List Loc} {cells slots : Nat} {Q : State → Prop}
variable {mc ms : Nat} {free : Addr → Prop} {A0 A1 : Nat → Prop} {H0 : Heap} {a : Array Value} {pc : Nat} {ls : Array Slot} {st0 rest : List Value}
theorem vx_keep {st₀ t T' : State} {L : List Loc} (h0 : st₀.heap = H) (e1 : T'.heap = t.heap) (hS : va_S A0 H0 H locs) (hA : ∀ q, q < H.size → A1 q → A0 q) (hf : ∀ q, free q → A0 q) (hL : ∀ q ∈ L, free q.base) (hF : va_F A1 st₀ t) :
    H.size ≤ T'.heap.size ∧ (∀ q : Nat, q < H.size → ¬ A1 q → T'.heap[q]? = H[q]?) ∧ va_S A0 H0 T'.heap (locs ++ L) := by
  obtain ⟨hz, hk⟩ := hF
  rw [h0] at hz hk
  exact ⟨by rw [e1]; exact hz, fun q h1 h2 => by rw [e1]; exact hk q h1 h2,
    ⟨Nat.le_trans hS.1 (by rw [e1]; exact hz), fun q h1 h2 => by rw [e1, hk q (Nat.lt_of_lt_of_le h1 hS.1) (fun z => h2 (hA q (Nat.lt_of_lt_of_le h1 hS.1) z))]; exact hS.2.1 q h1 h2, fun q hq => by
      rcases List.mem_append.mp hq with h | h
      · exact hS.2.2 q h
      · exact hf _ (hL q h)⟩⟩
theorem vx_calli {S SX : Type} {post : Int32 → S → Prop} {px : SX → Prop} {B : S → State → Prop} {BX : String → SX → State → Prop} {AX : Nat → Prop} (hr : vx_Run p l e R s m args below meth c H locs cells slots mc ms (F0 m pc ls st0) rest (va_Qi post B A1 a) (vx_X px BX AX) free) (hS : va_S A0 H0 H locs) (hA : ∀ q, q < H.size → A1 q → A0 q) (hf : ∀ q, free q → A0 q) (hAX : ∀ q, q < H.size → AX q → A0 q)
    (kx : ∀ (E : String) (ce : Cell) (q9 : Addr) (u : SX) (t : State) (H1 : Heap) (locs1 : List Loc), t.heap = H1 → s.vm.Alike t.vm → px u → BX E u t → H.size ≤ H1.size → (∀ q : Nat, q < H.size → ¬ AX q → H1[q]? = H[q]?) → va_S A0 H0 H1 locs1 → H1[q9]? = some ce → ce.vm = .none → s.vm.findClass E = some ce.cls → vx_W p l e R s m args below meth c H1 locs1 (cells + mc) (slots + ms) Q (F0 m pc ls rest) q9)
    (kk : ∀ (r : Int32) (u : S) (t : State) (H1 : Heap) (locs1 : List Loc), t.heap = H1 → s.vm.Alike t.vm → post r u → B u t → H.size ≤ H1.size → (∀ q : Nat, q < H.size → ¬ A1 q → H1[q]? = H[q]?) → va_S A0 H0 H1 locs1 → W p l e R s m args below meth c H1 locs1 (cells + mc) (slots + ms) Q (F0 m (pc + 3) ls (.int r :: rest))) : W p l e R s m args below meth c H locs cells slots Q (F0 m pc ls st0) := by
  intro T hT X
  rcases hr T hT X with ⟨v, st₀, t, T', L, h0, X', hL, e1, e2, ⟨⟨r, u, hv, hp, hb⟩, hF⟩, st⟩ | ⟨q, st₀, t, T', L, E, ce, h0, X', hL, e1, e2, ⟨u, hp, hb, hF⟩, hce, hcv, hcl, st⟩
  · cases hv
    obtain ⟨k1, k2, k3⟩ := vx_keep h0 e1 hS hA hf hL hF
    obtain ⟨t2, a1, b1⟩ := kk r u t T'.heap (locs ++ L) e1.symm (by rw [← e2]; exact X'.warmed.alike) hp hb k1 k2 k3 T' rfl X'
    exact ⟨t2, st t2 a1, b1⟩
  · obtain ⟨k1, k2, k3⟩ := vx_keep h0 e1 hS hAX hf hL hF
    obtain ⟨t2, a1, b1⟩ := kx E ce q u t T'.heap (locs ++ L) e1.symm (by rw [← e2]; exact X'.warmed.alike) hp hb k1 k2 k3 (by rw [e1]; exact hce) hcv hcl T' rfl X'
    exact ⟨t2, st.trans a1, b1⟩
theorem vx_calll {S SX : Type} {post : Int64 → S → Prop} {px : SX → Prop} {B : S → State → Prop} {BX : String → SX → State → Prop} {AX : Nat → Prop} (hr : vx_Run p l e R s m args below meth c H locs cells slots mc ms (F0 m pc ls st0) rest (va_Ql post B A1 a) (vx_X px BX AX) free) (hS : va_S A0 H0 H locs) (hA : ∀ q, q < H.size → A1 q → A0 q) (hf : ∀ q, free q → A0 q) (hAX : ∀ q, q < H.size → AX q → A0 q)
    (kx : ∀ (E : String) (ce : Cell) (q9 : Addr) (u : SX) (t : State) (H1 : Heap) (locs1 : List Loc), t.heap = H1 → s.vm.Alike t.vm → px u → BX E u t → H.size ≤ H1.size → (∀ q : Nat, q < H.size → ¬ AX q → H1[q]? = H[q]?) → va_S A0 H0 H1 locs1 → H1[q9]? = some ce → ce.vm = .none → s.vm.findClass E = some ce.cls → vx_W p l e R s m args below meth c H1 locs1 (cells + mc) (slots + ms) Q (F0 m pc ls rest) q9)
    (kk : ∀ (r : Int64) (u : S) (t : State) (H1 : Heap) (locs1 : List Loc), t.heap = H1 → s.vm.Alike t.vm → post r u → B u t → H.size ≤ H1.size → (∀ q : Nat, q < H.size → ¬ A1 q → H1[q]? = H[q]?) → va_S A0 H0 H1 locs1 → W p l e R s m args below meth c H1 locs1 (cells + mc) (slots + ms) Q (F0 m (pc + 3) ls (.long r :: rest))) : W p l e R s m args below meth c H locs cells slots Q (F0 m pc ls st0) := by
  intro T hT X
  rcases hr T hT X with ⟨v, st₀, t, T', L, h0, X', hL, e1, e2, ⟨⟨r, u, hv, hp, hb⟩, hF⟩, st⟩ | ⟨q, st₀, t, T', L, E, ce, h0, X', hL, e1, e2, ⟨u, hp, hb, hF⟩, hce, hcv, hcl, st⟩
  · cases hv
    obtain ⟨k1, k2, k3⟩ := vx_keep h0 e1 hS hA hf hL hF
    obtain ⟨t2, a1, b1⟩ := kk r u t T'.heap (locs ++ L) e1.symm (by rw [← e2]; exact X'.warmed.alike) hp hb k1 k2 k3 T' rfl X'
    exact ⟨t2, st t2 a1, b1⟩
  · obtain ⟨k1, k2, k3⟩ := vx_keep h0 e1 hS hAX hf hL hF
    obtain ⟨t2, a1, b1⟩ := kx E ce q u t T'.heap (locs ++ L) e1.symm (by rw [← e2]; exact X'.warmed.alike) hp hb k1 k2 k3 (by rw [e1]; exact hce) hcv hcl T' rfl X'
    exact ⟨t2, st.trans a1, b1⟩
theorem vx_callf {S SX : Type} {post : UInt32 → S → Prop} {px : SX → Prop} {B : S → State → Prop} {BX : String → SX → State → Prop} {AX : Nat → Prop} (hr : vx_Run p l e R s m args below meth c H locs cells slots mc ms (F0 m pc ls st0) rest (va_Qf post B A1 a) (vx_X px BX AX) free) (hS : va_S A0 H0 H locs) (hA : ∀ q, q < H.size → A1 q → A0 q) (hf : ∀ q, free q → A0 q) (hAX : ∀ q, q < H.size → AX q → A0 q)
    (kx : ∀ (E : String) (ce : Cell) (q9 : Addr) (u : SX) (t : State) (H1 : Heap) (locs1 : List Loc), t.heap = H1 → s.vm.Alike t.vm → px u → BX E u t → H.size ≤ H1.size → (∀ q : Nat, q < H.size → ¬ AX q → H1[q]? = H[q]?) → va_S A0 H0 H1 locs1 → H1[q9]? = some ce → ce.vm = .none → s.vm.findClass E = some ce.cls → vx_W p l e R s m args below meth c H1 locs1 (cells + mc) (slots + ms) Q (F0 m pc ls rest) q9)
    (kk : ∀ (r : UInt32) (u : S) (t : State) (H1 : Heap) (locs1 : List Loc), t.heap = H1 → s.vm.Alike t.vm → post r u → B u t → H.size ≤ H1.size → (∀ q : Nat, q < H.size → ¬ A1 q → H1[q]? = H[q]?) → va_S A0 H0 H1 locs1 → W p l e R s m args below meth c H1 locs1 (cells + mc) (slots + ms) Q (F0 m (pc + 3) ls (.float r :: rest))) : W p l e R s m args below meth c H locs cells slots Q (F0 m pc ls st0) := by
  intro T hT X
  rcases hr T hT X with ⟨v, st₀, t, T', L, h0, X', hL, e1, e2, ⟨⟨r, u, hv, hp, hb⟩, hF⟩, st⟩ | ⟨q, st₀, t, T', L, E, ce, h0, X', hL, e1, e2, ⟨u, hp, hb, hF⟩, hce, hcv, hcl, st⟩
  · cases hv
    obtain ⟨k1, k2, k3⟩ := vx_keep h0 e1 hS hA hf hL hF
    obtain ⟨t2, a1, b1⟩ := kk r u t T'.heap (locs ++ L) e1.symm (by rw [← e2]; exact X'.warmed.alike) hp hb k1 k2 k3 T' rfl X'
    exact ⟨t2, st t2 a1, b1⟩
  · obtain ⟨k1, k2, k3⟩ := vx_keep h0 e1 hS hAX hf hL hF
    obtain ⟨t2, a1, b1⟩ := kx E ce q u t T'.heap (locs ++ L) e1.symm (by rw [← e2]; exact X'.warmed.alike) hp hb k1 k2 k3 (by rw [e1]; exact hce) hcv hcl T' rfl X'
    exact ⟨t2, st.trans a1, b1⟩
theorem vx_calld {S SX : Type} {post : UInt64 → S → Prop} {px : SX → Prop} {B : S → State → Prop} {BX : String → SX → State → Prop} {AX : Nat → Prop} (hr : vx_Run p l e R s m args below meth c H locs cells slots mc ms (F0 m pc ls st0) rest (va_Qd post B A1 a) (vx_X px BX AX) free) (hS : va_S A0 H0 H locs) (hA : ∀ q, q < H.size → A1 q → A0 q) (hf : ∀ q, free q → A0 q) (hAX : ∀ q, q < H.size → AX q → A0 q)
    (kx : ∀ (E : String) (ce : Cell) (q9 : Addr) (u : SX) (t : State) (H1 : Heap) (locs1 : List Loc), t.heap = H1 → s.vm.Alike t.vm → px u → BX E u t → H.size ≤ H1.size → (∀ q : Nat, q < H.size → ¬ AX q → H1[q]? = H[q]?) → va_S A0 H0 H1 locs1 → H1[q9]? = some ce → ce.vm = .none → s.vm.findClass E = some ce.cls → vx_W p l e R s m args below meth c H1 locs1 (cells + mc) (slots + ms) Q (F0 m pc ls rest) q9)
    (kk : ∀ (r : UInt64) (u : S) (t : State) (H1 : Heap) (locs1 : List Loc), t.heap = H1 → s.vm.Alike t.vm → post r u → B u t → H.size ≤ H1.size → (∀ q : Nat, q < H.size → ¬ A1 q → H1[q]? = H[q]?) → va_S A0 H0 H1 locs1 → W p l e R s m args below meth c H1 locs1 (cells + mc) (slots + ms) Q (F0 m (pc + 3) ls (.double r :: rest))) : W p l e R s m args below meth c H locs cells slots Q (F0 m pc ls st0) := by
  intro T hT X
  rcases hr T hT X with ⟨v, st₀, t, T', L, h0, X', hL, e1, e2, ⟨⟨r, u, hv, hp, hb⟩, hF⟩, st⟩ | ⟨q, st₀, t, T', L, E, ce, h0, X', hL, e1, e2, ⟨u, hp, hb, hF⟩, hce, hcv, hcl, st⟩
  · cases hv
    obtain ⟨k1, k2, k3⟩ := vx_keep h0 e1 hS hA hf hL hF
    obtain ⟨t2, a1, b1⟩ := kk r u t T'.heap (locs ++ L) e1.symm (by rw [← e2]; exact X'.warmed.alike) hp hb k1 k2 k3 T' rfl X'
    exact ⟨t2, st t2 a1, b1⟩
  · obtain ⟨k1, k2, k3⟩ := vx_keep h0 e1 hS hAX hf hL hF
    obtain ⟨t2, a1, b1⟩ := kx E ce q u t T'.heap (locs ++ L) e1.symm (by rw [← e2]; exact X'.warmed.alike) hp hb k1 k2 k3 (by rw [e1]; exact hce) hcv hcl T' rfl X'
    exact ⟨t2, st.trans a1, b1⟩
theorem vx_callv {S SX : Type} {post : S → Prop} {px : SX → Prop} {B : S → State → Prop} {BX : String → SX → State → Prop} {AX : Nat → Prop} (hr : vx_Run p l e R s m args below meth c H locs cells slots mc ms (F0 m pc ls st0) rest (va_Qv post B A1 a) (vx_X px BX AX) free) (hS : va_S A0 H0 H locs) (hA : ∀ q, q < H.size → A1 q → A0 q) (hf : ∀ q, free q → A0 q) (hAX : ∀ q, q < H.size → AX q → A0 q)
    (kx : ∀ (E : String) (ce : Cell) (q9 : Addr) (u : SX) (t : State) (H1 : Heap) (locs1 : List Loc), t.heap = H1 → s.vm.Alike t.vm → px u → BX E u t → H.size ≤ H1.size → (∀ q : Nat, q < H.size → ¬ AX q → H1[q]? = H[q]?) → va_S A0 H0 H1 locs1 → H1[q9]? = some ce → ce.vm = .none → s.vm.findClass E = some ce.cls → vx_W p l e R s m args below meth c H1 locs1 (cells + mc) (slots + ms) Q (F0 m pc ls rest) q9)
    (kk : ∀ (u : S) (t : State) (H1 : Heap) (locs1 : List Loc), t.heap = H1 → s.vm.Alike t.vm → post u → B u t → H.size ≤ H1.size → (∀ q : Nat, q < H.size → ¬ A1 q → H1[q]? = H[q]?) → va_S A0 H0 H1 locs1 → W p l e R s m args below meth c H1 locs1 (cells + mc) (slots + ms) Q (F0 m (pc + 3) ls (rest))) : W p l e R s m args below meth c H locs cells slots Q (F0 m pc ls st0) := by
  intro T hT X
  rcases hr T hT X with ⟨v, st₀, t, T', L, h0, X', hL, e1, e2, ⟨⟨u, hv, hp, hb⟩, hF⟩, st⟩ | ⟨q, st₀, t, T', L, E, ce, h0, X', hL, e1, e2, ⟨u, hp, hb, hF⟩, hce, hcv, hcl, st⟩
  · cases hv
    obtain ⟨k1, k2, k3⟩ := vx_keep h0 e1 hS hA hf hL hF
    obtain ⟨t2, a1, b1⟩ := kk u t T'.heap (locs ++ L) e1.symm (by rw [← e2]; exact X'.warmed.alike) hp hb k1 k2 k3 T' rfl X'
    exact ⟨t2, st t2 a1, b1⟩
  · obtain ⟨k1, k2, k3⟩ := vx_keep h0 e1 hS hAX hf hL hF
    obtain ⟨t2, a1, b1⟩ := kx E ce q u t T'.heap (locs ++ L) e1.symm (by rw [← e2]; exact X'.warmed.alike) hp hb k1 k2 k3 (by rw [e1]; exact hce) hcv hcl T' rfl X'
    exact ⟨t2, st.trans a1, b1⟩
/-- caught by the row x of this method's table; the rows ahead don't take it -/
theorem vx_catch {own name : String} {E : String} {ce : Cell} {q : Addr} (hown : s.vm.findClass own = some m.cls) (pre : List ExceptionTableEntry) (x : ExceptionTableEntry) (suf : List ExceptionTableEntry) (hsplit : c.exceptionTable.toList = pre ++ x :: suf)
    (hpass : ∀ z ∈ pre, covers z pc = false ∨ (z.catchType ≠ 0 ∧ ∃ nm : String, (Cond.classLink own z.catchType nm).before args s = true ∧ va_Nc E nm s)) (hx : covers x pc = true) (h0 : x.catchType ≠ 0)
    (hlink : (Cond.classLink own x.catchType name).before args s = true) (hcast : (Cond.castable E name).before args s = true) (hcell : H[q]? = some ce) (hv : ce.vm = .none) (hcl : s.vm.findClass E = some ce.cls)
    (kk : W p l e R s m args below meth c H locs cells slots Q (F0 m x.handlerPc ls [.ref q])) : vx_W p l e R s m args below meth c H locs cells slots Q (F0 m pc ls rest) q := by
  intro T hT X
  have hpl : e.platform.magicAccessors = ({} : Platform).magicAccessors := by rw [X.admits.platform]
  obtain ⟨c3, c4, hc3, hc4, hasg⟩ := Cond.castable_spec hcast
  cases Option.some.inj (hc3.symm.trans hcl)
  obtain ⟨c5, hc5, hcl5⟩ := Cond.classLink_spec hown hlink e.platform hpl
  cases Option.some.inj (hc4.symm.trans hc5)
  obtain ⟨vm', X', st⟩ := X.thenCaughtThrough q (g := F0 m pc ls rest) rfl (Steps.refl _) (by rw [hT]; exact hcell) (by rw [hv]; rfl) (by obtain ⟨k9, h9, -⟩ := Vm.findClass_spec hcl; exact ⟨k9, h9⟩) pre x suf hsplit
    (fun z hz => by
      rcases hpass z hz with h | ⟨hz0, nm, hl1, hn1⟩
      · exact Or.inl h
      · obtain ⟨c6, hc6, hcl6⟩ := Cond.classLink_spec hown hl1 e.platform hpl
        obtain ⟨a8, b8, h1, h2, h3⟩ := hn1
        cases Option.some.inj (h1.symm.trans hcl)
        cases Option.some.inj (h2.symm.trans hc6)
        exact Or.inr ⟨hz0, _, hcl6, h3⟩) hx (Or.inr ⟨h0, c4, hcl5, hasg⟩)
  obtain ⟨t, a1, b1⟩ := kk (T.setVm vm') hT X'
  exact ⟨t, st.trans a1, b1⟩
end Rows
section Ends
variable {p : Program} {l : Launch} {e : Env} {R : Room} {s : State} {m : MethodId} {args : Array Value} {below : List Frame} {meth : Method} {c : Code} {H : Heap} {locs : List Loc} {cells slots : Nat} {Q : State → Prop}
variable {mc ms : Nat} {free : Addr → Prop} {A0 A1 : Nat → Prop} {H0 : Heap} {a : Array Value} {ls : Array Slot} {st0 rest : List Value}
variable {Qc : Array Value → State → Outcome → State → Prop} {XC : String → State → State → Prop}
/-- what a body that may throw owes at its end -/
def vx_MQ (below : List Frame) (Qc : Array Value → State → Outcome → State → Prop) (XC : String → State → State → Prop) (a : Array Value) (s : State) (mc ms : Nat) (free : Addr → Prop) : State → Prop := fun t =>
  ∃ o, t.status = .running ∧ Ended t below o ∧ vx_Q Qc XC mc ms free a s o t
theorem vx_ret {g : JFrame} {mc ms : Nat} (k : W p l e R s m args below meth c H locs cells slots (MQ below Qc args s mc ms free) g) : W p l e R s m args below meth c H locs cells slots (vx_MQ below Qc XC args s mc ms free) g := by
  intro T hT X
  obtain ⟨t, a1, o, b1, b2, b3, b4⟩ := k T hT X
  exact ⟨t, a1, o, b1, b2, Or.inl ⟨b3, b4⟩⟩
/-- not caught here: it goes on to the caller -/
theorem vx_widen {g : JFrame} {q : Addr} {k n : Nat} (h1 : cells ≤ k) (h2 : slots ≤ n) (kk : vx_W p l e R s m args below meth c H locs k n Q g q) : vx_W p l e R s m args below meth c H locs cells slots Q g q := fun T hT X => kk T hT (stand_widen X h1 h2)
theorem vx_out {pc : Nat} {E : String} {ce : Cell} {q : Addr} {mc ms : Nat} (hout : ∀ x ∈ c.exceptionTable.toList, covers x pc = false) (hlocks : meth.locks = false) (hcell : H[q]? = some ce) (hv : ce.vm = .none) (hcl : s.vm.findClass E = some ce.cls)
    (hx : ∀ t : State, t.heap = H → s.vm.Alike t.vm → XC E s t) (hf : ∀ z ∈ locs, free z.base) (hc : cells ≤ mc) (hs : slots ≤ ms) :
    vx_W p l e R s m args below meth c H locs cells slots (vx_MQ below Qc XC args s mc ms free) (F0 m pc ls rest) q := by
  intro T hT X
  obtain ⟨st1, hrun, hend, hW, hsm⟩ := X.leaveThrown q (g := F0 m pc ls rest) rfl rfl rfl hout hlocks
  have hcell9 : (T.setFrames (.throwing q :: below)).heap[q]? = some ce := by
    show T.heap[q]? = some ce
    rw [hT]; exact hcell
  exact ⟨_, st1, .threw q, hrun, hend, Or.inr ⟨q, rfl, E, ce, locs, hx _ hT hW.alike, hcell9, hv, hcl, hW, hsm.mono hc hs, hf⟩⟩
theorem vx_frame {U : State} {k n : Nat} (h : s.sameButNew ({ U with vm := s.vm } : State) locs k n) : s.heap.size ≤ U.heap.size ∧ ∀ q : Nat, q < s.heap.size → (∀ z ∈ locs, z.base ≠ q) → U.heap[q]? = s.heap[q]? := by
  obtain ⟨-, h2, -, -, -, h6⟩ := h
  refine ⟨h2, fun q hq hz => ?_⟩
  obtain ⟨c9, e1, e2, e3, e4⟩ := h6 q _ (Array.getElem?_eq_getElem hq)
  have hs : c9.slots = (s.heap[q]).slots := Array.ext_getElem? fun i => e4 i fun hm => hz _ hm rfl
  have h9 : c9 = s.heap[q] := by
    rw [hs] at e2
    exact e2
  have e5 : U.heap[q]? = some c9 := e1
  rw [e5, h9, Array.getElem?_eq_getElem hq]
/-- the words of a throw but the four that speak of the heap -/
def vx_no (w : Cond) : Bool := decide (w ≠ .isRef (.static Bundle.tN "UNASSIGNED_STACK" Bundle.steD)) && decide (w ≠ .isRef (.static Bundle.tN "SUPPRESSED_SENTINEL" Bundle.listD)) && decide (w ≠ .laysStatic Bundle.tN "UNASSIGNED_STACK" Bundle.steD) && decide (w ≠ .laysStatic Bundle.tN "SUPPRESSED_SENTINEL" Bundle.listD)
def vx_at0 (own : String) (ic : Nat) (X : String) (names : List String) : List Cond := (Bundle.ownAtoms0 own ic X names).filter vx_no
def vx_atS (own : String) (ic : Nat) (X : String) (names : List String) : List Cond := (Bundle.ownAtoms own ic X names).filter vx_no
/-- a word that the tables alone decide, or a good one -/
def vx_ot (w : Cond) : Bool := w.onTables || goodWord w
theorem vx_ot_at {args a' : Array Value} {s U : State} {w : Cond} (hW : s.WarmedH U.vm) (hvm : s.vm = U.vm) (hg : vx_ot w = true) (h : w.before args s = true) : w.before a' U = true := by
  simp only [vx_ot, Bool.or_eq_true] at hg
  rcases hg with hg | hg
  · exact va_tabs hg hvm h
  · exact word_at hW (good_of_word hg) h
/-- a list's words: the good ones out of the method's own list, the others by premises of their own -/
theorem vx_hat {args : Array Value} {s : State} {L B : List Cond} (h1 : ∀ w ∈ L.filter goodWord, w.before args s = true) (h2 : ∀ w ∈ L.filter (fun w => !goodWord w), w ∈ B) (h3 : ∀ w ∈ B, w.before args s = true) : ∀ w ∈ L, w.before args s = true := by
  intro w hw
  by_cases g : goodWord w = true
  · exact h1 w (List.mem_filter.mpr ⟨hw, g⟩)
  · refine h3 w (h2 w (List.mem_filter.mpr ⟨hw, ?_⟩))
    show (!goodWord w) = true
    cases hgw : goodWord w
    · rfl
    · exact absurd hgw g
theorem vx_c {args : Array Value} {s : State} {w : Cond} {B : List Cond} (h : w.before args s = true) (t : ∀ w ∈ B, w.before args s = true) : ∀ w' ∈ w :: B, w'.before args s = true := fun w' h' => (List.mem_cons.mp h').elim (fun e => by rw [e]; exact h) (t w')
theorem vx_n {args : Array Value} {s : State} : ∀ w ∈ ([] : List Cond), w.before args s = true := fun _ h => nomatch h
theorem vx_own {args : Array Value} {s : State} {L : List Cond} (h1 : ∀ w ∈ L.filter vx_no, w.before args s = true)
    (hU : (Cond.isRef (.static Bundle.tN "UNASSIGNED_STACK" Bundle.steD)).before args s = true) (hN : (Cond.isRef (.static Bundle.tN "SUPPRESSED_SENTINEL" Bundle.listD)).before args s = true)
    (lU : (Cond.laysStatic Bundle.tN "UNASSIGNED_STACK" Bundle.steD).before args s = true) (lN : (Cond.laysStatic Bundle.tN "SUPPRESSED_SENTINEL" Bundle.listD).before args s = true) : ∀ w ∈ L, w.before args s = true := by
  intro w hw
  by_cases e1 : w = .isRef (.static Bundle.tN "UNASSIGNED_STACK" Bundle.steD)
  · rw [e1]; exact hU
  · by_cases e2 : w = .isRef (.static Bundle.tN "SUPPRESSED_SENTINEL" Bundle.listD)
    · rw [e2]; exact hN
    · by_cases e3 : w = .laysStatic Bundle.tN "UNASSIGNED_STACK" Bundle.steD
      · rw [e3]; exact lU
      · by_cases e4 : w = .laysStatic Bundle.tN "SUPPRESSED_SENTINEL" Bundle.listD
        · rw [e4]; exact lN
        · exact h1 w (List.mem_filter.mpr ⟨hw, by unfold vx_no; rw [decide_eq_true e1, decide_eq_true e2, decide_eq_true e3, decide_eq_true e4]; rfl⟩)
/-- where a static field lies, its class's statics cell in H -/
def vx_L (C n d : String) (A : Nat → Prop) (U : State) (H : Heap) : Prop := ∃ (c : ClassId) (k : Class) (i : Nat) (f : Field) (a : Nat) (cell : Cell), U.vm.findClass C = some c ∧ U.fieldFound? C n d = some (c, k, i, f) ∧ f.isStatic = true ∧ k.statics = some a ∧ H[a]? = some cell ∧ cell.vm.isStatics = true ∧ cell.cls = c ∧ f.slot < cell.slots.size ∧ k.staticTypes[f.slot]? = some f.type ∧ ¬ A a
theorem vx_L.moved {C n d : String} {A : Nat → Prop} {u U : State} {H : Heap} (hvm : u.vm.Alike U.vm) (h : vx_L C n d A u H) : vx_L C n d A U H := by
  obtain ⟨c, k, i, f, a, cell, h1, h2, h3, h4, h5, h6, h7, h8, h9, h10⟩ := h
  obtain ⟨k', hi', he⟩ := State.fieldFound?_setVm hvm h2
  exact ⟨c, k', i, f, a, cell, by rw [hvm.findClass]; exact h1, hi', h3, by rw [he]; exact h4, h5, h6, h7, h8, by rw [he]; exact h9, h10⟩
theorem vx_L.kept {C n d : String} {A : Nat → Prop} {U : State} {H H1 : Heap} (h : vx_L C n d A U H) (hq : ∀ a : Nat, a < H.size → ¬ A a → H1[a]? = H[a]?) : vx_L C n d A U H1 := by
  obtain ⟨c, k, i, f, a, cell, h1, h2, h3, h4, h5, h6, h7, h8, h9, h10⟩ := h
  exact ⟨c, k, i, f, a, cell, h1, h2, h3, h4, by rw [hq a (Array.getElem?_eq_some_iff.mp h5).1 h10]; exact h5, h6, h7, h8, h9, h10⟩
theorem vx_L.narrow {C n d : String} {A B : Nat → Prop} {U : State} {H : Heap} (h : vx_L C n d A U H) (hAB : ∀ q, B q → A q) : vx_L C n d B U H := by
  obtain ⟨c, k, i, f, a, cell, h1, h2, h3, h4, h5, h6, h7, h8, h9, h10⟩ := h
  exact ⟨c, k, i, f, a, cell, h1, h2, h3, h4, h5, h6, h7, h8, h9, fun z => h10 (hAB _ z)⟩
theorem vx_L.word {C n d : String} {A : Nat → Prop} {s : State} {args : Array Value} (h : vx_L C n d A s s.heap) : (Cond.laysStatic C n d).before args s = true := by
  obtain ⟨c, k, i, f, a, cell, h1, h2, h3, h4, h5, h6, h7, h8, h9, -⟩ := h
  show (Cond.laysStatic C n d).holds args s none s [] = true
  exact Cond.laysStatic_of h1 h2 h3 h4 h5 h6 h7 h8 h9
/-- .. and what it holds: null or some reference -/
def vx_Zq (C n d : String) (A : Nat → Prop) (U : State) (H : Heap) : Prop := va_Zq C n d A U H ∧ vx_L C n d A U H
theorem vx_Zq.moved {C n d : String} {A : Nat → Prop} {u U : State} {H : Heap} (hvm : u.vm.Alike U.vm) (h : vx_Zq C n d A u H) : vx_Zq C n d A U H := ⟨va_Zq.moved hvm h.1, vx_L.moved hvm h.2⟩
theorem vx_Zq.kept {C n d : String} {A : Nat → Prop} {U : State} {H H1 : Heap} (h : vx_Zq C n d A U H) (hq : ∀ a : Nat, a < H.size → ¬ A a → H1[a]? = H[a]?) : vx_Zq C n d A U H1 := ⟨va_Zq.kept h.1 hq, vx_L.kept h.2 hq⟩
theorem vx_Zq.narrow {C n d : String} {A B : Nat → Prop} {U : State} {H : Heap} (h : vx_Zq C n d A U H) (hAB : ∀ q, B q → A q) : vx_Zq C n d B U H := ⟨va_Zq.narrow h.1 hAB, vx_L.narrow h.2 hAB⟩
theorem vx_Zqof {args : Array Value} {s : State} {C n d : String} {A : Nat → Prop} (hl : (Cond.laysStatic C n d).before args s = true) (hini : (Cond.initialized C).before args s = true) (h : (Cond.isRef (.static C n d)).before args s = true) (hA : ∀ a : Nat, a < s.heap.size → ¬ A a) : vx_Zq C n d A s s.heap := by
  refine ⟨va_Zqof hl hini h hA, ?_⟩
  obtain ⟨c, k, i, f, a, cell, h1, h2, h3, h4, h5, h6, h7, h8, h9⟩ := Cond.laysStatic_spec hl
  exact ⟨c, k, i, f, a, cell, h1, h2, h3, h4, h5, h6, h7, h8, h9, hA a (Array.getElem?_eq_some_iff.mp h5).1⟩
theorem vx_isRef {C n d : String} {v : Value} {A : Nat → Prop} {s : State} {args : Array Value} (h : va_Z C n d v A s s.heap) (hv : v.isRef = true) : (Cond.isRef (.static C n d)).before args s = true := by
  obtain ⟨cf, kf, fi, f, a, cell, h1, h2, h3, h4, h5, h6, h7, -⟩ := h
  have he : (Term.static C n d).eval args s none [] s = some v := by
    simp [Term.eval, State.fieldNamed?, h1, h2, h4, h5, h6, h7]
  simp only [Cond.before, Cond.holds, Cond.value, he]
  cases v <;> simp_all [Value.isRef]
theorem vx_isRefq {C n d : String} {A : Nat → Prop} {s : State} {args : Array Value} (h : va_Zq C n d A s s.heap) : (Cond.isRef (.static C n d)).before args s = true := by
  rcases h with h | ⟨t, h⟩
  · exact vx_isRef h rfl
  · exact vx_isRef h rfl
/-- the same frame, seen from here: as if the method were called anew in this heap -/
theorem vx_rebase {T : State} (X : Stand p l e R s m args below meth c T locs cells slots) {R' : Room} (hf : R'.frames ≤ R.frames) (hl : R'.locals ≤ R.locals) (hc : cells + R'.cells ≤ R.cells) (hs : slots + R'.slots ≤ R.slots) :
    Stand p l e R' ((T.setVm s.vm).setFrames (.invoking m args :: below)) m args below meth c T [] 0 0 := by
  have htop : (T.setVm s.vm).topJava?.isSome := X.here.top
  have hF : ((T.setVm s.vm).setFrames (.invoking m args :: below)).frames = .invoking m args :: below := State.frames_setFrames _ (State.cur_lt_of_top htop)
  obtain ⟨g₀, hg0⟩ := Option.isSome_iff_exists.mp htop
  obtain ⟨r, hr⟩ := State.topJava?_eq_some.mp hg0
  have hl9 : e.platform.stackLimits (T.setVm s.vm).me = e.platform.stackLimits s.me := X.limits
  have hb9 : (T.setVm s.vm).me.stackBytes = s.me.stackBytes := X.bytes
  refine ⟨X.admits, X.cas, X.clock, hF, ?_, X.hears, X.method, X.code, X.here, X.tail, X.warmed, ?_, ?_, ?_⟩
  · have h := X.room
    have hU : ((T.setVm s.vm).setFrames (.invoking m args :: below)).localsInUse = s.localsInUse := by
      rw [State.localsInUse_invoking hF (meth := meth) (c := c) X.method X.code, State.localsInUse_invoking X.frames X.method X.code]
    simp only [State.hasRoom, Bool.and_eq_true, decide_eq_true_eq] at h ⊢
    obtain ⟨⟨⟨⟨h1, h2, h3, h4, h5, h6⟩, h7⟩, h8⟩, h9⟩ := h
    rw [X.frames, List.length_cons] at h2 h3
    have q1 := X.heapSize
    have q2 := X.used
    simp only [hF, hU, List.length_cons, State.stackLimits_setFrames, State.stackBytes_setFrames, hl9, hb9]
    refine ⟨⟨⟨⟨by omega, by omega, by omega, by omega, by omega, h6⟩, ?_⟩, ?_⟩, X.book⟩
    · show T.heap.size + R'.cells ≤ e.platform.maxCells
      omega
    · show T.slotsUsed + R'.slots ≤ e.platform.maxSlots
      omega
  · rw [State.stackLimits_setFrames]; rfl
  · rw [State.stackBytes_setFrames]; rfl
  · refine ⟨?_, Nat.le_refl _, Nat.le_refl _, ?_, ?_, fun a c9 h9 => ⟨c9, h9, rfl, rfl, fun _ _ => rfl⟩⟩
    · obtain ⟨t, ht, -⟩ := State.frames_cons hr
      show T.setVm s.vm = { ((T.setVm s.vm).setFrames (.invoking m args :: below)).setFrames (T.setVm s.vm).frames with heap := T.heap, slotsUsed := T.slotsUsed }
      rw [State.setFrames_setFrames, State.setFrames_self ht]
      rfl
    · show T.slotsUsed = T.slotsUsed + ((T.heap.toList.drop T.heap.size).map (·.slots.size)).sum
      rw [List.drop_eq_nil_of_le (Nat.le_of_eq Array.length_toList)]
      rfl
    · show ((T.heap.toList.drop T.heap.size).map (·.slots.size)).sum ≤ 0
      rw [List.drop_eq_nil_of_le (Nat.le_of_eq Array.length_toList)]
      exact Nat.le_refl _
/-- 'throw new E()': new; dup; invokespecial; athrow -/
theorem vx_throw0 {cc : ByteArray} {pc : Nat} (hexec : p.tables.exec = Jvm.exec) (hb : c.code = cc) (hl : l.stackTraces = false) {own cls : String} {names : List String} {ik ic mc ms : Nat} {A : Nat → Prop}
    (hown : s.vm.findClass own = some m.cls) (hcls : Bundle.fit cls = true) (hnames : ∀ n ∈ names, Bundle.fit n = true)
    (hk : (Cond.classLink own ik cls).before args s = true) (hini : (Cond.initialized cls).before args s = true) (hat : ∀ w ∈ vx_at0 own ic cls names, w.before args s = true)
    (hgood : ∀ w ∈ Cond.classLink own ik cls :: Cond.initialized cls :: vx_at0 own ic cls names, vx_ot w = true)
    (hU : vx_Zq Bundle.tN "UNASSIGNED_STACK" Bundle.steD A s s.heap) (hN : vx_Zq Bundle.tN "SUPPRESSED_SENTINEL" Bundle.listD A s s.heap) (hS : va_S A s.heap H locs) (hsize : ls.size = c.maxLocals)
    (d0 : decode cc pc = .ok (.new ik, 3)) (d3 : decode cc (pc + 3) = .ok (.dup, 1)) (d4 : decode cc (pc + 4) = .ok (.invokespecial ic, 3)) (d7 : decode cc (pc + 7) = .ok (.athrow, 1))
    (hout : ∀ x ∈ c.exceptionTable.toList, covers x (pc + 7) = false)
    (hRframes : names.length + 3 < R.frames) (hRlocals : (rest.map fun v => v.category).sum + (13 * (names.length + 1) + 42) ≤ R.locals) (hRcells : cells + 1 ≤ R.cells) (hRslots : slots + 6 ≤ R.slots) (hlocks : meth.locks = false)
    (hx : ∀ t : State, s.vm.Alike t.vm → H.size ≤ t.heap.size → (∀ q : Nat, q < H.size → t.heap[q]? = H[q]?) → XC cls s t)
    (hf : ∀ z ∈ locs, free z.base) (hc : cells + 1 ≤ mc) (hs : slots + 6 ≤ ms) :
    W p l e R s m args below meth c H locs cells slots (vx_MQ below Qc XC args s mc ms free) (F0 m pc ls rest) := by
  intro T hT X
  have htr : e.platform.stackTraces = false := (show e.platform.stackTraces = l.stackTraces by rw [X.admits.platform]).trans hl
  have Y := vx_rebase X (R' := { frames := R.frames, locals := R.locals, cells := 1, slots := 6 }) (Nat.le_refl _) (Nat.le_refl _) hRcells hRslots
  obtain ⟨s', hA⟩ : ∃ z, z = (T.setVm s.vm).setFrames (.invoking m args :: below) := ⟨_, rfl⟩
  rw [← hA] at Y
  have hvm : s'.vm = s.vm := by rw [hA]; rfl
  have hhp : s'.heap = H := by rw [hA]; exact hT
  have hW0 : s.WarmedH s'.vm := by rw [hvm]; exact State.WarmedH.refl s
  have hat' : ∀ w ∈ vx_at0 own ic cls names, w.before args s' = true := fun w hw => vx_ot_at hW0 hvm.symm (hgood w (List.mem_cons_of_mem _ (List.mem_cons_of_mem _ hw))) (hat w hw)
  have hk' : (Cond.classLink own ik cls).before args s' = true := vx_ot_at hW0 hvm.symm (hgood _ List.mem_cons_self) hk
  have hini' : (Cond.initialized cls).before args s' = true := vx_ot_at hW0 hvm.symm (hgood _ (List.mem_cons_of_mem _ List.mem_cons_self)) hini
  have hU' : vx_Zq Bundle.tN "UNASSIGNED_STACK" Bundle.steD A s' s'.heap := by rw [hhp]; exact vx_Zq.moved hW0.alike (hU.kept hS.2.1)
  have hN' : vx_Zq Bundle.tN "SUPPRESSED_SENTINEL" Bundle.listD A s' s'.heap := by rw [hhp]; exact vx_Zq.moved hW0.alike (hN.kept hS.2.1)
  have h : ∀ w ∈ Bundle.ownAtoms0 own ic cls names, w.before args s' = true := vx_own hat' (vx_isRefq hU'.1) (vx_isRefq hN'.1) hU'.2.word hN'.2.word
  have hown' : s'.vm.findClass own = some m.cls := by rw [hvm]; exact hown
  have hins : (Cond.instantiable cls 6).before args s' = true := h _ (by simp [Bundle.ownAtoms0])
  obtain ⟨vm₁, cX, kX, hfX, hkX, -, -, X₁, st1⟩ := Y.newCold hexec (own := own) (C := cls) (index := ik) (n := 6) hown' hk' hins hini'
    (g := F0 m pc ls rest) rfl (by rw [hb]; exact d0) (Nat.le_refl _) (Nat.le_refl _)
  generalize hT1 : (T.setVm vm₁).pushCell { cls := cX, slots := kX.instanceTypes.map defaultValue, vm := .none } = T1 at X₁ st1
  have hcat : (Value.ref T.heap.size).category = 1 := rfl
  have hcellA : T1.heap[T.heap.size]? = some (freshCell cX kX) := by rw [← hT1]; exact State.heap_pushCell_size _ _
  have d3' : decode c.code (pc + 3) = .ok (.dup, 1) := by rw [hb]; exact d3
  obtain ⟨U, hsteps, hrun, hend, hW, hsame, ce, hce, hO⟩ := X₁.ctorThrow0 hexec htr (own := own) (cls := cls) (names := names) (ic := ic) hown' hcls hnames h (fun x hx => nomatch hx) hfX hkX hcellA (by rw [hhp, hT]; exact Nat.le_refl _)
    (g := { method := m, pc := pc + 4, locals := ls, stack := .ref T.heap.size :: .ref T.heap.size :: rest, locked := none }) rfl hsize rfl rfl (rest := rest) rfl
    (by rw [hb]; exact d4) (by rw [hb]; exact d7) hout hRframes (by simp only [List.map_cons, List.sum_cons, hcat]; omega) hlocks
  obtain ⟨f1, f2⟩ := vx_frame hsame
  rw [hhp] at f1 f2
  have hWs : s.WarmedH U.vm := State.WarmedH.trans hW0 hW
  have hcl : s.vm.findClass cls = some ce.cls := by
    have h9 := hO.cls
    rw [hvm] at h9
    exact h9
  have hall : s.sameButNew ({ U with vm := s.vm } : State) locs mc ms := by
    subst hA
    obtain ⟨e1, e2⟩ := hsame
    rw [State.setFrames_setFrames] at e1
    have h2 : (T.setVm s.vm).sameButNew ({ U with vm := s.vm } : State) [] (0 + 1) (0 + 6) := ⟨e1, e2⟩
    have h3 := X.same.trans h2
    rw [List.append_nil] at h3
    exact h3.mono hc hs
  refine ⟨U, ?_, .threw T.heap.size, hrun, hend, Or.inr ⟨T.heap.size, rfl, cls, ce, locs, hx U hWs.alike f1 (fun q hq => f2 q hq (fun z hz => nomatch hz)), hce, hO.vm, hcl, hWs, hall, hf⟩⟩
  refine st1 _ ?_
  show Steps p.tables e below (T1.setTop { method := m, pc := pc + 3, locals := ls, stack := .ref T.heap.size :: rest, locked := none }) _
  jvm_step X₁.here [X₁.here.top, hexec, d3', Value.category]
  exact hsteps
/-- 'throw new E("text")': new; dup; ldc; invokespecial; athrow -/
theorem vx_throwS {cc : ByteArray} {pc : Nat} (hexec : p.tables.exec = Jvm.exec) (hb : c.code = cc) (hl : l.stackTraces = false) {own cls text : String} {names : List String} {ik is ic mc ms sa : Nat} {A : Nat → Prop}
    (hown : s.vm.findClass own = some m.cls) (hcls : Bundle.fit cls = true) (hnames : ∀ n ∈ names, Bundle.fit n = true)
    (hk : (Cond.classLink own ik cls).before args s = true) (hini : (Cond.initialized cls).before args s = true) (hstr : vk_R own is text sa s) (hat : ∀ w ∈ vx_atS own ic cls names, w.before args s = true)
    (hgood : ∀ w ∈ Cond.classLink own ik cls :: Cond.initialized cls :: vx_atS own ic cls names, vx_ot w = true)
    (hU : vx_Zq Bundle.tN "UNASSIGNED_STACK" Bundle.steD A s s.heap) (hN : vx_Zq Bundle.tN "SUPPRESSED_SENTINEL" Bundle.listD A s s.heap) (hS : va_S A s.heap H locs) (hsize : ls.size = c.maxLocals)
    (d0 : decode cc pc = .ok (.new ik, 3)) (d3 : decode cc (pc + 3) = .ok (.dup, 1)) (d4 : decode cc (pc + 4) = .ok (.ldc is, 2)) (d6 : decode cc (pc + 6) = .ok (.invokespecial ic, 3)) (d9 : decode cc (pc + 9) = .ok (.athrow, 1))
    (hout : ∀ x ∈ c.exceptionTable.toList, covers x (pc + 9) = false)
    (hRframes : names.length + 3 < R.frames) (hRlocals : (rest.map fun v => v.category).sum + (13 * (names.length + 1) + 43) ≤ R.locals) (hRcells : cells + 1 ≤ R.cells) (hRslots : slots + 6 ≤ R.slots) (hlocks : meth.locks = false)
    (hx : ∀ t : State, s.vm.Alike t.vm → H.size ≤ t.heap.size → (∀ q : Nat, q < H.size → t.heap[q]? = H[q]?) → XC cls s t)
    (hf : ∀ z ∈ locs, free z.base) (hc : cells + 1 ≤ mc) (hs : slots + 6 ≤ ms) :
    W p l e R s m args below meth c H locs cells slots (vx_MQ below Qc XC args s mc ms free) (F0 m pc ls rest) := by
  intro T hT X
  have htr : e.platform.stackTraces = false := (show e.platform.stackTraces = l.stackTraces by rw [X.admits.platform]).trans hl
  have Y := vx_rebase X (R' := { frames := R.frames, locals := R.locals, cells := 1, slots := 6 }) (Nat.le_refl _) (Nat.le_refl _) hRcells hRslots
  obtain ⟨s', hA⟩ : ∃ z, z = (T.setVm s.vm).setFrames (.invoking m args :: below) := ⟨_, rfl⟩
  rw [← hA] at Y
  have hvm : s'.vm = s.vm := by rw [hA]; rfl
  have hhp : s'.heap = H := by rw [hA]; exact hT
  have hW0 : s.WarmedH s'.vm := by rw [hvm]; exact State.WarmedH.refl s
  have hat' : ∀ w ∈ vx_atS own ic cls names, w.before args s' = true := fun w hw => vx_ot_at hW0 hvm.symm (hgood w (List.mem_cons_of_mem _ (List.mem_cons_of_mem _ hw))) (hat w hw)
  have hk' : (Cond.classLink own ik cls).before args s' = true := vx_ot_at hW0 hvm.symm (hgood _ List.mem_cons_self) hk
  have hini' : (Cond.initialized cls).before args s' = true := vx_ot_at hW0 hvm.symm (hgood _ (List.mem_cons_of_mem _ List.mem_cons_self)) hini
  have hU' : vx_Zq Bundle.tN "UNASSIGNED_STACK" Bundle.steD A s' s'.heap := by rw [hhp]; exact vx_Zq.moved hW0.alike (hU.kept hS.2.1)
  have hN' : vx_Zq Bundle.tN "SUPPRESSED_SENTINEL" Bundle.listD A s' s'.heap := by rw [hhp]; exact vx_Zq.moved hW0.alike (hN.kept hS.2.1)
  have h : ∀ w ∈ Bundle.ownAtoms own ic cls names, w.before args s' = true := vx_own hat' (vx_isRefq hU'.1) (vx_isRefq hN'.1) hU'.2.word hN'.2.word
  have hown' : s'.vm.findClass own = some m.cls := by rw [hvm]; exact hown
  have hins : (Cond.instantiable cls 6).before args s' = true := h _ (by simp [Bundle.ownAtoms])
  obtain ⟨vm₁, cX, kX, hfX, hkX, -, -, X₁, st1⟩ := Y.newCold hexec (own := own) (C := cls) (index := ik) (n := 6) hown' hk' hins hini'
    (g := F0 m pc ls rest) rfl (by rw [hb]; exact d0) (Nat.le_refl _) (Nat.le_refl _)
  generalize hT1 : (T.setVm vm₁).pushCell { cls := cX, slots := kX.instanceTypes.map defaultValue, vm := .none } = T1 at X₁ st1
  have hcat : (Value.ref T.heap.size).category = 1 := rfl
  have hcellA : T1.heap[T.heap.size]? = some (freshCell cX kX) := by rw [← hT1]; exact State.heap_pushCell_size _ _
  have d3' : decode c.code (pc + 3) = .ok (.dup, 1) := by rw [hb]; exact d3
  have d4' : decode c.code (pc + 4) = .ok (.ldc is, 2) := by rw [hb]; exact d4
  have hstr' : vk_R own is text sa s' := vk_R.warm hW0 hstr
  obtain ⟨U, hsteps, hrun, hend, hW, hsame, ce, hce, hO⟩ := X₁.ctorThrowS hexec htr (own := own) (cls := cls) (names := names) (ic := ic) hown' hcls hnames h (fun x hx => nomatch hx) hfX hkX hcellA (by rw [hhp, hT]; exact Nat.le_refl _) (msg := .ref sa) rfl
    (g := { method := m, pc := pc + 6, locals := ls, stack := .ref sa :: .ref T.heap.size :: .ref T.heap.size :: rest, locked := none }) rfl hsize rfl rfl (rest := rest) rfl
    (by rw [hb]; exact d6) (by rw [hb]; exact d9) hout hRframes (by simp only [List.map_cons, List.sum_cons, hcat]; omega) hlocks
  obtain ⟨f1, f2⟩ := vx_frame hsame
  rw [hhp] at f1 f2
  have hWs : s.WarmedH U.vm := State.WarmedH.trans hW0 hW
  have hcl : s.vm.findClass cls = some ce.cls := by
    have h9 := hO.cls
    rw [hvm] at h9
    exact h9
  have hall : s.sameButNew ({ U with vm := s.vm } : State) locs mc ms := by
    subst hA
    obtain ⟨e1, e2⟩ := hsame
    rw [State.setFrames_setFrames] at e1
    have h2 : (T.setVm s.vm).sameButNew ({ U with vm := s.vm } : State) [] (0 + 1) (0 + 6) := ⟨e1, e2⟩
    have h3 := X.same.trans h2
    rw [List.append_nil] at h3
    exact h3.mono hc hs
  refine ⟨U, ?_, .threw T.heap.size, hrun, hend, Or.inr ⟨T.heap.size, rfl, cls, ce, locs, hx U hWs.alike f1 (fun q hq => f2 q hq (fun z hz => nomatch hz)), hce, hO.vm, hcl, hWs, hall, hf⟩⟩
  refine st1 _ ?_
  show Steps p.tables e below (T1.setTop { method := m, pc := pc + 3, locals := ls, stack := .ref T.heap.size :: rest, locked := none }) _
  jvm_step X₁.here [X₁.here.top, hexec, d3', Value.category]
  exact X₁.ldcString hexec (own := own) (text := text) (index := is) (a := sa) hown' hstr'.1 hstr'.2
    (g := { method := m, pc := pc + 4, locals := ls, stack := .ref T.heap.size :: .ref T.heap.size :: rest, locked := none }) rfl d4' _ hsteps
/-- 'throw new E("text")', the text by a wide index -/
theorem vx_throwSW {cc : ByteArray} {pc : Nat} (hexec : p.tables.exec = Jvm.exec) (hb : c.code = cc) (hl : l.stackTraces = false) {own cls text : String} {names : List String} {ik is ic mc ms sa : Nat} {A : Nat → Prop}
    (hown : s.vm.findClass own = some m.cls) (hcls : Bundle.fit cls = true) (hnames : ∀ n ∈ names, Bundle.fit n = true)
    (hk : (Cond.classLink own ik cls).before args s = true) (hini : (Cond.initialized cls).before args s = true) (hstr : vk_R own is text sa s) (hat : ∀ w ∈ vx_atS own ic cls names, w.before args s = true)
    (hgood : ∀ w ∈ Cond.classLink own ik cls :: Cond.initialized cls :: vx_atS own ic cls names, vx_ot w = true)
    (hU : vx_Zq Bundle.tN "UNASSIGNED_STACK" Bundle.steD A s s.heap) (hN : vx_Zq Bundle.tN "SUPPRESSED_SENTINEL" Bundle.listD A s s.heap) (hS : va_S A s.heap H locs) (hsize : ls.size = c.maxLocals)
    (d0 : decode cc pc = .ok (.new ik, 3)) (d3 : decode cc (pc + 3) = .ok (.dup, 1)) (d4 : decode cc (pc + 4) = .ok (.ldc_w is, 3)) (d7 : decode cc (pc + 7) = .ok (.invokespecial ic, 3)) (d10 : decode cc (pc + 10) = .ok (.athrow, 1))
    (hout : ∀ x ∈ c.exceptionTable.toList, covers x (pc + 10) = false)
    (hRframes : names.length + 3 < R.frames) (hRlocals : (rest.map fun v => v.category).sum + (13 * (names.length + 1) + 43) ≤ R.locals) (hRcells : cells + 1 ≤ R.cells) (hRslots : slots + 6 ≤ R.slots) (hlocks : meth.locks = false)
    (hx : ∀ t : State, s.vm.Alike t.vm → H.size ≤ t.heap.size → (∀ q : Nat, q < H.size → t.heap[q]? = H[q]?) → XC cls s t)
    (hf : ∀ z ∈ locs, free z.base) (hc : cells + 1 ≤ mc) (hs : slots + 6 ≤ ms) :
    W p l e R s m args below meth c H locs cells slots (vx_MQ below Qc XC args s mc ms free) (F0 m pc ls rest) := by
  intro T hT X
  have htr : e.platform.stackTraces = false := (show e.platform.stackTraces = l.stackTraces by rw [X.admits.platform]).trans hl
  have Y := vx_rebase X (R' := { frames := R.frames, locals := R.locals, cells := 1, slots := 6 }) (Nat.le_refl _) (Nat.le_refl _) hRcells hRslots
  obtain ⟨s', hA⟩ : ∃ z, z = (T.setVm s.vm).setFrames (.invoking m args :: below) := ⟨_, rfl⟩
  rw [← hA] at Y
  have hvm : s'.vm = s.vm := by rw [hA]; rfl
  have hhp : s'.heap = H := by rw [hA]; exact hT
  have hW0 : s.WarmedH s'.vm := by rw [hvm]; exact State.WarmedH.refl s
  have hat' : ∀ w ∈ vx_atS own ic cls names, w.before args s' = true := fun w hw => vx_ot_at hW0 hvm.symm (hgood w (List.mem_cons_of_mem _ (List.mem_cons_of_mem _ hw))) (hat w hw)
  have hk' : (Cond.classLink own ik cls).before args s' = true := vx_ot_at hW0 hvm.symm (hgood _ List.mem_cons_self) hk
  have hini' : (Cond.initialized cls).before args s' = true := vx_ot_at hW0 hvm.symm (hgood _ (List.mem_cons_of_mem _ List.mem_cons_self)) hini
  have hU' : vx_Zq Bundle.tN "UNASSIGNED_STACK" Bundle.steD A s' s'.heap := by rw [hhp]; exact vx_Zq.moved hW0.alike (hU.kept hS.2.1)
  have hN' : vx_Zq Bundle.tN "SUPPRESSED_SENTINEL" Bundle.listD A s' s'.heap := by rw [hhp]; exact vx_Zq.moved hW0.alike (hN.kept hS.2.1)
  have h : ∀ w ∈ Bundle.ownAtoms own ic cls names, w.before args s' = true := vx_own hat' (vx_isRefq hU'.1) (vx_isRefq hN'.1) hU'.2.word hN'.2.word
  have hown' : s'.vm.findClass own = some m.cls := by rw [hvm]; exact hown
  have hins : (Cond.instantiable cls 6).before args s' = true := h _ (by simp [Bundle.ownAtoms])
  obtain ⟨vm₁, cX, kX, hfX, hkX, -, -, X₁, st1⟩ := Y.newCold hexec (own := own) (C := cls) (index := ik) (n := 6) hown' hk' hins hini'
    (g := F0 m pc ls rest) rfl (by rw [hb]; exact d0) (Nat.le_refl _) (Nat.le_refl _)
  generalize hT1 : (T.setVm vm₁).pushCell { cls := cX, slots := kX.instanceTypes.map defaultValue, vm := .none } = T1 at X₁ st1
  have hcat : (Value.ref T.heap.size).category = 1 := rfl
  have hcellA : T1.heap[T.heap.size]? = some (freshCell cX kX) := by rw [← hT1]; exact State.heap_pushCell_size _ _
  have d3' : decode c.code (pc + 3) = .ok (.dup, 1) := by rw [hb]; exact d3
  have d4' : decode c.code (pc + 4) = .ok (.ldc_w is, 3) := by rw [hb]; exact d4
  have hstr' : vk_R own is text sa s' := vk_R.warm hW0 hstr
  obtain ⟨U, hsteps, hrun, hend, hW, hsame, ce, hce, hO⟩ := X₁.ctorThrowS hexec htr (own := own) (cls := cls) (names := names) (ic := ic) hown' hcls hnames h (fun x hx => nomatch hx) hfX hkX hcellA (by rw [hhp, hT]; exact Nat.le_refl _) (msg := .ref sa) rfl
    (g := { method := m, pc := pc + 7, locals := ls, stack := .ref sa :: .ref T.heap.size :: .ref T.heap.size :: rest, locked := none }) rfl hsize rfl rfl (rest := rest) rfl
    (by rw [hb]; exact d7) (by rw [hb]; exact d10) hout hRframes (by simp only [List.map_cons, List.sum_cons, hcat]; omega) hlocks
  obtain ⟨f1, f2⟩ := vx_frame hsame
  rw [hhp] at f1 f2
  have hWs : s.WarmedH U.vm := State.WarmedH.trans hW0 hW
  have hcl : s.vm.findClass cls = some ce.cls := by
    have h9 := hO.cls
    rw [hvm] at h9
    exact h9
  have hall : s.sameButNew ({ U with vm := s.vm } : State) locs mc ms := by
    subst hA
    obtain ⟨e1, e2⟩ := hsame
    rw [State.setFrames_setFrames] at e1
    have h2 : (T.setVm s.vm).sameButNew ({ U with vm := s.vm } : State) [] (0 + 1) (0 + 6) := ⟨e1, e2⟩
    have h3 := X.same.trans h2
    rw [List.append_nil] at h3
    exact h3.mono hc hs
  refine ⟨U, ?_, .threw T.heap.size, hrun, hend, Or.inr ⟨T.heap.size, rfl, cls, ce, locs, hx U hWs.alike f1 (fun q hq => f2 q hq (fun z hz => nomatch hz)), hce, hO.vm, hcl, hWs, hall, hf⟩⟩
  refine st1 _ ?_
  show Steps p.tables e below (T1.setTop { method := m, pc := pc + 3, locals := ls, stack := .ref T.heap.size :: rest, locked := none }) _
  jvm_step X₁.here [X₁.here.top, hexec, d3', Value.category]
  exact X₁.ldcStringW hexec (own := own) (text := text) (index := is) (a := sa) hown' hstr'.1 hstr'.2
    (g := { method := m, pc := pc + 4, locals := ls, stack := .ref T.heap.size :: .ref T.heap.size :: rest, locked := none }) rfl d4' _ hsteps
end Ends
section Bodies
variable {l : Launch}
theorem vx_ofW {y : MethodName} {ws ws' : List Cond} {rm : Room} {Pc : Array Value → State → Prop} {Qc : Array Value → State → Outcome → State → Prop} {XC : String → State → State → Prop} {mc ms : Nat} {free : Addr → Prop} {cc : ByteArray} {maxL : Nat} {ret : Option FieldType}
    (hy : plainName y.cls = true) (hw : ws = Cond.code y cc maxL ret :: ws')
    (body : ∀ p e s m args below meth c s₁, BodyLoose p l y (headSpec ws rm) cc maxL ret e s m args below meth c s₁ → c.maxLocals = maxL → (∀ x ∈ c.exceptionTable.toList, False) → Pc args s →
      W p l e (headSpec ws rm).room s m args below meth c s.heap [] 0 0 (vx_MQ below Qc XC args s mc ms free) (entryFrame m args maxL)) : vx_Met l y ws rm Pc Qc XC mc ms free := by
  refine MetFree.of_bodyS (code := cc) (maxLocals := maxL) (ret := ret) hy ?_ ?_
  · intro args s m h hn
    obtain ⟨meth, c, h1, h2, h3, h4, h5, h6, -, -⟩ := Cond.code_spec hn (atoms_spec (ws := ws) h _ (by rw [hw]; exact List.mem_cons_self))
    exact ⟨meth, c, h1, h2, h3, h4, h5, h6⟩
  · intro p e s m args below meth c s₁ B hml hP _
    have hh0 : s₁.heap = s.heap := by rw [B.state]; rfl
    have ht : ∀ x ∈ c.exceptionTable.toList, False := by
      obtain ⟨meth9, c9, h1, h2, -, -, -, -, h7, -⟩ := Cond.code_spec B.named (atoms_spec (ws := ws) B.pre _ (by rw [hw]; exact List.mem_cons_self))
      cases Option.some.inj (h1.symm.trans B.method)
      cases Option.some.inj (h2.symm.trans (Stand.of_body B).code)
      intro x hx
      rw [Array.isEmpty_iff.mp h7] at hx
      cases hx
    obtain ⟨t, a1, o, b1, b2, b3⟩ := body p e s m args below meth c s₁ B hml ht hP s₁ hh0 (Stand.of_body B)
    exact ⟨t, o, a1, b1, b2, b3⟩
/-- the table of a body with handlers -/
theorem vx_table {p : Program} {x y : MethodName} {S : Spec} {cc bytes : ByteArray} {maxL maxL' : Nat} {ret ret' : Option FieldType} {e : Env} {s s₁ : State} {m : MethodId} {args : Array Value} {below : List Frame} {meth : Method} {c : Code} {hh : List (Nat × Nat × Nat × Nat)}
    (B : BodyLoose p l y S cc maxL ret e s m args below meth c s₁) (h : (Cond.codeWith y bytes maxL' ret' hh).before args s = true) : c.exceptionTable.toList = tableOf hh := by
  obtain ⟨m9, meth9, c9, hn9, h1, h2, -, -, h6, -⟩ := Cond.codeWith_spec h
  cases Option.some.inj (hn9.symm.trans B.named)
  cases Option.some.inj (h1.symm.trans B.method)
  cases Option.some.inj (h2.symm.trans (Stand.of_body B).code)
  rw [← h6, table_eq]
end Bodies
end VXA
/-! ===== END ===== -/
/-! ===== BEGIN a static call of a method with an exception table ===== -/
section VXS
variable {p : Program} {l : Launch} {e : Env} {R : Room} {s : State} {m : MethodId} {args : Array Value} {below : List Frame} {meth : Method} {c : Code} {T : State} {H : Heap} {locs : List Loc} {cells slots : Nat}
abbrev vx_CSW (R : Room) (s : State) (args : Array Value) (own : String) (index : Nat) (y : MethodName) (bytes : ByteArray) (maxL : Nat) (ret : Option FieldType) (hh : List (Nat × Nat × Nat × Nat)) (ws : List Cond) (rm : Room) (mc ms n : Nat) : Prop :=
  (rm.cells = mc ∧ rm.slots = ms ∧ rm.frames + 1 ≤ R.frames ∧ 8 + (maxL + 11) + rm.locals ≤ R.locals ∧ (∀ w ∈ ws, ∀ (a' : Array Value) (U : State), s.WarmedH U.vm → w.before a' U = true) ∧ Cond.codeWith y bytes maxL ret hh ∈ ws) ∧
  (Cond.codeWith y bytes maxL ret hh).before args s = true ∧ (Cond.initialized y.cls).before args s = true ∧ (y.cls ≠ "java/lang/invoke/MethodHandle" ∧ y.cls ≠ "java/lang/invoke/VarHandle") ∧
  (∀ sig, parseMethodDescriptor y.desc = some sig → n = sig.parameters.length) ∧ (Cond.methodLink own index y).before args s = true ∧ (Cond.static y).before args s = true
theorem vx_cwSW {own : String} {index maxL mc ms : Nat} {y : MethodName} {bytes : ByteArray} {ret : Option FieldType} {hh : List (Nat × Nat × Nat × Nat)} {Ts ws ws' : List Cond} {rm : Room} (n : Nat) (ht : ∀ w ∈ Ts, w.before args s = true) (hT : GoodIn Ts (va_wsS own index y ws)) (hw : ws = Cond.codeWith y bytes maxL ret hh :: ws') (hrc : rm.cells = mc) (hrs : rm.slots = ms)
    (hd : y.cls ≠ "java/lang/invoke/MethodHandle" ∧ y.cls ≠ "java/lang/invoke/VarHandle" ∧ (parseMethodDescriptor y.desc).map (fun d => d.parameters.length) = some n) (hR : rm.frames + 1 ≤ R.frames ∧ 8 + (maxL + 11) + rm.locals ≤ R.locals) :
    vx_CSW R s args own index y bytes maxL ret hh ws rm mc ms n := by
  have ok : ∀ w ∈ va_wsS own index y ws, w.before args s = true := fun w h => ht w (hT w h).1
  have hG : GoodIn Ts ws := fun w h => hT w (by unfold va_wsS; exact List.mem_append_right _ h)
  have hc : Cond.codeWith y bytes maxL ret hh ∈ ws := by rw [hw]; exact List.mem_cons_self
  refine ⟨⟨hrc, hrs, hR.1, hR.2, pay_in ht hG, hc⟩, ht _ (hG _ hc).1, ok _ (by simp [va_wsS]), ⟨hd.1, hd.2.1⟩, fun sig h => ?_, ok _ (by simp [va_wsS]), ok _ (by simp [va_wsS])⟩
  have h2 := hd.2.2
  rw [h] at h2
  exact (Option.some.inj h2).symm
theorem vx_callSW (X : Stand p l e R s m args below meth c T locs cells slots) (hexec : p.tables.exec = Jvm.exec) {own : String} {index : Nat} {y : MethodName} {bytes : ByteArray} {maxL : Nat} {ret : Option FieldType} {hh : List (Nat × Nat × Nat × Nat)}
    (hown : s.vm.findClass own = some m.cls) (hlink : (Cond.methodLink own index y).before args s = true) (hstat : (Cond.static y).before args s = true) (hinit : (Cond.initialized y.cls).before args s = true)
    (hcode : (Cond.codeWith y bytes maxL ret hh).before args s = true) (hy : y.cls ≠ "java/lang/invoke/MethodHandle" ∧ y.cls ≠ "java/lang/invoke/VarHandle")
    {W9 : Nat} {Pre : Pt → Array Value → Prop} {Post : Pt → Array Value → Option Value → Pt → Prop} (hK : Back l R p e below s args y 3 W9 Pre Post)
    {g : JFrame} (hg : g.method = m) (hsize : g.locals.size = c.maxLocals) {argsL rest : List Value} (hlen : ∀ sig, parseMethodDescriptor y.desc = some sig → argsL.length = sig.parameters.length)
    (hstack : g.stack = argsL.reverse ++ rest) (hW : 2 * g.monitorRoom + (rest.map fun v => v.category).sum ≤ W9) (hdg : decode c.code g.pc = .ok (.invokestatic index, 3))
    (hpre : ∀ vm₁, s.WarmedH vm₁ → Pre ⟨T.setVm vm₁, locs, cells, slots⟩ argsL.toArray) :
    ∃ (v : Option Value) (vm₁ : Vm) (B : Pt), s.WarmedH vm₁ ∧ Stand p l e R s m args below meth c B.U B.locs B.cells B.slots ∧ Post ⟨T.setVm vm₁, locs, cells, slots⟩ argsL.toArray v B ∧
      ∀ target, Steps p.tables e below (B.U.setTop { g with pc := g.pc + 3, stack := v.toList ++ rest }) target → Steps p.tables e below (T.setTop g) target := by
  obtain ⟨mk, methM, cM, hnamed, hmethM, -, -, -, -, -, -, hsigM⟩ := Cond.codeWith_spec hcode
  have hstatic : methM.isStatic = true := Cond.static_spec hnamed hmethM hstat
  obtain ⟨kP, hkP, -⟩ := className_of_methodNamed hnamed
  have hinitP : kP.init = .initialized := Cond.initialized_spec (findClass_of_methodNamed hnamed) hkP hinit
  obtain ⟨vm₁, X₁, hstep₁⟩ := X.invokestatic hexec hown hlink hnamed hmethM hstatic hkP hinitP hy (g := g) hg (argsL := argsL) (rest := rest) (hlen _ hsigM) hstack hdg
  obtain ⟨v, B, X', hpost, hsteps⟩ := hK m meth c ⟨T.setVm vm₁, locs, cells, slots⟩ { g with stack := rest } (.invokestatic index) mk argsL.toArray X₁ hg hsize hdg hW (X₁.named hnamed) (hpre vm₁ X₁.warmed)
  exact ⟨v, vm₁, B, X₁.warmed, X', hpost, fun target h => hstep₁ _ fun acts => by rw [doInvoke_state]; exact hsteps.trans h⟩
theorem vx_runSW {y : MethodName} {bytes cc : ByteArray} {maxL nL mc ms n index : Nat} {ret : Option FieldType} {hh : List (Nat × Nat × Nat × Nat)} {ws : List Cond} {rm : Room} {Pc : Array Value → State → Prop} {Qc : Array Value → State → Outcome → State → Prop} {free : Addr → Prop} {Ts : List Cond} {own : String} {As rest : List Value} {g : JFrame}
    (S : CallFix p m c cc nL s args Ts own) (hM : Met l y ws rm Pc Qc mc ms free) (cw : vx_CSW R s args own index y bytes maxL ret hh ws rm mc ms n) (hp : PreS s H Pc As)
    (hg : g.method = m) (hn : As.length = n) (hsize : g.locals.size = nL) (hstack : g.stack = As.reverse ++ rest) (hW : 2 * g.monitorRoom + (rest.map fun v => v.category).sum ≤ 8) (hdg : decode cc g.pc = .ok (.invokestatic index, 3)) (hf : cells + mc ≤ R.cells ∧ slots + ms ≤ R.slots) :
    va_Run p l e R s m args below meth c H locs cells slots mc ms g rest (Qc As.toArray) (free) := by
  obtain ⟨⟨hrc, hrs, hfr, hlo, hws, hcw⟩, hcode, hini, hy, hlen, hl, hstt⟩ := cw
  have hK : Back l R p e below s args y 3 8 (PreOf R mc ms Pc) (PostOf Qc mc ms free) := va_backW (hh := hh) (bytes := bytes) (maxL := maxL) (ret := ret) hM hp.1 hrc hrs hfr hlo hws hcw (fun a' U hW => word_at hW (Or.inl (by first | rfl | simp [Cond.onTables, Cond.keeps, Cond.steady])) hini)
  obtain ⟨hx, hb, hml, ho, -⟩ := S
  intro T hT X
  obtain ⟨v, vm₁, ⟨U', l2, c2, s2⟩, hW₁, X', ⟨g', mk, t, L, e1, e2, hq, h1, hL, h2, h3⟩, st⟩ := vx_callSW X hx (hh := hh) (bytes := bytes) (maxL := maxL) (ret := ret) ho hl hstt hini hcode hy hK hg (hsize.trans hml.symm) (argsL := As) (rest := rest) (fun sig h => hn.trans (hlen sig h)) hstack hW (by rw [hb]; exact hdg)
    (fun vm₁ hW₁ => ⟨hf.1, hf.2, hp.2 (T.setVm vm₁) hT hW₁⟩)
  dsimp only [Pt.U, Pt.locs, Pt.cells, Pt.slots] at X' e1 e2 h1 h2 h3 st
  subst h1; subst h2; subst h3
  exact ⟨v, (T.setVm vm₁).calling g' mk As.toArray, t, U', L, hT, X', hL, e1, e2, hq, st⟩
/-- not caught here, past rows that name other classes: it goes on to the caller -/
theorem vx_outP {p : Program} {l : Launch} {e : Env} {R : Room} {s : State} {m : MethodId} {args : Array Value} {below : List Frame} {meth : Method} {c : Code} {H : Heap} {locs : List Loc} {cells slots : Nat} {free : Addr → Prop} {ls : Array Slot} {rest : List Value} {Qc : Array Value → State → Outcome → State → Prop} {XC : String → State → State → Prop}
    {pc : Nat} {own E : String} {ce : Cell} {q : Addr} {mc ms : Nat} (hown : s.vm.findClass own = some m.cls) (hlocks : meth.locks = false)
    (hpass : ∀ z ∈ c.exceptionTable.toList, covers z pc = false ∨ (z.catchType ≠ 0 ∧ ∃ nm : String, (Cond.classLink own z.catchType nm).before args s = true ∧ va_Nc E nm s)) (hcell : H[q]? = some ce) (hv : ce.vm = .none) (hcl : s.vm.findClass E = some ce.cls)
    (hx : ∀ t : State, t.heap = H → s.vm.Alike t.vm → XC E s t) (hf : ∀ z ∈ locs, free z.base) (hc : cells ≤ mc) (hs : slots ≤ ms) :
    vx_W p l e R s m args below meth c H locs cells slots (vx_MQ below Qc XC args s mc ms free) (F0 m pc ls rest) q := by
  intro T hT X
  have hpl : e.platform.magicAccessors = ({} : Platform).magicAccessors := by rw [X.admits.platform]
  obtain ⟨vm', hW', X', st⟩ := X.outThrough hlocks q (g := F0 m pc ls rest) rfl rfl rfl (cell := ce) (by rw [hT]; exact hcell) (by rw [hv]; rfl)
    (by obtain ⟨k9, h9, -⟩ := Vm.findClass_spec hcl; exact ⟨k9, h9⟩) (fun z hz => by
      rcases hpass z hz with h | ⟨hz0, nm, hl1, hn1⟩
      · exact Or.inl h
      · obtain ⟨c6, hc6, hcl6⟩ := Cond.classLink_spec hown hl1 e.platform hpl
        obtain ⟨a8, b8, h1, h2, h3⟩ := hn1
        cases Option.some.inj (h1.symm.trans hcl)
        cases Option.some.inj (h2.symm.trans hc6)
        exact Or.inr ⟨hz0, _, hcl6, h3⟩)
  obtain ⟨g₀, hfr⟩ := X'.frames_eq
  have hcell9 : ((T.setVm vm').setFrames (.throwing q :: below)).heap[q]? = some ce := by
    show T.heap[q]? = some ce
    rw [hT]; exact hcell
  have hend : Ended ((T.setVm vm').setFrames (.throwing q :: below)) below (.threw q) := State.frames_setFrames _ (State.cur_lt_of_frames hfr)
  refine ⟨(T.setVm vm').setFrames (.throwing q :: below), ?_, .threw q, X'.here.running, hend, Or.inr ⟨q, rfl, E, ce, locs, hx _ hT (X'.ends _).1.alike, hcell9, hv, hcl, (X'.ends _).1, (X'.ends _).2.mono hc hs, hf⟩⟩
  rw [X.pushThrowing_eq]
  exact st
/-- a thing of a world lies in the heap -/
theorem vx_lt {D : va_G} {cl : List vw_C} {ws : va_W} {H1 : Heap} (h : va_P D cl ws H1) {k : Nat} {q : Nat × va_E} (hk : ws[k]? = some q) : q.1 < H1.size := (h k q hk).lt
end VXS
/-! ===== END ===== -/
/-! ===== BEGIN methods with a table of their own: called by a name, returning or throwing ===== -/
section VXH
/-! vx_backW, vx_callVX, vx_callSX, vx_callVW, vx_runVW, vx_runVX, vx_runSX, vx_ofWH follow the same proofs as their sisters above (Free/Laws.lean, Shelf42/LK1.lean); vx_outP calls Shelf42/NT130.lean (outThrough). -/
section
variable {l : Launch} {R : Room} {p : Program} {e : Env} {below : List Frame} {s : State} {sargs : Array Value} {y : MethodName} {len W9 : Nat}
theorem vx_backW {ws : List Cond} {rm : Room} {Pc : Array Value → State → Prop} {Qc : Array Value → State → Outcome → State → Prop} {XC : String → State → State → Prop} {mc ms : Nat} {free : Addr → Prop} {bytes : ByteArray} {maxL : Nat} {ret : Option FieldType} {hh : List (Nat × Nat × Nat × Nat)}
    (hM : vx_Met l y ws rm Pc Qc XC mc ms free) (hblind : FrameBlind Pc) (hrc : rm.cells = mc) (hrs : rm.slots = ms)
    (hframes : rm.frames + 1 ≤ R.frames) (hlocals : W9 + (maxL + 11) + rm.locals ≤ R.locals)
    (hws : ∀ w ∈ ws, ∀ a' U, s.WarmedH U.vm → w.before a' U = true) (hcode : Cond.codeWith y bytes maxL ret hh ∈ ws) (hinit : ∀ a' U, s.WarmedH U.vm → (Cond.initialized y.cls).before a' U = true) :
    vx_Back l R p e below s sargs y len W9 (PreOf R mc ms Pc) (PostOf Qc mc ms free) (vx_Post XC mc ms free) := by
  intro m meth c A g ig mk a X hg hsize hdg hW hn hp
  have h1 : (headSpec ws rm).pre.before a A.U = true := atoms_intro fun w hw => hws w hw _ _ X.warmed
  have h2 : (Cond.codeWith y bytes maxL ret hh).before a A.U = true := hws _ hcode _ _ X.warmed
  have h3 : (Cond.initialized y.cls).before a A.U = true := hinit _ _ X.warmed
  have h4 : A.cells + (headSpec ws rm).room.cells ≤ R.cells := by rw [show (headSpec ws rm).room.cells = mc from hrc]; exact hp.1
  have h5 : A.slots + (headSpec ws rm).room.slots ≤ R.slots := by rw [show (headSpec ws rm).room.slots = ms from hrs]; exact hp.2.1
  have hPc : Pc a (A.U.calling g mk a) := hblind _ _ _ _ hp.2.2
  obtain ⟨U, Ls, c0, s0⟩ := A
  dsimp only [Pt.U, Pt.locs, Pt.cells, Pt.slots] at h1 h2 h3 h4 h5 X hn hPc ⊢
  obtain ⟨m9, methY, cY, hn9, hmY, hcY, -, hlY, -⟩ := Cond.codeWith_spec h2
  cases Option.some.inj (hn9.symm.trans hn)
  obtain ⟨kY, hkY, -⟩ := className_of_methodNamed hn
  have hinitY : kY.init = .initialized := Cond.initialized_spec (findClass_of_methodNamed hn) hkY h3
  have h : At U g.method c below := by rw [hg]; exact X.here
  have hlocals9 : W9 + (maxL + 11) + (headSpec ws rm).room.locals ≤ R.locals := hlocals
  have happ : (headSpec ws rm).appliesLoose y e.platform (U.calling g mk a) = true :=
    Spec.appliesLoose_calling (g := g) h hdg hn hkY hinitY
      (X.room_calling (g := g) (R' := (headSpec ws rm).room) hsize hmY hcY hframes (by rw [hlY]; omega) h4 h5) h1
  obtain ⟨mid, hmid⟩ := h.above
  have hfr : (U.setTop g).frames = (.java g :: mid) ++ below := by rw [State.frames_setTop' g h.top, hmid]; rfl
  obtain ⟨o, s₂, hsteps, -, hend, hq⟩ := Steps.callFree hM p X.admits X.cas X.clock (acts := []) hfr happ hPc trivial
  have hq' : vx_Q Qc XC mc ms free a (U.calling g mk a) o s₂ := hq
  rw [State.frames_setTop' g h.top] at hend
  obtain ⟨g₀, hg0⟩ := Option.isSome_iff_exists.mp h.top
  obtain ⟨r, hr⟩ := State.topJava?_eq_some.mp hg0
  have hr' : (({ U with heap := s₂.heap, slotsUsed := s₂.slotsUsed } : State).setVm s₂.vm).frames = .java g₀ :: r := hr
  rcases hq' with ⟨hqc, L, hfe, hL⟩ | ⟨q, rfl, E, ce, L, hx, hce, hcv, hcl, hW₂, hsm, hL⟩
  · obtain ⟨⟨v, rfl⟩, hW₂, e2, q2, q3, q4, q5, q6⟩ := id hfe
    have e3 : s₂ = ({ (U.calling g mk a).setFrames s₂.frames with heap := s₂.heap, slotsUsed := s₂.slotsUsed } : State).setVm s₂.vm := by
      have : s₂ = ({ s₂ with vm := (U.calling g mk a).vm } : State).setVm s₂.vm := rfl
      rw [e2] at this
      exact this
    obtain ⟨c₂, i₂, len₂, hc₂, hd₂, hf₂⟩ := hend
    have hW' : U.WarmedH s₂.vm := hW₂
    have hcc : c₂ = c := by
      have h1 : s₂.code? g.method = U.code? g.method := by
        rw [State.code?_eq, State.code?_eq, hW'.alike.method?]
      exact Option.some.inj (hc₂.symm.trans (h1.trans h.code))
    subst hcc
    have hlen : len₂ = len := by rw [hdg] at hd₂; cases hd₂; rfl
    subst hlen
    have hs₂ : s₂ = (({ U with heap := s₂.heap, slotsUsed := s₂.slotsUsed } : State).setVm s₂.vm).setTop { g with pc := g.pc + len₂, stack := v.toList ++ g.stack } := by
      refine e3.trans ?_
      rw [hf₂, State.calling_eq h.top, State.setFrames_setFrames, State.setTop_of_frames _ hr', hr]
      rfl
    have hsame : U.sameButNew ({ U with heap := s₂.heap, slotsUsed := s₂.slotsUsed } : State) L mc ms := by
      refine ⟨?_, q2, q3, q4, q5, q6⟩
      obtain ⟨t, ht, -⟩ := State.frames_cons hr
      show ({ U with heap := s₂.heap, slotsUsed := s₂.slotsUsed } : State) = { U.setFrames U.frames with heap := s₂.heap, slotsUsed := s₂.slotsUsed }
      rw [State.setFrames_self ht]
    subst hg
    refine Or.inl ⟨v, ⟨(({ U with heap := s₂.heap, slotsUsed := s₂.slotsUsed } : State).setVm s₂.vm), Ls ++ L, c0 + mc, s0 + ms⟩,
      ⟨X.admits, X.cas, X.clock, X.frames, X.room, X.hears, X.method, X.code, (X.here.setHeapUsed s₂.heap s₂.slotsUsed).setVm hW'.alike, X.tail, State.WarmedH.trans X.warmed hW', X.limits, X.bytes, X.same.trans (hsame.setVm s.vm)⟩,
      ⟨g, mk, s₂, L, rfl, rfl, hqc, rfl, hL, rfl, rfl⟩, ?_⟩
    show Steps p.tables e below _ ((({ U with heap := s₂.heap, slotsUsed := s₂.slotsUsed } : State).setVm s₂.vm).setTop { g with pc := g.pc + len₂, stack := v.toList ++ g.stack })
    rw [← hs₂]
    exact hsteps
  · obtain ⟨e2, q2, q3, q4, q5, q6⟩ := id hsm
    have e3 : s₂ = ({ (U.calling g mk a).setFrames s₂.frames with heap := s₂.heap, slotsUsed := s₂.slotsUsed } : State).setVm s₂.vm := by
      have : s₂ = ({ s₂ with vm := (U.calling g mk a).vm } : State).setVm s₂.vm := rfl
      rw [e2] at this
      exact this
    have hf₂ : s₂.frames = .throwing q :: .java g :: U.frames.tail := hend
    have hW' : U.WarmedH s₂.vm := hW₂
    have hs₂ : s₂ = ((({ U with heap := s₂.heap, slotsUsed := s₂.slotsUsed } : State).setVm s₂.vm).setTop g).pushFrame (.throwing q) := by
      refine e3.trans ?_
      rw [hf₂, State.calling_eq h.top, State.setFrames_setFrames, State.pushFrame, State.frames_setTop _ hr', State.setTop_of_frames _ hr', State.setFrames_setFrames, hr]
      rfl
    have hsame : U.sameButNew ({ U with heap := s₂.heap, slotsUsed := s₂.slotsUsed } : State) L mc ms := by
      refine ⟨?_, q2, q3, q4, q5, q6⟩
      obtain ⟨t, ht, -⟩ := State.frames_cons hr
      show ({ U with heap := s₂.heap, slotsUsed := s₂.slotsUsed } : State) = { U.setFrames U.frames with heap := s₂.heap, slotsUsed := s₂.slotsUsed }
      rw [State.setFrames_self ht]
    subst hg
    refine Or.inr ⟨q, ⟨(({ U with heap := s₂.heap, slotsUsed := s₂.slotsUsed } : State).setVm s₂.vm), Ls ++ L, c0 + mc, s0 + ms⟩,
      ⟨X.admits, X.cas, X.clock, X.frames, X.room, X.hears, X.method, X.code, (X.here.setHeapUsed s₂.heap s₂.slotsUsed).setVm hW'.alike, X.tail, State.WarmedH.trans X.warmed hW', X.limits, X.bytes, X.same.trans (hsame.setVm s.vm)⟩,
      ⟨g, mk, s₂, L, E, ce, rfl, rfl, hx, hce, hcv, hcl, rfl, hL, rfl, rfl⟩, ?_⟩
    show Steps p.tables e below _ (((({ U with heap := s₂.heap, slotsUsed := s₂.slotsUsed } : State).setVm s₂.vm).setTop g).pushFrame (.throwing q))
    rw [← hs₂]
    exact hsteps
end
variable {p : Program} {l : Launch} {e : Env} {R : Room} {s : State} {m : MethodId} {args : Array Value} {below : List Frame} {meth : Method} {c : Code} {T : State} {H : Heap} {locs : List Loc} {cells slots : Nat}
theorem vx_callVX (X : Stand p l e R s m args below meth c T locs cells slots) (hexec : p.tables.exec = Jvm.exec) {own C : String} {index : Nat} {y : MethodName} {bytes : ByteArray} {maxL : Nat} {ret : Option FieldType} {hh : List (Nat × Nat × Nat × Nat)}
    (hown : s.vm.findClass own = some m.cls) (hlink : (Cond.methodLink own index y).before args s = true) (hinst : (Cond.instanceMethod y).before args s = true) (hsel : (Cond.selects C y y).before args s = true)
    (hcode : (Cond.codeWith y bytes maxL ret hh).before args s = true) (hy : y.cls ≠ "java/lang/invoke/MethodHandle" ∧ y.cls ≠ "java/lang/invoke/VarHandle")
    {W9 : Nat} {Pre : Pt → Array Value → Prop} {Post : Pt → Array Value → Option Value → Pt → Prop} {PostX : Pt → Array Value → Addr → Pt → Prop} (hK : vx_Back l R p e below s args y 3 W9 Pre Post PostX)
    {b : Addr} {cellB : Cell} (hcell : T.heap[b]? = some cellB) (hobj : cellB.vm.isStatics = false) (hcls : s.vm.findClass C = some cellB.cls)
    {g : JFrame} (hg : g.method = m) (hsize : g.locals.size = c.maxLocals) {argsL rest : List Value} (hlen : ∀ sig, parseMethodDescriptor y.desc = some sig → argsL.length = sig.parameters.length)
    (hstack : g.stack = argsL.reverse ++ .ref b :: rest) (hW : 2 * g.monitorRoom + (rest.map fun v => v.category).sum ≤ W9) (hdg : decode c.code g.pc = .ok (.invokevirtual index, 3))
    (hpre : ∀ vm₁, s.WarmedH vm₁ → Pre ⟨T.setVm vm₁, locs, cells, slots⟩ (Value.ref b :: argsL).toArray) :
    (∃ (v : Option Value) (vm₁ : Vm) (B : Pt), s.WarmedH vm₁ ∧ Stand p l e R s m args below meth c B.U B.locs B.cells B.slots ∧ Post ⟨T.setVm vm₁, locs, cells, slots⟩ (Value.ref b :: argsL).toArray v B ∧
      ∀ target, Steps p.tables e below (B.U.setTop { g with pc := g.pc + 3, stack := v.toList ++ rest }) target → Steps p.tables e below (T.setTop g) target) ∨
    (∃ (q : Addr) (vm₁ : Vm) (B : Pt), s.WarmedH vm₁ ∧ Stand p l e R s m args below meth c B.U B.locs B.cells B.slots ∧ PostX ⟨T.setVm vm₁, locs, cells, slots⟩ (Value.ref b :: argsL).toArray q B ∧
      Steps p.tables e below (T.setTop g) ((B.U.setTop { g with stack := rest }).pushFrame (.throwing q))) := by
  obtain ⟨mk, methM, hnamed, hmethM, hstM, habM⟩ := Cond.instanceMethod_spec hinst
  obtain ⟨m8, methM', cM, hn8, hmethM', -, -, -, -, -, -, hsigM⟩ := Cond.codeWith_spec hcode
  cases Option.some.inj (hn8.symm.trans hnamed)
  cases hmethM.symm.trans hmethM'
  obtain ⟨c2, r2, m2, q1, q2, q3, q4, kP, hkP, hkPi⟩ := Cond.selects_spec hsel
  cases hcls.symm.trans q1
  cases (State.methodFound?_of_named hnamed hy).symm.trans q2
  cases hnamed.symm.trans q3
  have hselP : selectMethod e.platform s.vm cellB.cls mk = .method mk := by rw [Launch.admits_selectMethod X.admits]; exact q4
  obtain ⟨vm₁, X₁, hstep₁⟩ := X.invokevirtual hexec hown hlink hnamed hmethM hstM hkP hkPi hy (a := b) (cell := cellB) hcell
    (fun z h => by rw [h] at hobj; cases hobj) hselP hmethM habM hkP hkPi (g := g) hg (argsL := argsL) (rest := rest) (hlen _ hsigM) hstack hdg
  rcases hK m meth c ⟨T.setVm vm₁, locs, cells, slots⟩ { g with stack := rest } (.invokevirtual index) mk (Value.ref b :: argsL).toArray X₁ hg hsize hdg hW (X₁.named hnamed) (hpre vm₁ X₁.warmed) with ⟨v, B, X', hpost, hsteps⟩ | ⟨q, B, X', hpost, hsteps⟩
  · exact Or.inl ⟨v, vm₁, B, X₁.warmed, X', hpost, fun target h => hstep₁ _ fun acts => by rw [doInvoke_state]; exact hsteps.trans h⟩
  · exact Or.inr ⟨q, vm₁, B, X₁.warmed, X', hpost, hstep₁ _ fun acts => by rw [doInvoke_state]; exact hsteps⟩
theorem vx_callSX (X : Stand p l e R s m args below meth c T locs cells slots) (hexec : p.tables.exec = Jvm.exec) {own : String} {index : Nat} {y : MethodName} {bytes : ByteArray} {maxL : Nat} {ret : Option FieldType} {hh : List (Nat × Nat × Nat × Nat)}
    (hown : s.vm.findClass own = some m.cls) (hlink : (Cond.methodLink own index y).before args s = true) (hstat : (Cond.static y).before args s = true) (hinit : (Cond.initialized y.cls).before args s = true)
    (hcode : (Cond.codeWith y bytes maxL ret hh).before args s = true) (hy : y.cls ≠ "java/lang/invoke/MethodHandle" ∧ y.cls ≠ "java/lang/invoke/VarHandle")
    {W9 : Nat} {Pre : Pt → Array Value → Prop} {Post : Pt → Array Value → Option Value → Pt → Prop} {PostX : Pt → Array Value → Addr → Pt → Prop} (hK : vx_Back l R p e below s args y 3 W9 Pre Post PostX)
    {g : JFrame} (hg : g.method = m) (hsize : g.locals.size = c.maxLocals) {argsL rest : List Value} (hlen : ∀ sig, parseMethodDescriptor y.desc = some sig → argsL.length = sig.parameters.length)
    (hstack : g.stack = argsL.reverse ++ rest) (hW : 2 * g.monitorRoom + (rest.map fun v => v.category).sum ≤ W9) (hdg : decode c.code g.pc = .ok (.invokestatic index, 3))
    (hpre : ∀ vm₁, s.WarmedH vm₁ → Pre ⟨T.setVm vm₁, locs, cells, slots⟩ argsL.toArray) :
    (∃ (v : Option Value) (vm₁ : Vm) (B : Pt), s.WarmedH vm₁ ∧ Stand p l e R s m args below meth c B.U B.locs B.cells B.slots ∧ Post ⟨T.setVm vm₁, locs, cells, slots⟩ argsL.toArray v B ∧
      ∀ target, Steps p.tables e below (B.U.setTop { g with pc := g.pc + 3, stack := v.toList ++ rest }) target → Steps p.tables e below (T.setTop g) target) ∨
    (∃ (q : Addr) (vm₁ : Vm) (B : Pt), s.WarmedH vm₁ ∧ Stand p l e R s m args below meth c B.U B.locs B.cells B.slots ∧ PostX ⟨T.setVm vm₁, locs, cells, slots⟩ argsL.toArray q B ∧
      Steps p.tables e below (T.setTop g) ((B.U.setTop { g with stack := rest }).pushFrame (.throwing q))) := by
  obtain ⟨mk, methM, cM, hnamed, hmethM, -, -, -, -, -, -, hsigM⟩ := Cond.codeWith_spec hcode
  have hstatic : methM.isStatic = true := Cond.static_spec hnamed hmethM hstat
  obtain ⟨kP, hkP, -⟩ := className_of_methodNamed hnamed
  have hinitP : kP.init = .initialized := Cond.initialized_spec (findClass_of_methodNamed hnamed) hkP hinit
  obtain ⟨vm₁, X₁, hstep₁⟩ := X.invokestatic hexec hown hlink hnamed hmethM hstatic hkP hinitP hy (g := g) hg (argsL := argsL) (rest := rest) (hlen _ hsigM) hstack hdg
  rcases hK m meth c ⟨T.setVm vm₁, locs, cells, slots⟩ { g with stack := rest } (.invokestatic index) mk argsL.toArray X₁ hg hsize hdg hW (X₁.named hnamed) (hpre vm₁ X₁.warmed) with ⟨v, B, X', hpost, hsteps⟩ | ⟨q, B, X', hpost, hsteps⟩
  · exact Or.inl ⟨v, vm₁, B, X₁.warmed, X', hpost, fun target h => hstep₁ _ fun acts => by rw [doInvoke_state]; exact hsteps.trans h⟩
  · exact Or.inr ⟨q, vm₁, B, X₁.warmed, X', hpost, hstep₁ _ fun acts => by rw [doInvoke_state]; exact hsteps⟩
theorem vx_callVW (X : Stand p l e R s m args below meth c T locs cells slots) (hexec : p.tables.exec = Jvm.exec) {own C : String} {index : Nat} {y : MethodName} {bytes : ByteArray} {maxL : Nat} {ret : Option FieldType} {hh : List (Nat × Nat × Nat × Nat)}
    (hown : s.vm.findClass own = some m.cls) (hlink : (Cond.methodLink own index y).before args s = true) (hinst : (Cond.instanceMethod y).before args s = true) (hsel : (Cond.selects C y y).before args s = true)
    (hcode : (Cond.codeWith y bytes maxL ret hh).before args s = true) (hy : y.cls ≠ "java/lang/invoke/MethodHandle" ∧ y.cls ≠ "java/lang/invoke/VarHandle")
    {W9 : Nat} {Pre : Pt → Array Value → Prop} {Post : Pt → Array Value → Option Value → Pt → Prop} (hK : Back l R p e below s args y 3 W9 Pre Post)
    {b : Addr} {cellB : Cell} (hcell : T.heap[b]? = some cellB) (hobj : cellB.vm.isStatics = false) (hcls : s.vm.findClass C = some cellB.cls)
    {g : JFrame} (hg : g.method = m) (hsize : g.locals.size = c.maxLocals) {argsL rest : List Value} (hlen : ∀ sig, parseMethodDescriptor y.desc = some sig → argsL.length = sig.parameters.length)
    (hstack : g.stack = argsL.reverse ++ .ref b :: rest) (hW : 2 * g.monitorRoom + (rest.map fun v => v.category).sum ≤ W9) (hdg : decode c.code g.pc = .ok (.invokevirtual index, 3))
    (hpre : ∀ vm₁, s.WarmedH vm₁ → Pre ⟨T.setVm vm₁, locs, cells, slots⟩ (Value.ref b :: argsL).toArray) :
    ∃ (v : Option Value) (vm₁ : Vm) (B : Pt), s.WarmedH vm₁ ∧ Stand p l e R s m args below meth c B.U B.locs B.cells B.slots ∧ Post ⟨T.setVm vm₁, locs, cells, slots⟩ (Value.ref b :: argsL).toArray v B ∧
      ∀ target, Steps p.tables e below (B.U.setTop { g with pc := g.pc + 3, stack := v.toList ++ rest }) target → Steps p.tables e below (T.setTop g) target := by
  obtain ⟨mk, methM, hnamed, hmethM, hstM, habM⟩ := Cond.instanceMethod_spec hinst
  obtain ⟨m8, methM', cM, hn8, hmethM', -, -, -, -, -, -, hsigM⟩ := Cond.codeWith_spec hcode
  cases Option.some.inj (hn8.symm.trans hnamed)
  cases hmethM.symm.trans hmethM'
  obtain ⟨c2, r2, m2, q1, q2, q3, q4, kP, hkP, hkPi⟩ := Cond.selects_spec hsel
  cases hcls.symm.trans q1
  cases (State.methodFound?_of_named hnamed hy).symm.trans q2
  cases hnamed.symm.trans q3
  have hselP : selectMethod e.platform s.vm cellB.cls mk = .method mk := by rw [Launch.admits_selectMethod X.admits]; exact q4
  obtain ⟨vm₁, X₁, hstep₁⟩ := X.invokevirtual hexec hown hlink hnamed hmethM hstM hkP hkPi hy (a := b) (cell := cellB) hcell
    (fun z h => by rw [h] at hobj; cases hobj) hselP hmethM habM hkP hkPi (g := g) hg (argsL := argsL) (rest := rest) (hlen _ hsigM) hstack hdg
  obtain ⟨v, B, X', hpost, hsteps⟩ := hK m meth c ⟨T.setVm vm₁, locs, cells, slots⟩ { g with stack := rest } (.invokevirtual index) mk (Value.ref b :: argsL).toArray X₁ hg hsize hdg hW (X₁.named hnamed) (hpre vm₁ X₁.warmed)
  exact ⟨v, vm₁, B, X₁.warmed, X', hpost, fun target h => hstep₁ _ fun acts => by rw [doInvoke_state]; exact hsteps.trans h⟩
abbrev vx_CVW (R : Room) (s : State) (args : Array Value) (own C : String) (index : Nat) (y : MethodName) (bytes : ByteArray) (maxL : Nat) (ret : Option FieldType) (hh : List (Nat × Nat × Nat × Nat)) (ws : List Cond) (rm : Room) (mc ms n : Nat) : Prop :=
  (rm.cells = mc ∧ rm.slots = ms ∧ rm.frames + 1 ≤ R.frames ∧ 8 + (maxL + 11) + rm.locals ≤ R.locals ∧ (∀ w ∈ ws, ∀ (a' : Array Value) (U : State), s.WarmedH U.vm → w.before a' U = true) ∧ Cond.codeWith y bytes maxL ret hh ∈ ws) ∧
  (Cond.codeWith y bytes maxL ret hh).before args s = true ∧ (Cond.initialized y.cls).before args s = true ∧ (y.cls ≠ "java/lang/invoke/MethodHandle" ∧ y.cls ≠ "java/lang/invoke/VarHandle") ∧
  (∀ sig, parseMethodDescriptor y.desc = some sig → n = sig.parameters.length) ∧ (Cond.methodLink own index y).before args s = true ∧ (Cond.instanceMethod y).before args s = true ∧ (Cond.selects C y y).before args s = true
theorem vx_cwVW {own C : String} {index maxL mc ms : Nat} {y : MethodName} {bytes : ByteArray} {ret : Option FieldType} {hh : List (Nat × Nat × Nat × Nat)} {Ts ws ws' : List Cond} {rm : Room} (n : Nat) (ht : ∀ w ∈ Ts, w.before args s = true) (hT : GoodIn Ts (wsV own index C y ws)) (hw : ws = Cond.codeWith y bytes maxL ret hh :: ws') (hrc : rm.cells = mc) (hrs : rm.slots = ms)
    (hd : y.cls = C ∧ y.cls ≠ "java/lang/invoke/MethodHandle" ∧ y.cls ≠ "java/lang/invoke/VarHandle" ∧ (parseMethodDescriptor y.desc).map (fun d => d.parameters.length) = some n) (hR : rm.frames + 1 ≤ R.frames ∧ 8 + (maxL + 11) + rm.locals ≤ R.locals) :
    vx_CVW R s args own C index y bytes maxL ret hh ws rm mc ms n := by
  obtain ⟨hC, hd⟩ := hd
  subst hC
  have ok : ∀ w ∈ wsV own index y.cls y ws, w.before args s = true := fun w h => ht w (hT w h).1
  have hG : GoodIn Ts ws := fun w h => hT w (by unfold wsV; exact List.mem_append_right _ h)
  have hc : Cond.codeWith y bytes maxL ret hh ∈ ws := by rw [hw]; exact List.mem_cons_self
  refine ⟨⟨hrc, hrs, hR.1, hR.2, pay_in ht hG, hc⟩, ht _ (hG _ hc).1, ok _ (by simp [wsV]), ⟨hd.1, hd.2.1⟩, fun sig h => ?_, ok _ (by simp [wsV]), ok _ (by simp [wsV]), ok _ (by simp [wsV])⟩
  have h2 := hd.2.2
  rw [h] at h2
  exact (Option.some.inj h2).symm
theorem vx_runVW {y : MethodName} {bytes cc : ByteArray} {maxL nL mc ms n index : Nat} {ret : Option FieldType} {hh : List (Nat × Nat × Nat × Nat)} {ws : List Cond} {rm : Room} {Pc : Array Value → State → Prop} {Qc : Array Value → State → Outcome → State → Prop} {free : Addr → Prop} {Ts : List Cond} {own C : String} {b : Addr} {As rest : List Value} {g : JFrame}
    (S : CallFix p m c cc nL s args Ts own) (hM : Met l y ws rm Pc Qc mc ms free) (cw : vx_CVW R s args own C index y bytes maxL ret hh ws rm mc ms n) (hp : PreV s H C b Pc As)
    (hg : g.method = m) (hn : As.length = n) (hsize : g.locals.size = nL) (hstack : g.stack = As.reverse ++ .ref b :: rest) (hW : 2 * g.monitorRoom + (rest.map fun v => v.category).sum ≤ 8) (hdg : decode cc g.pc = .ok (.invokevirtual index, 3)) (hf : cells + mc ≤ R.cells ∧ slots + ms ≤ R.slots) :
    va_Run p l e R s m args below meth c H locs cells slots mc ms g rest (Qc (Value.ref b :: As).toArray) free := by
  obtain ⟨⟨hrc, hrs, hfr, hlo, hws, hcw⟩, hcode, hini, hy, hlen, hl, hin, hse⟩ := cw
  have hK : Back l R p e below s args y 3 8 (PreOf R mc ms Pc) (PostOf Qc mc ms free) := va_backW (hh := hh) (bytes := bytes) (maxL := maxL) (ret := ret) hM hp.1 hrc hrs hfr hlo hws hcw (fun a' U hW => word_at hW (Or.inl (by first | rfl | simp [Cond.onTables, Cond.keeps, Cond.steady])) hini)
  obtain ⟨hx, hb, hml, ho, -⟩ := S
  obtain ⟨-, ⟨cellB, hcB, hoB, hclB⟩, hPc⟩ := hp
  intro T hT X
  obtain ⟨v, vm₁, ⟨U', l2, c2, s2⟩, hW₁, X', ⟨g', mk, t, L, e1, e2, hq, h1, hL, h2, h3⟩, st⟩ := vx_callVW X hx (C := C) (hh := hh) (bytes := bytes) (maxL := maxL) (ret := ret) ho hl hin hse hcode hy hK (by rw [hT]; exact hcB) hoB hclB hg (hsize.trans hml.symm) (argsL := As) (rest := rest) (fun sig h => hn.trans (hlen sig h)) hstack hW (by rw [hb]; exact hdg)
    (fun vm₁ hW₁ => ⟨hf.1, hf.2, hPc (T.setVm vm₁) hT hW₁⟩)
  dsimp only [Pt.U, Pt.locs, Pt.cells, Pt.slots] at X' e1 e2 h1 h2 h3 st
  subst h1; subst h2; subst h3
  exact ⟨v, (T.setVm vm₁).calling g' mk (Value.ref b :: As).toArray, t, U', L, hT, X', hL, e1, e2, hq, st⟩
section
variable {y : MethodName} {bytes cc : ByteArray} {maxL nL mc ms n index : Nat} {ret : Option FieldType} {ws : List Cond} {rm : Room} {Pc : Array Value → State → Prop} {Qc : Array Value → State → Outcome → State → Prop} {XC : String → State → State → Prop} {free : Addr → Prop} {Ts : List Cond} {own C : String} {b : Addr} {As rest : List Value} {g : JFrame}
theorem vx_runVX {hh : List (Nat × Nat × Nat × Nat)} (S : CallFix p m c cc nL s args Ts own) (hM : vx_Met l y ws rm Pc Qc XC mc ms free) (cw : vx_CVW R s args own C index y bytes maxL ret hh ws rm mc ms n) (hp : PreV s H C b Pc As)
    (hg : g.method = m) (hn : As.length = n) (hsize : g.locals.size = nL) (hstack : g.stack = As.reverse ++ .ref b :: rest) (hW : 2 * g.monitorRoom + (rest.map fun v => v.category).sum ≤ 8) (hdg : decode cc g.pc = .ok (.invokevirtual index, 3)) (hf : cells + mc ≤ R.cells ∧ slots + ms ≤ R.slots) :
    vx_Run p l e R s m args below meth c H locs cells slots mc ms g rest (Qc (Value.ref b :: As).toArray) XC free := by
  obtain ⟨⟨hrc, hrs, hfr, hlo, hws, hcw⟩, hcode, hini, hy, hlen, hl, hin, hse⟩ := cw
  have hK : vx_Back l R p e below s args y 3 8 (PreOf R mc ms Pc) (PostOf Qc mc ms free) (vx_Post XC mc ms free) := vx_backW (hh := hh) (bytes := bytes) (maxL := maxL) (ret := ret) hM hp.1 hrc hrs hfr hlo hws hcw (fun a' U hW => word_at hW (Or.inl (by first | rfl | simp [Cond.onTables, Cond.keeps, Cond.steady])) hini)
  obtain ⟨hx, hb, hml, ho, -⟩ := S
  obtain ⟨-, ⟨cellB, hcB, hoB, hclB⟩, hPc⟩ := hp
  intro T hT X
  rcases vx_callVX X hx (C := C) (hh := hh) (bytes := bytes) (maxL := maxL) (ret := ret) ho hl hin hse hcode hy hK (by rw [hT]; exact hcB) hoB hclB hg (hsize.trans hml.symm) (argsL := As) (rest := rest) (fun sig h => hn.trans (hlen sig h)) hstack hW (by rw [hb]; exact hdg)
    (fun vm₁ hW₁ => ⟨hf.1, hf.2, hPc (T.setVm vm₁) hT hW₁⟩) with ⟨v, vm₁, ⟨U', l2, c2, s2⟩, hW₁, X', ⟨g', mk, t, L, e1, e2, hq, h1, hL, h2, h3⟩, st⟩ | ⟨q, vm₁, ⟨U', l2, c2, s2⟩, hW₁, X', ⟨g', mk, t, L, E, ce, e1, e2, hq, hce, hcv, hcl, h1, hL, h2, h3⟩, st⟩
  · dsimp only [Pt.U, Pt.locs, Pt.cells, Pt.slots] at X' e1 e2 h1 h2 h3 st
    subst h1; subst h2; subst h3
    exact Or.inl ⟨v, (T.setVm vm₁).calling g' mk (Value.ref b :: As).toArray, t, U', L, hT, X', hL, e1, e2, hq, st⟩
  · dsimp only [Pt.U, Pt.locs, Pt.cells, Pt.slots] at X' e1 e2 h1 h2 h3 st hcl
    subst h1; subst h2; subst h3
    exact Or.inr ⟨q, (T.setVm vm₁).calling g' mk (Value.ref b :: As).toArray, t, U', L, E, ce, hT, X', hL, e1, e2, hq, hce, hcv, vx_cls hW₁ hcl, st⟩
theorem vx_runSX {hh : List (Nat × Nat × Nat × Nat)} (S : CallFix p m c cc nL s args Ts own) (hM : vx_Met l y ws rm Pc Qc XC mc ms free) (cw : vx_CSW R s args own index y bytes maxL ret hh ws rm mc ms n) (hp : PreS s H Pc As)
    (hg : g.method = m) (hn : As.length = n) (hsize : g.locals.size = nL) (hstack : g.stack = As.reverse ++ rest) (hW : 2 * g.monitorRoom + (rest.map fun v => v.category).sum ≤ 8) (hdg : decode cc g.pc = .ok (.invokestatic index, 3)) (hf : cells + mc ≤ R.cells ∧ slots + ms ≤ R.slots) :
    vx_Run p l e R s m args below meth c H locs cells slots mc ms g rest (Qc As.toArray) XC free := by
  obtain ⟨⟨hrc, hrs, hfr, hlo, hws, hcw⟩, hcode, hini, hy, hlen, hl, hstt⟩ := cw
  have hK : vx_Back l R p e below s args y 3 8 (PreOf R mc ms Pc) (PostOf Qc mc ms free) (vx_Post XC mc ms free) := vx_backW (hh := hh) (bytes := bytes) (maxL := maxL) (ret := ret) hM hp.1 hrc hrs hfr hlo hws hcw (fun a' U hW => word_at hW (Or.inl (by first | rfl | simp [Cond.onTables, Cond.keeps, Cond.steady])) hini)
  obtain ⟨hx, hb, hml, ho, -⟩ := S
  intro T hT X
  rcases vx_callSX X hx (hh := hh) (bytes := bytes) (maxL := maxL) (ret := ret) ho hl hstt hini hcode hy hK hg (hsize.trans hml.symm) (argsL := As) (rest := rest) (fun sig h => hn.trans (hlen sig h)) hstack hW (by rw [hb]; exact hdg)
    (fun vm₁ hW₁ => ⟨hf.1, hf.2, hp.2 (T.setVm vm₁) hT hW₁⟩) with ⟨v, vm₁, ⟨U', l2, c2, s2⟩, hW₁, X', ⟨g', mk, t, L, e1, e2, hq, h1, hL, h2, h3⟩, st⟩ | ⟨q, vm₁, ⟨U', l2, c2, s2⟩, hW₁, X', ⟨g', mk, t, L, E, ce, e1, e2, hq, hce, hcv, hcl, h1, hL, h2, h3⟩, st⟩
  · dsimp only [Pt.U, Pt.locs, Pt.cells, Pt.slots] at X' e1 e2 h1 h2 h3 st
    subst h1; subst h2; subst h3
    exact Or.inl ⟨v, (T.setVm vm₁).calling g' mk As.toArray, t, U', L, hT, X', hL, e1, e2, hq, st⟩
  · dsimp only [Pt.U, Pt.locs, Pt.cells, Pt.slots] at X' e1 e2 h1 h2 h3 st hcl
    subst h1; subst h2; subst h3
    exact Or.inr ⟨q, (T.setVm vm₁).calling g' mk As.toArray, t, U', L, E, ce, hT, X', hL, e1, e2, hq, hce, hcv, vx_cls hW₁ hcl, st⟩
end
end VXH
theorem vx_ofWH {l : Launch} {y : MethodName} {ws ws' : List Cond} {rm : Room} {Pc : Array Value → State → Prop} {Qc : Array Value → State → Outcome → State → Prop} {XC : String → State → State → Prop} {mc ms : Nat} {free : Addr → Prop} {cc : ByteArray} {maxL : Nat} {ret : Option FieldType} {hh : List (Nat × Nat × Nat × Nat)}
    (hy : plainName y.cls = true) (hw : ws = Cond.codeWith y cc maxL ret hh :: ws')
    (body : ∀ p e s m args below meth c s₁, BodyLoose p l y (headSpec ws rm) cc maxL ret e s m args below meth c s₁ → c.maxLocals = maxL → Pc args s →
      W p l e (headSpec ws rm).room s m args below meth c s.heap [] 0 0 (vx_MQ below Qc XC args s mc ms free) (entryFrame m args maxL)) : vx_Met l y ws rm Pc Qc XC mc ms free := by
  refine MetFree.of_bodyS (code := cc) (maxLocals := maxL) (ret := ret) hy ?_ ?_
  · intro args s m h hn
    obtain ⟨m9, meth, c, hn9, h1, h2, h3, h4, -, h5, h6, -⟩ := Cond.codeWith_spec (atoms_spec (ws := ws) h _ (by rw [hw]; exact List.mem_cons_self))
    cases hn.symm.trans hn9
    exact ⟨meth, c, h1, h2, h3, h4, h5, h6⟩
  · intro p e s m args below meth c s₁ B hml hP _
    have hh0 : s₁.heap = s.heap := by rw [B.state]; rfl
    obtain ⟨t, a1, o, b1, b2, b3⟩ := body p e s m args below meth c s₁ B hml hP s₁ hh0 (Stand.of_body B)
    exact ⟨t, o, a1, b1, b2, b3⟩
/-! ===== END ===== -/

def RX0 : String := "SteepleWords$Ballot"
def TX0 : u_T := fun k => match k with
  | 0 => ("SteepleWords$Ballot", "changes", "[I", true)
  | 1 => ("SteepleWords$Ballot", "lowest", "I", false)
  | 2 => ("SteepleWords$Ballot", "highest", "I", false)
  | _ => ("SteepleWords$Ballot", "most", "I", false)
def tyX0 : Nat → FieldType := fun k => match k with
  | 0 => .array .int
  | 1 => .int
  | 2 => .int
  | _ => .int
abbrev wsX00 : List Cond := u_ws RX0 TX0 4
theorem nmX0 : ∀ a, a < 4 → ∀ b, b < 4 → a ≠ b → (TX0 a).2.1 ≠ (TX0 b).2.1 := by decide +kernel
theorem tyX0_ok : ∀ k, k < 4 → parseFieldDescriptor (TX0 k).2.2.1 = some (tyX0 k) := by decide +kernel
abbrev cX0_init : ByteArray := prog_2_method_1_code
def yX0_init : MethodName := ⟨RX0, "<init>", "()V"⟩
abbrev cX0_lowest : ByteArray := prog_2_method_2_code
def yX0_lowest : MethodName := ⟨RX0, "lowest", "()I"⟩
abbrev cX0_most : ByteArray := prog_2_method_3_code
def yX0_most : MethodName := ⟨RX0, "most", "()I"⟩
abbrev cX0_told : ByteArray := prog_2_method_4_code
def yX0_told : MethodName := ⟨RX0, "told", "(I)I"⟩
abbrev cX0_countByHeights : ByteArray := prog_2_method_5_code
def yX0_countByHeights : MethodName := ⟨RX0, "countByHeights", "(LSteepleWords$Parish;I)V"⟩
abbrev cX0_noteChanges : ByteArray := prog_2_method_6_code
def yX0_noteChanges : MethodName := ⟨RX0, "noteChanges", "(LSteepleWords$Parish;I)V"⟩
abbrev cX0_countByEnds : ByteArray := prog_2_method_7_code
def yX0_countByEnds : MethodName := ⟨RX0, "countByEnds", "(LSteepleWords$Parish;II)V"⟩
abbrev cX0_tryLowest : ByteArray := prog_2_method_8_code
def yX0_tryLowest : MethodName := ⟨RX0, "tryLowest", "(II)V"⟩
def RX1 : String := "SteepleWords$History"
def TX1 : u_T := fun k => match k with
  | 0 => ("SteepleWords$History", "states", "[LSteepleWords$Parish;", true)
  | 1 => ("SteepleWords$History", "next", "I", false)
  | _ => ("SteepleWords$History", "count", "I", false)
def tyX1 : Nat → FieldType := fun k => match k with
  | 0 => .array (.object "SteepleWords$Parish")
  | 1 => .int
  | _ => .int
abbrev wsX10 : List Cond := u_ws RX1 TX1 3
theorem nmX1 : ∀ a, a < 3 → ∀ b, b < 3 → a ≠ b → (TX1 a).2.1 ≠ (TX1 b).2.1 := by decide +kernel
theorem tyX1_ok : ∀ k, k < 3 → parseFieldDescriptor (TX1 k).2.2.1 = some (tyX1 k) := by decide +kernel
abbrev cX1_init : ByteArray := prog_3_method_1_code
def yX1_init : MethodName := ⟨RX1, "<init>", "()V"⟩
abbrev cX1_isEmpty : ByteArray := prog_3_method_2_code
def yX1_isEmpty : MethodName := ⟨RX1, "isEmpty", "()Z"⟩
abbrev cX1_forget : ByteArray := prog_3_method_3_code
def yX1_forget : MethodName := ⟨RX1, "forget", "()V"⟩
abbrev cX1_remember : ByteArray := prog_3_method_4_code
def yX1_remember : MethodName := ⟨RX1, "remember", "(LSteepleWords$Parish;)V"⟩
abbrev cX1_takeBack : ByteArray := prog_3_method_5_code
def yX1_takeBack : MethodName := ⟨RX1, "takeBack", "(LSteepleWords$Parish;)I"⟩
def RX2 : String := "SteepleWords$Parish"
def TX2 : u_T := fun k => match k with
  | 0 => ("SteepleWords$Parish", "measures", "[I", true)
  | 1 => ("SteepleWords$Parish", "trusts", "[I", true)
  | 2 => ("SteepleWords$Parish", "rights", "[I", true)
  | 3 => ("SteepleWords$Parish", "wrongs", "[I", true)
  | 4 => ("SteepleWords$Parish", "surveyed", "[I", true)
  | 5 => ("SteepleWords$Parish", "settings", "[I", true)
  | 6 => ("SteepleWords$Parish", "count", "I", false)
  | 7 => ("SteepleWords$Parish", "came", "I", false)
  | 8 => ("SteepleWords$Parish", "evenings", "I", false)
  | 9 => ("SteepleWords$Parish", "surveys", "I", false)
  | _ => ("SteepleWords$Parish", "lost", "I", false)
def tyX2 : Nat → FieldType := fun k => match k with
  | 0 => .array .int
  | 1 => .array .int
  | 2 => .array .int
  | 3 => .array .int
  | 4 => .array .int
  | 5 => .array .int
  | 6 => .int
  | 7 => .int
  | 8 => .int
  | 9 => .int
  | _ => .int
abbrev wsX20 : List Cond := u_ws RX2 TX2 11
theorem nmX2 : ∀ a, a < 11 → ∀ b, b < 11 → a ≠ b → (TX2 a).2.1 ≠ (TX2 b).2.1 := by decide +kernel
theorem tyX2_ok : ∀ k, k < 11 → parseFieldDescriptor (TX2 k).2.2.1 = some (tyX2 k) := by decide +kernel
abbrev cX2_init : ByteArray := prog_4_method_1_code
def yX2_init : MethodName := ⟨RX2, "<init>", "()V"⟩
abbrev cX2_makeNew : ByteArray := prog_4_method_2_code
def yX2_makeNew : MethodName := ⟨RX2, "makeNew", "()V"⟩
abbrev cX2_takeFrom : ByteArray := prog_4_method_3_code
def yX2_takeFrom : MethodName := ⟨RX2, "takeFrom", "(LSteepleWords$Parish;)V"⟩
abbrev cX2_isSteeple : ByteArray := prog_4_method_4_code
def yX2_isSteeple : MethodName := ⟨RX2, "isSteeple", "(I)Z"⟩
abbrev cX2_isTeller : ByteArray := prog_4_method_5_code
def yX2_isTeller : MethodName := ⟨RX2, "isTeller", "(I)Z"⟩
abbrev cX2_isTrust : ByteArray := prog_4_method_6_code
def yX2_isTrust : MethodName := ⟨RX2, "isTrust", "(I)Z"⟩
abbrev cX2_isHeight : ByteArray := prog_4_method_7_code
def yX2_isHeight : MethodName := ⟨RX2, "isHeight", "(I)Z"⟩
abbrev cX2_isSetting : ByteArray := prog_4_method_8_code
def yX2_isSetting : MethodName := ⟨RX2, "isSetting", "(I)Z"⟩
abbrev cX2_fitsSetting : ByteArray := prog_4_method_9_code
def yX2_fitsSetting : MethodName := ⟨RX2, "fitsSetting", "(II)Z"⟩
abbrev cX2_fits : ByteArray := prog_4_method_10_code
def yX2_fits : MethodName := ⟨RX2, "fits", "(IIIII)Z"⟩
abbrev cX2_fitsFarSide : ByteArray := prog_4_method_11_code
def yX2_fitsFarSide : MethodName := ⟨RX2, "fitsFarSide", "(II)Z"⟩
abbrev cX2_hasMeasure : ByteArray := prog_4_method_12_code
def yX2_hasMeasure : MethodName := ⟨RX2, "hasMeasure", "(I)Z"⟩
abbrev cX2_isFull : ByteArray := prog_4_method_13_code
def yX2_isFull : MethodName := ⟨RX2, "isFull", "()Z"⟩
abbrev cX2_tryMeasure : ByteArray := prog_4_method_14_code
def yX2_tryMeasure : MethodName := ⟨RX2, "tryMeasure", "(IIIIIII)Z"⟩
abbrev cX2_tryDrop : ByteArray := prog_4_method_15_code
def yX2_tryDrop : MethodName := ⟨RX2, "tryDrop", "(I)Z"⟩
abbrev cX2_tryTrust : ByteArray := prog_4_method_16_code
def yX2_tryTrust : MethodName := ⟨RX2, "tryTrust", "(II)Z"⟩
abbrev cX2_trySurvey : ByteArray := prog_4_method_17_code
def yX2_trySurvey : MethodName := ⟨RX2, "trySurvey", "(II)Z"⟩
abbrev cX2_addMeasure : ByteArray := prog_4_method_18_code
def yX2_addMeasure : MethodName := ⟨RX2, "addMeasure", "(IIIIIII)I"⟩
abbrev cX2_leastHeight : ByteArray := prog_4_method_19_code
def yX2_leastHeight : MethodName := ⟨RX2, "leastHeight", "(III)I"⟩
abbrev cX2_greatestHeight : ByteArray := prog_4_method_20_code
def yX2_greatestHeight : MethodName := ⟨RX2, "greatestHeight", "(III)I"⟩
abbrev cX2_withinFeet : ByteArray := prog_4_method_21_code
def yX2_withinFeet : MethodName := ⟨RX2, "withinFeet", "(I)I"⟩
abbrev cX2_removeMeasure : ByteArray := prog_4_method_22_code
def yX2_removeMeasure : MethodName := ⟨RX2, "removeMeasure", "(I)I"⟩
abbrev cX2_changeTrust : ByteArray := prog_4_method_23_code
def yX2_changeTrust : MethodName := ⟨RX2, "changeTrust", "(II)I"⟩
abbrev cX2_changeSetting : ByteArray := prog_4_method_24_code
def yX2_changeSetting : MethodName := ⟨RX2, "changeSetting", "(II)I"⟩
abbrev cX2_passEvening : ByteArray := prog_4_method_25_code
def yX2_passEvening : MethodName := ⟨RX2, "passEvening", "()I"⟩
abbrev cX2_shameLighter : ByteArray := prog_4_method_26_code
def yX2_shameLighter : MethodName := ⟨RX2, "shameLighter", "(II)V"⟩
abbrev cX2_surveySteeple : ByteArray := prog_4_method_27_code
def yX2_surveySteeple : MethodName := ⟨RX2, "surveySteeple", "(II)I"⟩
abbrev cX2_judge : ByteArray := prog_4_method_28_code
def yX2_judge : MethodName := ⟨RX2, "judge", "(IZ)V"⟩
abbrev cX2_removeMeasuresOf : ByteArray := prog_4_method_29_code
def yX2_removeMeasuresOf : MethodName := ⟨RX2, "removeMeasuresOf", "(I)V"⟩
abbrev cX2_number : ByteArray := prog_4_method_30_code
def yX2_number : MethodName := ⟨RX2, "number", "(II)I"⟩
abbrev cX2_isOf : ByteArray := prog_4_method_31_code
def yX2_isOf : MethodName := ⟨RX2, "isOf", "(II)Z"⟩
abbrev cX2_tells : ByteArray := prog_4_method_32_code
def yX2_tells : MethodName := ⟨RX2, "tells", "(II)Z"⟩
abbrev cX2_weight : ByteArray := prog_4_method_33_code
def yX2_weight : MethodName := ⟨RX2, "weight", "(I)I"⟩
abbrev cX2_feetApart : ByteArray := prog_4_method_34_code
def yX2_feetApart : MethodName := ⟨RX2, "feetApart", "(II)I"⟩
abbrev cX2_quarrel : ByteArray := prog_4_method_35_code
def yX2_quarrel : MethodName := ⟨RX2, "quarrel", "(II)Z"⟩
abbrev cX2_matters : ByteArray := prog_4_method_36_code
def yX2_matters : MethodName := ⟨RX2, "matters", "(II)Z"⟩
abbrev cX2_quarrelsOfMeasure : ByteArray := prog_4_method_37_code
def yX2_quarrelsOfMeasure : MethodName := ⟨RX2, "quarrelsOfMeasure", "(I)I"⟩
abbrev cX2_count : ByteArray := prog_4_method_38_code
def yX2_count : MethodName := ⟨RX2, "count", "()I"⟩
abbrev cX2_came : ByteArray := prog_4_method_39_code
def yX2_came : MethodName := ⟨RX2, "came", "()I"⟩
abbrev cX2_evenings : ByteArray := prog_4_method_40_code
def yX2_evenings : MethodName := ⟨RX2, "evenings", "()I"⟩
abbrev cX2_surveys : ByteArray := prog_4_method_41_code
def yX2_surveys : MethodName := ⟨RX2, "surveys", "()I"⟩
abbrev cX2_lost : ByteArray := prog_4_method_42_code
def yX2_lost : MethodName := ⟨RX2, "lost", "()I"⟩
abbrev cX2_settingOf : ByteArray := prog_4_method_43_code
def yX2_settingOf : MethodName := ⟨RX2, "settingOf", "(I)I"⟩
abbrev cX2_trustOfAll : ByteArray := prog_4_method_44_code
def yX2_trustOfAll : MethodName := ⟨RX2, "trustOfAll", "()I"⟩
abbrev cX2_rightOfAll : ByteArray := prog_4_method_45_code
def yX2_rightOfAll : MethodName := ⟨RX2, "rightOfAll", "()I"⟩
abbrev cX2_wrongOfAll : ByteArray := prog_4_method_46_code
def yX2_wrongOfAll : MethodName := ⟨RX2, "wrongOfAll", "()I"⟩
abbrev cX2_sum : ByteArray := prog_4_method_47_code
def yX2_sum : MethodName := ⟨RX2, "sum", "([I)I"⟩
abbrev cX2_pairsThatQuarrel : ByteArray := prog_4_method_48_code
def yX2_pairsThatQuarrel : MethodName := ⟨RX2, "pairsThatQuarrel", "()I"⟩
abbrev cX2_pairsThatMatter : ByteArray := prog_4_method_49_code
def yX2_pairsThatMatter : MethodName := ⟨RX2, "pairsThatMatter", "()I"⟩
abbrev cX2_trustOf : ByteArray := prog_4_method_50_code
def yX2_trustOf : MethodName := ⟨RX2, "trustOf", "(I)I"⟩
abbrev cX2_rightOf : ByteArray := prog_4_method_51_code
def yX2_rightOf : MethodName := ⟨RX2, "rightOf", "(I)I"⟩
abbrev cX2_wrongOf : ByteArray := prog_4_method_52_code
def yX2_wrongOf : MethodName := ⟨RX2, "wrongOf", "(I)I"⟩
abbrev cX2_measuresOfTeller : ByteArray := prog_4_method_53_code
def yX2_measuresOfTeller : MethodName := ⟨RX2, "measuresOfTeller", "(I)I"⟩
abbrev cX2_quarrelsOfTeller : ByteArray := prog_4_method_54_code
def yX2_quarrelsOfTeller : MethodName := ⟨RX2, "quarrelsOfTeller", "(I)I"⟩
abbrev cX2_tellsHeight : ByteArray := prog_4_method_55_code
def yX2_tellsHeight : MethodName := ⟨RX2, "tellsHeight", "(III)Z"⟩
abbrev cX2_tellerMostlyRight : ByteArray := prog_4_method_56_code
def yX2_tellerMostlyRight : MethodName := ⟨RX2, "tellerMostlyRight", "()I"⟩
abbrev cX2_isTruer : ByteArray := prog_4_method_57_code
def yX2_isTruer : MethodName := ⟨RX2, "isTruer", "(II)Z"⟩
abbrev cX2_heightSurveyed : ByteArray := prog_4_method_58_code
def yX2_heightSurveyed : MethodName := ⟨RX2, "heightSurveyed", "(I)I"⟩
abbrev cX2_measuresOfSteeple : ByteArray := prog_4_method_59_code
def yX2_measuresOfSteeple : MethodName := ⟨RX2, "measuresOfSteeple", "(I)I"⟩
abbrev cX2_weightOfSteeple : ByteArray := prog_4_method_60_code
def yX2_weightOfSteeple : MethodName := ⟨RX2, "weightOfSteeple", "(I)I"⟩
abbrev cX2_voteOf : ByteArray := prog_4_method_61_code
def yX2_voteOf : MethodName := ⟨RX2, "voteOf", "(III)I"⟩
abbrev cX2_loudestAgainst : ByteArray := prog_4_method_62_code
def yX2_loudestAgainst : MethodName := ⟨RX2, "loudestAgainst", "(II)I"⟩
abbrev cX2_isLouder : ByteArray := prog_4_method_63_code
def yX2_isLouder : MethodName := ⟨RX2, "isLouder", "(III)Z"⟩
abbrev cX2_feetFrom : ByteArray := prog_4_method_64_code
def yX2_feetFrom : MethodName := ⟨RX2, "feetFrom", "(II)I"⟩
def RX3 : String := "SteepleWords$Script"
def TX3 : u_T := fun k => match k with
  | _ => ("", "", "", false)
def tyX3 : Nat → FieldType := fun k => match k with
  | _ => .int
abbrev wsX30 : List Cond := u_ws RX3 TX3 0
theorem nmX3 : ∀ a, a < 0 → ∀ b, b < 0 → a ≠ b → (TX3 a).2.1 ≠ (TX3 b).2.1 := by decide +kernel
theorem tyX3_ok : ∀ k, k < 0 → parseFieldDescriptor (TX3 k).2.2.1 = some (tyX3 k) := by decide +kernel
abbrev cX3_limit : ByteArray := prog_5_method_2_code
def yX3_limit : MethodName := ⟨RX3, "limit", "(I)J"⟩
abbrev cX3_group : ByteArray := prog_5_method_3_code
def yX3_group : MethodName := ⟨RX3, "group", "(JI)I"⟩
abbrev cX3_succeeds : ByteArray := prog_5_method_4_code
def yX3_succeeds : MethodName := ⟨RX3, "succeeds", "(LSteepleWords$Parish;LSteepleWords$Ballot;I)Z"⟩
abbrev cX3_passEvenings : ByteArray := prog_5_method_5_code
def yX3_passEvenings : MethodName := ⟨RX3, "passEvenings", "(LSteepleWords$Parish;I)Z"⟩
abbrev cX3_lowestIsAtMost : ByteArray := prog_5_method_6_code
def yX3_lowestIsAtMost : MethodName := ⟨RX3, "lowestIsAtMost", "(LSteepleWords$Parish;LSteepleWords$Ballot;II)Z"⟩
abbrev cX3_mostIsAtLeast : ByteArray := prog_5_method_7_code
def yX3_mostIsAtLeast : MethodName := ⟨RX3, "mostIsAtLeast", "(LSteepleWords$Parish;LSteepleWords$Ballot;II)Z"⟩
def RX4 : String := "SteepleWords$Simulation"
def TX4 : u_T := fun k => match k with
  | _ => ("", "", "", false)
def tyX4 : Nat → FieldType := fun k => match k with
  | _ => .int
abbrev wsX40 : List Cond := u_ws RX4 TX4 0
theorem nmX4 : ∀ a, a < 0 → ∀ b, b < 0 → a ≠ b → (TX4 a).2.1 ≠ (TX4 b).2.1 := by decide +kernel
theorem tyX4_ok : ∀ k, k < 0 → parseFieldDescriptor (TX4 k).2.2.1 = some (tyX4 k) := by decide +kernel
abbrev cX4_turn : ByteArray := prog_6_method_2_code
def yX4_turn : MethodName := ⟨RX4, "turn", "(LSteepleWords$Parish;I)V"⟩
abbrev cX4_tell : ByteArray := prog_6_method_3_code
def yX4_tell : MethodName := ⟨RX4, "tell", "(LSteepleWords$Parish;II)V"⟩
abbrev cX4_changeSetting : ByteArray := prog_6_method_4_code
def yX4_changeSetting : MethodName := ⟨RX4, "changeSetting", "(LSteepleWords$Parish;I)V"⟩
def RX5 : String := "SteepleWords$Text"
def TX5 : u_T := fun k => match k with
  | 0 => ("SteepleWords$Text", "signs", "[I", true)
  | 1 => ("SteepleWords$Text", "length", "I", false)
  | 2 => ("SteepleWords$Text", "position", "I", false)
  | 3 => ("SteepleWords$Text", "command", "I", false)
  | _ => ("SteepleWords$Text", "numbers", "[I", true)
def tyX5 : Nat → FieldType := fun k => match k with
  | 0 => .array .int
  | 1 => .int
  | 2 => .int
  | 3 => .int
  | _ => .array .int
abbrev wsX50 : List Cond := u_ws RX5 TX5 5
theorem nmX5 : ∀ a, a < 5 → ∀ b, b < 5 → a ≠ b → (TX5 a).2.1 ≠ (TX5 b).2.1 := by decide +kernel
theorem tyX5_ok : ∀ k, k < 5 → parseFieldDescriptor (TX5 k).2.2.1 = some (tyX5 k) := by decide +kernel
abbrev cX5_init : ByteArray := prog_7_method_1_code
def yX5_init : MethodName := ⟨RX5, "<init>", "()V"⟩
abbrev cX5_isFull : ByteArray := prog_7_method_2_code
def yX5_isFull : MethodName := ⟨RX5, "isFull", "()Z"⟩
abbrev cX5_add : ByteArray := prog_7_method_3_code
def yX5_add : MethodName := ⟨RX5, "add", "(I)I"⟩
abbrev cX5_command : ByteArray := prog_7_method_5_code
def yX5_command : MethodName := ⟨RX5, "command", "()I"⟩
abbrev cX5_number : ByteArray := prog_7_method_6_code
def yX5_number : MethodName := ⟨RX5, "number", "(I)I"⟩
abbrev cX5_findError : ByteArray := prog_7_method_7_code
def yX5_findError : MethodName := ⟨RX5, "findError", "()I"⟩
abbrev cX5_readHead : ByteArray := prog_7_method_8_code
def yX5_readHead : MethodName := ⟨RX5, "readHead", "()Z"⟩
abbrev cX5_readCommand : ByteArray := prog_7_method_9_code
def yX5_readCommand : MethodName := ⟨RX5, "readCommand", "()Z"⟩
abbrev cX5_signHere : ByteArray := prog_7_method_10_code
def yX5_signHere : MethodName := ⟨RX5, "signHere", "()I"⟩
abbrev cX5_readNumbers : ByteArray := prog_7_method_11_code
def yX5_readNumbers : MethodName := ⟨RX5, "readNumbers", "([I)Z"⟩
abbrev cX5_readNumber : ByteArray := prog_7_method_12_code
def yX5_readNumber : MethodName := ⟨RX5, "readNumber", "(III)I"⟩
abbrev cX5_leadsInto : ByteArray := prog_7_method_13_code
def yX5_leadsInto : MethodName := ⟨RX5, "leadsInto", "(IIII)Z"⟩
def RX6 : String := "SteepleWords"
def TX6 : u_T := fun k => match k with
  | 0 => ("SteepleWords", "parish", "LSteepleWords$Parish;", true)
  | 1 => ("SteepleWords", "copy", "LSteepleWords$Parish;", true)
  | 2 => ("SteepleWords", "slots", "[LSteepleWords$Parish;", true)
  | 3 => ("SteepleWords", "saved", "[Z", true)
  | 4 => ("SteepleWords", "history", "LSteepleWords$History;", true)
  | 5 => ("SteepleWords", "text", "LSteepleWords$Text;", true)
  | _ => ("SteepleWords", "ballot", "LSteepleWords$Ballot;", true)
def tyX6 : Nat → FieldType := fun k => match k with
  | 0 => .object "SteepleWords$Parish"
  | 1 => .object "SteepleWords$Parish"
  | 2 => .array (.object "SteepleWords$Parish")
  | 3 => .array .boolean
  | 4 => .object "SteepleWords$History"
  | 5 => .object "SteepleWords$Text"
  | _ => .object "SteepleWords$Ballot"
abbrev wsX60 : List Cond := u_ws RX6 TX6 7
theorem nmX6 : ∀ a, a < 7 → ∀ b, b < 7 → a ≠ b → (TX6 a).2.1 ≠ (TX6 b).2.1 := by decide +kernel
theorem tyX6_ok : ∀ k, k < 7 → parseFieldDescriptor (TX6 k).2.2.1 = some (tyX6 k) := by decide +kernel
abbrev cX6_init : ByteArray := prog_1_method_1_code
def yX6_init : MethodName := ⟨RX6, "<init>", "()V"⟩
abbrev cX6_append : ByteArray := prog_1_method_2_code
def yX6_append : MethodName := ⟨RX6, "append", "(I)I"⟩
abbrev cX6_load : ByteArray := prog_1_method_5_code
def yX6_load : MethodName := ⟨RX6, "load", "()I"⟩
abbrev cX6_doCommandOfText : ByteArray := prog_1_method_6_code
def yX6_doCommandOfText : MethodName := ⟨RX6, "doCommandOfText", "()Z"⟩
abbrev cX6_about : ByteArray := prog_1_method_7_code
def yX6_about : MethodName := ⟨RX6, "about", "(I)I"⟩
abbrev cX6_measureOf : ByteArray := prog_1_method_8_code
def yX6_measureOf : MethodName := ⟨RX6, "measureOf", "(II)I"⟩
abbrev cX6_tellerOf : ByteArray := prog_1_method_9_code
def yX6_tellerOf : MethodName := ⟨RX6, "tellerOf", "(II)I"⟩
abbrev cX6_steepleOf : ByteArray := prog_1_method_10_code
def yX6_steepleOf : MethodName := ⟨RX6, "steepleOf", "(II)I"⟩
abbrev cX6_vote : ByteArray := prog_1_method_11_code
def yX6_vote : MethodName := ⟨RX6, "vote", "(II)I"⟩
abbrev cX6_best : ByteArray := prog_1_method_12_code
def yX6_best : MethodName := ⟨RX6, "best", "(III)I"⟩
abbrev cX6_setting : ByteArray := prog_1_method_13_code
def yX6_setting : MethodName := ⟨RX6, "setting", "(I)I"⟩
abbrev cX6_measure : ByteArray := prog_1_method_14_code
def yX6_measure : MethodName := ⟨RX6, "measure", "(IIIIIII)I"⟩
abbrev cX6_drop : ByteArray := prog_1_method_15_code
def yX6_drop : MethodName := ⟨RX6, "drop", "(I)I"⟩
abbrev cX6_trust : ByteArray := prog_1_method_16_code
def yX6_trust : MethodName := ⟨RX6, "trust", "(II)I"⟩
abbrev cX6_evening : ByteArray := prog_1_method_17_code
def yX6_evening : MethodName := ⟨RX6, "evening", "()I"⟩
abbrev cX6_survey : ByteArray := prog_1_method_18_code
def yX6_survey : MethodName := ⟨RX6, "survey", "(II)I"⟩
abbrev cX6_set : ByteArray := prog_1_method_19_code
def yX6_set : MethodName := ⟨RX6, "set", "(II)I"⟩
abbrev cX6_undo : ByteArray := prog_1_method_20_code
def yX6_undo : MethodName := ⟨RX6, "undo", "()I"⟩
abbrev cX6_apart : ByteArray := prog_1_method_21_code
def yX6_apart : MethodName := ⟨RX6, "apart", "(II)I"⟩
abbrev cX6_against : ByteArray := prog_1_method_22_code
def yX6_against : MethodName := ⟨RX6, "against", "(I)I"⟩
abbrev cX6_without : ByteArray := prog_1_method_23_code
def yX6_without : MethodName := ⟨RX6, "without", "(II)I"⟩
abbrev cX6_swings : ByteArray := prog_1_method_24_code
def yX6_swings : MethodName := ⟨RX6, "swings", "(II)I"⟩
abbrev cX6_truest : ByteArray := prog_1_method_25_code
def yX6_truest : MethodName := ⟨RX6, "truest", "()I"⟩
abbrev cX6_runScript : ByteArray := prog_1_method_26_code
def yX6_runScript : MethodName := ⟨RX6, "runScript", "(IJ)I"⟩
abbrev cX6_simulate : ByteArray := prog_1_method_27_code
def yX6_simulate : MethodName := ⟨RX6, "simulate", "(JI)I"⟩
abbrev cX6_save : ByteArray := prog_1_method_28_code
def yX6_save : MethodName := ⟨RX6, "save", "(I)I"⟩
abbrev cX6_restore : ByteArray := prog_1_method_29_code
def yX6_restore : MethodName := ⟨RX6, "restore", "(I)I"⟩
abbrev cX6_need : ByteArray := prog_1_method_30_code
def yX6_need : MethodName := ⟨RX6, "need", "(Z)V"⟩
abbrev cX6_needSteeple : ByteArray := prog_1_method_31_code
def yX6_needSteeple : MethodName := ⟨RX6, "needSteeple", "(I)V"⟩
abbrev cX6_needTeller : ByteArray := prog_1_method_32_code
def yX6_needTeller : MethodName := ⟨RX6, "needTeller", "(I)V"⟩
abbrev cX6_needMeasure : ByteArray := prog_1_method_33_code
def yX6_needMeasure : MethodName := ⟨RX6, "needMeasure", "(I)V"⟩
abbrev cX6_needSlot : ByteArray := prog_1_method_34_code
def yX6_needSlot : MethodName := ⟨RX6, "needSlot", "(I)V"⟩
def RX7 : String := "SteepleWordsModel"
def TX7 : u_T := fun k => match k with
  | _ => ("", "", "", false)
def tyX7 : Nat → FieldType := fun k => match k with
  | _ => .int
abbrev wsX70 : List Cond := u_ws RX7 TX7 0
theorem nmX7 : ∀ a, a < 0 → ∀ b, b < 0 → a ≠ b → (TX7 a).2.1 ≠ (TX7 b).2.1 := by decide +kernel
theorem tyX7_ok : ∀ k, k < 0 → parseFieldDescriptor (TX7 k).2.2.1 = some (tyX7 k) := by decide +kernel
def RJx145de : String := "java/io/Serializable"
def TJx145de : u_T := fun k => match k with
  | _ => ("", "", "", false)
def tyJx145de : Nat → FieldType := fun k => match k with
  | _ => .int
abbrev wsJx145de0 : List Cond := u_ws RJx145de TJx145de 0
theorem nmJx145de : ∀ a, a < 0 → ∀ b, b < 0 → a ≠ b → (TJx145de a).2.1 ≠ (TJx145de b).2.1 := by decide +kernel
theorem tyJx145de_ok : ∀ k, k < 0 → parseFieldDescriptor (TJx145de k).2.2.1 = some (tyJx145de k) := by decide +kernel
def RJ9 : String := "java/lang/Math"
def TJ9 : u_T := fun k => match k with
  | _ => ("", "", "", false)
def tyJ9 : Nat → FieldType := fun k => match k with
  | _ => .int
abbrev wsJ90 : List Cond := u_ws RJ9 TJ9 0
theorem nmJ9 : ∀ a, a < 0 → ∀ b, b < 0 → a ≠ b → (TJ9 a).2.1 ≠ (TJ9 b).2.1 := by decide +kernel
theorem tyJ9_ok : ∀ k, k < 0 → parseFieldDescriptor (TJ9 k).2.2.1 = some (tyJ9 k) := by decide +kernel
abbrev cJ9_floorDiv_7cf53 : ByteArray := prog_14_method_47_code
def yJ9_floorDiv_7cf53 : MethodName := ⟨RJ9, "floorDiv", "(II)I"⟩
abbrev cJ9_max_7cf53 : ByteArray := prog_14_method_65_code
def yJ9_max_7cf53 : MethodName := ⟨RJ9, "max", "(II)I"⟩
abbrev cJ9_min_7cf53 : ByteArray := prog_14_method_69_code
def yJ9_min_7cf53 : MethodName := ⟨RJ9, "min", "(II)I"⟩
def RJ0 : String := "java/lang/String"
def TJ0 : u_T := fun k => match k with
  | _ => ("", "", "", false)
def tyJ0 : Nat → FieldType := fun k => match k with
  | _ => .int
abbrev wsJ00 : List Cond := u_ws RJ0 TJ0 0
theorem nmJ0 : ∀ a, a < 0 → ∀ b, b < 0 → a ≠ b → (TJ0 a).2.1 ≠ (TJ0 b).2.1 := by decide +kernel
theorem tyJ0_ok : ∀ k, k < 0 → parseFieldDescriptor (TJ0 k).2.2.1 = some (tyJ0 k) := by decide +kernel
def RJ10 : String := "java/lang/System"
def TJ10 : u_T := fun k => match k with
  | _ => ("", "", "", false)
def tyJ10 : Nat → FieldType := fun k => match k with
  | _ => .int
abbrev wsJ100 : List Cond := u_ws RJ10 TJ10 0
theorem nmJ10 : ∀ a, a < 0 → ∀ b, b < 0 → a ≠ b → (TJ10 a).2.1 ≠ (TJ10 b).2.1 := by decide +kernel
theorem tyJ10_ok : ∀ k, k < 0 → parseFieldDescriptor (TJ10 k).2.2.1 = some (tyJ10 k) := by decide +kernel
def RJ7 : String := "java/util/Arrays"
def TJ7 : u_T := fun k => match k with
  | _ => ("", "", "", false)
def tyJ7 : Nat → FieldType := fun k => match k with
  | _ => .int
abbrev wsJ70 : List Cond := u_ws RJ7 TJ7 0
theorem nmJ7 : ∀ a, a < 0 → ∀ b, b < 0 → a ≠ b → (TJ7 a).2.1 ≠ (TJ7 b).2.1 := by decide +kernel
theorem tyJ7_ok : ∀ k, k < 0 → parseFieldDescriptor (TJ7 k).2.2.1 = some (tyJ7 k) := by decide +kernel
abbrev cJ7_fill_53178 : ByteArray := prog_19_method_103_code
def yJ7_fill_53178 : MethodName := ⟨RJ7, "fill", "([II)V"⟩
def RL : String := "SteepleWordsLaw"
abbrev cL_told : ByteArray := method_2_code
def yL_told : MethodName := ⟨RL, "told", "(LSteepleWords;IIIIIII)I"⟩
abbrev cL_doScript : ByteArray := method_3_code
def yL_doScript : MethodName := ⟨RL, "doScript", "(LSteepleWords;IJ)I"⟩
abbrev cL_doSimulate : ByteArray := method_4_code
def yL_doSimulate : MethodName := ⟨RL, "doSimulate", "(LSteepleWords;JI)I"⟩
abbrev cL_tryAppend : ByteArray := method_5_code
def yL_tryAppend : MethodName := ⟨RL, "tryAppend", "(LSteepleWords;I)I"⟩
abbrev cL_tryLoad : ByteArray := method_6_code
def yL_tryLoad : MethodName := ⟨RL, "tryLoad", "(LSteepleWords;)I"⟩
abbrev cL_tryAbout : ByteArray := method_7_code
def yL_tryAbout : MethodName := ⟨RL, "tryAbout", "(LSteepleWords;I)I"⟩
abbrev cL_tryOf : ByteArray := method_8_code
def yL_tryOf : MethodName := ⟨RL, "tryOf", "(LSteepleWords;II)I"⟩
abbrev cL_tryTeller : ByteArray := method_9_code
def yL_tryTeller : MethodName := ⟨RL, "tryTeller", "(LSteepleWords;II)I"⟩
abbrev cL_trySteeple : ByteArray := method_10_code
def yL_trySteeple : MethodName := ⟨RL, "trySteeple", "(LSteepleWords;II)I"⟩
abbrev cL_tryVote : ByteArray := method_11_code
def yL_tryVote : MethodName := ⟨RL, "tryVote", "(LSteepleWords;II)I"⟩
abbrev cL_tryBest : ByteArray := method_12_code
def yL_tryBest : MethodName := ⟨RL, "tryBest", "(LSteepleWords;III)I"⟩
abbrev cL_trySetting : ByteArray := method_13_code
def yL_trySetting : MethodName := ⟨RL, "trySetting", "(LSteepleWords;I)I"⟩
abbrev cL_tryDrop : ByteArray := method_14_code
def yL_tryDrop : MethodName := ⟨RL, "tryDrop", "(LSteepleWords;I)I"⟩
abbrev cL_tryTrust : ByteArray := method_15_code
def yL_tryTrust : MethodName := ⟨RL, "tryTrust", "(LSteepleWords;II)I"⟩
abbrev cL_trySurvey : ByteArray := method_16_code
def yL_trySurvey : MethodName := ⟨RL, "trySurvey", "(LSteepleWords;II)I"⟩
abbrev cL_tryLay : ByteArray := method_17_code
def yL_tryLay : MethodName := ⟨RL, "tryLay", "(LSteepleWords;II)I"⟩
abbrev cL_tryUndo : ByteArray := method_18_code
def yL_tryUndo : MethodName := ⟨RL, "tryUndo", "(LSteepleWords;)I"⟩
abbrev cL_tryApart : ByteArray := method_19_code
def yL_tryApart : MethodName := ⟨RL, "tryApart", "(LSteepleWords;II)I"⟩
abbrev cL_tryAgainst : ByteArray := method_20_code
def yL_tryAgainst : MethodName := ⟨RL, "tryAgainst", "(LSteepleWords;I)I"⟩
abbrev cL_tryWithout : ByteArray := method_21_code
def yL_tryWithout : MethodName := ⟨RL, "tryWithout", "(LSteepleWords;II)I"⟩
abbrev cL_trySwings : ByteArray := method_22_code
def yL_trySwings : MethodName := ⟨RL, "trySwings", "(LSteepleWords;II)I"⟩
abbrev cL_tryKeep : ByteArray := method_23_code
def yL_tryKeep : MethodName := ⟨RL, "tryKeep", "(LSteepleWords;I)I"⟩
abbrev cL_tryBack : ByteArray := method_24_code
def yL_tryBack : MethodName := ⟨RL, "tryBack", "(LSteepleWords;I)I"⟩
abbrev cL_call : ByteArray := method_25_code
def yL_call : MethodName := ⟨RL, "call", "(LSteepleWords;IIII)I"⟩
abbrev cL_cell : ByteArray := method_26_code
def yL_cell : MethodName := ⟨RL, "cell", "([II)I"⟩
abbrev cL_thrown : ByteArray := method_27_code
def yL_thrown : MethodName := ⟨RL, "thrown", "(I)Z"⟩
abbrev cL_refuses : ByteArray := method_28_code
def yL_refuses : MethodName := ⟨RL, "refuses", "(LSteepleWords;I)Z"⟩
abbrev cL_holds : ByteArray := method_29_code
def yL_holds : MethodName := ⟨RL, "holds", "(LSteepleWords;I)Z"⟩
abbrev cL_act : ByteArray := method_30_code
def yL_act : MethodName := ⟨RL, "act", "(LSteepleWords;I)I"⟩
abbrev cL_alike : ByteArray := method_31_code
def yL_alike : MethodName := ⟨RL, "alike", "(LSteepleWords;LSteepleWords;I)Z"⟩
abbrev cL_law : ByteArray := code
def yL_law : MethodName := ⟨RL, "law", "([I)Z"⟩
abbrev cL_surveys : ByteArray := method_33_code
def yL_surveys : MethodName := ⟨RL, "surveys", "(LSteepleWords;LSteepleWords;I)Z"⟩
abbrev cL_drops : ByteArray := method_34_code
def yL_drops : MethodName := ⟨RL, "drops", "(LSteepleWords;LSteepleWords;I)Z"⟩
abbrev vwCl : List vw_C := [(RX0, TX0, 4), (RX1, TX1, 3), (RX2, TX2, 11), (RX5, TX5, 5), (RX6, TX6, 7)]
end
section
theorem dX0_init_0 : decode cX0_init 0 = .ok (.aload_n 0, 1) := by decide +kernel
theorem dX0_init_1 : decode cX0_init 1 = .ok (.invokespecial 3, 3) := by decide +kernel
theorem dX0_init_4 : decode cX0_init 4 = .ok (.aload_n 0, 1) := by decide +kernel
theorem dX0_init_5 : decode cX0_init 5 = .ok (.sipush 1001, 3) := by decide +kernel
theorem dX0_init_8 : decode cX0_init 8 = .ok (.newarray .int, 2) := by decide +kernel
theorem dX0_init_10 : decode cX0_init 10 = .ok (.putfield 11, 3) := by decide +kernel
theorem dX0_init_13 : decode cX0_init 13 = .ok (.return_, 1) := by decide +kernel
theorem dX0_lowest_0 : decode cX0_lowest 0 = .ok (.aload_n 0, 1) := by decide +kernel
theorem dX0_lowest_1 : decode cX0_lowest 1 = .ok (.getfield 17, 3) := by decide +kernel
theorem dX0_lowest_4 : decode cX0_lowest 4 = .ok (.ireturn, 1) := by decide +kernel
theorem dX0_most_0 : decode cX0_most 0 = .ok (.aload_n 0, 1) := by decide +kernel
theorem dX0_most_1 : decode cX0_most 1 = .ok (.getfield 21, 3) := by decide +kernel
theorem dX0_most_4 : decode cX0_most 4 = .ok (.ireturn, 1) := by decide +kernel
theorem dX0_told_0 : decode cX0_told 0 = .ok (.iload_n 1, 1) := by decide +kernel
theorem dX0_told_1 : decode cX0_told 1 = .ok (.lookupswitch 37 #[(0, 27), (1, 32)], 27) := by decide +kernel
theorem dX0_told_28 : decode cX0_told 28 = .ok (.aload_n 0, 1) := by decide +kernel
theorem dX0_told_29 : decode cX0_told 29 = .ok (.getfield 17, 3) := by decide +kernel
theorem dX0_told_32 : decode cX0_told 32 = .ok (.ireturn, 1) := by decide +kernel
theorem dX0_told_33 : decode cX0_told 33 = .ok (.aload_n 0, 1) := by decide +kernel
theorem dX0_told_34 : decode cX0_told 34 = .ok (.getfield 24, 3) := by decide +kernel
theorem dX0_told_37 : decode cX0_told 37 = .ok (.ireturn, 1) := by decide +kernel
theorem dX0_told_38 : decode cX0_told 38 = .ok (.aload_n 0, 1) := by decide +kernel
theorem dX0_told_39 : decode cX0_told 39 = .ok (.getfield 21, 3) := by decide +kernel
theorem dX0_told_42 : decode cX0_told 42 = .ok (.ireturn, 1) := by decide +kernel
theorem dX0_countByHeights_0 : decode cX0_countByHeights 0 = .ok (.aload_n 0, 1) := by decide +kernel
theorem dX0_countByHeights_1 : decode cX0_countByHeights 1 = .ok (.aload_n 1, 1) := by decide +kernel
theorem dX0_countByHeights_2 : decode cX0_countByHeights 2 = .ok (.iload_n 2, 1) := by decide +kernel
theorem dX0_countByHeights_3 : decode cX0_countByHeights 3 = .ok (.invokevirtual 27, 3) := by decide +kernel
theorem dX0_countByHeights_6 : decode cX0_countByHeights 6 = .ok (.aload_n 0, 1) := by decide +kernel
theorem dX0_countByHeights_7 : decode cX0_countByHeights 7 = .ok (.iconst (-1), 1) := by decide +kernel
theorem dX0_countByHeights_8 : decode cX0_countByHeights 8 = .ok (.putfield 21, 3) := by decide +kernel
theorem dX0_countByHeights_11 : decode cX0_countByHeights 11 = .ok (.iconst 0, 1) := by decide +kernel
theorem dX0_countByHeights_12 : decode cX0_countByHeights 12 = .ok (.istore_n 3, 1) := by decide +kernel
theorem dX0_countByHeights_13 : decode cX0_countByHeights 13 = .ok (.iconst 1, 1) := by decide +kernel
theorem dX0_countByHeights_14 : decode cX0_countByHeights 14 = .ok (.istore 4, 2) := by decide +kernel
theorem dX0_countByHeights_16 : decode cX0_countByHeights 16 = .ok (.iload 4, 2) := by decide +kernel
theorem dX0_countByHeights_18 : decode cX0_countByHeights 18 = .ok (.sipush 999, 3) := by decide +kernel
theorem dX0_countByHeights_21 : decode cX0_countByHeights 21 = .ok (.if_icmp .gt 72, 3) := by decide +kernel
theorem dX0_countByHeights_24 : decode cX0_countByHeights 24 = .ok (.iload_n 3, 1) := by decide +kernel
theorem dX0_countByHeights_25 : decode cX0_countByHeights 25 = .ok (.aload_n 0, 1) := by decide +kernel
theorem dX0_countByHeights_26 : decode cX0_countByHeights 26 = .ok (.getfield 11, 3) := by decide +kernel
theorem dX0_countByHeights_29 : decode cX0_countByHeights 29 = .ok (.iload 4, 2) := by decide +kernel
theorem dX0_countByHeights_31 : decode cX0_countByHeights 31 = .ok (.iaload, 1) := by decide +kernel
theorem dX0_countByHeights_32 : decode cX0_countByHeights 32 = .ok (.iadd, 1) := by decide +kernel
theorem dX0_countByHeights_33 : decode cX0_countByHeights 33 = .ok (.istore_n 3, 1) := by decide +kernel
theorem dX0_countByHeights_34 : decode cX0_countByHeights 34 = .ok (.iload_n 3, 1) := by decide +kernel
theorem dX0_countByHeights_35 : decode cX0_countByHeights 35 = .ok (.aload_n 0, 1) := by decide +kernel
theorem dX0_countByHeights_36 : decode cX0_countByHeights 36 = .ok (.getfield 21, 3) := by decide +kernel
theorem dX0_countByHeights_39 : decode cX0_countByHeights 39 = .ok (.if_icmp .le 23, 3) := by decide +kernel
theorem dX0_countByHeights_42 : decode cX0_countByHeights 42 = .ok (.aload_n 0, 1) := by decide +kernel
theorem dX0_countByHeights_43 : decode cX0_countByHeights 43 = .ok (.iload_n 3, 1) := by decide +kernel
theorem dX0_countByHeights_44 : decode cX0_countByHeights 44 = .ok (.putfield 21, 3) := by decide +kernel
theorem dX0_countByHeights_47 : decode cX0_countByHeights 47 = .ok (.aload_n 0, 1) := by decide +kernel
theorem dX0_countByHeights_48 : decode cX0_countByHeights 48 = .ok (.iload 4, 2) := by decide +kernel
theorem dX0_countByHeights_50 : decode cX0_countByHeights 50 = .ok (.putfield 17, 3) := by decide +kernel
theorem dX0_countByHeights_53 : decode cX0_countByHeights 53 = .ok (.aload_n 0, 1) := by decide +kernel
theorem dX0_countByHeights_54 : decode cX0_countByHeights 54 = .ok (.iload 4, 2) := by decide +kernel
theorem dX0_countByHeights_56 : decode cX0_countByHeights 56 = .ok (.putfield 24, 3) := by decide +kernel
theorem dX0_countByHeights_59 : decode cX0_countByHeights 59 = .ok (.goto 28, 3) := by decide +kernel
theorem dX0_countByHeights_62 : decode cX0_countByHeights 62 = .ok (.iload_n 3, 1) := by decide +kernel
theorem dX0_countByHeights_63 : decode cX0_countByHeights 63 = .ok (.aload_n 0, 1) := by decide +kernel
theorem dX0_countByHeights_64 : decode cX0_countByHeights 64 = .ok (.getfield 21, 3) := by decide +kernel
theorem dX0_countByHeights_67 : decode cX0_countByHeights 67 = .ok (.if_icmp .ne 20, 3) := by decide +kernel
theorem dX0_countByHeights_70 : decode cX0_countByHeights 70 = .ok (.aload_n 0, 1) := by decide +kernel
theorem dX0_countByHeights_71 : decode cX0_countByHeights 71 = .ok (.getfield 24, 3) := by decide +kernel
theorem dX0_countByHeights_74 : decode cX0_countByHeights 74 = .ok (.iload 4, 2) := by decide +kernel
theorem dX0_countByHeights_76 : decode cX0_countByHeights 76 = .ok (.iconst 1, 1) := by decide +kernel
theorem dX0_countByHeights_77 : decode cX0_countByHeights 77 = .ok (.isub, 1) := by decide +kernel
theorem dX0_countByHeights_78 : decode cX0_countByHeights 78 = .ok (.if_icmp .ne 9, 3) := by decide +kernel
theorem dX0_countByHeights_81 : decode cX0_countByHeights 81 = .ok (.aload_n 0, 1) := by decide +kernel
theorem dX0_countByHeights_82 : decode cX0_countByHeights 82 = .ok (.iload 4, 2) := by decide +kernel
theorem dX0_countByHeights_84 : decode cX0_countByHeights 84 = .ok (.putfield 24, 3) := by decide +kernel
theorem dX0_countByHeights_87 : decode cX0_countByHeights 87 = .ok (.iinc 4 1, 3) := by decide +kernel
theorem dX0_countByHeights_90 : decode cX0_countByHeights 90 = .ok (.goto (-74), 3) := by decide +kernel
theorem dX0_countByHeights_93 : decode cX0_countByHeights 93 = .ok (.return_, 1) := by decide +kernel
theorem dX0_noteChanges_0 : decode cX0_noteChanges 0 = .ok (.aload_n 0, 1) := by decide +kernel
theorem dX0_noteChanges_1 : decode cX0_noteChanges 1 = .ok (.getfield 11, 3) := by decide +kernel
theorem dX0_noteChanges_4 : decode cX0_noteChanges 4 = .ok (.iconst 0, 1) := by decide +kernel
theorem dX0_noteChanges_5 : decode cX0_noteChanges 5 = .ok (.invokestatic 31, 3) := by decide +kernel
theorem dX0_noteChanges_8 : decode cX0_noteChanges 8 = .ok (.iconst 0, 1) := by decide +kernel
theorem dX0_noteChanges_9 : decode cX0_noteChanges 9 = .ok (.istore_n 3, 1) := by decide +kernel
theorem dX0_noteChanges_10 : decode cX0_noteChanges 10 = .ok (.iload_n 3, 1) := by decide +kernel
theorem dX0_noteChanges_11 : decode cX0_noteChanges 11 = .ok (.aload_n 1, 1) := by decide +kernel
theorem dX0_noteChanges_12 : decode cX0_noteChanges 12 = .ok (.invokevirtual 37, 3) := by decide +kernel
theorem dX0_noteChanges_15 : decode cX0_noteChanges 15 = .ok (.if_icmp .ge 60, 3) := by decide +kernel
theorem dX0_noteChanges_18 : decode cX0_noteChanges 18 = .ok (.aload_n 1, 1) := by decide +kernel
theorem dX0_noteChanges_19 : decode cX0_noteChanges 19 = .ok (.iload_n 3, 1) := by decide +kernel
theorem dX0_noteChanges_20 : decode cX0_noteChanges 20 = .ok (.iload_n 2, 1) := by decide +kernel
theorem dX0_noteChanges_21 : decode cX0_noteChanges 21 = .ok (.invokevirtual 41, 3) := by decide +kernel
theorem dX0_noteChanges_24 : decode cX0_noteChanges 24 = .ok (.ifCond .eq 45, 3) := by decide +kernel
theorem dX0_noteChanges_27 : decode cX0_noteChanges 27 = .ok (.aload_n 0, 1) := by decide +kernel
theorem dX0_noteChanges_28 : decode cX0_noteChanges 28 = .ok (.getfield 11, 3) := by decide +kernel
theorem dX0_noteChanges_31 : decode cX0_noteChanges 31 = .ok (.aload_n 1, 1) := by decide +kernel
theorem dX0_noteChanges_32 : decode cX0_noteChanges 32 = .ok (.iload_n 3, 1) := by decide +kernel
theorem dX0_noteChanges_33 : decode cX0_noteChanges 33 = .ok (.bipush 7, 2) := by decide +kernel
theorem dX0_noteChanges_35 : decode cX0_noteChanges 35 = .ok (.invokevirtual 45, 3) := by decide +kernel
theorem dX0_noteChanges_38 : decode cX0_noteChanges 38 = .ok (.dup2, 1) := by decide +kernel
theorem dX0_noteChanges_39 : decode cX0_noteChanges 39 = .ok (.iaload, 1) := by decide +kernel
theorem dX0_noteChanges_40 : decode cX0_noteChanges 40 = .ok (.aload_n 1, 1) := by decide +kernel
theorem dX0_noteChanges_41 : decode cX0_noteChanges 41 = .ok (.iload_n 3, 1) := by decide +kernel
theorem dX0_noteChanges_42 : decode cX0_noteChanges 42 = .ok (.invokevirtual 49, 3) := by decide +kernel
theorem dX0_noteChanges_45 : decode cX0_noteChanges 45 = .ok (.iadd, 1) := by decide +kernel
theorem dX0_noteChanges_46 : decode cX0_noteChanges 46 = .ok (.iastore, 1) := by decide +kernel
theorem dX0_noteChanges_47 : decode cX0_noteChanges 47 = .ok (.aload_n 0, 1) := by decide +kernel
theorem dX0_noteChanges_48 : decode cX0_noteChanges 48 = .ok (.getfield 11, 3) := by decide +kernel
theorem dX0_noteChanges_51 : decode cX0_noteChanges 51 = .ok (.aload_n 1, 1) := by decide +kernel
theorem dX0_noteChanges_52 : decode cX0_noteChanges 52 = .ok (.iload_n 3, 1) := by decide +kernel
theorem dX0_noteChanges_53 : decode cX0_noteChanges 53 = .ok (.bipush 8, 2) := by decide +kernel
theorem dX0_noteChanges_55 : decode cX0_noteChanges 55 = .ok (.invokevirtual 45, 3) := by decide +kernel
theorem dX0_noteChanges_58 : decode cX0_noteChanges 58 = .ok (.iconst 1, 1) := by decide +kernel
theorem dX0_noteChanges_59 : decode cX0_noteChanges 59 = .ok (.iadd, 1) := by decide +kernel
theorem dX0_noteChanges_60 : decode cX0_noteChanges 60 = .ok (.dup2, 1) := by decide +kernel
theorem dX0_noteChanges_61 : decode cX0_noteChanges 61 = .ok (.iaload, 1) := by decide +kernel
theorem dX0_noteChanges_62 : decode cX0_noteChanges 62 = .ok (.aload_n 1, 1) := by decide +kernel
theorem dX0_noteChanges_63 : decode cX0_noteChanges 63 = .ok (.iload_n 3, 1) := by decide +kernel
theorem dX0_noteChanges_64 : decode cX0_noteChanges 64 = .ok (.invokevirtual 49, 3) := by decide +kernel
theorem dX0_noteChanges_67 : decode cX0_noteChanges 67 = .ok (.isub, 1) := by decide +kernel
theorem dX0_noteChanges_68 : decode cX0_noteChanges 68 = .ok (.iastore, 1) := by decide +kernel
theorem dX0_noteChanges_69 : decode cX0_noteChanges 69 = .ok (.iinc 3 1, 3) := by decide +kernel
theorem dX0_noteChanges_72 : decode cX0_noteChanges 72 = .ok (.goto (-62), 3) := by decide +kernel
theorem dX0_noteChanges_75 : decode cX0_noteChanges 75 = .ok (.return_, 1) := by decide +kernel
theorem dX0_countByEnds_0 : decode cX0_countByEnds 0 = .ok (.aload_n 0, 1) := by decide +kernel
theorem dX0_countByEnds_1 : decode cX0_countByEnds 1 = .ok (.iconst 1, 1) := by decide +kernel
theorem dX0_countByEnds_2 : decode cX0_countByEnds 2 = .ok (.putfield 17, 3) := by decide +kernel
theorem dX0_countByEnds_5 : decode cX0_countByEnds 5 = .ok (.aload_n 0, 1) := by decide +kernel
theorem dX0_countByEnds_6 : decode cX0_countByEnds 6 = .ok (.aload_n 1, 1) := by decide +kernel
theorem dX0_countByEnds_7 : decode cX0_countByEnds 7 = .ok (.iload_n 2, 1) := by decide +kernel
theorem dX0_countByEnds_8 : decode cX0_countByEnds 8 = .ok (.iconst 1, 1) := by decide +kernel
theorem dX0_countByEnds_9 : decode cX0_countByEnds 9 = .ok (.iload_n 3, 1) := by decide +kernel
theorem dX0_countByEnds_10 : decode cX0_countByEnds 10 = .ok (.invokevirtual 53, 3) := by decide +kernel
theorem dX0_countByEnds_13 : decode cX0_countByEnds 13 = .ok (.putfield 21, 3) := by decide +kernel
theorem dX0_countByEnds_16 : decode cX0_countByEnds 16 = .ok (.iconst 0, 1) := by decide +kernel
theorem dX0_countByEnds_17 : decode cX0_countByEnds 17 = .ok (.istore 4, 2) := by decide +kernel
theorem dX0_countByEnds_19 : decode cX0_countByEnds 19 = .ok (.iload 4, 2) := by decide +kernel
theorem dX0_countByEnds_21 : decode cX0_countByEnds 21 = .ok (.aload_n 1, 1) := by decide +kernel
theorem dX0_countByEnds_22 : decode cX0_countByEnds 22 = .ok (.invokevirtual 37, 3) := by decide +kernel
theorem dX0_countByEnds_25 : decode cX0_countByEnds 25 = .ok (.if_icmp .ge 49, 3) := by decide +kernel
theorem dX0_countByEnds_28 : decode cX0_countByEnds 28 = .ok (.iload 4, 2) := by decide +kernel
theorem dX0_countByEnds_30 : decode cX0_countByEnds 30 = .ok (.iload_n 3, 1) := by decide +kernel
theorem dX0_countByEnds_31 : decode cX0_countByEnds 31 = .ok (.if_icmp .eq 37, 3) := by decide +kernel
theorem dX0_countByEnds_34 : decode cX0_countByEnds 34 = .ok (.aload_n 1, 1) := by decide +kernel
theorem dX0_countByEnds_35 : decode cX0_countByEnds 35 = .ok (.iload 4, 2) := by decide +kernel
theorem dX0_countByEnds_37 : decode cX0_countByEnds 37 = .ok (.iload_n 2, 1) := by decide +kernel
theorem dX0_countByEnds_38 : decode cX0_countByEnds 38 = .ok (.invokevirtual 41, 3) := by decide +kernel
theorem dX0_countByEnds_41 : decode cX0_countByEnds 41 = .ok (.ifCond .eq 27, 3) := by decide +kernel
theorem dX0_countByEnds_44 : decode cX0_countByEnds 44 = .ok (.aload_n 1, 1) := by decide +kernel
theorem dX0_countByEnds_45 : decode cX0_countByEnds 45 = .ok (.iload 4, 2) := by decide +kernel
theorem dX0_countByEnds_47 : decode cX0_countByEnds 47 = .ok (.bipush 7, 2) := by decide +kernel
theorem dX0_countByEnds_49 : decode cX0_countByEnds 49 = .ok (.invokevirtual 45, 3) := by decide +kernel
theorem dX0_countByEnds_52 : decode cX0_countByEnds 52 = .ok (.istore 5, 2) := by decide +kernel
theorem dX0_countByEnds_54 : decode cX0_countByEnds 54 = .ok (.aload_n 0, 1) := by decide +kernel
theorem dX0_countByEnds_55 : decode cX0_countByEnds 55 = .ok (.iload 5, 2) := by decide +kernel
theorem dX0_countByEnds_57 : decode cX0_countByEnds 57 = .ok (.aload_n 1, 1) := by decide +kernel
theorem dX0_countByEnds_58 : decode cX0_countByEnds 58 = .ok (.iload_n 2, 1) := by decide +kernel
theorem dX0_countByEnds_59 : decode cX0_countByEnds 59 = .ok (.iload 5, 2) := by decide +kernel
theorem dX0_countByEnds_61 : decode cX0_countByEnds 61 = .ok (.iload_n 3, 1) := by decide +kernel
theorem dX0_countByEnds_62 : decode cX0_countByEnds 62 = .ok (.invokevirtual 53, 3) := by decide +kernel
theorem dX0_countByEnds_65 : decode cX0_countByEnds 65 = .ok (.invokevirtual 57, 3) := by decide +kernel
theorem dX0_countByEnds_68 : decode cX0_countByEnds 68 = .ok (.iinc 4 1, 3) := by decide +kernel
theorem dX0_countByEnds_71 : decode cX0_countByEnds 71 = .ok (.goto (-52), 3) := by decide +kernel
theorem dX0_countByEnds_74 : decode cX0_countByEnds 74 = .ok (.aload_n 0, 1) := by decide +kernel
theorem dX0_countByEnds_75 : decode cX0_countByEnds 75 = .ok (.sipush 999, 3) := by decide +kernel
theorem dX0_countByEnds_78 : decode cX0_countByEnds 78 = .ok (.putfield 24, 3) := by decide +kernel
theorem dX0_countByEnds_81 : decode cX0_countByEnds 81 = .ok (.iconst 0, 1) := by decide +kernel
theorem dX0_countByEnds_82 : decode cX0_countByEnds 82 = .ok (.istore 4, 2) := by decide +kernel
theorem dX0_countByEnds_84 : decode cX0_countByEnds 84 = .ok (.iload 4, 2) := by decide +kernel
theorem dX0_countByEnds_86 : decode cX0_countByEnds 86 = .ok (.aload_n 1, 1) := by decide +kernel
theorem dX0_countByEnds_87 : decode cX0_countByEnds 87 = .ok (.invokevirtual 37, 3) := by decide +kernel
theorem dX0_countByEnds_90 : decode cX0_countByEnds 90 = .ok (.if_icmp .ge 76, 3) := by decide +kernel
theorem dX0_countByEnds_93 : decode cX0_countByEnds 93 = .ok (.aload_n 1, 1) := by decide +kernel
theorem dX0_countByEnds_94 : decode cX0_countByEnds 94 = .ok (.iload 4, 2) := by decide +kernel
theorem dX0_countByEnds_96 : decode cX0_countByEnds 96 = .ok (.bipush 8, 2) := by decide +kernel
theorem dX0_countByEnds_98 : decode cX0_countByEnds 98 = .ok (.invokevirtual 45, 3) := by decide +kernel
theorem dX0_countByEnds_101 : decode cX0_countByEnds 101 = .ok (.istore 5, 2) := by decide +kernel
theorem dX0_countByEnds_103 : decode cX0_countByEnds 103 = .ok (.iload 4, 2) := by decide +kernel
theorem dX0_countByEnds_105 : decode cX0_countByEnds 105 = .ok (.iload_n 3, 1) := by decide +kernel
theorem dX0_countByEnds_106 : decode cX0_countByEnds 106 = .ok (.if_icmp .eq 54, 3) := by decide +kernel
theorem dX0_countByEnds_109 : decode cX0_countByEnds 109 = .ok (.aload_n 1, 1) := by decide +kernel
theorem dX0_countByEnds_110 : decode cX0_countByEnds 110 = .ok (.iload 4, 2) := by decide +kernel
theorem dX0_countByEnds_112 : decode cX0_countByEnds 112 = .ok (.iload_n 2, 1) := by decide +kernel
theorem dX0_countByEnds_113 : decode cX0_countByEnds 113 = .ok (.invokevirtual 41, 3) := by decide +kernel
theorem dX0_countByEnds_116 : decode cX0_countByEnds 116 = .ok (.ifCond .eq 44, 3) := by decide +kernel
theorem dX0_countByEnds_119 : decode cX0_countByEnds 119 = .ok (.aload_n 0, 1) := by decide +kernel
theorem dX0_countByEnds_120 : decode cX0_countByEnds 120 = .ok (.getfield 17, 3) := by decide +kernel
theorem dX0_countByEnds_123 : decode cX0_countByEnds 123 = .ok (.iload 5, 2) := by decide +kernel
theorem dX0_countByEnds_125 : decode cX0_countByEnds 125 = .ok (.if_icmp .gt 35, 3) := by decide +kernel
theorem dX0_countByEnds_128 : decode cX0_countByEnds 128 = .ok (.iload 5, 2) := by decide +kernel
theorem dX0_countByEnds_130 : decode cX0_countByEnds 130 = .ok (.aload_n 0, 1) := by decide +kernel
theorem dX0_countByEnds_131 : decode cX0_countByEnds 131 = .ok (.getfield 24, 3) := by decide +kernel
theorem dX0_countByEnds_134 : decode cX0_countByEnds 134 = .ok (.if_icmp .ge 26, 3) := by decide +kernel
theorem dX0_countByEnds_137 : decode cX0_countByEnds 137 = .ok (.aload_n 1, 1) := by decide +kernel
theorem dX0_countByEnds_138 : decode cX0_countByEnds 138 = .ok (.iload_n 2, 1) := by decide +kernel
theorem dX0_countByEnds_139 : decode cX0_countByEnds 139 = .ok (.iload 5, 2) := by decide +kernel
theorem dX0_countByEnds_141 : decode cX0_countByEnds 141 = .ok (.iconst 1, 1) := by decide +kernel
theorem dX0_countByEnds_142 : decode cX0_countByEnds 142 = .ok (.iadd, 1) := by decide +kernel
theorem dX0_countByEnds_143 : decode cX0_countByEnds 143 = .ok (.iload_n 3, 1) := by decide +kernel
theorem dX0_countByEnds_144 : decode cX0_countByEnds 144 = .ok (.invokevirtual 53, 3) := by decide +kernel
theorem dX0_countByEnds_147 : decode cX0_countByEnds 147 = .ok (.aload_n 0, 1) := by decide +kernel
theorem dX0_countByEnds_148 : decode cX0_countByEnds 148 = .ok (.getfield 21, 3) := by decide +kernel
theorem dX0_countByEnds_151 : decode cX0_countByEnds 151 = .ok (.if_icmp .ge 9, 3) := by decide +kernel
theorem dX0_countByEnds_154 : decode cX0_countByEnds 154 = .ok (.aload_n 0, 1) := by decide +kernel
theorem dX0_countByEnds_155 : decode cX0_countByEnds 155 = .ok (.iload 5, 2) := by decide +kernel
theorem dX0_countByEnds_157 : decode cX0_countByEnds 157 = .ok (.putfield 24, 3) := by decide +kernel
theorem dX0_countByEnds_160 : decode cX0_countByEnds 160 = .ok (.iinc 4 1, 3) := by decide +kernel
theorem dX0_countByEnds_163 : decode cX0_countByEnds 163 = .ok (.goto (-79), 3) := by decide +kernel
theorem dX0_countByEnds_166 : decode cX0_countByEnds 166 = .ok (.return_, 1) := by decide +kernel
theorem dX0_tryLowest_0 : decode cX0_tryLowest 0 = .ok (.iload_n 2, 1) := by decide +kernel
theorem dX0_tryLowest_1 : decode cX0_tryLowest 1 = .ok (.aload_n 0, 1) := by decide +kernel
theorem dX0_tryLowest_2 : decode cX0_tryLowest 2 = .ok (.getfield 21, 3) := by decide +kernel
theorem dX0_tryLowest_5 : decode cX0_tryLowest 5 = .ok (.if_icmp .gt 19, 3) := by decide +kernel
theorem dX0_tryLowest_8 : decode cX0_tryLowest 8 = .ok (.iload_n 2, 1) := by decide +kernel
theorem dX0_tryLowest_9 : decode cX0_tryLowest 9 = .ok (.aload_n 0, 1) := by decide +kernel
theorem dX0_tryLowest_10 : decode cX0_tryLowest 10 = .ok (.getfield 21, 3) := by decide +kernel
theorem dX0_tryLowest_13 : decode cX0_tryLowest 13 = .ok (.if_icmp .ne 21, 3) := by decide +kernel
theorem dX0_tryLowest_16 : decode cX0_tryLowest 16 = .ok (.iload_n 1, 1) := by decide +kernel
theorem dX0_tryLowest_17 : decode cX0_tryLowest 17 = .ok (.aload_n 0, 1) := by decide +kernel
theorem dX0_tryLowest_18 : decode cX0_tryLowest 18 = .ok (.getfield 17, 3) := by decide +kernel
theorem dX0_tryLowest_21 : decode cX0_tryLowest 21 = .ok (.if_icmp .ge 13, 3) := by decide +kernel
theorem dX0_tryLowest_24 : decode cX0_tryLowest 24 = .ok (.aload_n 0, 1) := by decide +kernel
theorem dX0_tryLowest_25 : decode cX0_tryLowest 25 = .ok (.iload_n 2, 1) := by decide +kernel
theorem dX0_tryLowest_26 : decode cX0_tryLowest 26 = .ok (.putfield 21, 3) := by decide +kernel
theorem dX0_tryLowest_29 : decode cX0_tryLowest 29 = .ok (.aload_n 0, 1) := by decide +kernel
theorem dX0_tryLowest_30 : decode cX0_tryLowest 30 = .ok (.iload_n 1, 1) := by decide +kernel
theorem dX0_tryLowest_31 : decode cX0_tryLowest 31 = .ok (.putfield 17, 3) := by decide +kernel
theorem dX0_tryLowest_34 : decode cX0_tryLowest 34 = .ok (.return_, 1) := by decide +kernel
theorem dX1_init_0 : decode cX1_init 0 = .ok (.aload_n 0, 1) := by decide +kernel
theorem dX1_init_1 : decode cX1_init 1 = .ok (.invokespecial 1, 3) := by decide +kernel
theorem dX1_init_4 : decode cX1_init 4 = .ok (.aload_n 0, 1) := by decide +kernel
theorem dX1_init_5 : decode cX1_init 5 = .ok (.bipush 14, 2) := by decide +kernel
theorem dX1_init_7 : decode cX1_init 7 = .ok (.anewarray 9, 3) := by decide +kernel
theorem dX1_init_10 : decode cX1_init 10 = .ok (.putfield 11, 3) := by decide +kernel
theorem dX1_init_13 : decode cX1_init 13 = .ok (.iconst 0, 1) := by decide +kernel
theorem dX1_init_14 : decode cX1_init 14 = .ok (.istore_n 1, 1) := by decide +kernel
theorem dX1_init_15 : decode cX1_init 15 = .ok (.iload_n 1, 1) := by decide +kernel
theorem dX1_init_16 : decode cX1_init 16 = .ok (.aload_n 0, 1) := by decide +kernel
theorem dX1_init_17 : decode cX1_init 17 = .ok (.getfield 11, 3) := by decide +kernel
theorem dX1_init_20 : decode cX1_init 20 = .ok (.arraylength, 1) := by decide +kernel
theorem dX1_init_21 : decode cX1_init 21 = .ok (.if_icmp .ge 22, 3) := by decide +kernel
theorem dX1_init_24 : decode cX1_init 24 = .ok (.aload_n 0, 1) := by decide +kernel
theorem dX1_init_25 : decode cX1_init 25 = .ok (.getfield 11, 3) := by decide +kernel
theorem dX1_init_28 : decode cX1_init 28 = .ok (.iload_n 1, 1) := by decide +kernel
theorem dX1_init_29 : decode cX1_init 29 = .ok (.new 9, 3) := by decide +kernel
theorem dX1_init_32 : decode cX1_init 32 = .ok (.dup, 1) := by decide +kernel
theorem dX1_init_33 : decode cX1_init 33 = .ok (.invokespecial 15, 3) := by decide +kernel
theorem dX1_init_36 : decode cX1_init 36 = .ok (.aastore, 1) := by decide +kernel
theorem dX1_init_37 : decode cX1_init 37 = .ok (.iinc 1 1, 3) := by decide +kernel
theorem dX1_init_40 : decode cX1_init 40 = .ok (.goto (-25), 3) := by decide +kernel
theorem dX1_init_43 : decode cX1_init 43 = .ok (.return_, 1) := by decide +kernel
theorem dX1_isEmpty_0 : decode cX1_isEmpty 0 = .ok (.aload_n 0, 1) := by decide +kernel
theorem dX1_isEmpty_1 : decode cX1_isEmpty 1 = .ok (.getfield 16, 3) := by decide +kernel
theorem dX1_isEmpty_4 : decode cX1_isEmpty 4 = .ok (.ifCond .ne 7, 3) := by decide +kernel
theorem dX1_isEmpty_7 : decode cX1_isEmpty 7 = .ok (.iconst 1, 1) := by decide +kernel
theorem dX1_isEmpty_8 : decode cX1_isEmpty 8 = .ok (.goto 4, 3) := by decide +kernel
theorem dX1_isEmpty_11 : decode cX1_isEmpty 11 = .ok (.iconst 0, 1) := by decide +kernel
theorem dX1_isEmpty_12 : decode cX1_isEmpty 12 = .ok (.ireturn, 1) := by decide +kernel
theorem dX1_forget_0 : decode cX1_forget 0 = .ok (.aload_n 0, 1) := by decide +kernel
theorem dX1_forget_1 : decode cX1_forget 1 = .ok (.iconst 0, 1) := by decide +kernel
theorem dX1_forget_2 : decode cX1_forget 2 = .ok (.putfield 16, 3) := by decide +kernel
theorem dX1_forget_5 : decode cX1_forget 5 = .ok (.return_, 1) := by decide +kernel
theorem dX1_remember_0 : decode cX1_remember 0 = .ok (.aload_n 0, 1) := by decide +kernel
theorem dX1_remember_1 : decode cX1_remember 1 = .ok (.getfield 11, 3) := by decide +kernel
theorem dX1_remember_4 : decode cX1_remember 4 = .ok (.aload_n 0, 1) := by decide +kernel
theorem dX1_remember_5 : decode cX1_remember 5 = .ok (.getfield 20, 3) := by decide +kernel
theorem dX1_remember_8 : decode cX1_remember 8 = .ok (.aaload, 1) := by decide +kernel
theorem dX1_remember_9 : decode cX1_remember 9 = .ok (.aload_n 1, 1) := by decide +kernel
theorem dX1_remember_10 : decode cX1_remember 10 = .ok (.invokevirtual 23, 3) := by decide +kernel
theorem dX1_remember_13 : decode cX1_remember 13 = .ok (.aload_n 0, 1) := by decide +kernel
theorem dX1_remember_14 : decode cX1_remember 14 = .ok (.aload_n 0, 1) := by decide +kernel
theorem dX1_remember_15 : decode cX1_remember 15 = .ok (.getfield 20, 3) := by decide +kernel
theorem dX1_remember_18 : decode cX1_remember 18 = .ok (.iconst 1, 1) := by decide +kernel
theorem dX1_remember_19 : decode cX1_remember 19 = .ok (.iadd, 1) := by decide +kernel
theorem dX1_remember_20 : decode cX1_remember 20 = .ok (.bipush 14, 2) := by decide +kernel
theorem dX1_remember_22 : decode cX1_remember 22 = .ok (.if_icmp .ge 12, 3) := by decide +kernel
theorem dX1_remember_25 : decode cX1_remember 25 = .ok (.aload_n 0, 1) := by decide +kernel
theorem dX1_remember_26 : decode cX1_remember 26 = .ok (.getfield 20, 3) := by decide +kernel
theorem dX1_remember_29 : decode cX1_remember 29 = .ok (.iconst 1, 1) := by decide +kernel
theorem dX1_remember_30 : decode cX1_remember 30 = .ok (.iadd, 1) := by decide +kernel
theorem dX1_remember_31 : decode cX1_remember 31 = .ok (.goto 4, 3) := by decide +kernel
theorem dX1_remember_34 : decode cX1_remember 34 = .ok (.iconst 0, 1) := by decide +kernel
theorem dX1_remember_35 : decode cX1_remember 35 = .ok (.putfield 20, 3) := by decide +kernel
theorem dX1_remember_38 : decode cX1_remember 38 = .ok (.aload_n 0, 1) := by decide +kernel
theorem dX1_remember_39 : decode cX1_remember 39 = .ok (.bipush 14, 2) := by decide +kernel
theorem dX1_remember_41 : decode cX1_remember 41 = .ok (.aload_n 0, 1) := by decide +kernel
theorem dX1_remember_42 : decode cX1_remember 42 = .ok (.getfield 16, 3) := by decide +kernel
theorem dX1_remember_45 : decode cX1_remember 45 = .ok (.iconst 1, 1) := by decide +kernel
theorem dX1_remember_46 : decode cX1_remember 46 = .ok (.iadd, 1) := by decide +kernel
theorem dX1_remember_47 : decode cX1_remember 47 = .ok (.invokestatic 27, 3) := by decide +kernel
theorem dX1_remember_50 : decode cX1_remember 50 = .ok (.putfield 16, 3) := by decide +kernel
theorem dX1_remember_53 : decode cX1_remember 53 = .ok (.return_, 1) := by decide +kernel
theorem dX1_takeBack_0 : decode cX1_takeBack 0 = .ok (.aload_n 0, 1) := by decide +kernel
theorem dX1_takeBack_1 : decode cX1_takeBack 1 = .ok (.aload_n 0, 1) := by decide +kernel
theorem dX1_takeBack_2 : decode cX1_takeBack 2 = .ok (.getfield 20, 3) := by decide +kernel
theorem dX1_takeBack_5 : decode cX1_takeBack 5 = .ok (.ifCond .le 12, 3) := by decide +kernel
theorem dX1_takeBack_8 : decode cX1_takeBack 8 = .ok (.aload_n 0, 1) := by decide +kernel
theorem dX1_takeBack_9 : decode cX1_takeBack 9 = .ok (.getfield 20, 3) := by decide +kernel
theorem dX1_takeBack_12 : decode cX1_takeBack 12 = .ok (.iconst 1, 1) := by decide +kernel
theorem dX1_takeBack_13 : decode cX1_takeBack 13 = .ok (.isub, 1) := by decide +kernel
theorem dX1_takeBack_14 : decode cX1_takeBack 14 = .ok (.goto 5, 3) := by decide +kernel
theorem dX1_takeBack_17 : decode cX1_takeBack 17 = .ok (.bipush 13, 2) := by decide +kernel
theorem dX1_takeBack_19 : decode cX1_takeBack 19 = .ok (.putfield 20, 3) := by decide +kernel
theorem dX1_takeBack_22 : decode cX1_takeBack 22 = .ok (.aload_n 0, 1) := by decide +kernel
theorem dX1_takeBack_23 : decode cX1_takeBack 23 = .ok (.dup, 1) := by decide +kernel
theorem dX1_takeBack_24 : decode cX1_takeBack 24 = .ok (.getfield 16, 3) := by decide +kernel
theorem dX1_takeBack_27 : decode cX1_takeBack 27 = .ok (.iconst 1, 1) := by decide +kernel
theorem dX1_takeBack_28 : decode cX1_takeBack 28 = .ok (.isub, 1) := by decide +kernel
theorem dX1_takeBack_29 : decode cX1_takeBack 29 = .ok (.putfield 16, 3) := by decide +kernel
theorem dX1_takeBack_32 : decode cX1_takeBack 32 = .ok (.aload_n 1, 1) := by decide +kernel
theorem dX1_takeBack_33 : decode cX1_takeBack 33 = .ok (.aload_n 0, 1) := by decide +kernel
theorem dX1_takeBack_34 : decode cX1_takeBack 34 = .ok (.getfield 11, 3) := by decide +kernel
theorem dX1_takeBack_37 : decode cX1_takeBack 37 = .ok (.aload_n 0, 1) := by decide +kernel
theorem dX1_takeBack_38 : decode cX1_takeBack 38 = .ok (.getfield 20, 3) := by decide +kernel
theorem dX1_takeBack_41 : decode cX1_takeBack 41 = .ok (.aaload, 1) := by decide +kernel
theorem dX1_takeBack_42 : decode cX1_takeBack 42 = .ok (.invokevirtual 23, 3) := by decide +kernel
theorem dX1_takeBack_45 : decode cX1_takeBack 45 = .ok (.aload_n 0, 1) := by decide +kernel
theorem dX1_takeBack_46 : decode cX1_takeBack 46 = .ok (.getfield 16, 3) := by decide +kernel
theorem dX1_takeBack_49 : decode cX1_takeBack 49 = .ok (.ireturn, 1) := by decide +kernel
theorem dX2_init_0 : decode cX2_init 0 = .ok (.aload_n 0, 1) := by decide +kernel
theorem dX2_init_1 : decode cX2_init 1 = .ok (.invokespecial 3, 3) := by decide +kernel
theorem dX2_init_4 : decode cX2_init 4 = .ok (.aload_n 0, 1) := by decide +kernel
theorem dX2_init_5 : decode cX2_init 5 = .ok (.sipush 144, 3) := by decide +kernel
theorem dX2_init_8 : decode cX2_init 8 = .ok (.newarray .int, 2) := by decide +kernel
theorem dX2_init_10 : decode cX2_init 10 = .ok (.putfield 11, 3) := by decide +kernel
theorem dX2_init_13 : decode cX2_init 13 = .ok (.aload_n 0, 1) := by decide +kernel
theorem dX2_init_14 : decode cX2_init 14 = .ok (.bipush 6, 2) := by decide +kernel
theorem dX2_init_16 : decode cX2_init 16 = .ok (.newarray .int, 2) := by decide +kernel
theorem dX2_init_18 : decode cX2_init 18 = .ok (.putfield 15, 3) := by decide +kernel
theorem dX2_init_21 : decode cX2_init 21 = .ok (.aload_n 0, 1) := by decide +kernel
theorem dX2_init_22 : decode cX2_init 22 = .ok (.bipush 6, 2) := by decide +kernel
theorem dX2_init_24 : decode cX2_init 24 = .ok (.newarray .int, 2) := by decide +kernel
theorem dX2_init_26 : decode cX2_init 26 = .ok (.putfield 18, 3) := by decide +kernel
theorem dX2_init_29 : decode cX2_init 29 = .ok (.aload_n 0, 1) := by decide +kernel
theorem dX2_init_30 : decode cX2_init 30 = .ok (.bipush 6, 2) := by decide +kernel
theorem dX2_init_32 : decode cX2_init 32 = .ok (.newarray .int, 2) := by decide +kernel
theorem dX2_init_34 : decode cX2_init 34 = .ok (.putfield 21, 3) := by decide +kernel
theorem dX2_init_37 : decode cX2_init 37 = .ok (.aload_n 0, 1) := by decide +kernel
theorem dX2_init_38 : decode cX2_init 38 = .ok (.iconst 3, 1) := by decide +kernel
theorem dX2_init_39 : decode cX2_init 39 = .ok (.newarray .int, 2) := by decide +kernel
theorem dX2_init_41 : decode cX2_init 41 = .ok (.putfield 24, 3) := by decide +kernel
theorem dX2_init_44 : decode cX2_init 44 = .ok (.aload_n 0, 1) := by decide +kernel
theorem dX2_init_45 : decode cX2_init 45 = .ok (.iconst 2, 1) := by decide +kernel
theorem dX2_init_46 : decode cX2_init 46 = .ok (.newarray .int, 2) := by decide +kernel
theorem dX2_init_48 : decode cX2_init 48 = .ok (.putfield 27, 3) := by decide +kernel
theorem dX2_init_51 : decode cX2_init 51 = .ok (.aload_n 0, 1) := by decide +kernel
theorem dX2_init_52 : decode cX2_init 52 = .ok (.invokevirtual 30, 3) := by decide +kernel
theorem dX2_init_55 : decode cX2_init 55 = .ok (.return_, 1) := by decide +kernel
theorem dX2_makeNew_0 : decode cX2_makeNew 0 = .ok (.aload_n 0, 1) := by decide +kernel
theorem dX2_makeNew_1 : decode cX2_makeNew 1 = .ok (.getfield 11, 3) := by decide +kernel
theorem dX2_makeNew_4 : decode cX2_makeNew 4 = .ok (.iconst 0, 1) := by decide +kernel
theorem dX2_makeNew_5 : decode cX2_makeNew 5 = .ok (.invokestatic 33, 3) := by decide +kernel
theorem dX2_makeNew_8 : decode cX2_makeNew 8 = .ok (.aload_n 0, 1) := by decide +kernel
theorem dX2_makeNew_9 : decode cX2_makeNew 9 = .ok (.getfield 15, 3) := by decide +kernel
theorem dX2_makeNew_12 : decode cX2_makeNew 12 = .ok (.iconst 5, 1) := by decide +kernel
theorem dX2_makeNew_13 : decode cX2_makeNew 13 = .ok (.invokestatic 33, 3) := by decide +kernel
theorem dX2_makeNew_16 : decode cX2_makeNew 16 = .ok (.aload_n 0, 1) := by decide +kernel
theorem dX2_makeNew_17 : decode cX2_makeNew 17 = .ok (.getfield 18, 3) := by decide +kernel
theorem dX2_makeNew_20 : decode cX2_makeNew 20 = .ok (.iconst 0, 1) := by decide +kernel
theorem dX2_makeNew_21 : decode cX2_makeNew 21 = .ok (.invokestatic 33, 3) := by decide +kernel
theorem dX2_makeNew_24 : decode cX2_makeNew 24 = .ok (.aload_n 0, 1) := by decide +kernel
theorem dX2_makeNew_25 : decode cX2_makeNew 25 = .ok (.getfield 21, 3) := by decide +kernel
theorem dX2_makeNew_28 : decode cX2_makeNew 28 = .ok (.iconst 0, 1) := by decide +kernel
theorem dX2_makeNew_29 : decode cX2_makeNew 29 = .ok (.invokestatic 33, 3) := by decide +kernel
theorem dX2_makeNew_32 : decode cX2_makeNew 32 = .ok (.aload_n 0, 1) := by decide +kernel
theorem dX2_makeNew_33 : decode cX2_makeNew 33 = .ok (.getfield 24, 3) := by decide +kernel
theorem dX2_makeNew_36 : decode cX2_makeNew 36 = .ok (.iconst (-1), 1) := by decide +kernel
theorem dX2_makeNew_37 : decode cX2_makeNew 37 = .ok (.invokestatic 33, 3) := by decide +kernel
theorem dX2_makeNew_40 : decode cX2_makeNew 40 = .ok (.aload_n 0, 1) := by decide +kernel
theorem dX2_makeNew_41 : decode cX2_makeNew 41 = .ok (.getfield 27, 3) := by decide +kernel
theorem dX2_makeNew_44 : decode cX2_makeNew 44 = .ok (.iconst 0, 1) := by decide +kernel
theorem dX2_makeNew_45 : decode cX2_makeNew 45 = .ok (.iconst 1, 1) := by decide +kernel
theorem dX2_makeNew_46 : decode cX2_makeNew 46 = .ok (.iastore, 1) := by decide +kernel
theorem dX2_makeNew_47 : decode cX2_makeNew 47 = .ok (.aload_n 0, 1) := by decide +kernel
theorem dX2_makeNew_48 : decode cX2_makeNew 48 = .ok (.getfield 27, 3) := by decide +kernel
theorem dX2_makeNew_51 : decode cX2_makeNew 51 = .ok (.iconst 1, 1) := by decide +kernel
theorem dX2_makeNew_52 : decode cX2_makeNew 52 = .ok (.iconst 5, 1) := by decide +kernel
theorem dX2_makeNew_53 : decode cX2_makeNew 53 = .ok (.iastore, 1) := by decide +kernel
theorem dX2_makeNew_54 : decode cX2_makeNew 54 = .ok (.aload_n 0, 1) := by decide +kernel
theorem dX2_makeNew_55 : decode cX2_makeNew 55 = .ok (.iconst 0, 1) := by decide +kernel
theorem dX2_makeNew_56 : decode cX2_makeNew 56 = .ok (.putfield 39, 3) := by decide +kernel
theorem dX2_makeNew_59 : decode cX2_makeNew 59 = .ok (.aload_n 0, 1) := by decide +kernel
theorem dX2_makeNew_60 : decode cX2_makeNew 60 = .ok (.iconst 0, 1) := by decide +kernel
theorem dX2_makeNew_61 : decode cX2_makeNew 61 = .ok (.putfield 43, 3) := by decide +kernel
theorem dX2_makeNew_64 : decode cX2_makeNew 64 = .ok (.aload_n 0, 1) := by decide +kernel
theorem dX2_makeNew_65 : decode cX2_makeNew 65 = .ok (.iconst 0, 1) := by decide +kernel
theorem dX2_makeNew_66 : decode cX2_makeNew 66 = .ok (.putfield 46, 3) := by decide +kernel
theorem dX2_makeNew_69 : decode cX2_makeNew 69 = .ok (.aload_n 0, 1) := by decide +kernel
theorem dX2_makeNew_70 : decode cX2_makeNew 70 = .ok (.iconst 0, 1) := by decide +kernel
theorem dX2_makeNew_71 : decode cX2_makeNew 71 = .ok (.putfield 49, 3) := by decide +kernel
theorem dX2_makeNew_74 : decode cX2_makeNew 74 = .ok (.aload_n 0, 1) := by decide +kernel
theorem dX2_makeNew_75 : decode cX2_makeNew 75 = .ok (.iconst 0, 1) := by decide +kernel
theorem dX2_makeNew_76 : decode cX2_makeNew 76 = .ok (.putfield 52, 3) := by decide +kernel
theorem dX2_makeNew_79 : decode cX2_makeNew 79 = .ok (.return_, 1) := by decide +kernel
theorem dX2_takeFrom_0 : decode cX2_takeFrom 0 = .ok (.aload_n 1, 1) := by decide +kernel
theorem dX2_takeFrom_1 : decode cX2_takeFrom 1 = .ok (.getfield 11, 3) := by decide +kernel
theorem dX2_takeFrom_4 : decode cX2_takeFrom 4 = .ok (.iconst 0, 1) := by decide +kernel
theorem dX2_takeFrom_5 : decode cX2_takeFrom 5 = .ok (.aload_n 0, 1) := by decide +kernel
theorem dX2_takeFrom_6 : decode cX2_takeFrom 6 = .ok (.getfield 11, 3) := by decide +kernel
theorem dX2_takeFrom_9 : decode cX2_takeFrom 9 = .ok (.iconst 0, 1) := by decide +kernel
theorem dX2_takeFrom_10 : decode cX2_takeFrom 10 = .ok (.aload_n 0, 1) := by decide +kernel
theorem dX2_takeFrom_11 : decode cX2_takeFrom 11 = .ok (.getfield 11, 3) := by decide +kernel
theorem dX2_takeFrom_14 : decode cX2_takeFrom 14 = .ok (.arraylength, 1) := by decide +kernel
theorem dX2_takeFrom_15 : decode cX2_takeFrom 15 = .ok (.invokestatic 55, 3) := by decide +kernel
theorem dX2_takeFrom_18 : decode cX2_takeFrom 18 = .ok (.aload_n 1, 1) := by decide +kernel
theorem dX2_takeFrom_19 : decode cX2_takeFrom 19 = .ok (.getfield 15, 3) := by decide +kernel
theorem dX2_takeFrom_22 : decode cX2_takeFrom 22 = .ok (.iconst 0, 1) := by decide +kernel
theorem dX2_takeFrom_23 : decode cX2_takeFrom 23 = .ok (.aload_n 0, 1) := by decide +kernel
theorem dX2_takeFrom_24 : decode cX2_takeFrom 24 = .ok (.getfield 15, 3) := by decide +kernel
theorem dX2_takeFrom_27 : decode cX2_takeFrom 27 = .ok (.iconst 0, 1) := by decide +kernel
theorem dX2_takeFrom_28 : decode cX2_takeFrom 28 = .ok (.aload_n 0, 1) := by decide +kernel
theorem dX2_takeFrom_29 : decode cX2_takeFrom 29 = .ok (.getfield 15, 3) := by decide +kernel
theorem dX2_takeFrom_32 : decode cX2_takeFrom 32 = .ok (.arraylength, 1) := by decide +kernel
theorem dX2_takeFrom_33 : decode cX2_takeFrom 33 = .ok (.invokestatic 55, 3) := by decide +kernel
theorem dX2_takeFrom_36 : decode cX2_takeFrom 36 = .ok (.aload_n 1, 1) := by decide +kernel
theorem dX2_takeFrom_37 : decode cX2_takeFrom 37 = .ok (.getfield 18, 3) := by decide +kernel
theorem dX2_takeFrom_40 : decode cX2_takeFrom 40 = .ok (.iconst 0, 1) := by decide +kernel
theorem dX2_takeFrom_41 : decode cX2_takeFrom 41 = .ok (.aload_n 0, 1) := by decide +kernel
theorem dX2_takeFrom_42 : decode cX2_takeFrom 42 = .ok (.getfield 18, 3) := by decide +kernel
theorem dX2_takeFrom_45 : decode cX2_takeFrom 45 = .ok (.iconst 0, 1) := by decide +kernel
theorem dX2_takeFrom_46 : decode cX2_takeFrom 46 = .ok (.aload_n 0, 1) := by decide +kernel
theorem dX2_takeFrom_47 : decode cX2_takeFrom 47 = .ok (.getfield 18, 3) := by decide +kernel
theorem dX2_takeFrom_50 : decode cX2_takeFrom 50 = .ok (.arraylength, 1) := by decide +kernel
theorem dX2_takeFrom_51 : decode cX2_takeFrom 51 = .ok (.invokestatic 55, 3) := by decide +kernel
theorem dX2_takeFrom_54 : decode cX2_takeFrom 54 = .ok (.aload_n 1, 1) := by decide +kernel
theorem dX2_takeFrom_55 : decode cX2_takeFrom 55 = .ok (.getfield 21, 3) := by decide +kernel
theorem dX2_takeFrom_58 : decode cX2_takeFrom 58 = .ok (.iconst 0, 1) := by decide +kernel
theorem dX2_takeFrom_59 : decode cX2_takeFrom 59 = .ok (.aload_n 0, 1) := by decide +kernel
theorem dX2_takeFrom_60 : decode cX2_takeFrom 60 = .ok (.getfield 21, 3) := by decide +kernel
theorem dX2_takeFrom_63 : decode cX2_takeFrom 63 = .ok (.iconst 0, 1) := by decide +kernel
theorem dX2_takeFrom_64 : decode cX2_takeFrom 64 = .ok (.aload_n 0, 1) := by decide +kernel
theorem dX2_takeFrom_65 : decode cX2_takeFrom 65 = .ok (.getfield 21, 3) := by decide +kernel
theorem dX2_takeFrom_68 : decode cX2_takeFrom 68 = .ok (.arraylength, 1) := by decide +kernel
theorem dX2_takeFrom_69 : decode cX2_takeFrom 69 = .ok (.invokestatic 55, 3) := by decide +kernel
theorem dX2_takeFrom_72 : decode cX2_takeFrom 72 = .ok (.aload_n 1, 1) := by decide +kernel
theorem dX2_takeFrom_73 : decode cX2_takeFrom 73 = .ok (.getfield 24, 3) := by decide +kernel
theorem dX2_takeFrom_76 : decode cX2_takeFrom 76 = .ok (.iconst 0, 1) := by decide +kernel
theorem dX2_takeFrom_77 : decode cX2_takeFrom 77 = .ok (.aload_n 0, 1) := by decide +kernel
theorem dX2_takeFrom_78 : decode cX2_takeFrom 78 = .ok (.getfield 24, 3) := by decide +kernel
theorem dX2_takeFrom_81 : decode cX2_takeFrom 81 = .ok (.iconst 0, 1) := by decide +kernel
theorem dX2_takeFrom_82 : decode cX2_takeFrom 82 = .ok (.aload_n 0, 1) := by decide +kernel
theorem dX2_takeFrom_83 : decode cX2_takeFrom 83 = .ok (.getfield 24, 3) := by decide +kernel
theorem dX2_takeFrom_86 : decode cX2_takeFrom 86 = .ok (.arraylength, 1) := by decide +kernel
theorem dX2_takeFrom_87 : decode cX2_takeFrom 87 = .ok (.invokestatic 55, 3) := by decide +kernel
theorem dX2_takeFrom_90 : decode cX2_takeFrom 90 = .ok (.aload_n 1, 1) := by decide +kernel
theorem dX2_takeFrom_91 : decode cX2_takeFrom 91 = .ok (.getfield 27, 3) := by decide +kernel
theorem dX2_takeFrom_94 : decode cX2_takeFrom 94 = .ok (.iconst 0, 1) := by decide +kernel
theorem dX2_takeFrom_95 : decode cX2_takeFrom 95 = .ok (.aload_n 0, 1) := by decide +kernel
theorem dX2_takeFrom_96 : decode cX2_takeFrom 96 = .ok (.getfield 27, 3) := by decide +kernel
theorem dX2_takeFrom_99 : decode cX2_takeFrom 99 = .ok (.iconst 0, 1) := by decide +kernel
theorem dX2_takeFrom_100 : decode cX2_takeFrom 100 = .ok (.aload_n 0, 1) := by decide +kernel
theorem dX2_takeFrom_101 : decode cX2_takeFrom 101 = .ok (.getfield 27, 3) := by decide +kernel
theorem dX2_takeFrom_104 : decode cX2_takeFrom 104 = .ok (.arraylength, 1) := by decide +kernel
theorem dX2_takeFrom_105 : decode cX2_takeFrom 105 = .ok (.invokestatic 55, 3) := by decide +kernel
theorem dX2_takeFrom_108 : decode cX2_takeFrom 108 = .ok (.aload_n 0, 1) := by decide +kernel
theorem dX2_takeFrom_109 : decode cX2_takeFrom 109 = .ok (.aload_n 1, 1) := by decide +kernel
theorem dX2_takeFrom_110 : decode cX2_takeFrom 110 = .ok (.getfield 39, 3) := by decide +kernel
theorem dX2_takeFrom_113 : decode cX2_takeFrom 113 = .ok (.putfield 39, 3) := by decide +kernel
theorem dX2_takeFrom_116 : decode cX2_takeFrom 116 = .ok (.aload_n 0, 1) := by decide +kernel
theorem dX2_takeFrom_117 : decode cX2_takeFrom 117 = .ok (.aload_n 1, 1) := by decide +kernel
theorem dX2_takeFrom_118 : decode cX2_takeFrom 118 = .ok (.getfield 43, 3) := by decide +kernel
theorem dX2_takeFrom_121 : decode cX2_takeFrom 121 = .ok (.putfield 43, 3) := by decide +kernel
theorem dX2_takeFrom_124 : decode cX2_takeFrom 124 = .ok (.aload_n 0, 1) := by decide +kernel
theorem dX2_takeFrom_125 : decode cX2_takeFrom 125 = .ok (.aload_n 1, 1) := by decide +kernel
theorem dX2_takeFrom_126 : decode cX2_takeFrom 126 = .ok (.getfield 46, 3) := by decide +kernel
theorem dX2_takeFrom_129 : decode cX2_takeFrom 129 = .ok (.putfield 46, 3) := by decide +kernel
theorem dX2_takeFrom_132 : decode cX2_takeFrom 132 = .ok (.aload_n 0, 1) := by decide +kernel
theorem dX2_takeFrom_133 : decode cX2_takeFrom 133 = .ok (.aload_n 1, 1) := by decide +kernel
theorem dX2_takeFrom_134 : decode cX2_takeFrom 134 = .ok (.getfield 49, 3) := by decide +kernel
theorem dX2_takeFrom_137 : decode cX2_takeFrom 137 = .ok (.putfield 49, 3) := by decide +kernel
theorem dX2_takeFrom_140 : decode cX2_takeFrom 140 = .ok (.aload_n 0, 1) := by decide +kernel
theorem dX2_takeFrom_141 : decode cX2_takeFrom 141 = .ok (.aload_n 1, 1) := by decide +kernel
theorem dX2_takeFrom_142 : decode cX2_takeFrom 142 = .ok (.getfield 52, 3) := by decide +kernel
theorem dX2_takeFrom_145 : decode cX2_takeFrom 145 = .ok (.putfield 52, 3) := by decide +kernel
theorem dX2_takeFrom_148 : decode cX2_takeFrom 148 = .ok (.return_, 1) := by decide +kernel
theorem dX2_isSteeple_0 : decode cX2_isSteeple 0 = .ok (.iconst 0, 1) := by decide +kernel
theorem dX2_isSteeple_1 : decode cX2_isSteeple 1 = .ok (.iload_n 0, 1) := by decide +kernel
theorem dX2_isSteeple_2 : decode cX2_isSteeple 2 = .ok (.if_icmp .gt 12, 3) := by decide +kernel
theorem dX2_isSteeple_5 : decode cX2_isSteeple 5 = .ok (.iload_n 0, 1) := by decide +kernel
theorem dX2_isSteeple_6 : decode cX2_isSteeple 6 = .ok (.iconst 3, 1) := by decide +kernel
theorem dX2_isSteeple_7 : decode cX2_isSteeple 7 = .ok (.if_icmp .ge 7, 3) := by decide +kernel
theorem dX2_isSteeple_10 : decode cX2_isSteeple 10 = .ok (.iconst 1, 1) := by decide +kernel
theorem dX2_isSteeple_11 : decode cX2_isSteeple 11 = .ok (.goto 4, 3) := by decide +kernel
theorem dX2_isSteeple_14 : decode cX2_isSteeple 14 = .ok (.iconst 0, 1) := by decide +kernel
theorem dX2_isSteeple_15 : decode cX2_isSteeple 15 = .ok (.ireturn, 1) := by decide +kernel
theorem dX2_isTeller_0 : decode cX2_isTeller 0 = .ok (.iconst 0, 1) := by decide +kernel
theorem dX2_isTeller_1 : decode cX2_isTeller 1 = .ok (.iload_n 0, 1) := by decide +kernel
theorem dX2_isTeller_2 : decode cX2_isTeller 2 = .ok (.if_icmp .gt 13, 3) := by decide +kernel
theorem dX2_isTeller_5 : decode cX2_isTeller 5 = .ok (.iload_n 0, 1) := by decide +kernel
theorem dX2_isTeller_6 : decode cX2_isTeller 6 = .ok (.bipush 6, 2) := by decide +kernel
theorem dX2_isTeller_8 : decode cX2_isTeller 8 = .ok (.if_icmp .ge 7, 3) := by decide +kernel
theorem dX2_isTeller_11 : decode cX2_isTeller 11 = .ok (.iconst 1, 1) := by decide +kernel
theorem dX2_isTeller_12 : decode cX2_isTeller 12 = .ok (.goto 4, 3) := by decide +kernel
theorem dX2_isTeller_15 : decode cX2_isTeller 15 = .ok (.iconst 0, 1) := by decide +kernel
theorem dX2_isTeller_16 : decode cX2_isTeller 16 = .ok (.ireturn, 1) := by decide +kernel
theorem dX2_isTrust_0 : decode cX2_isTrust 0 = .ok (.iconst 0, 1) := by decide +kernel
theorem dX2_isTrust_1 : decode cX2_isTrust 1 = .ok (.iload_n 0, 1) := by decide +kernel
theorem dX2_isTrust_2 : decode cX2_isTrust 2 = .ok (.if_icmp .gt 13, 3) := by decide +kernel
theorem dX2_isTrust_5 : decode cX2_isTrust 5 = .ok (.iload_n 0, 1) := by decide +kernel
theorem dX2_isTrust_6 : decode cX2_isTrust 6 = .ok (.bipush 9, 2) := by decide +kernel
theorem dX2_isTrust_8 : decode cX2_isTrust 8 = .ok (.if_icmp .gt 7, 3) := by decide +kernel
theorem dX2_isTrust_11 : decode cX2_isTrust 11 = .ok (.iconst 1, 1) := by decide +kernel
theorem dX2_isTrust_12 : decode cX2_isTrust 12 = .ok (.goto 4, 3) := by decide +kernel
theorem dX2_isTrust_15 : decode cX2_isTrust 15 = .ok (.iconst 0, 1) := by decide +kernel
theorem dX2_isTrust_16 : decode cX2_isTrust 16 = .ok (.ireturn, 1) := by decide +kernel
theorem dX2_isHeight_0 : decode cX2_isHeight 0 = .ok (.iconst 1, 1) := by decide +kernel
theorem dX2_isHeight_1 : decode cX2_isHeight 1 = .ok (.iload_n 0, 1) := by decide +kernel
theorem dX2_isHeight_2 : decode cX2_isHeight 2 = .ok (.if_icmp .gt 14, 3) := by decide +kernel
theorem dX2_isHeight_5 : decode cX2_isHeight 5 = .ok (.iload_n 0, 1) := by decide +kernel
theorem dX2_isHeight_6 : decode cX2_isHeight 6 = .ok (.sipush 999, 3) := by decide +kernel
theorem dX2_isHeight_9 : decode cX2_isHeight 9 = .ok (.if_icmp .gt 7, 3) := by decide +kernel
theorem dX2_isHeight_12 : decode cX2_isHeight 12 = .ok (.iconst 1, 1) := by decide +kernel
theorem dX2_isHeight_13 : decode cX2_isHeight 13 = .ok (.goto 4, 3) := by decide +kernel
theorem dX2_isHeight_16 : decode cX2_isHeight 16 = .ok (.iconst 0, 1) := by decide +kernel
theorem dX2_isHeight_17 : decode cX2_isHeight 17 = .ok (.ireturn, 1) := by decide +kernel
theorem dX2_isSetting_0 : decode cX2_isSetting 0 = .ok (.iconst 0, 1) := by decide +kernel
theorem dX2_isSetting_1 : decode cX2_isSetting 1 = .ok (.iload_n 0, 1) := by decide +kernel
theorem dX2_isSetting_2 : decode cX2_isSetting 2 = .ok (.if_icmp .gt 12, 3) := by decide +kernel
theorem dX2_isSetting_5 : decode cX2_isSetting 5 = .ok (.iload_n 0, 1) := by decide +kernel
theorem dX2_isSetting_6 : decode cX2_isSetting 6 = .ok (.iconst 2, 1) := by decide +kernel
theorem dX2_isSetting_7 : decode cX2_isSetting 7 = .ok (.if_icmp .ge 7, 3) := by decide +kernel
theorem dX2_isSetting_10 : decode cX2_isSetting 10 = .ok (.iconst 1, 1) := by decide +kernel
theorem dX2_isSetting_11 : decode cX2_isSetting 11 = .ok (.goto 4, 3) := by decide +kernel
theorem dX2_isSetting_14 : decode cX2_isSetting 14 = .ok (.iconst 0, 1) := by decide +kernel
theorem dX2_isSetting_15 : decode cX2_isSetting 15 = .ok (.ireturn, 1) := by decide +kernel
theorem dX2_fitsSetting_0 : decode cX2_fitsSetting 0 = .ok (.iload_n 0, 1) := by decide +kernel
theorem dX2_fitsSetting_1 : decode cX2_fitsSetting 1 = .ok (.invokestatic 61, 3) := by decide +kernel
theorem dX2_fitsSetting_4 : decode cX2_fitsSetting 4 = .ok (.ifCond .eq 26, 3) := by decide +kernel
theorem dX2_fitsSetting_7 : decode cX2_fitsSetting 7 = .ok (.iconst 0, 1) := by decide +kernel
theorem dX2_fitsSetting_8 : decode cX2_fitsSetting 8 = .ok (.iload_n 1, 1) := by decide +kernel
theorem dX2_fitsSetting_9 : decode cX2_fitsSetting 9 = .ok (.if_icmp .gt 21, 3) := by decide +kernel
theorem dX2_fitsSetting_12 : decode cX2_fitsSetting 12 = .ok (.iload_n 1, 1) := by decide +kernel
theorem dX2_fitsSetting_13 : decode cX2_fitsSetting 13 = .ok (.iload_n 0, 1) := by decide +kernel
theorem dX2_fitsSetting_14 : decode cX2_fitsSetting 14 = .ok (.ifCond .ne 7, 3) := by decide +kernel
theorem dX2_fitsSetting_17 : decode cX2_fitsSetting 17 = .ok (.iconst 5, 1) := by decide +kernel
theorem dX2_fitsSetting_18 : decode cX2_fitsSetting 18 = .ok (.goto 5, 3) := by decide +kernel
theorem dX2_fitsSetting_21 : decode cX2_fitsSetting 21 = .ok (.bipush 50, 2) := by decide +kernel
theorem dX2_fitsSetting_23 : decode cX2_fitsSetting 23 = .ok (.if_icmp .gt 7, 3) := by decide +kernel
theorem dX2_fitsSetting_26 : decode cX2_fitsSetting 26 = .ok (.iconst 1, 1) := by decide +kernel
theorem dX2_fitsSetting_27 : decode cX2_fitsSetting 27 = .ok (.goto 4, 3) := by decide +kernel
theorem dX2_fitsSetting_30 : decode cX2_fitsSetting 30 = .ok (.iconst 0, 1) := by decide +kernel
theorem dX2_fitsSetting_31 : decode cX2_fitsSetting 31 = .ok (.ireturn, 1) := by decide +kernel
theorem dX2_fits_0 : decode cX2_fits 0 = .ok (.iload_n 0, 1) := by decide +kernel
theorem dX2_fits_1 : decode cX2_fits 1 = .ok (.tableswitch 135 0 2 #[27, 64, 101], 27) := by decide +kernel
theorem dX2_fits_28 : decode cX2_fits 28 = .ok (.iconst 1, 1) := by decide +kernel
theorem dX2_fits_29 : decode cX2_fits 29 = .ok (.iload_n 1, 1) := by decide +kernel
theorem dX2_fits_30 : decode cX2_fits 30 = .ok (.if_icmp .gt 33, 3) := by decide +kernel
theorem dX2_fits_33 : decode cX2_fits 33 = .ok (.iload_n 1, 1) := by decide +kernel
theorem dX2_fits_34 : decode cX2_fits 34 = .ok (.bipush 20, 2) := by decide +kernel
theorem dX2_fits_36 : decode cX2_fits 36 = .ok (.if_icmp .gt 27, 3) := by decide +kernel
theorem dX2_fits_39 : decode cX2_fits 39 = .ok (.iconst 1, 1) := by decide +kernel
theorem dX2_fits_40 : decode cX2_fits 40 = .ok (.iload_n 2, 1) := by decide +kernel
theorem dX2_fits_41 : decode cX2_fits 41 = .ok (.if_icmp .gt 22, 3) := by decide +kernel
theorem dX2_fits_44 : decode cX2_fits 44 = .ok (.iload_n 2, 1) := by decide +kernel
theorem dX2_fits_45 : decode cX2_fits 45 = .ok (.bipush 40, 2) := by decide +kernel
theorem dX2_fits_47 : decode cX2_fits 47 = .ok (.if_icmp .gt 16, 3) := by decide +kernel
theorem dX2_fits_50 : decode cX2_fits 50 = .ok (.iload_n 3, 1) := by decide +kernel
theorem dX2_fits_51 : decode cX2_fits 51 = .ok (.iload 4, 2) := by decide +kernel
theorem dX2_fits_53 : decode cX2_fits 53 = .ok (.invokestatic 65, 3) := by decide +kernel
theorem dX2_fits_56 : decode cX2_fits 56 = .ok (.ifCond .eq 7, 3) := by decide +kernel
theorem dX2_fits_59 : decode cX2_fits 59 = .ok (.iconst 1, 1) := by decide +kernel
theorem dX2_fits_60 : decode cX2_fits 60 = .ok (.goto 4, 3) := by decide +kernel
theorem dX2_fits_63 : decode cX2_fits 63 = .ok (.iconst 0, 1) := by decide +kernel
theorem dX2_fits_64 : decode cX2_fits 64 = .ok (.ireturn, 1) := by decide +kernel
theorem dX2_fits_65 : decode cX2_fits 65 = .ok (.iconst 1, 1) := by decide +kernel
theorem dX2_fits_66 : decode cX2_fits 66 = .ok (.iload_n 1, 1) := by decide +kernel
theorem dX2_fits_67 : decode cX2_fits 67 = .ok (.if_icmp .gt 33, 3) := by decide +kernel
theorem dX2_fits_70 : decode cX2_fits 70 = .ok (.iload_n 1, 1) := by decide +kernel
theorem dX2_fits_71 : decode cX2_fits 71 = .ok (.bipush 9, 2) := by decide +kernel
theorem dX2_fits_73 : decode cX2_fits 73 = .ok (.if_icmp .gt 27, 3) := by decide +kernel
theorem dX2_fits_76 : decode cX2_fits 76 = .ok (.iconst 1, 1) := by decide +kernel
theorem dX2_fits_77 : decode cX2_fits 77 = .ok (.iload_n 2, 1) := by decide +kernel
theorem dX2_fits_78 : decode cX2_fits 78 = .ok (.if_icmp .gt 22, 3) := by decide +kernel
theorem dX2_fits_81 : decode cX2_fits 81 = .ok (.iload_n 2, 1) := by decide +kernel
theorem dX2_fits_82 : decode cX2_fits 82 = .ok (.bipush 60, 2) := by decide +kernel
theorem dX2_fits_84 : decode cX2_fits 84 = .ok (.if_icmp .gt 16, 3) := by decide +kernel
theorem dX2_fits_87 : decode cX2_fits 87 = .ok (.iload_n 3, 1) := by decide +kernel
theorem dX2_fits_88 : decode cX2_fits 88 = .ok (.iload 4, 2) := by decide +kernel
theorem dX2_fits_90 : decode cX2_fits 90 = .ok (.invokestatic 65, 3) := by decide +kernel
theorem dX2_fits_93 : decode cX2_fits 93 = .ok (.ifCond .eq 7, 3) := by decide +kernel
theorem dX2_fits_96 : decode cX2_fits 96 = .ok (.iconst 1, 1) := by decide +kernel
theorem dX2_fits_97 : decode cX2_fits 97 = .ok (.goto 4, 3) := by decide +kernel
theorem dX2_fits_100 : decode cX2_fits 100 = .ok (.iconst 0, 1) := by decide +kernel
theorem dX2_fits_101 : decode cX2_fits 101 = .ok (.ireturn, 1) := by decide +kernel
theorem dX2_fits_102 : decode cX2_fits 102 = .ok (.iload_n 1, 1) := by decide +kernel
theorem dX2_fits_103 : decode cX2_fits 103 = .ok (.invokestatic 69, 3) := by decide +kernel
theorem dX2_fits_106 : decode cX2_fits 106 = .ok (.ifCond .eq 28, 3) := by decide +kernel
theorem dX2_fits_109 : decode cX2_fits 109 = .ok (.iload_n 2, 1) := by decide +kernel
theorem dX2_fits_110 : decode cX2_fits 110 = .ok (.invokestatic 69, 3) := by decide +kernel
theorem dX2_fits_113 : decode cX2_fits 113 = .ok (.ifCond .eq 21, 3) := by decide +kernel
theorem dX2_fits_116 : decode cX2_fits 116 = .ok (.iload_n 1, 1) := by decide +kernel
theorem dX2_fits_117 : decode cX2_fits 117 = .ok (.iload_n 2, 1) := by decide +kernel
theorem dX2_fits_118 : decode cX2_fits 118 = .ok (.if_icmp .gt 16, 3) := by decide +kernel
theorem dX2_fits_121 : decode cX2_fits 121 = .ok (.iload_n 3, 1) := by decide +kernel
theorem dX2_fits_122 : decode cX2_fits 122 = .ok (.ifCond .ne 12, 3) := by decide +kernel
theorem dX2_fits_125 : decode cX2_fits 125 = .ok (.iload 4, 2) := by decide +kernel
theorem dX2_fits_127 : decode cX2_fits 127 = .ok (.ifCond .ne 7, 3) := by decide +kernel
theorem dX2_fits_130 : decode cX2_fits 130 = .ok (.iconst 1, 1) := by decide +kernel
theorem dX2_fits_131 : decode cX2_fits 131 = .ok (.goto 4, 3) := by decide +kernel
theorem dX2_fits_134 : decode cX2_fits 134 = .ok (.iconst 0, 1) := by decide +kernel
theorem dX2_fits_135 : decode cX2_fits 135 = .ok (.ireturn, 1) := by decide +kernel
theorem dX2_fits_136 : decode cX2_fits 136 = .ok (.iconst 0, 1) := by decide +kernel
theorem dX2_fits_137 : decode cX2_fits 137 = .ok (.ireturn, 1) := by decide +kernel
theorem dX2_fitsFarSide_0 : decode cX2_fitsFarSide 0 = .ok (.iconst 1, 1) := by decide +kernel
theorem dX2_fitsFarSide_1 : decode cX2_fitsFarSide 1 = .ok (.iload_n 0, 1) := by decide +kernel
theorem dX2_fitsFarSide_2 : decode cX2_fitsFarSide 2 = .ok (.if_icmp .gt 25, 3) := by decide +kernel
theorem dX2_fitsFarSide_5 : decode cX2_fitsFarSide 5 = .ok (.iload_n 0, 1) := by decide +kernel
theorem dX2_fitsFarSide_6 : decode cX2_fitsFarSide 6 = .ok (.sipush 400, 3) := by decide +kernel
theorem dX2_fitsFarSide_9 : decode cX2_fitsFarSide 9 = .ok (.if_icmp .gt 18, 3) := by decide +kernel
theorem dX2_fitsFarSide_12 : decode cX2_fitsFarSide 12 = .ok (.iconst 0, 1) := by decide +kernel
theorem dX2_fitsFarSide_13 : decode cX2_fitsFarSide 13 = .ok (.iload_n 1, 1) := by decide +kernel
theorem dX2_fitsFarSide_14 : decode cX2_fitsFarSide 14 = .ok (.if_icmp .gt 13, 3) := by decide +kernel
theorem dX2_fitsFarSide_17 : decode cX2_fitsFarSide 17 = .ok (.iload_n 1, 1) := by decide +kernel
theorem dX2_fitsFarSide_18 : decode cX2_fitsFarSide 18 = .ok (.bipush 20, 2) := by decide +kernel
theorem dX2_fitsFarSide_20 : decode cX2_fitsFarSide 20 = .ok (.if_icmp .gt 7, 3) := by decide +kernel
theorem dX2_fitsFarSide_23 : decode cX2_fitsFarSide 23 = .ok (.iconst 1, 1) := by decide +kernel
theorem dX2_fitsFarSide_24 : decode cX2_fitsFarSide 24 = .ok (.goto 4, 3) := by decide +kernel
theorem dX2_fitsFarSide_27 : decode cX2_fitsFarSide 27 = .ok (.iconst 0, 1) := by decide +kernel
theorem dX2_fitsFarSide_28 : decode cX2_fitsFarSide 28 = .ok (.ireturn, 1) := by decide +kernel
theorem dX2_hasMeasure_0 : decode cX2_hasMeasure 0 = .ok (.iconst 0, 1) := by decide +kernel
theorem dX2_hasMeasure_1 : decode cX2_hasMeasure 1 = .ok (.iload_n 1, 1) := by decide +kernel
theorem dX2_hasMeasure_2 : decode cX2_hasMeasure 2 = .ok (.if_icmp .gt 15, 3) := by decide +kernel
theorem dX2_hasMeasure_5 : decode cX2_hasMeasure 5 = .ok (.iload_n 1, 1) := by decide +kernel
theorem dX2_hasMeasure_6 : decode cX2_hasMeasure 6 = .ok (.aload_n 0, 1) := by decide +kernel
theorem dX2_hasMeasure_7 : decode cX2_hasMeasure 7 = .ok (.getfield 39, 3) := by decide +kernel
theorem dX2_hasMeasure_10 : decode cX2_hasMeasure 10 = .ok (.if_icmp .ge 7, 3) := by decide +kernel
theorem dX2_hasMeasure_13 : decode cX2_hasMeasure 13 = .ok (.iconst 1, 1) := by decide +kernel
theorem dX2_hasMeasure_14 : decode cX2_hasMeasure 14 = .ok (.goto 4, 3) := by decide +kernel
theorem dX2_hasMeasure_17 : decode cX2_hasMeasure 17 = .ok (.iconst 0, 1) := by decide +kernel
theorem dX2_hasMeasure_18 : decode cX2_hasMeasure 18 = .ok (.ireturn, 1) := by decide +kernel
theorem dX2_isFull_0 : decode cX2_isFull 0 = .ok (.aload_n 0, 1) := by decide +kernel
theorem dX2_isFull_1 : decode cX2_isFull 1 = .ok (.getfield 39, 3) := by decide +kernel
theorem dX2_isFull_4 : decode cX2_isFull 4 = .ok (.bipush 16, 2) := by decide +kernel
theorem dX2_isFull_6 : decode cX2_isFull 6 = .ok (.if_icmp .lt 7, 3) := by decide +kernel
theorem dX2_isFull_9 : decode cX2_isFull 9 = .ok (.iconst 1, 1) := by decide +kernel
theorem dX2_isFull_10 : decode cX2_isFull 10 = .ok (.goto 4, 3) := by decide +kernel
theorem dX2_isFull_13 : decode cX2_isFull 13 = .ok (.iconst 0, 1) := by decide +kernel
theorem dX2_isFull_14 : decode cX2_isFull 14 = .ok (.ireturn, 1) := by decide +kernel
theorem dX2_tryMeasure_0 : decode cX2_tryMeasure 0 = .ok (.iload_n 1, 1) := by decide +kernel
theorem dX2_tryMeasure_1 : decode cX2_tryMeasure 1 = .ok (.invokestatic 72, 3) := by decide +kernel
theorem dX2_tryMeasure_4 : decode cX2_tryMeasure 4 = .ok (.ifCond .eq 32, 3) := by decide +kernel
theorem dX2_tryMeasure_7 : decode cX2_tryMeasure 7 = .ok (.iload_n 2, 1) := by decide +kernel
theorem dX2_tryMeasure_8 : decode cX2_tryMeasure 8 = .ok (.invokestatic 75, 3) := by decide +kernel
theorem dX2_tryMeasure_11 : decode cX2_tryMeasure 11 = .ok (.ifCond .eq 25, 3) := by decide +kernel
theorem dX2_tryMeasure_14 : decode cX2_tryMeasure 14 = .ok (.iload_n 3, 1) := by decide +kernel
theorem dX2_tryMeasure_15 : decode cX2_tryMeasure 15 = .ok (.iload 4, 2) := by decide +kernel
theorem dX2_tryMeasure_17 : decode cX2_tryMeasure 17 = .ok (.iload 5, 2) := by decide +kernel
theorem dX2_tryMeasure_19 : decode cX2_tryMeasure 19 = .ok (.iload 6, 2) := by decide +kernel
theorem dX2_tryMeasure_21 : decode cX2_tryMeasure 21 = .ok (.iload 7, 2) := by decide +kernel
theorem dX2_tryMeasure_23 : decode cX2_tryMeasure 23 = .ok (.invokestatic 78, 3) := by decide +kernel
theorem dX2_tryMeasure_26 : decode cX2_tryMeasure 26 = .ok (.ifCond .eq 10, 3) := by decide +kernel
theorem dX2_tryMeasure_29 : decode cX2_tryMeasure 29 = .ok (.aload_n 0, 1) := by decide +kernel
theorem dX2_tryMeasure_30 : decode cX2_tryMeasure 30 = .ok (.invokevirtual 82, 3) := by decide +kernel
theorem dX2_tryMeasure_33 : decode cX2_tryMeasure 33 = .ok (.ifCond .eq 5, 3) := by decide +kernel
theorem dX2_tryMeasure_36 : decode cX2_tryMeasure 36 = .ok (.iconst 0, 1) := by decide +kernel
theorem dX2_tryMeasure_37 : decode cX2_tryMeasure 37 = .ok (.ireturn, 1) := by decide +kernel
theorem dX2_tryMeasure_38 : decode cX2_tryMeasure 38 = .ok (.aload_n 0, 1) := by decide +kernel
theorem dX2_tryMeasure_39 : decode cX2_tryMeasure 39 = .ok (.iload_n 1, 1) := by decide +kernel
theorem dX2_tryMeasure_40 : decode cX2_tryMeasure 40 = .ok (.iload_n 2, 1) := by decide +kernel
theorem dX2_tryMeasure_41 : decode cX2_tryMeasure 41 = .ok (.iload_n 3, 1) := by decide +kernel
theorem dX2_tryMeasure_42 : decode cX2_tryMeasure 42 = .ok (.iload 4, 2) := by decide +kernel
theorem dX2_tryMeasure_44 : decode cX2_tryMeasure 44 = .ok (.iload 5, 2) := by decide +kernel
theorem dX2_tryMeasure_46 : decode cX2_tryMeasure 46 = .ok (.iload 6, 2) := by decide +kernel
theorem dX2_tryMeasure_48 : decode cX2_tryMeasure 48 = .ok (.iload 7, 2) := by decide +kernel
theorem dX2_tryMeasure_50 : decode cX2_tryMeasure 50 = .ok (.invokevirtual 86, 3) := by decide +kernel
theorem dX2_tryMeasure_53 : decode cX2_tryMeasure 53 = .ok (.pop, 1) := by decide +kernel
theorem dX2_tryMeasure_54 : decode cX2_tryMeasure 54 = .ok (.iconst 1, 1) := by decide +kernel
theorem dX2_tryMeasure_55 : decode cX2_tryMeasure 55 = .ok (.ireturn, 1) := by decide +kernel
theorem dX2_tryDrop_0 : decode cX2_tryDrop 0 = .ok (.aload_n 0, 1) := by decide +kernel
theorem dX2_tryDrop_1 : decode cX2_tryDrop 1 = .ok (.iload_n 1, 1) := by decide +kernel
theorem dX2_tryDrop_2 : decode cX2_tryDrop 2 = .ok (.invokevirtual 90, 3) := by decide +kernel
theorem dX2_tryDrop_5 : decode cX2_tryDrop 5 = .ok (.ifCond .ne 5, 3) := by decide +kernel
theorem dX2_tryDrop_8 : decode cX2_tryDrop 8 = .ok (.iconst 0, 1) := by decide +kernel
theorem dX2_tryDrop_9 : decode cX2_tryDrop 9 = .ok (.ireturn, 1) := by decide +kernel
theorem dX2_tryDrop_10 : decode cX2_tryDrop 10 = .ok (.aload_n 0, 1) := by decide +kernel
theorem dX2_tryDrop_11 : decode cX2_tryDrop 11 = .ok (.iload_n 1, 1) := by decide +kernel
theorem dX2_tryDrop_12 : decode cX2_tryDrop 12 = .ok (.invokevirtual 93, 3) := by decide +kernel
theorem dX2_tryDrop_15 : decode cX2_tryDrop 15 = .ok (.pop, 1) := by decide +kernel
theorem dX2_tryDrop_16 : decode cX2_tryDrop 16 = .ok (.iconst 1, 1) := by decide +kernel
theorem dX2_tryDrop_17 : decode cX2_tryDrop 17 = .ok (.ireturn, 1) := by decide +kernel
theorem dX2_tryTrust_0 : decode cX2_tryTrust 0 = .ok (.iload_n 1, 1) := by decide +kernel
theorem dX2_tryTrust_1 : decode cX2_tryTrust 1 = .ok (.invokestatic 75, 3) := by decide +kernel
theorem dX2_tryTrust_4 : decode cX2_tryTrust 4 = .ok (.ifCond .eq 10, 3) := by decide +kernel
theorem dX2_tryTrust_7 : decode cX2_tryTrust 7 = .ok (.iload_n 2, 1) := by decide +kernel
theorem dX2_tryTrust_8 : decode cX2_tryTrust 8 = .ok (.invokestatic 97, 3) := by decide +kernel
theorem dX2_tryTrust_11 : decode cX2_tryTrust 11 = .ok (.ifCond .ne 5, 3) := by decide +kernel
theorem dX2_tryTrust_14 : decode cX2_tryTrust 14 = .ok (.iconst 0, 1) := by decide +kernel
theorem dX2_tryTrust_15 : decode cX2_tryTrust 15 = .ok (.ireturn, 1) := by decide +kernel
theorem dX2_tryTrust_16 : decode cX2_tryTrust 16 = .ok (.aload_n 0, 1) := by decide +kernel
theorem dX2_tryTrust_17 : decode cX2_tryTrust 17 = .ok (.iload_n 1, 1) := by decide +kernel
theorem dX2_tryTrust_18 : decode cX2_tryTrust 18 = .ok (.iload_n 2, 1) := by decide +kernel
theorem dX2_tryTrust_19 : decode cX2_tryTrust 19 = .ok (.invokevirtual 100, 3) := by decide +kernel
theorem dX2_tryTrust_22 : decode cX2_tryTrust 22 = .ok (.pop, 1) := by decide +kernel
theorem dX2_tryTrust_23 : decode cX2_tryTrust 23 = .ok (.iconst 1, 1) := by decide +kernel
theorem dX2_tryTrust_24 : decode cX2_tryTrust 24 = .ok (.ireturn, 1) := by decide +kernel
theorem dX2_trySurvey_0 : decode cX2_trySurvey 0 = .ok (.iload_n 1, 1) := by decide +kernel
theorem dX2_trySurvey_1 : decode cX2_trySurvey 1 = .ok (.invokestatic 72, 3) := by decide +kernel
theorem dX2_trySurvey_4 : decode cX2_trySurvey 4 = .ok (.ifCond .eq 10, 3) := by decide +kernel
theorem dX2_trySurvey_7 : decode cX2_trySurvey 7 = .ok (.iload_n 2, 1) := by decide +kernel
theorem dX2_trySurvey_8 : decode cX2_trySurvey 8 = .ok (.invokestatic 69, 3) := by decide +kernel
theorem dX2_trySurvey_11 : decode cX2_trySurvey 11 = .ok (.ifCond .ne 5, 3) := by decide +kernel
theorem dX2_trySurvey_14 : decode cX2_trySurvey 14 = .ok (.iconst 0, 1) := by decide +kernel
theorem dX2_trySurvey_15 : decode cX2_trySurvey 15 = .ok (.ireturn, 1) := by decide +kernel
theorem dX2_trySurvey_16 : decode cX2_trySurvey 16 = .ok (.aload_n 0, 1) := by decide +kernel
theorem dX2_trySurvey_17 : decode cX2_trySurvey 17 = .ok (.iload_n 1, 1) := by decide +kernel
theorem dX2_trySurvey_18 : decode cX2_trySurvey 18 = .ok (.iload_n 2, 1) := by decide +kernel
theorem dX2_trySurvey_19 : decode cX2_trySurvey 19 = .ok (.invokevirtual 104, 3) := by decide +kernel
theorem dX2_trySurvey_22 : decode cX2_trySurvey 22 = .ok (.pop, 1) := by decide +kernel
theorem dX2_trySurvey_23 : decode cX2_trySurvey 23 = .ok (.iconst 1, 1) := by decide +kernel
theorem dX2_trySurvey_24 : decode cX2_trySurvey 24 = .ok (.ireturn, 1) := by decide +kernel
theorem dX2_addMeasure_0 : decode cX2_addMeasure 0 = .ok (.aload_n 0, 1) := by decide +kernel
theorem dX2_addMeasure_1 : decode cX2_addMeasure 1 = .ok (.getfield 39, 3) := by decide +kernel
theorem dX2_addMeasure_4 : decode cX2_addMeasure 4 = .ok (.bipush 9, 2) := by decide +kernel
theorem dX2_addMeasure_6 : decode cX2_addMeasure 6 = .ok (.imul, 1) := by decide +kernel
theorem dX2_addMeasure_7 : decode cX2_addMeasure 7 = .ok (.istore 8, 2) := by decide +kernel
theorem dX2_addMeasure_9 : decode cX2_addMeasure 9 = .ok (.aload_n 0, 1) := by decide +kernel
theorem dX2_addMeasure_10 : decode cX2_addMeasure 10 = .ok (.getfield 11, 3) := by decide +kernel
theorem dX2_addMeasure_13 : decode cX2_addMeasure 13 = .ok (.iload 8, 2) := by decide +kernel
theorem dX2_addMeasure_15 : decode cX2_addMeasure 15 = .ok (.iconst 0, 1) := by decide +kernel
theorem dX2_addMeasure_16 : decode cX2_addMeasure 16 = .ok (.iadd, 1) := by decide +kernel
theorem dX2_addMeasure_17 : decode cX2_addMeasure 17 = .ok (.iload_n 1, 1) := by decide +kernel
theorem dX2_addMeasure_18 : decode cX2_addMeasure 18 = .ok (.iastore, 1) := by decide +kernel
theorem dX2_addMeasure_19 : decode cX2_addMeasure 19 = .ok (.aload_n 0, 1) := by decide +kernel
theorem dX2_addMeasure_20 : decode cX2_addMeasure 20 = .ok (.getfield 11, 3) := by decide +kernel
theorem dX2_addMeasure_23 : decode cX2_addMeasure 23 = .ok (.iload 8, 2) := by decide +kernel
theorem dX2_addMeasure_25 : decode cX2_addMeasure 25 = .ok (.iconst 1, 1) := by decide +kernel
theorem dX2_addMeasure_26 : decode cX2_addMeasure 26 = .ok (.iadd, 1) := by decide +kernel
theorem dX2_addMeasure_27 : decode cX2_addMeasure 27 = .ok (.iload_n 2, 1) := by decide +kernel
theorem dX2_addMeasure_28 : decode cX2_addMeasure 28 = .ok (.iastore, 1) := by decide +kernel
theorem dX2_addMeasure_29 : decode cX2_addMeasure 29 = .ok (.aload_n 0, 1) := by decide +kernel
theorem dX2_addMeasure_30 : decode cX2_addMeasure 30 = .ok (.getfield 11, 3) := by decide +kernel
theorem dX2_addMeasure_33 : decode cX2_addMeasure 33 = .ok (.iload 8, 2) := by decide +kernel
theorem dX2_addMeasure_35 : decode cX2_addMeasure 35 = .ok (.iconst 2, 1) := by decide +kernel
theorem dX2_addMeasure_36 : decode cX2_addMeasure 36 = .ok (.iadd, 1) := by decide +kernel
theorem dX2_addMeasure_37 : decode cX2_addMeasure 37 = .ok (.iload_n 3, 1) := by decide +kernel
theorem dX2_addMeasure_38 : decode cX2_addMeasure 38 = .ok (.iastore, 1) := by decide +kernel
theorem dX2_addMeasure_39 : decode cX2_addMeasure 39 = .ok (.aload_n 0, 1) := by decide +kernel
theorem dX2_addMeasure_40 : decode cX2_addMeasure 40 = .ok (.getfield 11, 3) := by decide +kernel
theorem dX2_addMeasure_43 : decode cX2_addMeasure 43 = .ok (.iload 8, 2) := by decide +kernel
theorem dX2_addMeasure_45 : decode cX2_addMeasure 45 = .ok (.iconst 3, 1) := by decide +kernel
theorem dX2_addMeasure_46 : decode cX2_addMeasure 46 = .ok (.iadd, 1) := by decide +kernel
theorem dX2_addMeasure_47 : decode cX2_addMeasure 47 = .ok (.iload 4, 2) := by decide +kernel
theorem dX2_addMeasure_49 : decode cX2_addMeasure 49 = .ok (.iastore, 1) := by decide +kernel
theorem dX2_addMeasure_50 : decode cX2_addMeasure 50 = .ok (.aload_n 0, 1) := by decide +kernel
theorem dX2_addMeasure_51 : decode cX2_addMeasure 51 = .ok (.getfield 11, 3) := by decide +kernel
theorem dX2_addMeasure_54 : decode cX2_addMeasure 54 = .ok (.iload 8, 2) := by decide +kernel
theorem dX2_addMeasure_56 : decode cX2_addMeasure 56 = .ok (.iconst 4, 1) := by decide +kernel
theorem dX2_addMeasure_57 : decode cX2_addMeasure 57 = .ok (.iadd, 1) := by decide +kernel
theorem dX2_addMeasure_58 : decode cX2_addMeasure 58 = .ok (.iload 5, 2) := by decide +kernel
theorem dX2_addMeasure_60 : decode cX2_addMeasure 60 = .ok (.iastore, 1) := by decide +kernel
theorem dX2_addMeasure_61 : decode cX2_addMeasure 61 = .ok (.aload_n 0, 1) := by decide +kernel
theorem dX2_addMeasure_62 : decode cX2_addMeasure 62 = .ok (.getfield 11, 3) := by decide +kernel
theorem dX2_addMeasure_65 : decode cX2_addMeasure 65 = .ok (.iload 8, 2) := by decide +kernel
theorem dX2_addMeasure_67 : decode cX2_addMeasure 67 = .ok (.iconst 5, 1) := by decide +kernel
theorem dX2_addMeasure_68 : decode cX2_addMeasure 68 = .ok (.iadd, 1) := by decide +kernel
theorem dX2_addMeasure_69 : decode cX2_addMeasure 69 = .ok (.iload 6, 2) := by decide +kernel
theorem dX2_addMeasure_71 : decode cX2_addMeasure 71 = .ok (.iastore, 1) := by decide +kernel
theorem dX2_addMeasure_72 : decode cX2_addMeasure 72 = .ok (.aload_n 0, 1) := by decide +kernel
theorem dX2_addMeasure_73 : decode cX2_addMeasure 73 = .ok (.getfield 11, 3) := by decide +kernel
theorem dX2_addMeasure_76 : decode cX2_addMeasure 76 = .ok (.iload 8, 2) := by decide +kernel
theorem dX2_addMeasure_78 : decode cX2_addMeasure 78 = .ok (.bipush 6, 2) := by decide +kernel
theorem dX2_addMeasure_80 : decode cX2_addMeasure 80 = .ok (.iadd, 1) := by decide +kernel
theorem dX2_addMeasure_81 : decode cX2_addMeasure 81 = .ok (.iload 7, 2) := by decide +kernel
theorem dX2_addMeasure_83 : decode cX2_addMeasure 83 = .ok (.iastore, 1) := by decide +kernel
theorem dX2_addMeasure_84 : decode cX2_addMeasure 84 = .ok (.aload_n 0, 1) := by decide +kernel
theorem dX2_addMeasure_85 : decode cX2_addMeasure 85 = .ok (.getfield 11, 3) := by decide +kernel
theorem dX2_addMeasure_88 : decode cX2_addMeasure 88 = .ok (.iload 8, 2) := by decide +kernel
theorem dX2_addMeasure_90 : decode cX2_addMeasure 90 = .ok (.bipush 7, 2) := by decide +kernel
theorem dX2_addMeasure_92 : decode cX2_addMeasure 92 = .ok (.iadd, 1) := by decide +kernel
theorem dX2_addMeasure_93 : decode cX2_addMeasure 93 = .ok (.iload_n 3, 1) := by decide +kernel
theorem dX2_addMeasure_94 : decode cX2_addMeasure 94 = .ok (.iconst 2, 1) := by decide +kernel
theorem dX2_addMeasure_95 : decode cX2_addMeasure 95 = .ok (.if_icmp .ne 8, 3) := by decide +kernel
theorem dX2_addMeasure_98 : decode cX2_addMeasure 98 = .ok (.iload 4, 2) := by decide +kernel
theorem dX2_addMeasure_100 : decode cX2_addMeasure 100 = .ok (.goto 15, 3) := by decide +kernel
theorem dX2_addMeasure_103 : decode cX2_addMeasure 103 = .ok (.iload 4, 2) := by decide +kernel
theorem dX2_addMeasure_105 : decode cX2_addMeasure 105 = .ok (.iload 5, 2) := by decide +kernel
theorem dX2_addMeasure_107 : decode cX2_addMeasure 107 = .ok (.iload 6, 2) := by decide +kernel
theorem dX2_addMeasure_109 : decode cX2_addMeasure 109 = .ok (.iload 7, 2) := by decide +kernel
theorem dX2_addMeasure_111 : decode cX2_addMeasure 111 = .ok (.isub, 1) := by decide +kernel
theorem dX2_addMeasure_112 : decode cX2_addMeasure 112 = .ok (.invokestatic 107, 3) := by decide +kernel
theorem dX2_addMeasure_115 : decode cX2_addMeasure 115 = .ok (.invokestatic 111, 3) := by decide +kernel
theorem dX2_addMeasure_118 : decode cX2_addMeasure 118 = .ok (.iastore, 1) := by decide +kernel
theorem dX2_addMeasure_119 : decode cX2_addMeasure 119 = .ok (.aload_n 0, 1) := by decide +kernel
theorem dX2_addMeasure_120 : decode cX2_addMeasure 120 = .ok (.getfield 11, 3) := by decide +kernel
theorem dX2_addMeasure_123 : decode cX2_addMeasure 123 = .ok (.iload 8, 2) := by decide +kernel
theorem dX2_addMeasure_125 : decode cX2_addMeasure 125 = .ok (.bipush 8, 2) := by decide +kernel
theorem dX2_addMeasure_127 : decode cX2_addMeasure 127 = .ok (.iadd, 1) := by decide +kernel
theorem dX2_addMeasure_128 : decode cX2_addMeasure 128 = .ok (.iload_n 3, 1) := by decide +kernel
theorem dX2_addMeasure_129 : decode cX2_addMeasure 129 = .ok (.iconst 2, 1) := by decide +kernel
theorem dX2_addMeasure_130 : decode cX2_addMeasure 130 = .ok (.if_icmp .ne 8, 3) := by decide +kernel
theorem dX2_addMeasure_133 : decode cX2_addMeasure 133 = .ok (.iload 5, 2) := by decide +kernel
theorem dX2_addMeasure_135 : decode cX2_addMeasure 135 = .ok (.goto 15, 3) := by decide +kernel
theorem dX2_addMeasure_138 : decode cX2_addMeasure 138 = .ok (.iload 4, 2) := by decide +kernel
theorem dX2_addMeasure_140 : decode cX2_addMeasure 140 = .ok (.iload 5, 2) := by decide +kernel
theorem dX2_addMeasure_142 : decode cX2_addMeasure 142 = .ok (.iload 6, 2) := by decide +kernel
theorem dX2_addMeasure_144 : decode cX2_addMeasure 144 = .ok (.iload 7, 2) := by decide +kernel
theorem dX2_addMeasure_146 : decode cX2_addMeasure 146 = .ok (.iadd, 1) := by decide +kernel
theorem dX2_addMeasure_147 : decode cX2_addMeasure 147 = .ok (.invokestatic 114, 3) := by decide +kernel
theorem dX2_addMeasure_150 : decode cX2_addMeasure 150 = .ok (.invokestatic 111, 3) := by decide +kernel
theorem dX2_addMeasure_153 : decode cX2_addMeasure 153 = .ok (.iastore, 1) := by decide +kernel
theorem dX2_addMeasure_154 : decode cX2_addMeasure 154 = .ok (.aload_n 0, 1) := by decide +kernel
theorem dX2_addMeasure_155 : decode cX2_addMeasure 155 = .ok (.dup, 1) := by decide +kernel
theorem dX2_addMeasure_156 : decode cX2_addMeasure 156 = .ok (.getfield 39, 3) := by decide +kernel
theorem dX2_addMeasure_159 : decode cX2_addMeasure 159 = .ok (.iconst 1, 1) := by decide +kernel
theorem dX2_addMeasure_160 : decode cX2_addMeasure 160 = .ok (.iadd, 1) := by decide +kernel
theorem dX2_addMeasure_161 : decode cX2_addMeasure 161 = .ok (.putfield 39, 3) := by decide +kernel
theorem dX2_addMeasure_164 : decode cX2_addMeasure 164 = .ok (.aload_n 0, 1) := by decide +kernel
theorem dX2_addMeasure_165 : decode cX2_addMeasure 165 = .ok (.dup, 1) := by decide +kernel
theorem dX2_addMeasure_166 : decode cX2_addMeasure 166 = .ok (.getfield 43, 3) := by decide +kernel
theorem dX2_addMeasure_169 : decode cX2_addMeasure 169 = .ok (.iconst 1, 1) := by decide +kernel
theorem dX2_addMeasure_170 : decode cX2_addMeasure 170 = .ok (.iadd, 1) := by decide +kernel
theorem dX2_addMeasure_171 : decode cX2_addMeasure 171 = .ok (.putfield 43, 3) := by decide +kernel
theorem dX2_addMeasure_174 : decode cX2_addMeasure 174 = .ok (.aload_n 0, 1) := by decide +kernel
theorem dX2_addMeasure_175 : decode cX2_addMeasure 175 = .ok (.getfield 39, 3) := by decide +kernel
theorem dX2_addMeasure_178 : decode cX2_addMeasure 178 = .ok (.iconst 1, 1) := by decide +kernel
theorem dX2_addMeasure_179 : decode cX2_addMeasure 179 = .ok (.isub, 1) := by decide +kernel
theorem dX2_addMeasure_180 : decode cX2_addMeasure 180 = .ok (.ireturn, 1) := by decide +kernel
theorem dX2_leastHeight_0 : decode cX2_leastHeight 0 = .ok (.iload_n 1, 1) := by decide +kernel
theorem dX2_leastHeight_1 : decode cX2_leastHeight 1 = .ok (.iconst 1, 1) := by decide +kernel
theorem dX2_leastHeight_2 : decode cX2_leastHeight 2 = .ok (.if_icmp .ge 7, 3) := by decide +kernel
theorem dX2_leastHeight_5 : decode cX2_leastHeight 5 = .ok (.iconst 1, 1) := by decide +kernel
theorem dX2_leastHeight_6 : decode cX2_leastHeight 6 = .ok (.goto 10, 3) := by decide +kernel
theorem dX2_leastHeight_9 : decode cX2_leastHeight 9 = .ok (.iload_n 0, 1) := by decide +kernel
theorem dX2_leastHeight_10 : decode cX2_leastHeight 10 = .ok (.iload_n 2, 1) := by decide +kernel
theorem dX2_leastHeight_11 : decode cX2_leastHeight 11 = .ok (.imul, 1) := by decide +kernel
theorem dX2_leastHeight_12 : decode cX2_leastHeight 12 = .ok (.iload_n 1, 1) := by decide +kernel
theorem dX2_leastHeight_13 : decode cX2_leastHeight 13 = .ok (.invokestatic 117, 3) := by decide +kernel
theorem dX2_leastHeight_16 : decode cX2_leastHeight 16 = .ok (.ireturn, 1) := by decide +kernel
theorem dX2_greatestHeight_0 : decode cX2_greatestHeight 0 = .ok (.iload_n 1, 1) := by decide +kernel
theorem dX2_greatestHeight_1 : decode cX2_greatestHeight 1 = .ok (.iconst 1, 1) := by decide +kernel
theorem dX2_greatestHeight_2 : decode cX2_greatestHeight 2 = .ok (.if_icmp .ge 7, 3) := by decide +kernel
theorem dX2_greatestHeight_5 : decode cX2_greatestHeight 5 = .ok (.iconst 1, 1) := by decide +kernel
theorem dX2_greatestHeight_6 : decode cX2_greatestHeight 6 = .ok (.goto 12, 3) := by decide +kernel
theorem dX2_greatestHeight_9 : decode cX2_greatestHeight 9 = .ok (.iload_n 0, 1) := by decide +kernel
theorem dX2_greatestHeight_10 : decode cX2_greatestHeight 10 = .ok (.iload_n 2, 1) := by decide +kernel
theorem dX2_greatestHeight_11 : decode cX2_greatestHeight 11 = .ok (.imul, 1) := by decide +kernel
theorem dX2_greatestHeight_12 : decode cX2_greatestHeight 12 = .ok (.iload_n 1, 1) := by decide +kernel
theorem dX2_greatestHeight_13 : decode cX2_greatestHeight 13 = .ok (.iadd, 1) := by decide +kernel
theorem dX2_greatestHeight_14 : decode cX2_greatestHeight 14 = .ok (.iconst 1, 1) := by decide +kernel
theorem dX2_greatestHeight_15 : decode cX2_greatestHeight 15 = .ok (.isub, 1) := by decide +kernel
theorem dX2_greatestHeight_16 : decode cX2_greatestHeight 16 = .ok (.iload_n 1, 1) := by decide +kernel
theorem dX2_greatestHeight_17 : decode cX2_greatestHeight 17 = .ok (.idiv, 1) := by decide +kernel
theorem dX2_greatestHeight_18 : decode cX2_greatestHeight 18 = .ok (.ireturn, 1) := by decide +kernel
theorem dX2_withinFeet_0 : decode cX2_withinFeet 0 = .ok (.iconst 1, 1) := by decide +kernel
theorem dX2_withinFeet_1 : decode cX2_withinFeet 1 = .ok (.sipush 999, 3) := by decide +kernel
theorem dX2_withinFeet_4 : decode cX2_withinFeet 4 = .ok (.iload_n 0, 1) := by decide +kernel
theorem dX2_withinFeet_5 : decode cX2_withinFeet 5 = .ok (.invokestatic 122, 3) := by decide +kernel
theorem dX2_withinFeet_8 : decode cX2_withinFeet 8 = .ok (.invokestatic 125, 3) := by decide +kernel
theorem dX2_withinFeet_11 : decode cX2_withinFeet 11 = .ok (.ireturn, 1) := by decide +kernel
theorem dX2_removeMeasure_0 : decode cX2_removeMeasure 0 = .ok (.aload_n 0, 1) := by decide +kernel
theorem dX2_removeMeasure_1 : decode cX2_removeMeasure 1 = .ok (.getfield 39, 3) := by decide +kernel
theorem dX2_removeMeasure_4 : decode cX2_removeMeasure 4 = .ok (.iconst 1, 1) := by decide +kernel
theorem dX2_removeMeasure_5 : decode cX2_removeMeasure 5 = .ok (.isub, 1) := by decide +kernel
theorem dX2_removeMeasure_6 : decode cX2_removeMeasure 6 = .ok (.iload_n 1, 1) := by decide +kernel
theorem dX2_removeMeasure_7 : decode cX2_removeMeasure 7 = .ok (.isub, 1) := by decide +kernel
theorem dX2_removeMeasure_8 : decode cX2_removeMeasure 8 = .ok (.istore_n 2, 1) := by decide +kernel
theorem dX2_removeMeasure_9 : decode cX2_removeMeasure 9 = .ok (.aload_n 0, 1) := by decide +kernel
theorem dX2_removeMeasure_10 : decode cX2_removeMeasure 10 = .ok (.getfield 11, 3) := by decide +kernel
theorem dX2_removeMeasure_13 : decode cX2_removeMeasure 13 = .ok (.iload_n 1, 1) := by decide +kernel
theorem dX2_removeMeasure_14 : decode cX2_removeMeasure 14 = .ok (.iconst 1, 1) := by decide +kernel
theorem dX2_removeMeasure_15 : decode cX2_removeMeasure 15 = .ok (.iadd, 1) := by decide +kernel
theorem dX2_removeMeasure_16 : decode cX2_removeMeasure 16 = .ok (.bipush 9, 2) := by decide +kernel
theorem dX2_removeMeasure_18 : decode cX2_removeMeasure 18 = .ok (.imul, 1) := by decide +kernel
theorem dX2_removeMeasure_19 : decode cX2_removeMeasure 19 = .ok (.aload_n 0, 1) := by decide +kernel
theorem dX2_removeMeasure_20 : decode cX2_removeMeasure 20 = .ok (.getfield 11, 3) := by decide +kernel
theorem dX2_removeMeasure_23 : decode cX2_removeMeasure 23 = .ok (.iload_n 1, 1) := by decide +kernel
theorem dX2_removeMeasure_24 : decode cX2_removeMeasure 24 = .ok (.bipush 9, 2) := by decide +kernel
theorem dX2_removeMeasure_26 : decode cX2_removeMeasure 26 = .ok (.imul, 1) := by decide +kernel
theorem dX2_removeMeasure_27 : decode cX2_removeMeasure 27 = .ok (.iload_n 2, 1) := by decide +kernel
theorem dX2_removeMeasure_28 : decode cX2_removeMeasure 28 = .ok (.bipush 9, 2) := by decide +kernel
theorem dX2_removeMeasure_30 : decode cX2_removeMeasure 30 = .ok (.imul, 1) := by decide +kernel
theorem dX2_removeMeasure_31 : decode cX2_removeMeasure 31 = .ok (.invokestatic 55, 3) := by decide +kernel
theorem dX2_removeMeasure_34 : decode cX2_removeMeasure 34 = .ok (.aload_n 0, 1) := by decide +kernel
theorem dX2_removeMeasure_35 : decode cX2_removeMeasure 35 = .ok (.dup, 1) := by decide +kernel
theorem dX2_removeMeasure_36 : decode cX2_removeMeasure 36 = .ok (.getfield 39, 3) := by decide +kernel
theorem dX2_removeMeasure_39 : decode cX2_removeMeasure 39 = .ok (.iconst 1, 1) := by decide +kernel
theorem dX2_removeMeasure_40 : decode cX2_removeMeasure 40 = .ok (.isub, 1) := by decide +kernel
theorem dX2_removeMeasure_41 : decode cX2_removeMeasure 41 = .ok (.putfield 39, 3) := by decide +kernel
theorem dX2_removeMeasure_44 : decode cX2_removeMeasure 44 = .ok (.aload_n 0, 1) := by decide +kernel
theorem dX2_removeMeasure_45 : decode cX2_removeMeasure 45 = .ok (.getfield 39, 3) := by decide +kernel
theorem dX2_removeMeasure_48 : decode cX2_removeMeasure 48 = .ok (.ireturn, 1) := by decide +kernel
theorem dX2_changeTrust_0 : decode cX2_changeTrust 0 = .ok (.aload_n 0, 1) := by decide +kernel
theorem dX2_changeTrust_1 : decode cX2_changeTrust 1 = .ok (.getfield 15, 3) := by decide +kernel
theorem dX2_changeTrust_4 : decode cX2_changeTrust 4 = .ok (.iload_n 1, 1) := by decide +kernel
theorem dX2_changeTrust_5 : decode cX2_changeTrust 5 = .ok (.iaload, 1) := by decide +kernel
theorem dX2_changeTrust_6 : decode cX2_changeTrust 6 = .ok (.istore_n 3, 1) := by decide +kernel
theorem dX2_changeTrust_7 : decode cX2_changeTrust 7 = .ok (.aload_n 0, 1) := by decide +kernel
theorem dX2_changeTrust_8 : decode cX2_changeTrust 8 = .ok (.getfield 15, 3) := by decide +kernel
theorem dX2_changeTrust_11 : decode cX2_changeTrust 11 = .ok (.iload_n 1, 1) := by decide +kernel
theorem dX2_changeTrust_12 : decode cX2_changeTrust 12 = .ok (.iload_n 2, 1) := by decide +kernel
theorem dX2_changeTrust_13 : decode cX2_changeTrust 13 = .ok (.iastore, 1) := by decide +kernel
theorem dX2_changeTrust_14 : decode cX2_changeTrust 14 = .ok (.iload_n 3, 1) := by decide +kernel
theorem dX2_changeTrust_15 : decode cX2_changeTrust 15 = .ok (.ireturn, 1) := by decide +kernel
theorem dX2_changeSetting_0 : decode cX2_changeSetting 0 = .ok (.aload_n 0, 1) := by decide +kernel
theorem dX2_changeSetting_1 : decode cX2_changeSetting 1 = .ok (.getfield 27, 3) := by decide +kernel
theorem dX2_changeSetting_4 : decode cX2_changeSetting 4 = .ok (.iload_n 1, 1) := by decide +kernel
theorem dX2_changeSetting_5 : decode cX2_changeSetting 5 = .ok (.iaload, 1) := by decide +kernel
theorem dX2_changeSetting_6 : decode cX2_changeSetting 6 = .ok (.istore_n 3, 1) := by decide +kernel
theorem dX2_changeSetting_7 : decode cX2_changeSetting 7 = .ok (.aload_n 0, 1) := by decide +kernel
theorem dX2_changeSetting_8 : decode cX2_changeSetting 8 = .ok (.getfield 27, 3) := by decide +kernel
theorem dX2_changeSetting_11 : decode cX2_changeSetting 11 = .ok (.iload_n 1, 1) := by decide +kernel
theorem dX2_changeSetting_12 : decode cX2_changeSetting 12 = .ok (.iload_n 2, 1) := by decide +kernel
theorem dX2_changeSetting_13 : decode cX2_changeSetting 13 = .ok (.iastore, 1) := by decide +kernel
theorem dX2_changeSetting_14 : decode cX2_changeSetting 14 = .ok (.iload_n 3, 1) := by decide +kernel
theorem dX2_changeSetting_15 : decode cX2_changeSetting 15 = .ok (.ireturn, 1) := by decide +kernel
theorem dX2_passEvening_0 : decode cX2_passEvening 0 = .ok (.aload_n 0, 1) := by decide +kernel
theorem dX2_passEvening_1 : decode cX2_passEvening 1 = .ok (.getfield 52, 3) := by decide +kernel
theorem dX2_passEvening_4 : decode cX2_passEvening 4 = .ok (.istore_n 1, 1) := by decide +kernel
theorem dX2_passEvening_5 : decode cX2_passEvening 5 = .ok (.iconst 0, 1) := by decide +kernel
theorem dX2_passEvening_6 : decode cX2_passEvening 6 = .ok (.istore_n 2, 1) := by decide +kernel
theorem dX2_passEvening_7 : decode cX2_passEvening 7 = .ok (.iload_n 2, 1) := by decide +kernel
theorem dX2_passEvening_8 : decode cX2_passEvening 8 = .ok (.aload_n 0, 1) := by decide +kernel
theorem dX2_passEvening_9 : decode cX2_passEvening 9 = .ok (.getfield 39, 3) := by decide +kernel
theorem dX2_passEvening_12 : decode cX2_passEvening 12 = .ok (.if_icmp .ge 42, 3) := by decide +kernel
theorem dX2_passEvening_15 : decode cX2_passEvening 15 = .ok (.iload_n 2, 1) := by decide +kernel
theorem dX2_passEvening_16 : decode cX2_passEvening 16 = .ok (.iconst 1, 1) := by decide +kernel
theorem dX2_passEvening_17 : decode cX2_passEvening 17 = .ok (.iadd, 1) := by decide +kernel
theorem dX2_passEvening_18 : decode cX2_passEvening 18 = .ok (.istore_n 3, 1) := by decide +kernel
theorem dX2_passEvening_19 : decode cX2_passEvening 19 = .ok (.iload_n 3, 1) := by decide +kernel
theorem dX2_passEvening_20 : decode cX2_passEvening 20 = .ok (.aload_n 0, 1) := by decide +kernel
theorem dX2_passEvening_21 : decode cX2_passEvening 21 = .ok (.getfield 39, 3) := by decide +kernel
theorem dX2_passEvening_24 : decode cX2_passEvening 24 = .ok (.if_icmp .ge 24, 3) := by decide +kernel
theorem dX2_passEvening_27 : decode cX2_passEvening 27 = .ok (.aload_n 0, 1) := by decide +kernel
theorem dX2_passEvening_28 : decode cX2_passEvening 28 = .ok (.iload_n 2, 1) := by decide +kernel
theorem dX2_passEvening_29 : decode cX2_passEvening 29 = .ok (.iload_n 3, 1) := by decide +kernel
theorem dX2_passEvening_30 : decode cX2_passEvening 30 = .ok (.invokevirtual 128, 3) := by decide +kernel
theorem dX2_passEvening_33 : decode cX2_passEvening 33 = .ok (.ifCond .eq 9, 3) := by decide +kernel
theorem dX2_passEvening_36 : decode cX2_passEvening 36 = .ok (.aload_n 0, 1) := by decide +kernel
theorem dX2_passEvening_37 : decode cX2_passEvening 37 = .ok (.iload_n 2, 1) := by decide +kernel
theorem dX2_passEvening_38 : decode cX2_passEvening 38 = .ok (.iload_n 3, 1) := by decide +kernel
theorem dX2_passEvening_39 : decode cX2_passEvening 39 = .ok (.invokevirtual 131, 3) := by decide +kernel
theorem dX2_passEvening_42 : decode cX2_passEvening 42 = .ok (.iinc 3 1, 3) := by decide +kernel
theorem dX2_passEvening_45 : decode cX2_passEvening 45 = .ok (.goto (-26), 3) := by decide +kernel
theorem dX2_passEvening_48 : decode cX2_passEvening 48 = .ok (.iinc 2 1, 3) := by decide +kernel
theorem dX2_passEvening_51 : decode cX2_passEvening 51 = .ok (.goto (-44), 3) := by decide +kernel
theorem dX2_passEvening_54 : decode cX2_passEvening 54 = .ok (.aload_n 0, 1) := by decide +kernel
theorem dX2_passEvening_55 : decode cX2_passEvening 55 = .ok (.dup, 1) := by decide +kernel
theorem dX2_passEvening_56 : decode cX2_passEvening 56 = .ok (.getfield 46, 3) := by decide +kernel
theorem dX2_passEvening_59 : decode cX2_passEvening 59 = .ok (.iconst 1, 1) := by decide +kernel
theorem dX2_passEvening_60 : decode cX2_passEvening 60 = .ok (.iadd, 1) := by decide +kernel
theorem dX2_passEvening_61 : decode cX2_passEvening 61 = .ok (.putfield 46, 3) := by decide +kernel
theorem dX2_passEvening_64 : decode cX2_passEvening 64 = .ok (.aload_n 0, 1) := by decide +kernel
theorem dX2_passEvening_65 : decode cX2_passEvening 65 = .ok (.getfield 52, 3) := by decide +kernel
theorem dX2_passEvening_68 : decode cX2_passEvening 68 = .ok (.iload_n 1, 1) := by decide +kernel
theorem dX2_passEvening_69 : decode cX2_passEvening 69 = .ok (.isub, 1) := by decide +kernel
theorem dX2_passEvening_70 : decode cX2_passEvening 70 = .ok (.ireturn, 1) := by decide +kernel
theorem dX2_shameLighter_0 : decode cX2_shameLighter 0 = .ok (.aload_n 0, 1) := by decide +kernel
theorem dX2_shameLighter_1 : decode cX2_shameLighter 1 = .ok (.iload_n 1, 1) := by decide +kernel
theorem dX2_shameLighter_2 : decode cX2_shameLighter 2 = .ok (.invokevirtual 135, 3) := by decide +kernel
theorem dX2_shameLighter_5 : decode cX2_shameLighter 5 = .ok (.aload_n 0, 1) := by decide +kernel
theorem dX2_shameLighter_6 : decode cX2_shameLighter 6 = .ok (.iload_n 2, 1) := by decide +kernel
theorem dX2_shameLighter_7 : decode cX2_shameLighter 7 = .ok (.invokevirtual 135, 3) := by decide +kernel
theorem dX2_shameLighter_10 : decode cX2_shameLighter 10 = .ok (.isub, 1) := by decide +kernel
theorem dX2_shameLighter_11 : decode cX2_shameLighter 11 = .ok (.istore_n 3, 1) := by decide +kernel
theorem dX2_shameLighter_12 : decode cX2_shameLighter 12 = .ok (.iload_n 3, 1) := by decide +kernel
theorem dX2_shameLighter_13 : decode cX2_shameLighter 13 = .ok (.ifCond .eq 50, 3) := by decide +kernel
theorem dX2_shameLighter_16 : decode cX2_shameLighter 16 = .ok (.aload_n 0, 1) := by decide +kernel
theorem dX2_shameLighter_17 : decode cX2_shameLighter 17 = .ok (.iload_n 3, 1) := by decide +kernel
theorem dX2_shameLighter_18 : decode cX2_shameLighter 18 = .ok (.ifCond .ge 7, 3) := by decide +kernel
theorem dX2_shameLighter_21 : decode cX2_shameLighter 21 = .ok (.iload_n 1, 1) := by decide +kernel
theorem dX2_shameLighter_22 : decode cX2_shameLighter 22 = .ok (.goto 4, 3) := by decide +kernel
theorem dX2_shameLighter_25 : decode cX2_shameLighter 25 = .ok (.iload_n 2, 1) := by decide +kernel
theorem dX2_shameLighter_26 : decode cX2_shameLighter 26 = .ok (.iconst 1, 1) := by decide +kernel
theorem dX2_shameLighter_27 : decode cX2_shameLighter 27 = .ok (.invokevirtual 138, 3) := by decide +kernel
theorem dX2_shameLighter_30 : decode cX2_shameLighter 30 = .ok (.istore 4, 2) := by decide +kernel
theorem dX2_shameLighter_32 : decode cX2_shameLighter 32 = .ok (.aload_n 0, 1) := by decide +kernel
theorem dX2_shameLighter_33 : decode cX2_shameLighter 33 = .ok (.getfield 15, 3) := by decide +kernel
theorem dX2_shameLighter_36 : decode cX2_shameLighter 36 = .ok (.iload 4, 2) := by decide +kernel
theorem dX2_shameLighter_38 : decode cX2_shameLighter 38 = .ok (.iaload, 1) := by decide +kernel
theorem dX2_shameLighter_39 : decode cX2_shameLighter 39 = .ok (.ifCond .le 24, 3) := by decide +kernel
theorem dX2_shameLighter_42 : decode cX2_shameLighter 42 = .ok (.aload_n 0, 1) := by decide +kernel
theorem dX2_shameLighter_43 : decode cX2_shameLighter 43 = .ok (.getfield 15, 3) := by decide +kernel
theorem dX2_shameLighter_46 : decode cX2_shameLighter 46 = .ok (.iload 4, 2) := by decide +kernel
theorem dX2_shameLighter_48 : decode cX2_shameLighter 48 = .ok (.dup2, 1) := by decide +kernel
theorem dX2_shameLighter_49 : decode cX2_shameLighter 49 = .ok (.iaload, 1) := by decide +kernel
theorem dX2_shameLighter_50 : decode cX2_shameLighter 50 = .ok (.iconst 1, 1) := by decide +kernel
theorem dX2_shameLighter_51 : decode cX2_shameLighter 51 = .ok (.isub, 1) := by decide +kernel
theorem dX2_shameLighter_52 : decode cX2_shameLighter 52 = .ok (.iastore, 1) := by decide +kernel
theorem dX2_shameLighter_53 : decode cX2_shameLighter 53 = .ok (.aload_n 0, 1) := by decide +kernel
theorem dX2_shameLighter_54 : decode cX2_shameLighter 54 = .ok (.dup, 1) := by decide +kernel
theorem dX2_shameLighter_55 : decode cX2_shameLighter 55 = .ok (.getfield 52, 3) := by decide +kernel
theorem dX2_shameLighter_58 : decode cX2_shameLighter 58 = .ok (.iconst 1, 1) := by decide +kernel
theorem dX2_shameLighter_59 : decode cX2_shameLighter 59 = .ok (.iadd, 1) := by decide +kernel
theorem dX2_shameLighter_60 : decode cX2_shameLighter 60 = .ok (.putfield 52, 3) := by decide +kernel
theorem dX2_shameLighter_63 : decode cX2_shameLighter 63 = .ok (.return_, 1) := by decide +kernel
theorem dX2_surveySteeple_0 : decode cX2_surveySteeple 0 = .ok (.iconst 0, 1) := by decide +kernel
theorem dX2_surveySteeple_1 : decode cX2_surveySteeple 1 = .ok (.istore_n 3, 1) := by decide +kernel
theorem dX2_surveySteeple_2 : decode cX2_surveySteeple 2 = .ok (.iconst 0, 1) := by decide +kernel
theorem dX2_surveySteeple_3 : decode cX2_surveySteeple 3 = .ok (.istore 4, 2) := by decide +kernel
theorem dX2_surveySteeple_5 : decode cX2_surveySteeple 5 = .ok (.iload 4, 2) := by decide +kernel
theorem dX2_surveySteeple_7 : decode cX2_surveySteeple 7 = .ok (.aload_n 0, 1) := by decide +kernel
theorem dX2_surveySteeple_8 : decode cX2_surveySteeple 8 = .ok (.getfield 39, 3) := by decide +kernel
theorem dX2_surveySteeple_11 : decode cX2_surveySteeple 11 = .ok (.if_icmp .ge 54, 3) := by decide +kernel
theorem dX2_surveySteeple_14 : decode cX2_surveySteeple 14 = .ok (.aload_n 0, 1) := by decide +kernel
theorem dX2_surveySteeple_15 : decode cX2_surveySteeple 15 = .ok (.iload 4, 2) := by decide +kernel
theorem dX2_surveySteeple_17 : decode cX2_surveySteeple 17 = .ok (.iload_n 1, 1) := by decide +kernel
theorem dX2_surveySteeple_18 : decode cX2_surveySteeple 18 = .ok (.invokevirtual 141, 3) := by decide +kernel
theorem dX2_surveySteeple_21 : decode cX2_surveySteeple 21 = .ok (.ifCond .eq 38, 3) := by decide +kernel
theorem dX2_surveySteeple_24 : decode cX2_surveySteeple 24 = .ok (.aload_n 0, 1) := by decide +kernel
theorem dX2_surveySteeple_25 : decode cX2_surveySteeple 25 = .ok (.iload 4, 2) := by decide +kernel
theorem dX2_surveySteeple_27 : decode cX2_surveySteeple 27 = .ok (.iload_n 2, 1) := by decide +kernel
theorem dX2_surveySteeple_28 : decode cX2_surveySteeple 28 = .ok (.invokevirtual 144, 3) := by decide +kernel
theorem dX2_surveySteeple_31 : decode cX2_surveySteeple 31 = .ok (.istore 5, 2) := by decide +kernel
theorem dX2_surveySteeple_33 : decode cX2_surveySteeple 33 = .ok (.aload_n 0, 1) := by decide +kernel
theorem dX2_surveySteeple_34 : decode cX2_surveySteeple 34 = .ok (.aload_n 0, 1) := by decide +kernel
theorem dX2_surveySteeple_35 : decode cX2_surveySteeple 35 = .ok (.iload 4, 2) := by decide +kernel
theorem dX2_surveySteeple_37 : decode cX2_surveySteeple 37 = .ok (.iconst 1, 1) := by decide +kernel
theorem dX2_surveySteeple_38 : decode cX2_surveySteeple 38 = .ok (.invokevirtual 138, 3) := by decide +kernel
theorem dX2_surveySteeple_41 : decode cX2_surveySteeple 41 = .ok (.iload 5, 2) := by decide +kernel
theorem dX2_surveySteeple_43 : decode cX2_surveySteeple 43 = .ok (.invokevirtual 147, 3) := by decide +kernel
theorem dX2_surveySteeple_46 : decode cX2_surveySteeple 46 = .ok (.iload_n 3, 1) := by decide +kernel
theorem dX2_surveySteeple_47 : decode cX2_surveySteeple 47 = .ok (.iload 5, 2) := by decide +kernel
theorem dX2_surveySteeple_49 : decode cX2_surveySteeple 49 = .ok (.ifCond .eq 7, 3) := by decide +kernel
theorem dX2_surveySteeple_52 : decode cX2_surveySteeple 52 = .ok (.iconst 1, 1) := by decide +kernel
theorem dX2_surveySteeple_53 : decode cX2_surveySteeple 53 = .ok (.goto 4, 3) := by decide +kernel
theorem dX2_surveySteeple_56 : decode cX2_surveySteeple 56 = .ok (.iconst 0, 1) := by decide +kernel
theorem dX2_surveySteeple_57 : decode cX2_surveySteeple 57 = .ok (.iadd, 1) := by decide +kernel
theorem dX2_surveySteeple_58 : decode cX2_surveySteeple 58 = .ok (.istore_n 3, 1) := by decide +kernel
theorem dX2_surveySteeple_59 : decode cX2_surveySteeple 59 = .ok (.iinc 4 1, 3) := by decide +kernel
theorem dX2_surveySteeple_62 : decode cX2_surveySteeple 62 = .ok (.goto (-57), 3) := by decide +kernel
theorem dX2_surveySteeple_65 : decode cX2_surveySteeple 65 = .ok (.aload_n 0, 1) := by decide +kernel
theorem dX2_surveySteeple_66 : decode cX2_surveySteeple 66 = .ok (.iload_n 1, 1) := by decide +kernel
theorem dX2_surveySteeple_67 : decode cX2_surveySteeple 67 = .ok (.invokevirtual 151, 3) := by decide +kernel
theorem dX2_surveySteeple_70 : decode cX2_surveySteeple 70 = .ok (.aload_n 0, 1) := by decide +kernel
theorem dX2_surveySteeple_71 : decode cX2_surveySteeple 71 = .ok (.getfield 24, 3) := by decide +kernel
theorem dX2_surveySteeple_74 : decode cX2_surveySteeple 74 = .ok (.iload_n 1, 1) := by decide +kernel
theorem dX2_surveySteeple_75 : decode cX2_surveySteeple 75 = .ok (.iload_n 2, 1) := by decide +kernel
theorem dX2_surveySteeple_76 : decode cX2_surveySteeple 76 = .ok (.iastore, 1) := by decide +kernel
theorem dX2_surveySteeple_77 : decode cX2_surveySteeple 77 = .ok (.aload_n 0, 1) := by decide +kernel
theorem dX2_surveySteeple_78 : decode cX2_surveySteeple 78 = .ok (.dup, 1) := by decide +kernel
theorem dX2_surveySteeple_79 : decode cX2_surveySteeple 79 = .ok (.getfield 49, 3) := by decide +kernel
theorem dX2_surveySteeple_82 : decode cX2_surveySteeple 82 = .ok (.iconst 1, 1) := by decide +kernel
theorem dX2_surveySteeple_83 : decode cX2_surveySteeple 83 = .ok (.iadd, 1) := by decide +kernel
theorem dX2_surveySteeple_84 : decode cX2_surveySteeple 84 = .ok (.putfield 49, 3) := by decide +kernel
theorem dX2_surveySteeple_87 : decode cX2_surveySteeple 87 = .ok (.iload_n 3, 1) := by decide +kernel
theorem dX2_surveySteeple_88 : decode cX2_surveySteeple 88 = .ok (.ireturn, 1) := by decide +kernel
theorem dX2_judge_0 : decode cX2_judge 0 = .ok (.iload_n 2, 1) := by decide +kernel
theorem dX2_judge_1 : decode cX2_judge 1 = .ok (.ifCond .eq 35, 3) := by decide +kernel
theorem dX2_judge_4 : decode cX2_judge 4 = .ok (.aload_n 0, 1) := by decide +kernel
theorem dX2_judge_5 : decode cX2_judge 5 = .ok (.getfield 18, 3) := by decide +kernel
theorem dX2_judge_8 : decode cX2_judge 8 = .ok (.iload_n 1, 1) := by decide +kernel
theorem dX2_judge_9 : decode cX2_judge 9 = .ok (.dup2, 1) := by decide +kernel
theorem dX2_judge_10 : decode cX2_judge 10 = .ok (.iaload, 1) := by decide +kernel
theorem dX2_judge_11 : decode cX2_judge 11 = .ok (.iconst 1, 1) := by decide +kernel
theorem dX2_judge_12 : decode cX2_judge 12 = .ok (.iadd, 1) := by decide +kernel
theorem dX2_judge_13 : decode cX2_judge 13 = .ok (.iastore, 1) := by decide +kernel
theorem dX2_judge_14 : decode cX2_judge 14 = .ok (.aload_n 0, 1) := by decide +kernel
theorem dX2_judge_15 : decode cX2_judge 15 = .ok (.getfield 15, 3) := by decide +kernel
theorem dX2_judge_18 : decode cX2_judge 18 = .ok (.iload_n 1, 1) := by decide +kernel
theorem dX2_judge_19 : decode cX2_judge 19 = .ok (.bipush 9, 2) := by decide +kernel
theorem dX2_judge_21 : decode cX2_judge 21 = .ok (.aload_n 0, 1) := by decide +kernel
theorem dX2_judge_22 : decode cX2_judge 22 = .ok (.getfield 15, 3) := by decide +kernel
theorem dX2_judge_25 : decode cX2_judge 25 = .ok (.iload_n 1, 1) := by decide +kernel
theorem dX2_judge_26 : decode cX2_judge 26 = .ok (.iaload, 1) := by decide +kernel
theorem dX2_judge_27 : decode cX2_judge 27 = .ok (.iconst 1, 1) := by decide +kernel
theorem dX2_judge_28 : decode cX2_judge 28 = .ok (.iadd, 1) := by decide +kernel
theorem dX2_judge_29 : decode cX2_judge 29 = .ok (.invokestatic 122, 3) := by decide +kernel
theorem dX2_judge_32 : decode cX2_judge 32 = .ok (.iastore, 1) := by decide +kernel
theorem dX2_judge_33 : decode cX2_judge 33 = .ok (.goto 31, 3) := by decide +kernel
theorem dX2_judge_36 : decode cX2_judge 36 = .ok (.aload_n 0, 1) := by decide +kernel
theorem dX2_judge_37 : decode cX2_judge 37 = .ok (.getfield 21, 3) := by decide +kernel
theorem dX2_judge_40 : decode cX2_judge 40 = .ok (.iload_n 1, 1) := by decide +kernel
theorem dX2_judge_41 : decode cX2_judge 41 = .ok (.dup2, 1) := by decide +kernel
theorem dX2_judge_42 : decode cX2_judge 42 = .ok (.iaload, 1) := by decide +kernel
theorem dX2_judge_43 : decode cX2_judge 43 = .ok (.iconst 1, 1) := by decide +kernel
theorem dX2_judge_44 : decode cX2_judge 44 = .ok (.iadd, 1) := by decide +kernel
theorem dX2_judge_45 : decode cX2_judge 45 = .ok (.iastore, 1) := by decide +kernel
theorem dX2_judge_46 : decode cX2_judge 46 = .ok (.aload_n 0, 1) := by decide +kernel
theorem dX2_judge_47 : decode cX2_judge 47 = .ok (.getfield 15, 3) := by decide +kernel
theorem dX2_judge_50 : decode cX2_judge 50 = .ok (.iload_n 1, 1) := by decide +kernel
theorem dX2_judge_51 : decode cX2_judge 51 = .ok (.iconst 0, 1) := by decide +kernel
theorem dX2_judge_52 : decode cX2_judge 52 = .ok (.aload_n 0, 1) := by decide +kernel
theorem dX2_judge_53 : decode cX2_judge 53 = .ok (.getfield 15, 3) := by decide +kernel
theorem dX2_judge_56 : decode cX2_judge 56 = .ok (.iload_n 1, 1) := by decide +kernel
theorem dX2_judge_57 : decode cX2_judge 57 = .ok (.iaload, 1) := by decide +kernel
theorem dX2_judge_58 : decode cX2_judge 58 = .ok (.iconst 1, 1) := by decide +kernel
theorem dX2_judge_59 : decode cX2_judge 59 = .ok (.isub, 1) := by decide +kernel
theorem dX2_judge_60 : decode cX2_judge 60 = .ok (.invokestatic 125, 3) := by decide +kernel
theorem dX2_judge_63 : decode cX2_judge 63 = .ok (.iastore, 1) := by decide +kernel
theorem dX2_judge_64 : decode cX2_judge 64 = .ok (.return_, 1) := by decide +kernel
theorem dX2_removeMeasuresOf_0 : decode cX2_removeMeasuresOf 0 = .ok (.aload_n 0, 1) := by decide +kernel
theorem dX2_removeMeasuresOf_1 : decode cX2_removeMeasuresOf 1 = .ok (.getfield 39, 3) := by decide +kernel
theorem dX2_removeMeasuresOf_4 : decode cX2_removeMeasuresOf 4 = .ok (.iconst 1, 1) := by decide +kernel
theorem dX2_removeMeasuresOf_5 : decode cX2_removeMeasuresOf 5 = .ok (.isub, 1) := by decide +kernel
theorem dX2_removeMeasuresOf_6 : decode cX2_removeMeasuresOf 6 = .ok (.istore_n 2, 1) := by decide +kernel
theorem dX2_removeMeasuresOf_7 : decode cX2_removeMeasuresOf 7 = .ok (.iload_n 2, 1) := by decide +kernel
theorem dX2_removeMeasuresOf_8 : decode cX2_removeMeasuresOf 8 = .ok (.ifCond .lt 24, 3) := by decide +kernel
theorem dX2_removeMeasuresOf_11 : decode cX2_removeMeasuresOf 11 = .ok (.aload_n 0, 1) := by decide +kernel
theorem dX2_removeMeasuresOf_12 : decode cX2_removeMeasuresOf 12 = .ok (.iload_n 2, 1) := by decide +kernel
theorem dX2_removeMeasuresOf_13 : decode cX2_removeMeasuresOf 13 = .ok (.iload_n 1, 1) := by decide +kernel
theorem dX2_removeMeasuresOf_14 : decode cX2_removeMeasuresOf 14 = .ok (.invokevirtual 141, 3) := by decide +kernel
theorem dX2_removeMeasuresOf_17 : decode cX2_removeMeasuresOf 17 = .ok (.ifCond .eq 9, 3) := by decide +kernel
theorem dX2_removeMeasuresOf_20 : decode cX2_removeMeasuresOf 20 = .ok (.aload_n 0, 1) := by decide +kernel
theorem dX2_removeMeasuresOf_21 : decode cX2_removeMeasuresOf 21 = .ok (.iload_n 2, 1) := by decide +kernel
theorem dX2_removeMeasuresOf_22 : decode cX2_removeMeasuresOf 22 = .ok (.invokevirtual 93, 3) := by decide +kernel
theorem dX2_removeMeasuresOf_25 : decode cX2_removeMeasuresOf 25 = .ok (.pop, 1) := by decide +kernel
theorem dX2_removeMeasuresOf_26 : decode cX2_removeMeasuresOf 26 = .ok (.iinc 2 (-1), 3) := by decide +kernel
theorem dX2_removeMeasuresOf_29 : decode cX2_removeMeasuresOf 29 = .ok (.goto (-22), 3) := by decide +kernel
theorem dX2_removeMeasuresOf_32 : decode cX2_removeMeasuresOf 32 = .ok (.return_, 1) := by decide +kernel
theorem dX2_number_0 : decode cX2_number 0 = .ok (.aload_n 0, 1) := by decide +kernel
theorem dX2_number_1 : decode cX2_number 1 = .ok (.getfield 11, 3) := by decide +kernel
theorem dX2_number_4 : decode cX2_number 4 = .ok (.iload_n 1, 1) := by decide +kernel
theorem dX2_number_5 : decode cX2_number 5 = .ok (.bipush 9, 2) := by decide +kernel
theorem dX2_number_7 : decode cX2_number 7 = .ok (.imul, 1) := by decide +kernel
theorem dX2_number_8 : decode cX2_number 8 = .ok (.iload_n 2, 1) := by decide +kernel
theorem dX2_number_9 : decode cX2_number 9 = .ok (.iadd, 1) := by decide +kernel
theorem dX2_number_10 : decode cX2_number 10 = .ok (.iaload, 1) := by decide +kernel
theorem dX2_number_11 : decode cX2_number 11 = .ok (.ireturn, 1) := by decide +kernel
theorem dX2_isOf_0 : decode cX2_isOf 0 = .ok (.aload_n 0, 1) := by decide +kernel
theorem dX2_isOf_1 : decode cX2_isOf 1 = .ok (.iload_n 1, 1) := by decide +kernel
theorem dX2_isOf_2 : decode cX2_isOf 2 = .ok (.iconst 0, 1) := by decide +kernel
theorem dX2_isOf_3 : decode cX2_isOf 3 = .ok (.invokevirtual 138, 3) := by decide +kernel
theorem dX2_isOf_6 : decode cX2_isOf 6 = .ok (.iload_n 2, 1) := by decide +kernel
theorem dX2_isOf_7 : decode cX2_isOf 7 = .ok (.if_icmp .ne 7, 3) := by decide +kernel
theorem dX2_isOf_10 : decode cX2_isOf 10 = .ok (.iconst 1, 1) := by decide +kernel
theorem dX2_isOf_11 : decode cX2_isOf 11 = .ok (.goto 4, 3) := by decide +kernel
theorem dX2_isOf_14 : decode cX2_isOf 14 = .ok (.iconst 0, 1) := by decide +kernel
theorem dX2_isOf_15 : decode cX2_isOf 15 = .ok (.ireturn, 1) := by decide +kernel
theorem dX2_tells_0 : decode cX2_tells 0 = .ok (.aload_n 0, 1) := by decide +kernel
theorem dX2_tells_1 : decode cX2_tells 1 = .ok (.iload_n 1, 1) := by decide +kernel
theorem dX2_tells_2 : decode cX2_tells 2 = .ok (.bipush 7, 2) := by decide +kernel
theorem dX2_tells_4 : decode cX2_tells 4 = .ok (.invokevirtual 138, 3) := by decide +kernel
theorem dX2_tells_7 : decode cX2_tells 7 = .ok (.iload_n 2, 1) := by decide +kernel
theorem dX2_tells_8 : decode cX2_tells 8 = .ok (.if_icmp .gt 18, 3) := by decide +kernel
theorem dX2_tells_11 : decode cX2_tells 11 = .ok (.iload_n 2, 1) := by decide +kernel
theorem dX2_tells_12 : decode cX2_tells 12 = .ok (.aload_n 0, 1) := by decide +kernel
theorem dX2_tells_13 : decode cX2_tells 13 = .ok (.iload_n 1, 1) := by decide +kernel
theorem dX2_tells_14 : decode cX2_tells 14 = .ok (.bipush 8, 2) := by decide +kernel
theorem dX2_tells_16 : decode cX2_tells 16 = .ok (.invokevirtual 138, 3) := by decide +kernel
theorem dX2_tells_19 : decode cX2_tells 19 = .ok (.if_icmp .gt 7, 3) := by decide +kernel
theorem dX2_tells_22 : decode cX2_tells 22 = .ok (.iconst 1, 1) := by decide +kernel
theorem dX2_tells_23 : decode cX2_tells 23 = .ok (.goto 4, 3) := by decide +kernel
theorem dX2_tells_26 : decode cX2_tells 26 = .ok (.iconst 0, 1) := by decide +kernel
theorem dX2_tells_27 : decode cX2_tells 27 = .ok (.ireturn, 1) := by decide +kernel
theorem dX2_weight_0 : decode cX2_weight 0 = .ok (.aload_n 0, 1) := by decide +kernel
theorem dX2_weight_1 : decode cX2_weight 1 = .ok (.getfield 15, 3) := by decide +kernel
theorem dX2_weight_4 : decode cX2_weight 4 = .ok (.aload_n 0, 1) := by decide +kernel
theorem dX2_weight_5 : decode cX2_weight 5 = .ok (.iload_n 1, 1) := by decide +kernel
theorem dX2_weight_6 : decode cX2_weight 6 = .ok (.iconst 1, 1) := by decide +kernel
theorem dX2_weight_7 : decode cX2_weight 7 = .ok (.invokevirtual 138, 3) := by decide +kernel
theorem dX2_weight_10 : decode cX2_weight 10 = .ok (.iaload, 1) := by decide +kernel
theorem dX2_weight_11 : decode cX2_weight 11 = .ok (.aload_n 0, 1) := by decide +kernel
theorem dX2_weight_12 : decode cX2_weight 12 = .ok (.iload_n 1, 1) := by decide +kernel
theorem dX2_weight_13 : decode cX2_weight 13 = .ok (.iconst 2, 1) := by decide +kernel
theorem dX2_weight_14 : decode cX2_weight 14 = .ok (.invokevirtual 138, 3) := by decide +kernel
theorem dX2_weight_17 : decode cX2_weight 17 = .ok (.iconst 2, 1) := by decide +kernel
theorem dX2_weight_18 : decode cX2_weight 18 = .ok (.if_icmp .ne 7, 3) := by decide +kernel
theorem dX2_weight_21 : decode cX2_weight 21 = .ok (.iconst 0, 1) := by decide +kernel
theorem dX2_weight_22 : decode cX2_weight 22 = .ok (.goto 9, 3) := by decide +kernel
theorem dX2_weight_25 : decode cX2_weight 25 = .ok (.aload_n 0, 1) := by decide +kernel
theorem dX2_weight_26 : decode cX2_weight 26 = .ok (.getfield 27, 3) := by decide +kernel
theorem dX2_weight_29 : decode cX2_weight 29 = .ok (.iconst 0, 1) := by decide +kernel
theorem dX2_weight_30 : decode cX2_weight 30 = .ok (.iaload, 1) := by decide +kernel
theorem dX2_weight_31 : decode cX2_weight 31 = .ok (.iadd, 1) := by decide +kernel
theorem dX2_weight_32 : decode cX2_weight 32 = .ok (.ireturn, 1) := by decide +kernel
theorem dX2_feetApart_0 : decode cX2_feetApart 0 = .ok (.aload_n 0, 1) := by decide +kernel
theorem dX2_feetApart_1 : decode cX2_feetApart 1 = .ok (.iload_n 1, 1) := by decide +kernel
theorem dX2_feetApart_2 : decode cX2_feetApart 2 = .ok (.iconst 0, 1) := by decide +kernel
theorem dX2_feetApart_3 : decode cX2_feetApart 3 = .ok (.invokevirtual 138, 3) := by decide +kernel
theorem dX2_feetApart_6 : decode cX2_feetApart 6 = .ok (.aload_n 0, 1) := by decide +kernel
theorem dX2_feetApart_7 : decode cX2_feetApart 7 = .ok (.iload_n 2, 1) := by decide +kernel
theorem dX2_feetApart_8 : decode cX2_feetApart 8 = .ok (.iconst 0, 1) := by decide +kernel
theorem dX2_feetApart_9 : decode cX2_feetApart 9 = .ok (.invokevirtual 138, 3) := by decide +kernel
theorem dX2_feetApart_12 : decode cX2_feetApart 12 = .ok (.if_icmp .eq 5, 3) := by decide +kernel
theorem dX2_feetApart_15 : decode cX2_feetApart 15 = .ok (.iconst (-1), 1) := by decide +kernel
theorem dX2_feetApart_16 : decode cX2_feetApart 16 = .ok (.ireturn, 1) := by decide +kernel
theorem dX2_feetApart_17 : decode cX2_feetApart 17 = .ok (.aload_n 0, 1) := by decide +kernel
theorem dX2_feetApart_18 : decode cX2_feetApart 18 = .ok (.iload_n 1, 1) := by decide +kernel
theorem dX2_feetApart_19 : decode cX2_feetApart 19 = .ok (.bipush 7, 2) := by decide +kernel
theorem dX2_feetApart_21 : decode cX2_feetApart 21 = .ok (.invokevirtual 138, 3) := by decide +kernel
theorem dX2_feetApart_24 : decode cX2_feetApart 24 = .ok (.aload_n 0, 1) := by decide +kernel
theorem dX2_feetApart_25 : decode cX2_feetApart 25 = .ok (.iload_n 2, 1) := by decide +kernel
theorem dX2_feetApart_26 : decode cX2_feetApart 26 = .ok (.bipush 8, 2) := by decide +kernel
theorem dX2_feetApart_28 : decode cX2_feetApart 28 = .ok (.invokevirtual 138, 3) := by decide +kernel
theorem dX2_feetApart_31 : decode cX2_feetApart 31 = .ok (.isub, 1) := by decide +kernel
theorem dX2_feetApart_32 : decode cX2_feetApart 32 = .ok (.istore_n 3, 1) := by decide +kernel
theorem dX2_feetApart_33 : decode cX2_feetApart 33 = .ok (.aload_n 0, 1) := by decide +kernel
theorem dX2_feetApart_34 : decode cX2_feetApart 34 = .ok (.iload_n 2, 1) := by decide +kernel
theorem dX2_feetApart_35 : decode cX2_feetApart 35 = .ok (.bipush 7, 2) := by decide +kernel
theorem dX2_feetApart_37 : decode cX2_feetApart 37 = .ok (.invokevirtual 138, 3) := by decide +kernel
theorem dX2_feetApart_40 : decode cX2_feetApart 40 = .ok (.aload_n 0, 1) := by decide +kernel
theorem dX2_feetApart_41 : decode cX2_feetApart 41 = .ok (.iload_n 1, 1) := by decide +kernel
theorem dX2_feetApart_42 : decode cX2_feetApart 42 = .ok (.bipush 8, 2) := by decide +kernel
theorem dX2_feetApart_44 : decode cX2_feetApart 44 = .ok (.invokevirtual 138, 3) := by decide +kernel
theorem dX2_feetApart_47 : decode cX2_feetApart 47 = .ok (.isub, 1) := by decide +kernel
theorem dX2_feetApart_48 : decode cX2_feetApart 48 = .ok (.istore 4, 2) := by decide +kernel
theorem dX2_feetApart_50 : decode cX2_feetApart 50 = .ok (.iconst 0, 1) := by decide +kernel
theorem dX2_feetApart_51 : decode cX2_feetApart 51 = .ok (.iload_n 3, 1) := by decide +kernel
theorem dX2_feetApart_52 : decode cX2_feetApart 52 = .ok (.iload 4, 2) := by decide +kernel
theorem dX2_feetApart_54 : decode cX2_feetApart 54 = .ok (.invokestatic 125, 3) := by decide +kernel
theorem dX2_feetApart_57 : decode cX2_feetApart 57 = .ok (.invokestatic 125, 3) := by decide +kernel
theorem dX2_feetApart_60 : decode cX2_feetApart 60 = .ok (.ireturn, 1) := by decide +kernel
theorem dX2_quarrel_0 : decode cX2_quarrel 0 = .ok (.aload_n 0, 1) := by decide +kernel
theorem dX2_quarrel_1 : decode cX2_quarrel 1 = .ok (.iload_n 1, 1) := by decide +kernel
theorem dX2_quarrel_2 : decode cX2_quarrel 2 = .ok (.iconst 1, 1) := by decide +kernel
theorem dX2_quarrel_3 : decode cX2_quarrel 3 = .ok (.invokevirtual 138, 3) := by decide +kernel
theorem dX2_quarrel_6 : decode cX2_quarrel 6 = .ok (.aload_n 0, 1) := by decide +kernel
theorem dX2_quarrel_7 : decode cX2_quarrel 7 = .ok (.iload_n 2, 1) := by decide +kernel
theorem dX2_quarrel_8 : decode cX2_quarrel 8 = .ok (.iconst 1, 1) := by decide +kernel
theorem dX2_quarrel_9 : decode cX2_quarrel 9 = .ok (.invokevirtual 138, 3) := by decide +kernel
theorem dX2_quarrel_12 : decode cX2_quarrel 12 = .ok (.if_icmp .eq 16, 3) := by decide +kernel
theorem dX2_quarrel_15 : decode cX2_quarrel 15 = .ok (.aload_n 0, 1) := by decide +kernel
theorem dX2_quarrel_16 : decode cX2_quarrel 16 = .ok (.iload_n 1, 1) := by decide +kernel
theorem dX2_quarrel_17 : decode cX2_quarrel 17 = .ok (.iload_n 2, 1) := by decide +kernel
theorem dX2_quarrel_18 : decode cX2_quarrel 18 = .ok (.invokevirtual 155, 3) := by decide +kernel
theorem dX2_quarrel_21 : decode cX2_quarrel 21 = .ok (.ifCond .le 7, 3) := by decide +kernel
theorem dX2_quarrel_24 : decode cX2_quarrel 24 = .ok (.iconst 1, 1) := by decide +kernel
theorem dX2_quarrel_25 : decode cX2_quarrel 25 = .ok (.goto 4, 3) := by decide +kernel
theorem dX2_quarrel_28 : decode cX2_quarrel 28 = .ok (.iconst 0, 1) := by decide +kernel
theorem dX2_quarrel_29 : decode cX2_quarrel 29 = .ok (.ireturn, 1) := by decide +kernel
theorem dX2_matters_0 : decode cX2_matters 0 = .ok (.aload_n 0, 1) := by decide +kernel
theorem dX2_matters_1 : decode cX2_matters 1 = .ok (.iload_n 1, 1) := by decide +kernel
theorem dX2_matters_2 : decode cX2_matters 2 = .ok (.iconst 1, 1) := by decide +kernel
theorem dX2_matters_3 : decode cX2_matters 3 = .ok (.invokevirtual 138, 3) := by decide +kernel
theorem dX2_matters_6 : decode cX2_matters 6 = .ok (.aload_n 0, 1) := by decide +kernel
theorem dX2_matters_7 : decode cX2_matters 7 = .ok (.iload_n 2, 1) := by decide +kernel
theorem dX2_matters_8 : decode cX2_matters 8 = .ok (.iconst 1, 1) := by decide +kernel
theorem dX2_matters_9 : decode cX2_matters 9 = .ok (.invokevirtual 138, 3) := by decide +kernel
theorem dX2_matters_12 : decode cX2_matters 12 = .ok (.if_icmp .eq 22, 3) := by decide +kernel
theorem dX2_matters_15 : decode cX2_matters 15 = .ok (.aload_n 0, 1) := by decide +kernel
theorem dX2_matters_16 : decode cX2_matters 16 = .ok (.iload_n 1, 1) := by decide +kernel
theorem dX2_matters_17 : decode cX2_matters 17 = .ok (.iload_n 2, 1) := by decide +kernel
theorem dX2_matters_18 : decode cX2_matters 18 = .ok (.invokevirtual 155, 3) := by decide +kernel
theorem dX2_matters_21 : decode cX2_matters 21 = .ok (.aload_n 0, 1) := by decide +kernel
theorem dX2_matters_22 : decode cX2_matters 22 = .ok (.getfield 27, 3) := by decide +kernel
theorem dX2_matters_25 : decode cX2_matters 25 = .ok (.iconst 1, 1) := by decide +kernel
theorem dX2_matters_26 : decode cX2_matters 26 = .ok (.iaload, 1) := by decide +kernel
theorem dX2_matters_27 : decode cX2_matters 27 = .ok (.if_icmp .le 7, 3) := by decide +kernel
theorem dX2_matters_30 : decode cX2_matters 30 = .ok (.iconst 1, 1) := by decide +kernel
theorem dX2_matters_31 : decode cX2_matters 31 = .ok (.goto 4, 3) := by decide +kernel
theorem dX2_matters_34 : decode cX2_matters 34 = .ok (.iconst 0, 1) := by decide +kernel
theorem dX2_matters_35 : decode cX2_matters 35 = .ok (.ireturn, 1) := by decide +kernel
theorem dX2_quarrelsOfMeasure_0 : decode cX2_quarrelsOfMeasure 0 = .ok (.iconst 0, 1) := by decide +kernel
theorem dX2_quarrelsOfMeasure_1 : decode cX2_quarrelsOfMeasure 1 = .ok (.istore_n 2, 1) := by decide +kernel
theorem dX2_quarrelsOfMeasure_2 : decode cX2_quarrelsOfMeasure 2 = .ok (.iconst 0, 1) := by decide +kernel
theorem dX2_quarrelsOfMeasure_3 : decode cX2_quarrelsOfMeasure 3 = .ok (.istore_n 3, 1) := by decide +kernel
theorem dX2_quarrelsOfMeasure_4 : decode cX2_quarrelsOfMeasure 4 = .ok (.iload_n 3, 1) := by decide +kernel
theorem dX2_quarrelsOfMeasure_5 : decode cX2_quarrelsOfMeasure 5 = .ok (.aload_n 0, 1) := by decide +kernel
theorem dX2_quarrelsOfMeasure_6 : decode cX2_quarrelsOfMeasure 6 = .ok (.getfield 39, 3) := by decide +kernel
theorem dX2_quarrelsOfMeasure_9 : decode cX2_quarrelsOfMeasure 9 = .ok (.if_icmp .ge 21, 3) := by decide +kernel
theorem dX2_quarrelsOfMeasure_12 : decode cX2_quarrelsOfMeasure 12 = .ok (.aload_n 0, 1) := by decide +kernel
theorem dX2_quarrelsOfMeasure_13 : decode cX2_quarrelsOfMeasure 13 = .ok (.iload_n 1, 1) := by decide +kernel
theorem dX2_quarrelsOfMeasure_14 : decode cX2_quarrelsOfMeasure 14 = .ok (.iload_n 3, 1) := by decide +kernel
theorem dX2_quarrelsOfMeasure_15 : decode cX2_quarrelsOfMeasure 15 = .ok (.invokevirtual 158, 3) := by decide +kernel
theorem dX2_quarrelsOfMeasure_18 : decode cX2_quarrelsOfMeasure 18 = .ok (.ifCond .eq 6, 3) := by decide +kernel
theorem dX2_quarrelsOfMeasure_21 : decode cX2_quarrelsOfMeasure 21 = .ok (.iinc 2 1, 3) := by decide +kernel
theorem dX2_quarrelsOfMeasure_24 : decode cX2_quarrelsOfMeasure 24 = .ok (.iinc 3 1, 3) := by decide +kernel
theorem dX2_quarrelsOfMeasure_27 : decode cX2_quarrelsOfMeasure 27 = .ok (.goto (-23), 3) := by decide +kernel
theorem dX2_quarrelsOfMeasure_30 : decode cX2_quarrelsOfMeasure 30 = .ok (.iload_n 2, 1) := by decide +kernel
theorem dX2_quarrelsOfMeasure_31 : decode cX2_quarrelsOfMeasure 31 = .ok (.ireturn, 1) := by decide +kernel
theorem dX2_count_0 : decode cX2_count 0 = .ok (.aload_n 0, 1) := by decide +kernel
theorem dX2_count_1 : decode cX2_count 1 = .ok (.getfield 39, 3) := by decide +kernel
theorem dX2_count_4 : decode cX2_count 4 = .ok (.ireturn, 1) := by decide +kernel
theorem dX2_came_0 : decode cX2_came 0 = .ok (.aload_n 0, 1) := by decide +kernel
theorem dX2_came_1 : decode cX2_came 1 = .ok (.getfield 43, 3) := by decide +kernel
theorem dX2_came_4 : decode cX2_came 4 = .ok (.ireturn, 1) := by decide +kernel
theorem dX2_evenings_0 : decode cX2_evenings 0 = .ok (.aload_n 0, 1) := by decide +kernel
theorem dX2_evenings_1 : decode cX2_evenings 1 = .ok (.getfield 46, 3) := by decide +kernel
theorem dX2_evenings_4 : decode cX2_evenings 4 = .ok (.ireturn, 1) := by decide +kernel
theorem dX2_surveys_0 : decode cX2_surveys 0 = .ok (.aload_n 0, 1) := by decide +kernel
theorem dX2_surveys_1 : decode cX2_surveys 1 = .ok (.getfield 49, 3) := by decide +kernel
theorem dX2_surveys_4 : decode cX2_surveys 4 = .ok (.ireturn, 1) := by decide +kernel
theorem dX2_lost_0 : decode cX2_lost 0 = .ok (.aload_n 0, 1) := by decide +kernel
theorem dX2_lost_1 : decode cX2_lost 1 = .ok (.getfield 52, 3) := by decide +kernel
theorem dX2_lost_4 : decode cX2_lost 4 = .ok (.ireturn, 1) := by decide +kernel
theorem dX2_settingOf_0 : decode cX2_settingOf 0 = .ok (.aload_n 0, 1) := by decide +kernel
theorem dX2_settingOf_1 : decode cX2_settingOf 1 = .ok (.getfield 27, 3) := by decide +kernel
theorem dX2_settingOf_4 : decode cX2_settingOf 4 = .ok (.iload_n 1, 1) := by decide +kernel
theorem dX2_settingOf_5 : decode cX2_settingOf 5 = .ok (.iaload, 1) := by decide +kernel
theorem dX2_settingOf_6 : decode cX2_settingOf 6 = .ok (.ireturn, 1) := by decide +kernel
theorem dX2_trustOfAll_0 : decode cX2_trustOfAll 0 = .ok (.aload_n 0, 1) := by decide +kernel
theorem dX2_trustOfAll_1 : decode cX2_trustOfAll 1 = .ok (.getfield 15, 3) := by decide +kernel
theorem dX2_trustOfAll_4 : decode cX2_trustOfAll 4 = .ok (.invokestatic 161, 3) := by decide +kernel
theorem dX2_trustOfAll_7 : decode cX2_trustOfAll 7 = .ok (.ireturn, 1) := by decide +kernel
theorem dX2_rightOfAll_0 : decode cX2_rightOfAll 0 = .ok (.aload_n 0, 1) := by decide +kernel
theorem dX2_rightOfAll_1 : decode cX2_rightOfAll 1 = .ok (.getfield 18, 3) := by decide +kernel
theorem dX2_rightOfAll_4 : decode cX2_rightOfAll 4 = .ok (.invokestatic 161, 3) := by decide +kernel
theorem dX2_rightOfAll_7 : decode cX2_rightOfAll 7 = .ok (.ireturn, 1) := by decide +kernel
theorem dX2_wrongOfAll_0 : decode cX2_wrongOfAll 0 = .ok (.aload_n 0, 1) := by decide +kernel
theorem dX2_wrongOfAll_1 : decode cX2_wrongOfAll 1 = .ok (.getfield 21, 3) := by decide +kernel
theorem dX2_wrongOfAll_4 : decode cX2_wrongOfAll 4 = .ok (.invokestatic 161, 3) := by decide +kernel
theorem dX2_wrongOfAll_7 : decode cX2_wrongOfAll 7 = .ok (.ireturn, 1) := by decide +kernel
theorem dX2_sum_0 : decode cX2_sum 0 = .ok (.iconst 0, 1) := by decide +kernel
theorem dX2_sum_1 : decode cX2_sum 1 = .ok (.istore_n 1, 1) := by decide +kernel
theorem dX2_sum_2 : decode cX2_sum 2 = .ok (.aload_n 0, 1) := by decide +kernel
theorem dX2_sum_3 : decode cX2_sum 3 = .ok (.astore_n 2, 1) := by decide +kernel
theorem dX2_sum_4 : decode cX2_sum 4 = .ok (.aload_n 2, 1) := by decide +kernel
theorem dX2_sum_5 : decode cX2_sum 5 = .ok (.arraylength, 1) := by decide +kernel
theorem dX2_sum_6 : decode cX2_sum 6 = .ok (.istore_n 3, 1) := by decide +kernel
theorem dX2_sum_7 : decode cX2_sum 7 = .ok (.iconst 0, 1) := by decide +kernel
theorem dX2_sum_8 : decode cX2_sum 8 = .ok (.istore 4, 2) := by decide +kernel
theorem dX2_sum_10 : decode cX2_sum 10 = .ok (.iload 4, 2) := by decide +kernel
theorem dX2_sum_12 : decode cX2_sum 12 = .ok (.iload_n 3, 1) := by decide +kernel
theorem dX2_sum_13 : decode cX2_sum 13 = .ok (.if_icmp .ge 20, 3) := by decide +kernel
theorem dX2_sum_16 : decode cX2_sum 16 = .ok (.aload_n 2, 1) := by decide +kernel
theorem dX2_sum_17 : decode cX2_sum 17 = .ok (.iload 4, 2) := by decide +kernel
theorem dX2_sum_19 : decode cX2_sum 19 = .ok (.iaload, 1) := by decide +kernel
theorem dX2_sum_20 : decode cX2_sum 20 = .ok (.istore 5, 2) := by decide +kernel
theorem dX2_sum_22 : decode cX2_sum 22 = .ok (.iload_n 1, 1) := by decide +kernel
theorem dX2_sum_23 : decode cX2_sum 23 = .ok (.iload 5, 2) := by decide +kernel
theorem dX2_sum_25 : decode cX2_sum 25 = .ok (.iadd, 1) := by decide +kernel
theorem dX2_sum_26 : decode cX2_sum 26 = .ok (.istore_n 1, 1) := by decide +kernel
theorem dX2_sum_27 : decode cX2_sum 27 = .ok (.iinc 4 1, 3) := by decide +kernel
theorem dX2_sum_30 : decode cX2_sum 30 = .ok (.goto (-20), 3) := by decide +kernel
theorem dX2_sum_33 : decode cX2_sum 33 = .ok (.iload_n 1, 1) := by decide +kernel
theorem dX2_sum_34 : decode cX2_sum 34 = .ok (.ireturn, 1) := by decide +kernel
theorem dX2_pairsThatQuarrel_0 : decode cX2_pairsThatQuarrel 0 = .ok (.iconst 0, 1) := by decide +kernel
theorem dX2_pairsThatQuarrel_1 : decode cX2_pairsThatQuarrel 1 = .ok (.istore_n 1, 1) := by decide +kernel
theorem dX2_pairsThatQuarrel_2 : decode cX2_pairsThatQuarrel 2 = .ok (.iconst 0, 1) := by decide +kernel
theorem dX2_pairsThatQuarrel_3 : decode cX2_pairsThatQuarrel 3 = .ok (.istore_n 2, 1) := by decide +kernel
theorem dX2_pairsThatQuarrel_4 : decode cX2_pairsThatQuarrel 4 = .ok (.iload_n 2, 1) := by decide +kernel
theorem dX2_pairsThatQuarrel_5 : decode cX2_pairsThatQuarrel 5 = .ok (.aload_n 0, 1) := by decide +kernel
theorem dX2_pairsThatQuarrel_6 : decode cX2_pairsThatQuarrel 6 = .ok (.getfield 39, 3) := by decide +kernel
theorem dX2_pairsThatQuarrel_9 : decode cX2_pairsThatQuarrel 9 = .ok (.if_icmp .ge 44, 3) := by decide +kernel
theorem dX2_pairsThatQuarrel_12 : decode cX2_pairsThatQuarrel 12 = .ok (.iload_n 2, 1) := by decide +kernel
theorem dX2_pairsThatQuarrel_13 : decode cX2_pairsThatQuarrel 13 = .ok (.iconst 1, 1) := by decide +kernel
theorem dX2_pairsThatQuarrel_14 : decode cX2_pairsThatQuarrel 14 = .ok (.iadd, 1) := by decide +kernel
theorem dX2_pairsThatQuarrel_15 : decode cX2_pairsThatQuarrel 15 = .ok (.istore_n 3, 1) := by decide +kernel
theorem dX2_pairsThatQuarrel_16 : decode cX2_pairsThatQuarrel 16 = .ok (.iload_n 3, 1) := by decide +kernel
theorem dX2_pairsThatQuarrel_17 : decode cX2_pairsThatQuarrel 17 = .ok (.aload_n 0, 1) := by decide +kernel
theorem dX2_pairsThatQuarrel_18 : decode cX2_pairsThatQuarrel 18 = .ok (.getfield 39, 3) := by decide +kernel
theorem dX2_pairsThatQuarrel_21 : decode cX2_pairsThatQuarrel 21 = .ok (.if_icmp .ge 26, 3) := by decide +kernel
theorem dX2_pairsThatQuarrel_24 : decode cX2_pairsThatQuarrel 24 = .ok (.iload_n 1, 1) := by decide +kernel
theorem dX2_pairsThatQuarrel_25 : decode cX2_pairsThatQuarrel 25 = .ok (.aload_n 0, 1) := by decide +kernel
theorem dX2_pairsThatQuarrel_26 : decode cX2_pairsThatQuarrel 26 = .ok (.iload_n 2, 1) := by decide +kernel
theorem dX2_pairsThatQuarrel_27 : decode cX2_pairsThatQuarrel 27 = .ok (.iload_n 3, 1) := by decide +kernel
theorem dX2_pairsThatQuarrel_28 : decode cX2_pairsThatQuarrel 28 = .ok (.invokevirtual 158, 3) := by decide +kernel
theorem dX2_pairsThatQuarrel_31 : decode cX2_pairsThatQuarrel 31 = .ok (.ifCond .eq 7, 3) := by decide +kernel
theorem dX2_pairsThatQuarrel_34 : decode cX2_pairsThatQuarrel 34 = .ok (.iconst 1, 1) := by decide +kernel
theorem dX2_pairsThatQuarrel_35 : decode cX2_pairsThatQuarrel 35 = .ok (.goto 4, 3) := by decide +kernel
theorem dX2_pairsThatQuarrel_38 : decode cX2_pairsThatQuarrel 38 = .ok (.iconst 0, 1) := by decide +kernel
theorem dX2_pairsThatQuarrel_39 : decode cX2_pairsThatQuarrel 39 = .ok (.iadd, 1) := by decide +kernel
theorem dX2_pairsThatQuarrel_40 : decode cX2_pairsThatQuarrel 40 = .ok (.istore_n 1, 1) := by decide +kernel
theorem dX2_pairsThatQuarrel_41 : decode cX2_pairsThatQuarrel 41 = .ok (.iinc 3 1, 3) := by decide +kernel
theorem dX2_pairsThatQuarrel_44 : decode cX2_pairsThatQuarrel 44 = .ok (.goto (-28), 3) := by decide +kernel
theorem dX2_pairsThatQuarrel_47 : decode cX2_pairsThatQuarrel 47 = .ok (.iinc 2 1, 3) := by decide +kernel
theorem dX2_pairsThatQuarrel_50 : decode cX2_pairsThatQuarrel 50 = .ok (.goto (-46), 3) := by decide +kernel
theorem dX2_pairsThatQuarrel_53 : decode cX2_pairsThatQuarrel 53 = .ok (.iload_n 1, 1) := by decide +kernel
theorem dX2_pairsThatQuarrel_54 : decode cX2_pairsThatQuarrel 54 = .ok (.ireturn, 1) := by decide +kernel
theorem dX2_pairsThatMatter_0 : decode cX2_pairsThatMatter 0 = .ok (.iconst 0, 1) := by decide +kernel
theorem dX2_pairsThatMatter_1 : decode cX2_pairsThatMatter 1 = .ok (.istore_n 1, 1) := by decide +kernel
theorem dX2_pairsThatMatter_2 : decode cX2_pairsThatMatter 2 = .ok (.iconst 0, 1) := by decide +kernel
theorem dX2_pairsThatMatter_3 : decode cX2_pairsThatMatter 3 = .ok (.istore_n 2, 1) := by decide +kernel
theorem dX2_pairsThatMatter_4 : decode cX2_pairsThatMatter 4 = .ok (.iload_n 2, 1) := by decide +kernel
theorem dX2_pairsThatMatter_5 : decode cX2_pairsThatMatter 5 = .ok (.aload_n 0, 1) := by decide +kernel
theorem dX2_pairsThatMatter_6 : decode cX2_pairsThatMatter 6 = .ok (.getfield 39, 3) := by decide +kernel
theorem dX2_pairsThatMatter_9 : decode cX2_pairsThatMatter 9 = .ok (.if_icmp .ge 44, 3) := by decide +kernel
theorem dX2_pairsThatMatter_12 : decode cX2_pairsThatMatter 12 = .ok (.iload_n 2, 1) := by decide +kernel
theorem dX2_pairsThatMatter_13 : decode cX2_pairsThatMatter 13 = .ok (.iconst 1, 1) := by decide +kernel
theorem dX2_pairsThatMatter_14 : decode cX2_pairsThatMatter 14 = .ok (.iadd, 1) := by decide +kernel
theorem dX2_pairsThatMatter_15 : decode cX2_pairsThatMatter 15 = .ok (.istore_n 3, 1) := by decide +kernel
theorem dX2_pairsThatMatter_16 : decode cX2_pairsThatMatter 16 = .ok (.iload_n 3, 1) := by decide +kernel
theorem dX2_pairsThatMatter_17 : decode cX2_pairsThatMatter 17 = .ok (.aload_n 0, 1) := by decide +kernel
theorem dX2_pairsThatMatter_18 : decode cX2_pairsThatMatter 18 = .ok (.getfield 39, 3) := by decide +kernel
theorem dX2_pairsThatMatter_21 : decode cX2_pairsThatMatter 21 = .ok (.if_icmp .ge 26, 3) := by decide +kernel
theorem dX2_pairsThatMatter_24 : decode cX2_pairsThatMatter 24 = .ok (.iload_n 1, 1) := by decide +kernel
theorem dX2_pairsThatMatter_25 : decode cX2_pairsThatMatter 25 = .ok (.aload_n 0, 1) := by decide +kernel
theorem dX2_pairsThatMatter_26 : decode cX2_pairsThatMatter 26 = .ok (.iload_n 2, 1) := by decide +kernel
theorem dX2_pairsThatMatter_27 : decode cX2_pairsThatMatter 27 = .ok (.iload_n 3, 1) := by decide +kernel
theorem dX2_pairsThatMatter_28 : decode cX2_pairsThatMatter 28 = .ok (.invokevirtual 128, 3) := by decide +kernel
theorem dX2_pairsThatMatter_31 : decode cX2_pairsThatMatter 31 = .ok (.ifCond .eq 7, 3) := by decide +kernel
theorem dX2_pairsThatMatter_34 : decode cX2_pairsThatMatter 34 = .ok (.iconst 1, 1) := by decide +kernel
theorem dX2_pairsThatMatter_35 : decode cX2_pairsThatMatter 35 = .ok (.goto 4, 3) := by decide +kernel
theorem dX2_pairsThatMatter_38 : decode cX2_pairsThatMatter 38 = .ok (.iconst 0, 1) := by decide +kernel
theorem dX2_pairsThatMatter_39 : decode cX2_pairsThatMatter 39 = .ok (.iadd, 1) := by decide +kernel
theorem dX2_pairsThatMatter_40 : decode cX2_pairsThatMatter 40 = .ok (.istore_n 1, 1) := by decide +kernel
theorem dX2_pairsThatMatter_41 : decode cX2_pairsThatMatter 41 = .ok (.iinc 3 1, 3) := by decide +kernel
theorem dX2_pairsThatMatter_44 : decode cX2_pairsThatMatter 44 = .ok (.goto (-28), 3) := by decide +kernel
theorem dX2_pairsThatMatter_47 : decode cX2_pairsThatMatter 47 = .ok (.iinc 2 1, 3) := by decide +kernel
theorem dX2_pairsThatMatter_50 : decode cX2_pairsThatMatter 50 = .ok (.goto (-46), 3) := by decide +kernel
theorem dX2_pairsThatMatter_53 : decode cX2_pairsThatMatter 53 = .ok (.iload_n 1, 1) := by decide +kernel
theorem dX2_pairsThatMatter_54 : decode cX2_pairsThatMatter 54 = .ok (.ireturn, 1) := by decide +kernel
theorem dX2_trustOf_0 : decode cX2_trustOf 0 = .ok (.aload_n 0, 1) := by decide +kernel
theorem dX2_trustOf_1 : decode cX2_trustOf 1 = .ok (.getfield 15, 3) := by decide +kernel
theorem dX2_trustOf_4 : decode cX2_trustOf 4 = .ok (.iload_n 1, 1) := by decide +kernel
theorem dX2_trustOf_5 : decode cX2_trustOf 5 = .ok (.iaload, 1) := by decide +kernel
theorem dX2_trustOf_6 : decode cX2_trustOf 6 = .ok (.ireturn, 1) := by decide +kernel
theorem dX2_rightOf_0 : decode cX2_rightOf 0 = .ok (.aload_n 0, 1) := by decide +kernel
theorem dX2_rightOf_1 : decode cX2_rightOf 1 = .ok (.getfield 18, 3) := by decide +kernel
theorem dX2_rightOf_4 : decode cX2_rightOf 4 = .ok (.iload_n 1, 1) := by decide +kernel
theorem dX2_rightOf_5 : decode cX2_rightOf 5 = .ok (.iaload, 1) := by decide +kernel
theorem dX2_rightOf_6 : decode cX2_rightOf 6 = .ok (.ireturn, 1) := by decide +kernel
theorem dX2_wrongOf_0 : decode cX2_wrongOf 0 = .ok (.aload_n 0, 1) := by decide +kernel
theorem dX2_wrongOf_1 : decode cX2_wrongOf 1 = .ok (.getfield 21, 3) := by decide +kernel
theorem dX2_wrongOf_4 : decode cX2_wrongOf 4 = .ok (.iload_n 1, 1) := by decide +kernel
theorem dX2_wrongOf_5 : decode cX2_wrongOf 5 = .ok (.iaload, 1) := by decide +kernel
theorem dX2_wrongOf_6 : decode cX2_wrongOf 6 = .ok (.ireturn, 1) := by decide +kernel
theorem dX2_measuresOfTeller_0 : decode cX2_measuresOfTeller 0 = .ok (.iconst 0, 1) := by decide +kernel
theorem dX2_measuresOfTeller_1 : decode cX2_measuresOfTeller 1 = .ok (.istore_n 2, 1) := by decide +kernel
theorem dX2_measuresOfTeller_2 : decode cX2_measuresOfTeller 2 = .ok (.iconst 0, 1) := by decide +kernel
theorem dX2_measuresOfTeller_3 : decode cX2_measuresOfTeller 3 = .ok (.istore_n 3, 1) := by decide +kernel
theorem dX2_measuresOfTeller_4 : decode cX2_measuresOfTeller 4 = .ok (.iload_n 3, 1) := by decide +kernel
theorem dX2_measuresOfTeller_5 : decode cX2_measuresOfTeller 5 = .ok (.aload_n 0, 1) := by decide +kernel
theorem dX2_measuresOfTeller_6 : decode cX2_measuresOfTeller 6 = .ok (.getfield 39, 3) := by decide +kernel
theorem dX2_measuresOfTeller_9 : decode cX2_measuresOfTeller 9 = .ok (.if_icmp .ge 27, 3) := by decide +kernel
theorem dX2_measuresOfTeller_12 : decode cX2_measuresOfTeller 12 = .ok (.iload_n 2, 1) := by decide +kernel
theorem dX2_measuresOfTeller_13 : decode cX2_measuresOfTeller 13 = .ok (.aload_n 0, 1) := by decide +kernel
theorem dX2_measuresOfTeller_14 : decode cX2_measuresOfTeller 14 = .ok (.iload_n 3, 1) := by decide +kernel
theorem dX2_measuresOfTeller_15 : decode cX2_measuresOfTeller 15 = .ok (.iconst 1, 1) := by decide +kernel
theorem dX2_measuresOfTeller_16 : decode cX2_measuresOfTeller 16 = .ok (.invokevirtual 138, 3) := by decide +kernel
theorem dX2_measuresOfTeller_19 : decode cX2_measuresOfTeller 19 = .ok (.iload_n 1, 1) := by decide +kernel
theorem dX2_measuresOfTeller_20 : decode cX2_measuresOfTeller 20 = .ok (.if_icmp .ne 7, 3) := by decide +kernel
theorem dX2_measuresOfTeller_23 : decode cX2_measuresOfTeller 23 = .ok (.iconst 1, 1) := by decide +kernel
theorem dX2_measuresOfTeller_24 : decode cX2_measuresOfTeller 24 = .ok (.goto 4, 3) := by decide +kernel
theorem dX2_measuresOfTeller_27 : decode cX2_measuresOfTeller 27 = .ok (.iconst 0, 1) := by decide +kernel
theorem dX2_measuresOfTeller_28 : decode cX2_measuresOfTeller 28 = .ok (.iadd, 1) := by decide +kernel
theorem dX2_measuresOfTeller_29 : decode cX2_measuresOfTeller 29 = .ok (.istore_n 2, 1) := by decide +kernel
theorem dX2_measuresOfTeller_30 : decode cX2_measuresOfTeller 30 = .ok (.iinc 3 1, 3) := by decide +kernel
theorem dX2_measuresOfTeller_33 : decode cX2_measuresOfTeller 33 = .ok (.goto (-29), 3) := by decide +kernel
theorem dX2_measuresOfTeller_36 : decode cX2_measuresOfTeller 36 = .ok (.iload_n 2, 1) := by decide +kernel
theorem dX2_measuresOfTeller_37 : decode cX2_measuresOfTeller 37 = .ok (.ireturn, 1) := by decide +kernel
theorem dX2_quarrelsOfTeller_0 : decode cX2_quarrelsOfTeller 0 = .ok (.iconst 0, 1) := by decide +kernel
theorem dX2_quarrelsOfTeller_1 : decode cX2_quarrelsOfTeller 1 = .ok (.istore_n 2, 1) := by decide +kernel
theorem dX2_quarrelsOfTeller_2 : decode cX2_quarrelsOfTeller 2 = .ok (.iconst 0, 1) := by decide +kernel
theorem dX2_quarrelsOfTeller_3 : decode cX2_quarrelsOfTeller 3 = .ok (.istore_n 3, 1) := by decide +kernel
theorem dX2_quarrelsOfTeller_4 : decode cX2_quarrelsOfTeller 4 = .ok (.iload_n 3, 1) := by decide +kernel
theorem dX2_quarrelsOfTeller_5 : decode cX2_quarrelsOfTeller 5 = .ok (.aload_n 0, 1) := by decide +kernel
theorem dX2_quarrelsOfTeller_6 : decode cX2_quarrelsOfTeller 6 = .ok (.getfield 39, 3) := by decide +kernel
theorem dX2_quarrelsOfTeller_9 : decode cX2_quarrelsOfTeller 9 = .ok (.if_icmp .ge 31, 3) := by decide +kernel
theorem dX2_quarrelsOfTeller_12 : decode cX2_quarrelsOfTeller 12 = .ok (.iload_n 2, 1) := by decide +kernel
theorem dX2_quarrelsOfTeller_13 : decode cX2_quarrelsOfTeller 13 = .ok (.aload_n 0, 1) := by decide +kernel
theorem dX2_quarrelsOfTeller_14 : decode cX2_quarrelsOfTeller 14 = .ok (.iload_n 3, 1) := by decide +kernel
theorem dX2_quarrelsOfTeller_15 : decode cX2_quarrelsOfTeller 15 = .ok (.iconst 1, 1) := by decide +kernel
theorem dX2_quarrelsOfTeller_16 : decode cX2_quarrelsOfTeller 16 = .ok (.invokevirtual 138, 3) := by decide +kernel
theorem dX2_quarrelsOfTeller_19 : decode cX2_quarrelsOfTeller 19 = .ok (.iload_n 1, 1) := by decide +kernel
theorem dX2_quarrelsOfTeller_20 : decode cX2_quarrelsOfTeller 20 = .ok (.if_icmp .ne 11, 3) := by decide +kernel
theorem dX2_quarrelsOfTeller_23 : decode cX2_quarrelsOfTeller 23 = .ok (.aload_n 0, 1) := by decide +kernel
theorem dX2_quarrelsOfTeller_24 : decode cX2_quarrelsOfTeller 24 = .ok (.iload_n 3, 1) := by decide +kernel
theorem dX2_quarrelsOfTeller_25 : decode cX2_quarrelsOfTeller 25 = .ok (.invokevirtual 165, 3) := by decide +kernel
theorem dX2_quarrelsOfTeller_28 : decode cX2_quarrelsOfTeller 28 = .ok (.goto 4, 3) := by decide +kernel
theorem dX2_quarrelsOfTeller_31 : decode cX2_quarrelsOfTeller 31 = .ok (.iconst 0, 1) := by decide +kernel
theorem dX2_quarrelsOfTeller_32 : decode cX2_quarrelsOfTeller 32 = .ok (.iadd, 1) := by decide +kernel
theorem dX2_quarrelsOfTeller_33 : decode cX2_quarrelsOfTeller 33 = .ok (.istore_n 2, 1) := by decide +kernel
theorem dX2_quarrelsOfTeller_34 : decode cX2_quarrelsOfTeller 34 = .ok (.iinc 3 1, 3) := by decide +kernel
theorem dX2_quarrelsOfTeller_37 : decode cX2_quarrelsOfTeller 37 = .ok (.goto (-33), 3) := by decide +kernel
theorem dX2_quarrelsOfTeller_40 : decode cX2_quarrelsOfTeller 40 = .ok (.iload_n 2, 1) := by decide +kernel
theorem dX2_quarrelsOfTeller_41 : decode cX2_quarrelsOfTeller 41 = .ok (.ireturn, 1) := by decide +kernel
theorem dX2_tellsHeight_0 : decode cX2_tellsHeight 0 = .ok (.iconst 0, 1) := by decide +kernel
theorem dX2_tellsHeight_1 : decode cX2_tellsHeight 1 = .ok (.istore 4, 2) := by decide +kernel
theorem dX2_tellsHeight_3 : decode cX2_tellsHeight 3 = .ok (.iload 4, 2) := by decide +kernel
theorem dX2_tellsHeight_5 : decode cX2_tellsHeight 5 = .ok (.aload_n 0, 1) := by decide +kernel
theorem dX2_tellsHeight_6 : decode cX2_tellsHeight 6 = .ok (.getfield 39, 3) := by decide +kernel
theorem dX2_tellsHeight_9 : decode cX2_tellsHeight 9 = .ok (.if_icmp .ge 42, 3) := by decide +kernel
theorem dX2_tellsHeight_12 : decode cX2_tellsHeight 12 = .ok (.aload_n 0, 1) := by decide +kernel
theorem dX2_tellsHeight_13 : decode cX2_tellsHeight 13 = .ok (.iload 4, 2) := by decide +kernel
theorem dX2_tellsHeight_15 : decode cX2_tellsHeight 15 = .ok (.iload_n 2, 1) := by decide +kernel
theorem dX2_tellsHeight_16 : decode cX2_tellsHeight 16 = .ok (.invokevirtual 141, 3) := by decide +kernel
theorem dX2_tellsHeight_19 : decode cX2_tellsHeight 19 = .ok (.ifCond .eq 26, 3) := by decide +kernel
theorem dX2_tellsHeight_22 : decode cX2_tellsHeight 22 = .ok (.aload_n 0, 1) := by decide +kernel
theorem dX2_tellsHeight_23 : decode cX2_tellsHeight 23 = .ok (.iload 4, 2) := by decide +kernel
theorem dX2_tellsHeight_25 : decode cX2_tellsHeight 25 = .ok (.iconst 1, 1) := by decide +kernel
theorem dX2_tellsHeight_26 : decode cX2_tellsHeight 26 = .ok (.invokevirtual 138, 3) := by decide +kernel
theorem dX2_tellsHeight_29 : decode cX2_tellsHeight 29 = .ok (.iload_n 1, 1) := by decide +kernel
theorem dX2_tellsHeight_30 : decode cX2_tellsHeight 30 = .ok (.if_icmp .ne 15, 3) := by decide +kernel
theorem dX2_tellsHeight_33 : decode cX2_tellsHeight 33 = .ok (.aload_n 0, 1) := by decide +kernel
theorem dX2_tellsHeight_34 : decode cX2_tellsHeight 34 = .ok (.iload 4, 2) := by decide +kernel
theorem dX2_tellsHeight_36 : decode cX2_tellsHeight 36 = .ok (.iload_n 3, 1) := by decide +kernel
theorem dX2_tellsHeight_37 : decode cX2_tellsHeight 37 = .ok (.invokevirtual 144, 3) := by decide +kernel
theorem dX2_tellsHeight_40 : decode cX2_tellsHeight 40 = .ok (.ifCond .eq 5, 3) := by decide +kernel
theorem dX2_tellsHeight_43 : decode cX2_tellsHeight 43 = .ok (.iconst 1, 1) := by decide +kernel
theorem dX2_tellsHeight_44 : decode cX2_tellsHeight 44 = .ok (.ireturn, 1) := by decide +kernel
theorem dX2_tellsHeight_45 : decode cX2_tellsHeight 45 = .ok (.iinc 4 1, 3) := by decide +kernel
theorem dX2_tellsHeight_48 : decode cX2_tellsHeight 48 = .ok (.goto (-45), 3) := by decide +kernel
theorem dX2_tellsHeight_51 : decode cX2_tellsHeight 51 = .ok (.iconst 0, 1) := by decide +kernel
theorem dX2_tellsHeight_52 : decode cX2_tellsHeight 52 = .ok (.ireturn, 1) := by decide +kernel
theorem dX2_tellerMostlyRight_0 : decode cX2_tellerMostlyRight 0 = .ok (.iconst (-1), 1) := by decide +kernel
theorem dX2_tellerMostlyRight_1 : decode cX2_tellerMostlyRight 1 = .ok (.istore_n 1, 1) := by decide +kernel
theorem dX2_tellerMostlyRight_2 : decode cX2_tellerMostlyRight 2 = .ok (.iconst 0, 1) := by decide +kernel
theorem dX2_tellerMostlyRight_3 : decode cX2_tellerMostlyRight 3 = .ok (.istore_n 2, 1) := by decide +kernel
theorem dX2_tellerMostlyRight_4 : decode cX2_tellerMostlyRight 4 = .ok (.iload_n 2, 1) := by decide +kernel
theorem dX2_tellerMostlyRight_5 : decode cX2_tellerMostlyRight 5 = .ok (.bipush 6, 2) := by decide +kernel
theorem dX2_tellerMostlyRight_7 : decode cX2_tellerMostlyRight 7 = .ok (.if_icmp .ge 41, 3) := by decide +kernel
theorem dX2_tellerMostlyRight_10 : decode cX2_tellerMostlyRight 10 = .ok (.aload_n 0, 1) := by decide +kernel
theorem dX2_tellerMostlyRight_11 : decode cX2_tellerMostlyRight 11 = .ok (.getfield 18, 3) := by decide +kernel
theorem dX2_tellerMostlyRight_14 : decode cX2_tellerMostlyRight 14 = .ok (.iload_n 2, 1) := by decide +kernel
theorem dX2_tellerMostlyRight_15 : decode cX2_tellerMostlyRight 15 = .ok (.iaload, 1) := by decide +kernel
theorem dX2_tellerMostlyRight_16 : decode cX2_tellerMostlyRight 16 = .ok (.aload_n 0, 1) := by decide +kernel
theorem dX2_tellerMostlyRight_17 : decode cX2_tellerMostlyRight 17 = .ok (.getfield 21, 3) := by decide +kernel
theorem dX2_tellerMostlyRight_20 : decode cX2_tellerMostlyRight 20 = .ok (.iload_n 2, 1) := by decide +kernel
theorem dX2_tellerMostlyRight_21 : decode cX2_tellerMostlyRight 21 = .ok (.iaload, 1) := by decide +kernel
theorem dX2_tellerMostlyRight_22 : decode cX2_tellerMostlyRight 22 = .ok (.iadd, 1) := by decide +kernel
theorem dX2_tellerMostlyRight_23 : decode cX2_tellerMostlyRight 23 = .ok (.ifCond .le 19, 3) := by decide +kernel
theorem dX2_tellerMostlyRight_26 : decode cX2_tellerMostlyRight 26 = .ok (.iload_n 1, 1) := by decide +kernel
theorem dX2_tellerMostlyRight_27 : decode cX2_tellerMostlyRight 27 = .ok (.iconst (-1), 1) := by decide +kernel
theorem dX2_tellerMostlyRight_28 : decode cX2_tellerMostlyRight 28 = .ok (.if_icmp .eq 12, 3) := by decide +kernel
theorem dX2_tellerMostlyRight_31 : decode cX2_tellerMostlyRight 31 = .ok (.aload_n 0, 1) := by decide +kernel
theorem dX2_tellerMostlyRight_32 : decode cX2_tellerMostlyRight 32 = .ok (.iload_n 2, 1) := by decide +kernel
theorem dX2_tellerMostlyRight_33 : decode cX2_tellerMostlyRight 33 = .ok (.iload_n 1, 1) := by decide +kernel
theorem dX2_tellerMostlyRight_34 : decode cX2_tellerMostlyRight 34 = .ok (.invokevirtual 168, 3) := by decide +kernel
theorem dX2_tellerMostlyRight_37 : decode cX2_tellerMostlyRight 37 = .ok (.ifCond .eq 5, 3) := by decide +kernel
theorem dX2_tellerMostlyRight_40 : decode cX2_tellerMostlyRight 40 = .ok (.iload_n 2, 1) := by decide +kernel
theorem dX2_tellerMostlyRight_41 : decode cX2_tellerMostlyRight 41 = .ok (.istore_n 1, 1) := by decide +kernel
theorem dX2_tellerMostlyRight_42 : decode cX2_tellerMostlyRight 42 = .ok (.iinc 2 1, 3) := by decide +kernel
theorem dX2_tellerMostlyRight_45 : decode cX2_tellerMostlyRight 45 = .ok (.goto (-41), 3) := by decide +kernel
theorem dX2_tellerMostlyRight_48 : decode cX2_tellerMostlyRight 48 = .ok (.iload_n 1, 1) := by decide +kernel
theorem dX2_tellerMostlyRight_49 : decode cX2_tellerMostlyRight 49 = .ok (.ireturn, 1) := by decide +kernel
theorem dX2_isTruer_0 : decode cX2_isTruer 0 = .ok (.aload_n 0, 1) := by decide +kernel
theorem dX2_isTruer_1 : decode cX2_isTruer 1 = .ok (.getfield 18, 3) := by decide +kernel
end
section
theorem dX2_isTruer_4 : decode cX2_isTruer 4 = .ok (.iload_n 1, 1) := by decide +kernel
theorem dX2_isTruer_5 : decode cX2_isTruer 5 = .ok (.iaload, 1) := by decide +kernel
theorem dX2_isTruer_6 : decode cX2_isTruer 6 = .ok (.aload_n 0, 1) := by decide +kernel
theorem dX2_isTruer_7 : decode cX2_isTruer 7 = .ok (.getfield 21, 3) := by decide +kernel
theorem dX2_isTruer_10 : decode cX2_isTruer 10 = .ok (.iload_n 1, 1) := by decide +kernel
theorem dX2_isTruer_11 : decode cX2_isTruer 11 = .ok (.iaload, 1) := by decide +kernel
theorem dX2_isTruer_12 : decode cX2_isTruer 12 = .ok (.iadd, 1) := by decide +kernel
theorem dX2_isTruer_13 : decode cX2_isTruer 13 = .ok (.istore_n 3, 1) := by decide +kernel
theorem dX2_isTruer_14 : decode cX2_isTruer 14 = .ok (.aload_n 0, 1) := by decide +kernel
theorem dX2_isTruer_15 : decode cX2_isTruer 15 = .ok (.getfield 18, 3) := by decide +kernel
theorem dX2_isTruer_18 : decode cX2_isTruer 18 = .ok (.iload_n 2, 1) := by decide +kernel
theorem dX2_isTruer_19 : decode cX2_isTruer 19 = .ok (.iaload, 1) := by decide +kernel
theorem dX2_isTruer_20 : decode cX2_isTruer 20 = .ok (.aload_n 0, 1) := by decide +kernel
theorem dX2_isTruer_21 : decode cX2_isTruer 21 = .ok (.getfield 21, 3) := by decide +kernel
theorem dX2_isTruer_24 : decode cX2_isTruer 24 = .ok (.iload_n 2, 1) := by decide +kernel
theorem dX2_isTruer_25 : decode cX2_isTruer 25 = .ok (.iaload, 1) := by decide +kernel
theorem dX2_isTruer_26 : decode cX2_isTruer 26 = .ok (.iadd, 1) := by decide +kernel
theorem dX2_isTruer_27 : decode cX2_isTruer 27 = .ok (.istore 4, 2) := by decide +kernel
theorem dX2_isTruer_29 : decode cX2_isTruer 29 = .ok (.aload_n 0, 1) := by decide +kernel
theorem dX2_isTruer_30 : decode cX2_isTruer 30 = .ok (.getfield 18, 3) := by decide +kernel
theorem dX2_isTruer_33 : decode cX2_isTruer 33 = .ok (.iload_n 1, 1) := by decide +kernel
theorem dX2_isTruer_34 : decode cX2_isTruer 34 = .ok (.iaload, 1) := by decide +kernel
theorem dX2_isTruer_35 : decode cX2_isTruer 35 = .ok (.iload 4, 2) := by decide +kernel
theorem dX2_isTruer_37 : decode cX2_isTruer 37 = .ok (.imul, 1) := by decide +kernel
theorem dX2_isTruer_38 : decode cX2_isTruer 38 = .ok (.aload_n 0, 1) := by decide +kernel
theorem dX2_isTruer_39 : decode cX2_isTruer 39 = .ok (.getfield 18, 3) := by decide +kernel
theorem dX2_isTruer_42 : decode cX2_isTruer 42 = .ok (.iload_n 2, 1) := by decide +kernel
theorem dX2_isTruer_43 : decode cX2_isTruer 43 = .ok (.iaload, 1) := by decide +kernel
theorem dX2_isTruer_44 : decode cX2_isTruer 44 = .ok (.iload_n 3, 1) := by decide +kernel
theorem dX2_isTruer_45 : decode cX2_isTruer 45 = .ok (.imul, 1) := by decide +kernel
theorem dX2_isTruer_46 : decode cX2_isTruer 46 = .ok (.isub, 1) := by decide +kernel
theorem dX2_isTruer_47 : decode cX2_isTruer 47 = .ok (.istore 5, 2) := by decide +kernel
theorem dX2_isTruer_49 : decode cX2_isTruer 49 = .ok (.iload 5, 2) := by decide +kernel
theorem dX2_isTruer_51 : decode cX2_isTruer 51 = .ok (.ifCond .eq 16, 3) := by decide +kernel
theorem dX2_isTruer_54 : decode cX2_isTruer 54 = .ok (.iload 5, 2) := by decide +kernel
theorem dX2_isTruer_56 : decode cX2_isTruer 56 = .ok (.ifCond .le 7, 3) := by decide +kernel
theorem dX2_isTruer_59 : decode cX2_isTruer 59 = .ok (.iconst 1, 1) := by decide +kernel
theorem dX2_isTruer_60 : decode cX2_isTruer 60 = .ok (.goto 18, 3) := by decide +kernel
theorem dX2_isTruer_63 : decode cX2_isTruer 63 = .ok (.iconst 0, 1) := by decide +kernel
theorem dX2_isTruer_64 : decode cX2_isTruer 64 = .ok (.goto 14, 3) := by decide +kernel
theorem dX2_isTruer_67 : decode cX2_isTruer 67 = .ok (.iload_n 3, 1) := by decide +kernel
theorem dX2_isTruer_68 : decode cX2_isTruer 68 = .ok (.iload 4, 2) := by decide +kernel
theorem dX2_isTruer_70 : decode cX2_isTruer 70 = .ok (.if_icmp .le 7, 3) := by decide +kernel
theorem dX2_isTruer_73 : decode cX2_isTruer 73 = .ok (.iconst 1, 1) := by decide +kernel
theorem dX2_isTruer_74 : decode cX2_isTruer 74 = .ok (.goto 4, 3) := by decide +kernel
theorem dX2_isTruer_77 : decode cX2_isTruer 77 = .ok (.iconst 0, 1) := by decide +kernel
theorem dX2_isTruer_78 : decode cX2_isTruer 78 = .ok (.ireturn, 1) := by decide +kernel
theorem dX2_heightSurveyed_0 : decode cX2_heightSurveyed 0 = .ok (.aload_n 0, 1) := by decide +kernel
theorem dX2_heightSurveyed_1 : decode cX2_heightSurveyed 1 = .ok (.getfield 24, 3) := by decide +kernel
theorem dX2_heightSurveyed_4 : decode cX2_heightSurveyed 4 = .ok (.iload_n 1, 1) := by decide +kernel
theorem dX2_heightSurveyed_5 : decode cX2_heightSurveyed 5 = .ok (.iaload, 1) := by decide +kernel
theorem dX2_heightSurveyed_6 : decode cX2_heightSurveyed 6 = .ok (.ireturn, 1) := by decide +kernel
theorem dX2_measuresOfSteeple_0 : decode cX2_measuresOfSteeple 0 = .ok (.iconst 0, 1) := by decide +kernel
theorem dX2_measuresOfSteeple_1 : decode cX2_measuresOfSteeple 1 = .ok (.istore_n 2, 1) := by decide +kernel
theorem dX2_measuresOfSteeple_2 : decode cX2_measuresOfSteeple 2 = .ok (.iconst 0, 1) := by decide +kernel
theorem dX2_measuresOfSteeple_3 : decode cX2_measuresOfSteeple 3 = .ok (.istore_n 3, 1) := by decide +kernel
theorem dX2_measuresOfSteeple_4 : decode cX2_measuresOfSteeple 4 = .ok (.iload_n 3, 1) := by decide +kernel
theorem dX2_measuresOfSteeple_5 : decode cX2_measuresOfSteeple 5 = .ok (.aload_n 0, 1) := by decide +kernel
theorem dX2_measuresOfSteeple_6 : decode cX2_measuresOfSteeple 6 = .ok (.getfield 39, 3) := by decide +kernel
theorem dX2_measuresOfSteeple_9 : decode cX2_measuresOfSteeple 9 = .ok (.if_icmp .ge 26, 3) := by decide +kernel
theorem dX2_measuresOfSteeple_12 : decode cX2_measuresOfSteeple 12 = .ok (.iload_n 2, 1) := by decide +kernel
theorem dX2_measuresOfSteeple_13 : decode cX2_measuresOfSteeple 13 = .ok (.aload_n 0, 1) := by decide +kernel
theorem dX2_measuresOfSteeple_14 : decode cX2_measuresOfSteeple 14 = .ok (.iload_n 3, 1) := by decide +kernel
theorem dX2_measuresOfSteeple_15 : decode cX2_measuresOfSteeple 15 = .ok (.iload_n 1, 1) := by decide +kernel
theorem dX2_measuresOfSteeple_16 : decode cX2_measuresOfSteeple 16 = .ok (.invokevirtual 141, 3) := by decide +kernel
theorem dX2_measuresOfSteeple_19 : decode cX2_measuresOfSteeple 19 = .ok (.ifCond .eq 7, 3) := by decide +kernel
theorem dX2_measuresOfSteeple_22 : decode cX2_measuresOfSteeple 22 = .ok (.iconst 1, 1) := by decide +kernel
theorem dX2_measuresOfSteeple_23 : decode cX2_measuresOfSteeple 23 = .ok (.goto 4, 3) := by decide +kernel
theorem dX2_measuresOfSteeple_26 : decode cX2_measuresOfSteeple 26 = .ok (.iconst 0, 1) := by decide +kernel
theorem dX2_measuresOfSteeple_27 : decode cX2_measuresOfSteeple 27 = .ok (.iadd, 1) := by decide +kernel
theorem dX2_measuresOfSteeple_28 : decode cX2_measuresOfSteeple 28 = .ok (.istore_n 2, 1) := by decide +kernel
theorem dX2_measuresOfSteeple_29 : decode cX2_measuresOfSteeple 29 = .ok (.iinc 3 1, 3) := by decide +kernel
theorem dX2_measuresOfSteeple_32 : decode cX2_measuresOfSteeple 32 = .ok (.goto (-28), 3) := by decide +kernel
theorem dX2_measuresOfSteeple_35 : decode cX2_measuresOfSteeple 35 = .ok (.iload_n 2, 1) := by decide +kernel
theorem dX2_measuresOfSteeple_36 : decode cX2_measuresOfSteeple 36 = .ok (.ireturn, 1) := by decide +kernel
theorem dX2_weightOfSteeple_0 : decode cX2_weightOfSteeple 0 = .ok (.iconst 0, 1) := by decide +kernel
theorem dX2_weightOfSteeple_1 : decode cX2_weightOfSteeple 1 = .ok (.istore_n 2, 1) := by decide +kernel
theorem dX2_weightOfSteeple_2 : decode cX2_weightOfSteeple 2 = .ok (.iconst 0, 1) := by decide +kernel
theorem dX2_weightOfSteeple_3 : decode cX2_weightOfSteeple 3 = .ok (.istore_n 3, 1) := by decide +kernel
theorem dX2_weightOfSteeple_4 : decode cX2_weightOfSteeple 4 = .ok (.iload_n 3, 1) := by decide +kernel
theorem dX2_weightOfSteeple_5 : decode cX2_weightOfSteeple 5 = .ok (.aload_n 0, 1) := by decide +kernel
theorem dX2_weightOfSteeple_6 : decode cX2_weightOfSteeple 6 = .ok (.getfield 39, 3) := by decide +kernel
theorem dX2_weightOfSteeple_9 : decode cX2_weightOfSteeple 9 = .ok (.if_icmp .ge 30, 3) := by decide +kernel
theorem dX2_weightOfSteeple_12 : decode cX2_weightOfSteeple 12 = .ok (.iload_n 2, 1) := by decide +kernel
theorem dX2_weightOfSteeple_13 : decode cX2_weightOfSteeple 13 = .ok (.aload_n 0, 1) := by decide +kernel
theorem dX2_weightOfSteeple_14 : decode cX2_weightOfSteeple 14 = .ok (.iload_n 3, 1) := by decide +kernel
theorem dX2_weightOfSteeple_15 : decode cX2_weightOfSteeple 15 = .ok (.iload_n 1, 1) := by decide +kernel
theorem dX2_weightOfSteeple_16 : decode cX2_weightOfSteeple 16 = .ok (.invokevirtual 141, 3) := by decide +kernel
theorem dX2_weightOfSteeple_19 : decode cX2_weightOfSteeple 19 = .ok (.ifCond .eq 11, 3) := by decide +kernel
theorem dX2_weightOfSteeple_22 : decode cX2_weightOfSteeple 22 = .ok (.aload_n 0, 1) := by decide +kernel
theorem dX2_weightOfSteeple_23 : decode cX2_weightOfSteeple 23 = .ok (.iload_n 3, 1) := by decide +kernel
theorem dX2_weightOfSteeple_24 : decode cX2_weightOfSteeple 24 = .ok (.invokevirtual 135, 3) := by decide +kernel
theorem dX2_weightOfSteeple_27 : decode cX2_weightOfSteeple 27 = .ok (.goto 4, 3) := by decide +kernel
theorem dX2_weightOfSteeple_30 : decode cX2_weightOfSteeple 30 = .ok (.iconst 0, 1) := by decide +kernel
theorem dX2_weightOfSteeple_31 : decode cX2_weightOfSteeple 31 = .ok (.iadd, 1) := by decide +kernel
theorem dX2_weightOfSteeple_32 : decode cX2_weightOfSteeple 32 = .ok (.istore_n 2, 1) := by decide +kernel
theorem dX2_weightOfSteeple_33 : decode cX2_weightOfSteeple 33 = .ok (.iinc 3 1, 3) := by decide +kernel
theorem dX2_weightOfSteeple_36 : decode cX2_weightOfSteeple 36 = .ok (.goto (-32), 3) := by decide +kernel
theorem dX2_weightOfSteeple_39 : decode cX2_weightOfSteeple 39 = .ok (.iload_n 2, 1) := by decide +kernel
theorem dX2_weightOfSteeple_40 : decode cX2_weightOfSteeple 40 = .ok (.ireturn, 1) := by decide +kernel
theorem dX2_voteOf_0 : decode cX2_voteOf 0 = .ok (.iconst 0, 1) := by decide +kernel
theorem dX2_voteOf_1 : decode cX2_voteOf 1 = .ok (.istore 4, 2) := by decide +kernel
theorem dX2_voteOf_3 : decode cX2_voteOf 3 = .ok (.iconst 0, 1) := by decide +kernel
theorem dX2_voteOf_4 : decode cX2_voteOf 4 = .ok (.istore 5, 2) := by decide +kernel
theorem dX2_voteOf_6 : decode cX2_voteOf 6 = .ok (.iload 5, 2) := by decide +kernel
theorem dX2_voteOf_8 : decode cX2_voteOf 8 = .ok (.aload_n 0, 1) := by decide +kernel
theorem dX2_voteOf_9 : decode cX2_voteOf 9 = .ok (.getfield 39, 3) := by decide +kernel
theorem dX2_voteOf_12 : decode cX2_voteOf 12 = .ok (.if_icmp .ge 50, 3) := by decide +kernel
theorem dX2_voteOf_15 : decode cX2_voteOf 15 = .ok (.iload 4, 2) := by decide +kernel
theorem dX2_voteOf_17 : decode cX2_voteOf 17 = .ok (.iload 5, 2) := by decide +kernel
theorem dX2_voteOf_19 : decode cX2_voteOf 19 = .ok (.iload_n 3, 1) := by decide +kernel
theorem dX2_voteOf_20 : decode cX2_voteOf 20 = .ok (.if_icmp .eq 32, 3) := by decide +kernel
theorem dX2_voteOf_23 : decode cX2_voteOf 23 = .ok (.aload_n 0, 1) := by decide +kernel
theorem dX2_voteOf_24 : decode cX2_voteOf 24 = .ok (.iload 5, 2) := by decide +kernel
theorem dX2_voteOf_26 : decode cX2_voteOf 26 = .ok (.iload_n 1, 1) := by decide +kernel
theorem dX2_voteOf_27 : decode cX2_voteOf 27 = .ok (.invokevirtual 141, 3) := by decide +kernel
theorem dX2_voteOf_30 : decode cX2_voteOf 30 = .ok (.ifCond .eq 22, 3) := by decide +kernel
theorem dX2_voteOf_33 : decode cX2_voteOf 33 = .ok (.aload_n 0, 1) := by decide +kernel
theorem dX2_voteOf_34 : decode cX2_voteOf 34 = .ok (.iload 5, 2) := by decide +kernel
theorem dX2_voteOf_36 : decode cX2_voteOf 36 = .ok (.iload_n 2, 1) := by decide +kernel
theorem dX2_voteOf_37 : decode cX2_voteOf 37 = .ok (.invokevirtual 144, 3) := by decide +kernel
theorem dX2_voteOf_40 : decode cX2_voteOf 40 = .ok (.ifCond .eq 12, 3) := by decide +kernel
theorem dX2_voteOf_43 : decode cX2_voteOf 43 = .ok (.aload_n 0, 1) := by decide +kernel
theorem dX2_voteOf_44 : decode cX2_voteOf 44 = .ok (.iload 5, 2) := by decide +kernel
theorem dX2_voteOf_46 : decode cX2_voteOf 46 = .ok (.invokevirtual 135, 3) := by decide +kernel
theorem dX2_voteOf_49 : decode cX2_voteOf 49 = .ok (.goto 4, 3) := by decide +kernel
theorem dX2_voteOf_52 : decode cX2_voteOf 52 = .ok (.iconst 0, 1) := by decide +kernel
theorem dX2_voteOf_53 : decode cX2_voteOf 53 = .ok (.iadd, 1) := by decide +kernel
theorem dX2_voteOf_54 : decode cX2_voteOf 54 = .ok (.istore 4, 2) := by decide +kernel
theorem dX2_voteOf_56 : decode cX2_voteOf 56 = .ok (.iinc 5 1, 3) := by decide +kernel
theorem dX2_voteOf_59 : decode cX2_voteOf 59 = .ok (.goto (-53), 3) := by decide +kernel
theorem dX2_voteOf_62 : decode cX2_voteOf 62 = .ok (.iload 4, 2) := by decide +kernel
theorem dX2_voteOf_64 : decode cX2_voteOf 64 = .ok (.ireturn, 1) := by decide +kernel
theorem dX2_loudestAgainst_0 : decode cX2_loudestAgainst 0 = .ok (.iconst (-1), 1) := by decide +kernel
theorem dX2_loudestAgainst_1 : decode cX2_loudestAgainst 1 = .ok (.istore_n 3, 1) := by decide +kernel
theorem dX2_loudestAgainst_2 : decode cX2_loudestAgainst 2 = .ok (.iconst 0, 1) := by decide +kernel
theorem dX2_loudestAgainst_3 : decode cX2_loudestAgainst 3 = .ok (.istore 4, 2) := by decide +kernel
theorem dX2_loudestAgainst_5 : decode cX2_loudestAgainst 5 = .ok (.iload 4, 2) := by decide +kernel
theorem dX2_loudestAgainst_7 : decode cX2_loudestAgainst 7 = .ok (.aload_n 0, 1) := by decide +kernel
theorem dX2_loudestAgainst_8 : decode cX2_loudestAgainst 8 = .ok (.getfield 39, 3) := by decide +kernel
theorem dX2_loudestAgainst_11 : decode cX2_loudestAgainst 11 = .ok (.if_icmp .ge 48, 3) := by decide +kernel
theorem dX2_loudestAgainst_14 : decode cX2_loudestAgainst 14 = .ok (.aload_n 0, 1) := by decide +kernel
theorem dX2_loudestAgainst_15 : decode cX2_loudestAgainst 15 = .ok (.iload 4, 2) := by decide +kernel
theorem dX2_loudestAgainst_17 : decode cX2_loudestAgainst 17 = .ok (.iload_n 1, 1) := by decide +kernel
theorem dX2_loudestAgainst_18 : decode cX2_loudestAgainst 18 = .ok (.invokevirtual 141, 3) := by decide +kernel
theorem dX2_loudestAgainst_21 : decode cX2_loudestAgainst 21 = .ok (.ifCond .eq 32, 3) := by decide +kernel
theorem dX2_loudestAgainst_24 : decode cX2_loudestAgainst 24 = .ok (.aload_n 0, 1) := by decide +kernel
theorem dX2_loudestAgainst_25 : decode cX2_loudestAgainst 25 = .ok (.iload 4, 2) := by decide +kernel
theorem dX2_loudestAgainst_27 : decode cX2_loudestAgainst 27 = .ok (.iload_n 2, 1) := by decide +kernel
theorem dX2_loudestAgainst_28 : decode cX2_loudestAgainst 28 = .ok (.invokevirtual 144, 3) := by decide +kernel
theorem dX2_loudestAgainst_31 : decode cX2_loudestAgainst 31 = .ok (.ifCond .ne 22, 3) := by decide +kernel
theorem dX2_loudestAgainst_34 : decode cX2_loudestAgainst 34 = .ok (.iload_n 3, 1) := by decide +kernel
theorem dX2_loudestAgainst_35 : decode cX2_loudestAgainst 35 = .ok (.iconst (-1), 1) := by decide +kernel
theorem dX2_loudestAgainst_36 : decode cX2_loudestAgainst 36 = .ok (.if_icmp .eq 14, 3) := by decide +kernel
theorem dX2_loudestAgainst_39 : decode cX2_loudestAgainst 39 = .ok (.aload_n 0, 1) := by decide +kernel
theorem dX2_loudestAgainst_40 : decode cX2_loudestAgainst 40 = .ok (.iload 4, 2) := by decide +kernel
theorem dX2_loudestAgainst_42 : decode cX2_loudestAgainst 42 = .ok (.iload_n 3, 1) := by decide +kernel
theorem dX2_loudestAgainst_43 : decode cX2_loudestAgainst 43 = .ok (.iload_n 2, 1) := by decide +kernel
theorem dX2_loudestAgainst_44 : decode cX2_loudestAgainst 44 = .ok (.invokevirtual 171, 3) := by decide +kernel
theorem dX2_loudestAgainst_47 : decode cX2_loudestAgainst 47 = .ok (.ifCond .eq 6, 3) := by decide +kernel
theorem dX2_loudestAgainst_50 : decode cX2_loudestAgainst 50 = .ok (.iload 4, 2) := by decide +kernel
theorem dX2_loudestAgainst_52 : decode cX2_loudestAgainst 52 = .ok (.istore_n 3, 1) := by decide +kernel
theorem dX2_loudestAgainst_53 : decode cX2_loudestAgainst 53 = .ok (.iinc 4 1, 3) := by decide +kernel
theorem dX2_loudestAgainst_56 : decode cX2_loudestAgainst 56 = .ok (.goto (-51), 3) := by decide +kernel
theorem dX2_loudestAgainst_59 : decode cX2_loudestAgainst 59 = .ok (.iload_n 3, 1) := by decide +kernel
theorem dX2_loudestAgainst_60 : decode cX2_loudestAgainst 60 = .ok (.ireturn, 1) := by decide +kernel
theorem dX2_isLouder_0 : decode cX2_isLouder 0 = .ok (.aload_n 0, 1) := by decide +kernel
theorem dX2_isLouder_1 : decode cX2_isLouder 1 = .ok (.iload_n 1, 1) := by decide +kernel
theorem dX2_isLouder_2 : decode cX2_isLouder 2 = .ok (.invokevirtual 135, 3) := by decide +kernel
theorem dX2_isLouder_5 : decode cX2_isLouder 5 = .ok (.aload_n 0, 1) := by decide +kernel
theorem dX2_isLouder_6 : decode cX2_isLouder 6 = .ok (.iload_n 2, 1) := by decide +kernel
theorem dX2_isLouder_7 : decode cX2_isLouder 7 = .ok (.invokevirtual 135, 3) := by decide +kernel
theorem dX2_isLouder_10 : decode cX2_isLouder 10 = .ok (.isub, 1) := by decide +kernel
theorem dX2_isLouder_11 : decode cX2_isLouder 11 = .ok (.istore 4, 2) := by decide +kernel
theorem dX2_isLouder_13 : decode cX2_isLouder 13 = .ok (.iload 4, 2) := by decide +kernel
theorem dX2_isLouder_15 : decode cX2_isLouder 15 = .ok (.ifCond .eq 16, 3) := by decide +kernel
theorem dX2_isLouder_18 : decode cX2_isLouder 18 = .ok (.iload 4, 2) := by decide +kernel
theorem dX2_isLouder_20 : decode cX2_isLouder 20 = .ok (.ifCond .le 7, 3) := by decide +kernel
theorem dX2_isLouder_23 : decode cX2_isLouder 23 = .ok (.iconst 1, 1) := by decide +kernel
theorem dX2_isLouder_24 : decode cX2_isLouder 24 = .ok (.goto 27, 3) := by decide +kernel
theorem dX2_isLouder_27 : decode cX2_isLouder 27 = .ok (.iconst 0, 1) := by decide +kernel
theorem dX2_isLouder_28 : decode cX2_isLouder 28 = .ok (.goto 23, 3) := by decide +kernel
theorem dX2_isLouder_31 : decode cX2_isLouder 31 = .ok (.aload_n 0, 1) := by decide +kernel
theorem dX2_isLouder_32 : decode cX2_isLouder 32 = .ok (.iload_n 1, 1) := by decide +kernel
theorem dX2_isLouder_33 : decode cX2_isLouder 33 = .ok (.iload_n 3, 1) := by decide +kernel
theorem dX2_isLouder_34 : decode cX2_isLouder 34 = .ok (.invokevirtual 175, 3) := by decide +kernel
theorem dX2_isLouder_37 : decode cX2_isLouder 37 = .ok (.aload_n 0, 1) := by decide +kernel
theorem dX2_isLouder_38 : decode cX2_isLouder 38 = .ok (.iload_n 2, 1) := by decide +kernel
theorem dX2_isLouder_39 : decode cX2_isLouder 39 = .ok (.iload_n 3, 1) := by decide +kernel
theorem dX2_isLouder_40 : decode cX2_isLouder 40 = .ok (.invokevirtual 175, 3) := by decide +kernel
theorem dX2_isLouder_43 : decode cX2_isLouder 43 = .ok (.if_icmp .le 7, 3) := by decide +kernel
theorem dX2_isLouder_46 : decode cX2_isLouder 46 = .ok (.iconst 1, 1) := by decide +kernel
theorem dX2_isLouder_47 : decode cX2_isLouder 47 = .ok (.goto 4, 3) := by decide +kernel
theorem dX2_isLouder_50 : decode cX2_isLouder 50 = .ok (.iconst 0, 1) := by decide +kernel
theorem dX2_isLouder_51 : decode cX2_isLouder 51 = .ok (.ireturn, 1) := by decide +kernel
theorem dX2_feetFrom_0 : decode cX2_feetFrom 0 = .ok (.iconst 0, 1) := by decide +kernel
theorem dX2_feetFrom_1 : decode cX2_feetFrom 1 = .ok (.aload_n 0, 1) := by decide +kernel
theorem dX2_feetFrom_2 : decode cX2_feetFrom 2 = .ok (.iload_n 1, 1) := by decide +kernel
theorem dX2_feetFrom_3 : decode cX2_feetFrom 3 = .ok (.bipush 7, 2) := by decide +kernel
theorem dX2_feetFrom_5 : decode cX2_feetFrom 5 = .ok (.invokevirtual 138, 3) := by decide +kernel
theorem dX2_feetFrom_8 : decode cX2_feetFrom 8 = .ok (.iload_n 2, 1) := by decide +kernel
theorem dX2_feetFrom_9 : decode cX2_feetFrom 9 = .ok (.isub, 1) := by decide +kernel
theorem dX2_feetFrom_10 : decode cX2_feetFrom 10 = .ok (.iload_n 2, 1) := by decide +kernel
theorem dX2_feetFrom_11 : decode cX2_feetFrom 11 = .ok (.aload_n 0, 1) := by decide +kernel
theorem dX2_feetFrom_12 : decode cX2_feetFrom 12 = .ok (.iload_n 1, 1) := by decide +kernel
theorem dX2_feetFrom_13 : decode cX2_feetFrom 13 = .ok (.bipush 8, 2) := by decide +kernel
theorem dX2_feetFrom_15 : decode cX2_feetFrom 15 = .ok (.invokevirtual 138, 3) := by decide +kernel
theorem dX2_feetFrom_18 : decode cX2_feetFrom 18 = .ok (.isub, 1) := by decide +kernel
theorem dX2_feetFrom_19 : decode cX2_feetFrom 19 = .ok (.invokestatic 125, 3) := by decide +kernel
theorem dX2_feetFrom_22 : decode cX2_feetFrom 22 = .ok (.invokestatic 125, 3) := by decide +kernel
theorem dX2_feetFrom_25 : decode cX2_feetFrom 25 = .ok (.ireturn, 1) := by decide +kernel
theorem dX3_limit_0 : decode cX3_limit 0 = .ok (.lconst 1, 1) := by decide +kernel
theorem dX3_limit_1 : decode cX3_limit 1 = .ok (.lstore_n 1, 1) := by decide +kernel
theorem dX3_limit_2 : decode cX3_limit 2 = .ok (.iconst 0, 1) := by decide +kernel
theorem dX3_limit_3 : decode cX3_limit 3 = .ok (.istore_n 3, 1) := by decide +kernel
theorem dX3_limit_4 : decode cX3_limit 4 = .ok (.iload_n 3, 1) := by decide +kernel
theorem dX3_limit_5 : decode cX3_limit 5 = .ok (.iload_n 0, 1) := by decide +kernel
theorem dX3_limit_6 : decode cX3_limit 6 = .ok (.if_icmp .ge 15, 3) := by decide +kernel
theorem dX3_limit_9 : decode cX3_limit 9 = .ok (.lload_n 1, 1) := by decide +kernel
theorem dX3_limit_10 : decode cX3_limit 10 = .ok (.ldc2_w 11, 3) := by decide +kernel
theorem dX3_limit_13 : decode cX3_limit 13 = .ok (.lmul, 1) := by decide +kernel
theorem dX3_limit_14 : decode cX3_limit 14 = .ok (.lstore_n 1, 1) := by decide +kernel
theorem dX3_limit_15 : decode cX3_limit 15 = .ok (.iinc 3 1, 3) := by decide +kernel
theorem dX3_limit_18 : decode cX3_limit 18 = .ok (.goto (-14), 3) := by decide +kernel
theorem dX3_limit_21 : decode cX3_limit 21 = .ok (.lload_n 1, 1) := by decide +kernel
theorem dX3_limit_22 : decode cX3_limit 22 = .ok (.lreturn, 1) := by decide +kernel
theorem dX3_group_0 : decode cX3_group 0 = .ok (.lload_n 0, 1) := by decide +kernel
theorem dX3_group_1 : decode cX3_group 1 = .ok (.lstore_n 3, 1) := by decide +kernel
theorem dX3_group_2 : decode cX3_group 2 = .ok (.iconst 0, 1) := by decide +kernel
theorem dX3_group_3 : decode cX3_group 3 = .ok (.istore 5, 2) := by decide +kernel
theorem dX3_group_5 : decode cX3_group 5 = .ok (.iload 5, 2) := by decide +kernel
theorem dX3_group_7 : decode cX3_group 7 = .ok (.iload_n 2, 1) := by decide +kernel
theorem dX3_group_8 : decode cX3_group 8 = .ok (.if_icmp .ge 15, 3) := by decide +kernel
theorem dX3_group_11 : decode cX3_group 11 = .ok (.lload_n 3, 1) := by decide +kernel
theorem dX3_group_12 : decode cX3_group 12 = .ok (.ldc2_w 11, 3) := by decide +kernel
theorem dX3_group_15 : decode cX3_group 15 = .ok (.ldiv, 1) := by decide +kernel
theorem dX3_group_16 : decode cX3_group 16 = .ok (.lstore_n 3, 1) := by decide +kernel
theorem dX3_group_17 : decode cX3_group 17 = .ok (.iinc 5 1, 3) := by decide +kernel
theorem dX3_group_20 : decode cX3_group 20 = .ok (.goto (-15), 3) := by decide +kernel
theorem dX3_group_23 : decode cX3_group 23 = .ok (.lload_n 3, 1) := by decide +kernel
theorem dX3_group_24 : decode cX3_group 24 = .ok (.ldc2_w 11, 3) := by decide +kernel
theorem dX3_group_27 : decode cX3_group 27 = .ok (.lrem, 1) := by decide +kernel
theorem dX3_group_28 : decode cX3_group 28 = .ok (.l2i, 1) := by decide +kernel
theorem dX3_group_29 : decode cX3_group 29 = .ok (.ireturn, 1) := by decide +kernel
theorem dX3_succeeds_0 : decode cX3_succeeds 0 = .ok (.iload_n 2, 1) := by decide +kernel
theorem dX3_succeeds_1 : decode cX3_succeeds 1 = .ok (.sipush 10000, 3) := by decide +kernel
theorem dX3_succeeds_4 : decode cX3_succeeds 4 = .ok (.idiv, 1) := by decide +kernel
theorem dX3_succeeds_5 : decode cX3_succeeds 5 = .ok (.bipush 10, 2) := by decide +kernel
theorem dX3_succeeds_7 : decode cX3_succeeds 7 = .ok (.irem, 1) := by decide +kernel
theorem dX3_succeeds_8 : decode cX3_succeeds 8 = .ok (.istore_n 3, 1) := by decide +kernel
theorem dX3_succeeds_9 : decode cX3_succeeds 9 = .ok (.iload_n 2, 1) := by decide +kernel
theorem dX3_succeeds_10 : decode cX3_succeeds 10 = .ok (.bipush 10, 2) := by decide +kernel
theorem dX3_succeeds_12 : decode cX3_succeeds 12 = .ok (.irem, 1) := by decide +kernel
theorem dX3_succeeds_13 : decode cX3_succeeds 13 = .ok (.istore 4, 2) := by decide +kernel
theorem dX3_succeeds_15 : decode cX3_succeeds 15 = .ok (.iload_n 2, 1) := by decide +kernel
theorem dX3_succeeds_16 : decode cX3_succeeds 16 = .ok (.sipush 1000, 3) := by decide +kernel
theorem dX3_succeeds_19 : decode cX3_succeeds 19 = .ok (.irem, 1) := by decide +kernel
theorem dX3_succeeds_20 : decode cX3_succeeds 20 = .ok (.istore 5, 2) := by decide +kernel
theorem dX3_succeeds_22 : decode cX3_succeeds 22 = .ok (.iload_n 2, 1) := by decide +kernel
theorem dX3_succeeds_23 : decode cX3_succeeds 23 = .ok (.ldc 13, 2) := by decide +kernel
theorem dX3_succeeds_25 : decode cX3_succeeds 25 = .ok (.idiv, 1) := by decide +kernel
theorem dX3_succeeds_26 : decode cX3_succeeds 26 = .ok (.tableswitch 296 1 9 #[50, 71, 97, 124, 150, 177, 205, 234, 268], 50) := by decide +kernel
theorem dX3_succeeds_76 : decode cX3_succeeds 76 = .ok (.aload_n 0, 1) := by decide +kernel
theorem dX3_succeeds_77 : decode cX3_succeeds 77 = .ok (.iload_n 3, 1) := by decide +kernel
theorem dX3_succeeds_78 : decode cX3_succeeds 78 = .ok (.iload_n 2, 1) := by decide +kernel
theorem dX3_succeeds_79 : decode cX3_succeeds 79 = .ok (.sipush 1000, 3) := by decide +kernel
theorem dX3_succeeds_82 : decode cX3_succeeds 82 = .ok (.idiv, 1) := by decide +kernel
theorem dX3_succeeds_83 : decode cX3_succeeds 83 = .ok (.bipush 10, 2) := by decide +kernel
theorem dX3_succeeds_85 : decode cX3_succeeds 85 = .ok (.irem, 1) := by decide +kernel
theorem dX3_succeeds_86 : decode cX3_succeeds 86 = .ok (.iconst 2, 1) := by decide +kernel
theorem dX3_succeeds_87 : decode cX3_succeeds 87 = .ok (.iload 5, 2) := by decide +kernel
theorem dX3_succeeds_89 : decode cX3_succeeds 89 = .ok (.iload 5, 2) := by decide +kernel
theorem dX3_succeeds_91 : decode cX3_succeeds 91 = .ok (.iconst 0, 1) := by decide +kernel
theorem dX3_succeeds_92 : decode cX3_succeeds 92 = .ok (.iconst 0, 1) := by decide +kernel
theorem dX3_succeeds_93 : decode cX3_succeeds 93 = .ok (.invokevirtual 16, 3) := by decide +kernel
theorem dX3_succeeds_96 : decode cX3_succeeds 96 = .ok (.ireturn, 1) := by decide +kernel
theorem dX3_succeeds_97 : decode cX3_succeeds 97 = .ok (.iload 5, 2) := by decide +kernel
theorem dX3_succeeds_99 : decode cX3_succeeds 99 = .ok (.ifCond .ne 22, 3) := by decide +kernel
theorem dX3_succeeds_102 : decode cX3_succeeds 102 = .ok (.aload_n 0, 1) := by decide +kernel
theorem dX3_succeeds_103 : decode cX3_succeeds 103 = .ok (.iload_n 2, 1) := by decide +kernel
theorem dX3_succeeds_104 : decode cX3_succeeds 104 = .ok (.sipush 1000, 3) := by decide +kernel
theorem dX3_succeeds_107 : decode cX3_succeeds 107 = .ok (.idiv, 1) := by decide +kernel
theorem dX3_succeeds_108 : decode cX3_succeeds 108 = .ok (.bipush 100, 2) := by decide +kernel
theorem dX3_succeeds_110 : decode cX3_succeeds 110 = .ok (.irem, 1) := by decide +kernel
theorem dX3_succeeds_111 : decode cX3_succeeds 111 = .ok (.invokevirtual 20, 3) := by decide +kernel
theorem dX3_succeeds_114 : decode cX3_succeeds 114 = .ok (.ifCond .eq 7, 3) := by decide +kernel
theorem dX3_succeeds_117 : decode cX3_succeeds 117 = .ok (.iconst 1, 1) := by decide +kernel
theorem dX3_succeeds_118 : decode cX3_succeeds 118 = .ok (.goto 4, 3) := by decide +kernel
theorem dX3_succeeds_121 : decode cX3_succeeds 121 = .ok (.iconst 0, 1) := by decide +kernel
theorem dX3_succeeds_122 : decode cX3_succeeds 122 = .ok (.ireturn, 1) := by decide +kernel
theorem dX3_succeeds_123 : decode cX3_succeeds 123 = .ok (.iload_n 2, 1) := by decide +kernel
theorem dX3_succeeds_124 : decode cX3_succeeds 124 = .ok (.bipush 10, 2) := by decide +kernel
theorem dX3_succeeds_126 : decode cX3_succeeds 126 = .ok (.idiv, 1) := by decide +kernel
theorem dX3_succeeds_127 : decode cX3_succeeds 127 = .ok (.sipush 1000, 3) := by decide +kernel
theorem dX3_succeeds_130 : decode cX3_succeeds 130 = .ok (.irem, 1) := by decide +kernel
theorem dX3_succeeds_131 : decode cX3_succeeds 131 = .ok (.ifCond .ne 17, 3) := by decide +kernel
theorem dX3_succeeds_134 : decode cX3_succeeds 134 = .ok (.aload_n 0, 1) := by decide +kernel
theorem dX3_succeeds_135 : decode cX3_succeeds 135 = .ok (.iload_n 3, 1) := by decide +kernel
theorem dX3_succeeds_136 : decode cX3_succeeds 136 = .ok (.iload 4, 2) := by decide +kernel
theorem dX3_succeeds_138 : decode cX3_succeeds 138 = .ok (.invokevirtual 24, 3) := by decide +kernel
theorem dX3_succeeds_141 : decode cX3_succeeds 141 = .ok (.ifCond .eq 7, 3) := by decide +kernel
theorem dX3_succeeds_144 : decode cX3_succeeds 144 = .ok (.iconst 1, 1) := by decide +kernel
theorem dX3_succeeds_145 : decode cX3_succeeds 145 = .ok (.goto 4, 3) := by decide +kernel
theorem dX3_succeeds_148 : decode cX3_succeeds 148 = .ok (.iconst 0, 1) := by decide +kernel
theorem dX3_succeeds_149 : decode cX3_succeeds 149 = .ok (.ireturn, 1) := by decide +kernel
theorem dX3_succeeds_150 : decode cX3_succeeds 150 = .ok (.iload_n 2, 1) := by decide +kernel
theorem dX3_succeeds_151 : decode cX3_succeeds 151 = .ok (.bipush 10, 2) := by decide +kernel
theorem dX3_succeeds_153 : decode cX3_succeeds 153 = .ok (.idiv, 1) := by decide +kernel
theorem dX3_succeeds_154 : decode cX3_succeeds 154 = .ok (.sipush 10000, 3) := by decide +kernel
theorem dX3_succeeds_157 : decode cX3_succeeds 157 = .ok (.irem, 1) := by decide +kernel
theorem dX3_succeeds_158 : decode cX3_succeeds 158 = .ok (.ifCond .ne 16, 3) := by decide +kernel
theorem dX3_succeeds_161 : decode cX3_succeeds 161 = .ok (.aload_n 0, 1) := by decide +kernel
theorem dX3_succeeds_162 : decode cX3_succeeds 162 = .ok (.iload 4, 2) := by decide +kernel
theorem dX3_succeeds_164 : decode cX3_succeeds 164 = .ok (.invokestatic 28, 3) := by decide +kernel
theorem dX3_succeeds_167 : decode cX3_succeeds 167 = .ok (.ifCond .eq 7, 3) := by decide +kernel
theorem dX3_succeeds_170 : decode cX3_succeeds 170 = .ok (.iconst 1, 1) := by decide +kernel
theorem dX3_succeeds_171 : decode cX3_succeeds 171 = .ok (.goto 4, 3) := by decide +kernel
theorem dX3_succeeds_174 : decode cX3_succeeds 174 = .ok (.iconst 0, 1) := by decide +kernel
theorem dX3_succeeds_175 : decode cX3_succeeds 175 = .ok (.ireturn, 1) := by decide +kernel
theorem dX3_succeeds_176 : decode cX3_succeeds 176 = .ok (.iload_n 2, 1) := by decide +kernel
theorem dX3_succeeds_177 : decode cX3_succeeds 177 = .ok (.sipush 1000, 3) := by decide +kernel
theorem dX3_succeeds_180 : decode cX3_succeeds 180 = .ok (.idiv, 1) := by decide +kernel
theorem dX3_succeeds_181 : decode cX3_succeeds 181 = .ok (.bipush 10, 2) := by decide +kernel
theorem dX3_succeeds_183 : decode cX3_succeeds 183 = .ok (.irem, 1) := by decide +kernel
theorem dX3_succeeds_184 : decode cX3_succeeds 184 = .ok (.ifCond .ne 17, 3) := by decide +kernel
theorem dX3_succeeds_187 : decode cX3_succeeds 187 = .ok (.aload_n 0, 1) := by decide +kernel
theorem dX3_succeeds_188 : decode cX3_succeeds 188 = .ok (.iload_n 3, 1) := by decide +kernel
theorem dX3_succeeds_189 : decode cX3_succeeds 189 = .ok (.iload 5, 2) := by decide +kernel
theorem dX3_succeeds_191 : decode cX3_succeeds 191 = .ok (.invokevirtual 32, 3) := by decide +kernel
theorem dX3_succeeds_194 : decode cX3_succeeds 194 = .ok (.ifCond .eq 7, 3) := by decide +kernel
theorem dX3_succeeds_197 : decode cX3_succeeds 197 = .ok (.iconst 1, 1) := by decide +kernel
theorem dX3_succeeds_198 : decode cX3_succeeds 198 = .ok (.goto 4, 3) := by decide +kernel
theorem dX3_succeeds_201 : decode cX3_succeeds 201 = .ok (.iconst 0, 1) := by decide +kernel
theorem dX3_succeeds_202 : decode cX3_succeeds 202 = .ok (.ireturn, 1) := by decide +kernel
theorem dX3_succeeds_203 : decode cX3_succeeds 203 = .ok (.iload_n 2, 1) := by decide +kernel
theorem dX3_succeeds_204 : decode cX3_succeeds 204 = .ok (.sipush 1000, 3) := by decide +kernel
theorem dX3_succeeds_207 : decode cX3_succeeds 207 = .ok (.idiv, 1) := by decide +kernel
theorem dX3_succeeds_208 : decode cX3_succeeds 208 = .ok (.bipush 10, 2) := by decide +kernel
theorem dX3_succeeds_210 : decode cX3_succeeds 210 = .ok (.irem, 1) := by decide +kernel
theorem dX3_succeeds_211 : decode cX3_succeeds 211 = .ok (.ifCond .ne 18, 3) := by decide +kernel
theorem dX3_succeeds_214 : decode cX3_succeeds 214 = .ok (.aload_n 0, 1) := by decide +kernel
theorem dX3_succeeds_215 : decode cX3_succeeds 215 = .ok (.aload_n 1, 1) := by decide +kernel
theorem dX3_succeeds_216 : decode cX3_succeeds 216 = .ok (.iload_n 3, 1) := by decide +kernel
theorem dX3_succeeds_217 : decode cX3_succeeds 217 = .ok (.iload 5, 2) := by decide +kernel
theorem dX3_succeeds_219 : decode cX3_succeeds 219 = .ok (.invokestatic 35, 3) := by decide +kernel
theorem dX3_succeeds_222 : decode cX3_succeeds 222 = .ok (.ifCond .eq 7, 3) := by decide +kernel
theorem dX3_succeeds_225 : decode cX3_succeeds 225 = .ok (.iconst 1, 1) := by decide +kernel
theorem dX3_succeeds_226 : decode cX3_succeeds 226 = .ok (.goto 4, 3) := by decide +kernel
theorem dX3_succeeds_229 : decode cX3_succeeds 229 = .ok (.iconst 0, 1) := by decide +kernel
theorem dX3_succeeds_230 : decode cX3_succeeds 230 = .ok (.ireturn, 1) := by decide +kernel
theorem dX3_succeeds_231 : decode cX3_succeeds 231 = .ok (.iload_n 2, 1) := by decide +kernel
theorem dX3_succeeds_232 : decode cX3_succeeds 232 = .ok (.bipush 100, 2) := by decide +kernel
theorem dX3_succeeds_234 : decode cX3_succeeds 234 = .ok (.irem, 1) := by decide +kernel
theorem dX3_succeeds_235 : decode cX3_succeeds 235 = .ok (.ifCond .ne 23, 3) := by decide +kernel
theorem dX3_succeeds_238 : decode cX3_succeeds 238 = .ok (.aload_n 0, 1) := by decide +kernel
theorem dX3_succeeds_239 : decode cX3_succeeds 239 = .ok (.aload_n 1, 1) := by decide +kernel
theorem dX3_succeeds_240 : decode cX3_succeeds 240 = .ok (.iload_n 3, 1) := by decide +kernel
theorem dX3_succeeds_241 : decode cX3_succeeds 241 = .ok (.iload_n 2, 1) := by decide +kernel
theorem dX3_succeeds_242 : decode cX3_succeeds 242 = .ok (.bipush 100, 2) := by decide +kernel
theorem dX3_succeeds_244 : decode cX3_succeeds 244 = .ok (.idiv, 1) := by decide +kernel
theorem dX3_succeeds_245 : decode cX3_succeeds 245 = .ok (.bipush 100, 2) := by decide +kernel
theorem dX3_succeeds_247 : decode cX3_succeeds 247 = .ok (.irem, 1) := by decide +kernel
theorem dX3_succeeds_248 : decode cX3_succeeds 248 = .ok (.invokestatic 39, 3) := by decide +kernel
theorem dX3_succeeds_251 : decode cX3_succeeds 251 = .ok (.ifCond .eq 7, 3) := by decide +kernel
theorem dX3_succeeds_254 : decode cX3_succeeds 254 = .ok (.iconst 1, 1) := by decide +kernel
theorem dX3_succeeds_255 : decode cX3_succeeds 255 = .ok (.goto 4, 3) := by decide +kernel
theorem dX3_succeeds_258 : decode cX3_succeeds 258 = .ok (.iconst 0, 1) := by decide +kernel
theorem dX3_succeeds_259 : decode cX3_succeeds 259 = .ok (.ireturn, 1) := by decide +kernel
theorem dX3_succeeds_260 : decode cX3_succeeds 260 = .ok (.iload_n 2, 1) := by decide +kernel
theorem dX3_succeeds_261 : decode cX3_succeeds 261 = .ok (.bipush 10, 2) := by decide +kernel
theorem dX3_succeeds_263 : decode cX3_succeeds 263 = .ok (.idiv, 1) := by decide +kernel
theorem dX3_succeeds_264 : decode cX3_succeeds 264 = .ok (.sipush 1000, 3) := by decide +kernel
theorem dX3_succeeds_267 : decode cX3_succeeds 267 = .ok (.irem, 1) := by decide +kernel
theorem dX3_succeeds_268 : decode cX3_succeeds 268 = .ok (.ifCond .ne 24, 3) := by decide +kernel
theorem dX3_succeeds_271 : decode cX3_succeeds 271 = .ok (.iload_n 3, 1) := by decide +kernel
theorem dX3_succeeds_272 : decode cX3_succeeds 272 = .ok (.invokestatic 42, 3) := by decide +kernel
theorem dX3_succeeds_275 : decode cX3_succeeds 275 = .ok (.ifCond .eq 17, 3) := by decide +kernel
theorem dX3_succeeds_278 : decode cX3_succeeds 278 = .ok (.aload_n 0, 1) := by decide +kernel
theorem dX3_succeeds_279 : decode cX3_succeeds 279 = .ok (.iload_n 3, 1) := by decide +kernel
theorem dX3_succeeds_280 : decode cX3_succeeds 280 = .ok (.invokevirtual 45, 3) := by decide +kernel
theorem dX3_succeeds_283 : decode cX3_succeeds 283 = .ok (.iload 4, 2) := by decide +kernel
theorem dX3_succeeds_285 : decode cX3_succeeds 285 = .ok (.if_icmp .lt 7, 3) := by decide +kernel
theorem dX3_succeeds_288 : decode cX3_succeeds 288 = .ok (.iconst 1, 1) := by decide +kernel
theorem dX3_succeeds_289 : decode cX3_succeeds 289 = .ok (.goto 4, 3) := by decide +kernel
theorem dX3_succeeds_292 : decode cX3_succeeds 292 = .ok (.iconst 0, 1) := by decide +kernel
theorem dX3_succeeds_293 : decode cX3_succeeds 293 = .ok (.ireturn, 1) := by decide +kernel
theorem dX3_succeeds_294 : decode cX3_succeeds 294 = .ok (.iload_n 2, 1) := by decide +kernel
theorem dX3_succeeds_295 : decode cX3_succeeds 295 = .ok (.bipush 100, 2) := by decide +kernel
theorem dX3_succeeds_297 : decode cX3_succeeds 297 = .ok (.idiv, 1) := by decide +kernel
theorem dX3_succeeds_298 : decode cX3_succeeds 298 = .ok (.sipush 1000, 3) := by decide +kernel
theorem dX3_succeeds_301 : decode cX3_succeeds 301 = .ok (.irem, 1) := by decide +kernel
theorem dX3_succeeds_302 : decode cX3_succeeds 302 = .ok (.ifCond .ne 18, 3) := by decide +kernel
theorem dX3_succeeds_305 : decode cX3_succeeds 305 = .ok (.aload_n 0, 1) := by decide +kernel
theorem dX3_succeeds_306 : decode cX3_succeeds 306 = .ok (.invokevirtual 49, 3) := by decide +kernel
theorem dX3_succeeds_309 : decode cX3_succeeds 309 = .ok (.iload_n 2, 1) := by decide +kernel
theorem dX3_succeeds_310 : decode cX3_succeeds 310 = .ok (.bipush 100, 2) := by decide +kernel
theorem dX3_succeeds_312 : decode cX3_succeeds 312 = .ok (.irem, 1) := by decide +kernel
theorem dX3_succeeds_313 : decode cX3_succeeds 313 = .ok (.if_icmp .gt 7, 3) := by decide +kernel
theorem dX3_succeeds_316 : decode cX3_succeeds 316 = .ok (.iconst 1, 1) := by decide +kernel
theorem dX3_succeeds_317 : decode cX3_succeeds 317 = .ok (.goto 4, 3) := by decide +kernel
theorem dX3_succeeds_320 : decode cX3_succeeds 320 = .ok (.iconst 0, 1) := by decide +kernel
theorem dX3_succeeds_321 : decode cX3_succeeds 321 = .ok (.ireturn, 1) := by decide +kernel
theorem dX3_succeeds_322 : decode cX3_succeeds 322 = .ok (.iconst 0, 1) := by decide +kernel
theorem dX3_succeeds_323 : decode cX3_succeeds 323 = .ok (.ireturn, 1) := by decide +kernel
theorem dX3_passEvenings_0 : decode cX3_passEvenings 0 = .ok (.iconst 0, 1) := by decide +kernel
theorem dX3_passEvenings_1 : decode cX3_passEvenings 1 = .ok (.istore_n 2, 1) := by decide +kernel
theorem dX3_passEvenings_2 : decode cX3_passEvenings 2 = .ok (.iload_n 2, 1) := by decide +kernel
theorem dX3_passEvenings_3 : decode cX3_passEvenings 3 = .ok (.iload_n 1, 1) := by decide +kernel
theorem dX3_passEvenings_4 : decode cX3_passEvenings 4 = .ok (.if_icmp .ge 14, 3) := by decide +kernel
theorem dX3_passEvenings_7 : decode cX3_passEvenings 7 = .ok (.aload_n 0, 1) := by decide +kernel
theorem dX3_passEvenings_8 : decode cX3_passEvenings 8 = .ok (.invokevirtual 53, 3) := by decide +kernel
theorem dX3_passEvenings_11 : decode cX3_passEvenings 11 = .ok (.pop, 1) := by decide +kernel
theorem dX3_passEvenings_12 : decode cX3_passEvenings 12 = .ok (.iinc 2 1, 3) := by decide +kernel
theorem dX3_passEvenings_15 : decode cX3_passEvenings 15 = .ok (.goto (-13), 3) := by decide +kernel
theorem dX3_passEvenings_18 : decode cX3_passEvenings 18 = .ok (.iconst 1, 1) := by decide +kernel
theorem dX3_passEvenings_19 : decode cX3_passEvenings 19 = .ok (.ireturn, 1) := by decide +kernel
theorem dX3_lowestIsAtMost_0 : decode cX3_lowestIsAtMost 0 = .ok (.iload_n 2, 1) := by decide +kernel
theorem dX3_lowestIsAtMost_1 : decode cX3_lowestIsAtMost 1 = .ok (.invokestatic 56, 3) := by decide +kernel
theorem dX3_lowestIsAtMost_4 : decode cX3_lowestIsAtMost 4 = .ok (.ifCond .ne 5, 3) := by decide +kernel
theorem dX3_lowestIsAtMost_7 : decode cX3_lowestIsAtMost 7 = .ok (.iconst 0, 1) := by decide +kernel
theorem dX3_lowestIsAtMost_8 : decode cX3_lowestIsAtMost 8 = .ok (.ireturn, 1) := by decide +kernel
theorem dX3_lowestIsAtMost_9 : decode cX3_lowestIsAtMost 9 = .ok (.aload_n 1, 1) := by decide +kernel
theorem dX3_lowestIsAtMost_10 : decode cX3_lowestIsAtMost 10 = .ok (.aload_n 0, 1) := by decide +kernel
theorem dX3_lowestIsAtMost_11 : decode cX3_lowestIsAtMost 11 = .ok (.iload_n 2, 1) := by decide +kernel
theorem dX3_lowestIsAtMost_12 : decode cX3_lowestIsAtMost 12 = .ok (.iconst (-1), 1) := by decide +kernel
theorem dX3_lowestIsAtMost_13 : decode cX3_lowestIsAtMost 13 = .ok (.invokevirtual 59, 3) := by decide +kernel
theorem dX3_lowestIsAtMost_16 : decode cX3_lowestIsAtMost 16 = .ok (.aload_n 1, 1) := by decide +kernel
theorem dX3_lowestIsAtMost_17 : decode cX3_lowestIsAtMost 17 = .ok (.invokevirtual 65, 3) := by decide +kernel
theorem dX3_lowestIsAtMost_20 : decode cX3_lowestIsAtMost 20 = .ok (.iload_n 3, 1) := by decide +kernel
theorem dX3_lowestIsAtMost_21 : decode cX3_lowestIsAtMost 21 = .ok (.if_icmp .gt 7, 3) := by decide +kernel
theorem dX3_lowestIsAtMost_24 : decode cX3_lowestIsAtMost 24 = .ok (.iconst 1, 1) := by decide +kernel
theorem dX3_lowestIsAtMost_25 : decode cX3_lowestIsAtMost 25 = .ok (.goto 4, 3) := by decide +kernel
theorem dX3_lowestIsAtMost_28 : decode cX3_lowestIsAtMost 28 = .ok (.iconst 0, 1) := by decide +kernel
theorem dX3_lowestIsAtMost_29 : decode cX3_lowestIsAtMost 29 = .ok (.ireturn, 1) := by decide +kernel
theorem dX3_mostIsAtLeast_0 : decode cX3_mostIsAtLeast 0 = .ok (.iload_n 2, 1) := by decide +kernel
theorem dX3_mostIsAtLeast_1 : decode cX3_mostIsAtLeast 1 = .ok (.invokestatic 56, 3) := by decide +kernel
theorem dX3_mostIsAtLeast_4 : decode cX3_mostIsAtLeast 4 = .ok (.ifCond .ne 5, 3) := by decide +kernel
theorem dX3_mostIsAtLeast_7 : decode cX3_mostIsAtLeast 7 = .ok (.iconst 0, 1) := by decide +kernel
theorem dX3_mostIsAtLeast_8 : decode cX3_mostIsAtLeast 8 = .ok (.ireturn, 1) := by decide +kernel
theorem dX3_mostIsAtLeast_9 : decode cX3_mostIsAtLeast 9 = .ok (.aload_n 1, 1) := by decide +kernel
theorem dX3_mostIsAtLeast_10 : decode cX3_mostIsAtLeast 10 = .ok (.aload_n 0, 1) := by decide +kernel
theorem dX3_mostIsAtLeast_11 : decode cX3_mostIsAtLeast 11 = .ok (.iload_n 2, 1) := by decide +kernel
theorem dX3_mostIsAtLeast_12 : decode cX3_mostIsAtLeast 12 = .ok (.iconst (-1), 1) := by decide +kernel
theorem dX3_mostIsAtLeast_13 : decode cX3_mostIsAtLeast 13 = .ok (.invokevirtual 59, 3) := by decide +kernel
theorem dX3_mostIsAtLeast_16 : decode cX3_mostIsAtLeast 16 = .ok (.aload_n 1, 1) := by decide +kernel
theorem dX3_mostIsAtLeast_17 : decode cX3_mostIsAtLeast 17 = .ok (.invokevirtual 68, 3) := by decide +kernel
theorem dX3_mostIsAtLeast_20 : decode cX3_mostIsAtLeast 20 = .ok (.iload_n 3, 1) := by decide +kernel
theorem dX3_mostIsAtLeast_21 : decode cX3_mostIsAtLeast 21 = .ok (.if_icmp .lt 7, 3) := by decide +kernel
theorem dX3_mostIsAtLeast_24 : decode cX3_mostIsAtLeast 24 = .ok (.iconst 1, 1) := by decide +kernel
theorem dX3_mostIsAtLeast_25 : decode cX3_mostIsAtLeast 25 = .ok (.goto 4, 3) := by decide +kernel
theorem dX3_mostIsAtLeast_28 : decode cX3_mostIsAtLeast 28 = .ok (.iconst 0, 1) := by decide +kernel
theorem dX3_mostIsAtLeast_29 : decode cX3_mostIsAtLeast 29 = .ok (.ireturn, 1) := by decide +kernel
theorem dX4_turn_0 : decode cX4_turn 0 = .ok (.iload_n 1, 1) := by decide +kernel
theorem dX4_turn_1 : decode cX4_turn 1 = .ok (.bipush 16, 2) := by decide +kernel
theorem dX4_turn_3 : decode cX4_turn 3 = .ok (.idiv, 1) := by decide +kernel
theorem dX4_turn_4 : decode cX4_turn 4 = .ok (.istore_n 2, 1) := by decide +kernel
theorem dX4_turn_5 : decode cX4_turn 5 = .ok (.iload_n 2, 1) := by decide +kernel
theorem dX4_turn_6 : decode cX4_turn 6 = .ok (.iconst 3, 1) := by decide +kernel
theorem dX4_turn_7 : decode cX4_turn 7 = .ok (.irem, 1) := by decide +kernel
theorem dX4_turn_8 : decode cX4_turn 8 = .ok (.istore_n 3, 1) := by decide +kernel
theorem dX4_turn_9 : decode cX4_turn 9 = .ok (.iload_n 1, 1) := by decide +kernel
theorem dX4_turn_10 : decode cX4_turn 10 = .ok (.bipush 16, 2) := by decide +kernel
theorem dX4_turn_12 : decode cX4_turn 12 = .ok (.irem, 1) := by decide +kernel
theorem dX4_turn_13 : decode cX4_turn 13 = .ok (.tableswitch 111 0 13 #[71, 71, 71, 71, 71, 71, 71, 71, 71, 83, 95, 95, 95, 103], 71) := by decide +kernel
theorem dX4_turn_84 : decode cX4_turn 84 = .ok (.aload_n 0, 1) := by decide +kernel
theorem dX4_turn_85 : decode cX4_turn 85 = .ok (.iload_n 1, 1) := by decide +kernel
theorem dX4_turn_86 : decode cX4_turn 86 = .ok (.bipush 16, 2) := by decide +kernel
theorem dX4_turn_88 : decode cX4_turn 88 = .ok (.irem, 1) := by decide +kernel
theorem dX4_turn_89 : decode cX4_turn 89 = .ok (.iload_n 2, 1) := by decide +kernel
theorem dX4_turn_90 : decode cX4_turn 90 = .ok (.invokestatic 7, 3) := by decide +kernel
theorem dX4_turn_93 : decode cX4_turn 93 = .ok (.goto 47, 3) := by decide +kernel
theorem dX4_turn_96 : decode cX4_turn 96 = .ok (.aload_n 0, 1) := by decide +kernel
theorem dX4_turn_97 : decode cX4_turn 97 = .ok (.iload_n 2, 1) := by decide +kernel
theorem dX4_turn_98 : decode cX4_turn 98 = .ok (.bipush 16, 2) := by decide +kernel
theorem dX4_turn_100 : decode cX4_turn 100 = .ok (.irem, 1) := by decide +kernel
theorem dX4_turn_101 : decode cX4_turn 101 = .ok (.invokevirtual 13, 3) := by decide +kernel
theorem dX4_turn_104 : decode cX4_turn 104 = .ok (.pop, 1) := by decide +kernel
theorem dX4_turn_105 : decode cX4_turn 105 = .ok (.goto 35, 3) := by decide +kernel
theorem dX4_turn_108 : decode cX4_turn 108 = .ok (.aload_n 0, 1) := by decide +kernel
theorem dX4_turn_109 : decode cX4_turn 109 = .ok (.invokevirtual 19, 3) := by decide +kernel
theorem dX4_turn_112 : decode cX4_turn 112 = .ok (.pop, 1) := by decide +kernel
theorem dX4_turn_113 : decode cX4_turn 113 = .ok (.goto 27, 3) := by decide +kernel
theorem dX4_turn_116 : decode cX4_turn 116 = .ok (.aload_n 0, 1) := by decide +kernel
theorem dX4_turn_117 : decode cX4_turn 117 = .ok (.iload_n 2, 1) := by decide +kernel
theorem dX4_turn_118 : decode cX4_turn 118 = .ok (.invokestatic 23, 3) := by decide +kernel
theorem dX4_turn_121 : decode cX4_turn 121 = .ok (.goto 19, 3) := by decide +kernel
theorem dX4_turn_124 : decode cX4_turn 124 = .ok (.aload_n 0, 1) := by decide +kernel
theorem dX4_turn_125 : decode cX4_turn 125 = .ok (.iload_n 3, 1) := by decide +kernel
theorem dX4_turn_126 : decode cX4_turn 126 = .ok (.iconst 1, 1) := by decide +kernel
theorem dX4_turn_127 : decode cX4_turn 127 = .ok (.iload_n 2, 1) := by decide +kernel
theorem dX4_turn_128 : decode cX4_turn 128 = .ok (.bipush 32, 2) := by decide +kernel
theorem dX4_turn_130 : decode cX4_turn 130 = .ok (.idiv, 1) := by decide +kernel
theorem dX4_turn_131 : decode cX4_turn 131 = .ok (.sipush 999, 3) := by decide +kernel
theorem dX4_turn_134 : decode cX4_turn 134 = .ok (.irem, 1) := by decide +kernel
theorem dX4_turn_135 : decode cX4_turn 135 = .ok (.iadd, 1) := by decide +kernel
theorem dX4_turn_136 : decode cX4_turn 136 = .ok (.invokevirtual 27, 3) := by decide +kernel
theorem dX4_turn_139 : decode cX4_turn 139 = .ok (.pop, 1) := by decide +kernel
theorem dX4_turn_140 : decode cX4_turn 140 = .ok (.return_, 1) := by decide +kernel
theorem dX4_tell_0 : decode cX4_tell 0 = .ok (.iload_n 2, 1) := by decide +kernel
theorem dX4_tell_1 : decode cX4_tell 1 = .ok (.iconst 3, 1) := by decide +kernel
theorem dX4_tell_2 : decode cX4_tell 2 = .ok (.irem, 1) := by decide +kernel
theorem dX4_tell_3 : decode cX4_tell 3 = .ok (.istore_n 3, 1) := by decide +kernel
theorem dX4_tell_4 : decode cX4_tell 4 = .ok (.iload_n 2, 1) := by decide +kernel
theorem dX4_tell_5 : decode cX4_tell 5 = .ok (.iconst 4, 1) := by decide +kernel
theorem dX4_tell_6 : decode cX4_tell 6 = .ok (.idiv, 1) := by decide +kernel
theorem dX4_tell_7 : decode cX4_tell 7 = .ok (.bipush 6, 2) := by decide +kernel
theorem dX4_tell_9 : decode cX4_tell 9 = .ok (.irem, 1) := by decide +kernel
theorem dX4_tell_10 : decode cX4_tell 10 = .ok (.istore 4, 2) := by decide +kernel
theorem dX4_tell_12 : decode cX4_tell 12 = .ok (.iconst 1, 1) := by decide +kernel
theorem dX4_tell_13 : decode cX4_tell 13 = .ok (.iload_n 2, 1) := by decide +kernel
theorem dX4_tell_14 : decode cX4_tell 14 = .ok (.sipush 256, 3) := by decide +kernel
theorem dX4_tell_17 : decode cX4_tell 17 = .ok (.idiv, 1) := by decide +kernel
theorem dX4_tell_18 : decode cX4_tell 18 = .ok (.sipush 400, 3) := by decide +kernel
theorem dX4_tell_21 : decode cX4_tell 21 = .ok (.irem, 1) := by decide +kernel
theorem dX4_tell_22 : decode cX4_tell 22 = .ok (.iadd, 1) := by decide +kernel
theorem dX4_tell_23 : decode cX4_tell 23 = .ok (.istore 5, 2) := by decide +kernel
theorem dX4_tell_25 : decode cX4_tell 25 = .ok (.iload_n 2, 1) := by decide +kernel
theorem dX4_tell_26 : decode cX4_tell 26 = .ok (.bipush 8, 2) := by decide +kernel
theorem dX4_tell_28 : decode cX4_tell 28 = .ok (.idiv, 1) := by decide +kernel
theorem dX4_tell_29 : decode cX4_tell 29 = .ok (.bipush 21, 2) := by decide +kernel
theorem dX4_tell_31 : decode cX4_tell 31 = .ok (.irem, 1) := by decide +kernel
theorem dX4_tell_32 : decode cX4_tell 32 = .ok (.istore 6, 2) := by decide +kernel
theorem dX4_tell_34 : decode cX4_tell 34 = .ok (.iload_n 1, 1) := by decide +kernel
theorem dX4_tell_35 : decode cX4_tell 35 = .ok (.iconst 3, 1) := by decide +kernel
theorem dX4_tell_36 : decode cX4_tell 36 = .ok (.if_icmp .gt 38, 3) := by decide +kernel
theorem dX4_tell_39 : decode cX4_tell 39 = .ok (.aload_n 0, 1) := by decide +kernel
theorem dX4_tell_40 : decode cX4_tell 40 = .ok (.iload_n 3, 1) := by decide +kernel
theorem dX4_tell_41 : decode cX4_tell 41 = .ok (.iload 4, 2) := by decide +kernel
theorem dX4_tell_43 : decode cX4_tell 43 = .ok (.iconst 0, 1) := by decide +kernel
theorem dX4_tell_44 : decode cX4_tell 44 = .ok (.iconst 1, 1) := by decide +kernel
theorem dX4_tell_45 : decode cX4_tell 45 = .ok (.iload_n 2, 1) := by decide +kernel
theorem dX4_tell_46 : decode cX4_tell 46 = .ok (.bipush 32, 2) := by decide +kernel
theorem dX4_tell_48 : decode cX4_tell 48 = .ok (.idiv, 1) := by decide +kernel
theorem dX4_tell_49 : decode cX4_tell 49 = .ok (.bipush 20, 2) := by decide +kernel
theorem dX4_tell_51 : decode cX4_tell 51 = .ok (.irem, 1) := by decide +kernel
theorem dX4_tell_52 : decode cX4_tell 52 = .ok (.iadd, 1) := by decide +kernel
theorem dX4_tell_53 : decode cX4_tell 53 = .ok (.iconst 1, 1) := by decide +kernel
theorem dX4_tell_54 : decode cX4_tell 54 = .ok (.iload_n 2, 1) := by decide +kernel
theorem dX4_tell_55 : decode cX4_tell 55 = .ok (.sipush 640, 3) := by decide +kernel
theorem dX4_tell_58 : decode cX4_tell 58 = .ok (.idiv, 1) := by decide +kernel
theorem dX4_tell_59 : decode cX4_tell 59 = .ok (.bipush 40, 2) := by decide +kernel
theorem dX4_tell_61 : decode cX4_tell 61 = .ok (.irem, 1) := by decide +kernel
theorem dX4_tell_62 : decode cX4_tell 62 = .ok (.iadd, 1) := by decide +kernel
theorem dX4_tell_63 : decode cX4_tell 63 = .ok (.iload 5, 2) := by decide +kernel
theorem dX4_tell_65 : decode cX4_tell 65 = .ok (.iload 6, 2) := by decide +kernel
theorem dX4_tell_67 : decode cX4_tell 67 = .ok (.invokevirtual 31, 3) := by decide +kernel
theorem dX4_tell_70 : decode cX4_tell 70 = .ok (.pop, 1) := by decide +kernel
theorem dX4_tell_71 : decode cX4_tell 71 = .ok (.goto 79, 3) := by decide +kernel
theorem dX4_tell_74 : decode cX4_tell 74 = .ok (.iload_n 1, 1) := by decide +kernel
theorem dX4_tell_75 : decode cX4_tell 75 = .ok (.iconst 5, 1) := by decide +kernel
theorem dX4_tell_76 : decode cX4_tell 76 = .ok (.if_icmp .gt 38, 3) := by decide +kernel
theorem dX4_tell_79 : decode cX4_tell 79 = .ok (.aload_n 0, 1) := by decide +kernel
theorem dX4_tell_80 : decode cX4_tell 80 = .ok (.iload_n 3, 1) := by decide +kernel
theorem dX4_tell_81 : decode cX4_tell 81 = .ok (.iload 4, 2) := by decide +kernel
theorem dX4_tell_83 : decode cX4_tell 83 = .ok (.iconst 1, 1) := by decide +kernel
theorem dX4_tell_84 : decode cX4_tell 84 = .ok (.iconst 1, 1) := by decide +kernel
theorem dX4_tell_85 : decode cX4_tell 85 = .ok (.iload_n 2, 1) := by decide +kernel
theorem dX4_tell_86 : decode cX4_tell 86 = .ok (.bipush 32, 2) := by decide +kernel
theorem dX4_tell_88 : decode cX4_tell 88 = .ok (.idiv, 1) := by decide +kernel
theorem dX4_tell_89 : decode cX4_tell 89 = .ok (.bipush 9, 2) := by decide +kernel
theorem dX4_tell_91 : decode cX4_tell 91 = .ok (.irem, 1) := by decide +kernel
theorem dX4_tell_92 : decode cX4_tell 92 = .ok (.iadd, 1) := by decide +kernel
theorem dX4_tell_93 : decode cX4_tell 93 = .ok (.iconst 1, 1) := by decide +kernel
theorem dX4_tell_94 : decode cX4_tell 94 = .ok (.iload_n 2, 1) := by decide +kernel
theorem dX4_tell_95 : decode cX4_tell 95 = .ok (.sipush 288, 3) := by decide +kernel
theorem dX4_tell_98 : decode cX4_tell 98 = .ok (.idiv, 1) := by decide +kernel
theorem dX4_tell_99 : decode cX4_tell 99 = .ok (.bipush 60, 2) := by decide +kernel
theorem dX4_tell_101 : decode cX4_tell 101 = .ok (.irem, 1) := by decide +kernel
theorem dX4_tell_102 : decode cX4_tell 102 = .ok (.iadd, 1) := by decide +kernel
theorem dX4_tell_103 : decode cX4_tell 103 = .ok (.iload 5, 2) := by decide +kernel
theorem dX4_tell_105 : decode cX4_tell 105 = .ok (.iload 6, 2) := by decide +kernel
theorem dX4_tell_107 : decode cX4_tell 107 = .ok (.invokevirtual 31, 3) := by decide +kernel
theorem dX4_tell_110 : decode cX4_tell 110 = .ok (.pop, 1) := by decide +kernel
theorem dX4_tell_111 : decode cX4_tell 111 = .ok (.goto 39, 3) := by decide +kernel
theorem dX4_tell_114 : decode cX4_tell 114 = .ok (.iconst 1, 1) := by decide +kernel
theorem dX4_tell_115 : decode cX4_tell 115 = .ok (.iload_n 2, 1) := by decide +kernel
theorem dX4_tell_116 : decode cX4_tell 116 = .ok (.bipush 32, 2) := by decide +kernel
theorem dX4_tell_118 : decode cX4_tell 118 = .ok (.idiv, 1) := by decide +kernel
theorem dX4_tell_119 : decode cX4_tell 119 = .ok (.sipush 900, 3) := by decide +kernel
theorem dX4_tell_122 : decode cX4_tell 122 = .ok (.irem, 1) := by decide +kernel
theorem dX4_tell_123 : decode cX4_tell 123 = .ok (.iadd, 1) := by decide +kernel
theorem dX4_tell_124 : decode cX4_tell 124 = .ok (.istore 7, 2) := by decide +kernel
theorem dX4_tell_126 : decode cX4_tell 126 = .ok (.aload_n 0, 1) := by decide +kernel
theorem dX4_tell_127 : decode cX4_tell 127 = .ok (.iload_n 3, 1) := by decide +kernel
theorem dX4_tell_128 : decode cX4_tell 128 = .ok (.iload 4, 2) := by decide +kernel
theorem dX4_tell_130 : decode cX4_tell 130 = .ok (.iconst 2, 1) := by decide +kernel
theorem dX4_tell_131 : decode cX4_tell 131 = .ok (.iload 7, 2) := by decide +kernel
theorem dX4_tell_133 : decode cX4_tell 133 = .ok (.iload 7, 2) := by decide +kernel
theorem dX4_tell_135 : decode cX4_tell 135 = .ok (.iload_n 2, 1) := by decide +kernel
theorem dX4_tell_136 : decode cX4_tell 136 = .ok (.sipush 256, 3) := by decide +kernel
theorem dX4_tell_139 : decode cX4_tell 139 = .ok (.idiv, 1) := by decide +kernel
theorem dX4_tell_140 : decode cX4_tell 140 = .ok (.bipush 90, 2) := by decide +kernel
theorem dX4_tell_142 : decode cX4_tell 142 = .ok (.irem, 1) := by decide +kernel
theorem dX4_tell_143 : decode cX4_tell 143 = .ok (.iadd, 1) := by decide +kernel
theorem dX4_tell_144 : decode cX4_tell 144 = .ok (.iconst 0, 1) := by decide +kernel
theorem dX4_tell_145 : decode cX4_tell 145 = .ok (.iconst 0, 1) := by decide +kernel
theorem dX4_tell_146 : decode cX4_tell 146 = .ok (.invokevirtual 31, 3) := by decide +kernel
theorem dX4_tell_149 : decode cX4_tell 149 = .ok (.pop, 1) := by decide +kernel
theorem dX4_tell_150 : decode cX4_tell 150 = .ok (.return_, 1) := by decide +kernel
theorem dX4_changeSetting_0 : decode cX4_changeSetting 0 = .ok (.iload_n 1, 1) := by decide +kernel
theorem dX4_changeSetting_1 : decode cX4_changeSetting 1 = .ok (.bipush 8, 2) := by decide +kernel
theorem dX4_changeSetting_3 : decode cX4_changeSetting 3 = .ok (.idiv, 1) := by decide +kernel
theorem dX4_changeSetting_4 : decode cX4_changeSetting 4 = .ok (.iconst 2, 1) := by decide +kernel
theorem dX4_changeSetting_5 : decode cX4_changeSetting 5 = .ok (.irem, 1) := by decide +kernel
theorem dX4_changeSetting_6 : decode cX4_changeSetting 6 = .ok (.ifCond .ne 16, 3) := by decide +kernel
theorem dX4_changeSetting_9 : decode cX4_changeSetting 9 = .ok (.aload_n 0, 1) := by decide +kernel
theorem dX4_changeSetting_10 : decode cX4_changeSetting 10 = .ok (.iconst 0, 1) := by decide +kernel
theorem dX4_changeSetting_11 : decode cX4_changeSetting 11 = .ok (.iload_n 1, 1) := by decide +kernel
theorem dX4_changeSetting_12 : decode cX4_changeSetting 12 = .ok (.bipush 6, 2) := by decide +kernel
theorem dX4_changeSetting_14 : decode cX4_changeSetting 14 = .ok (.irem, 1) := by decide +kernel
theorem dX4_changeSetting_15 : decode cX4_changeSetting 15 = .ok (.invokevirtual 35, 3) := by decide +kernel
theorem dX4_changeSetting_18 : decode cX4_changeSetting 18 = .ok (.pop, 1) := by decide +kernel
theorem dX4_changeSetting_19 : decode cX4_changeSetting 19 = .ok (.goto 16, 3) := by decide +kernel
theorem dX4_changeSetting_22 : decode cX4_changeSetting 22 = .ok (.aload_n 0, 1) := by decide +kernel
theorem dX4_changeSetting_23 : decode cX4_changeSetting 23 = .ok (.iconst 1, 1) := by decide +kernel
theorem dX4_changeSetting_24 : decode cX4_changeSetting 24 = .ok (.iload_n 1, 1) := by decide +kernel
theorem dX4_changeSetting_25 : decode cX4_changeSetting 25 = .ok (.bipush 16, 2) := by decide +kernel
theorem dX4_changeSetting_27 : decode cX4_changeSetting 27 = .ok (.idiv, 1) := by decide +kernel
theorem dX4_changeSetting_28 : decode cX4_changeSetting 28 = .ok (.bipush 51, 2) := by decide +kernel
theorem dX4_changeSetting_30 : decode cX4_changeSetting 30 = .ok (.irem, 1) := by decide +kernel
theorem dX4_changeSetting_31 : decode cX4_changeSetting 31 = .ok (.invokevirtual 35, 3) := by decide +kernel
theorem dX4_changeSetting_34 : decode cX4_changeSetting 34 = .ok (.pop, 1) := by decide +kernel
theorem dX4_changeSetting_35 : decode cX4_changeSetting 35 = .ok (.return_, 1) := by decide +kernel
theorem dX5_init_0 : decode cX5_init 0 = .ok (.aload_n 0, 1) := by decide +kernel
theorem dX5_init_1 : decode cX5_init 1 = .ok (.invokespecial 3, 3) := by decide +kernel
theorem dX5_init_4 : decode cX5_init 4 = .ok (.aload_n 0, 1) := by decide +kernel
theorem dX5_init_5 : decode cX5_init 5 = .ok (.bipush 120, 2) := by decide +kernel
theorem dX5_init_7 : decode cX5_init 7 = .ok (.newarray .int, 2) := by decide +kernel
theorem dX5_init_9 : decode cX5_init 9 = .ok (.putfield 11, 3) := by decide +kernel
theorem dX5_init_12 : decode cX5_init 12 = .ok (.aload_n 0, 1) := by decide +kernel
theorem dX5_init_13 : decode cX5_init 13 = .ok (.bipush 6, 2) := by decide +kernel
theorem dX5_init_15 : decode cX5_init 15 = .ok (.newarray .int, 2) := by decide +kernel
theorem dX5_init_17 : decode cX5_init 17 = .ok (.putfield 15, 3) := by decide +kernel
theorem dX5_init_20 : decode cX5_init 20 = .ok (.return_, 1) := by decide +kernel
theorem dX5_isFull_0 : decode cX5_isFull 0 = .ok (.aload_n 0, 1) := by decide +kernel
theorem dX5_isFull_1 : decode cX5_isFull 1 = .ok (.getfield 18, 3) := by decide +kernel
theorem dX5_isFull_4 : decode cX5_isFull 4 = .ok (.bipush 120, 2) := by decide +kernel
theorem dX5_isFull_6 : decode cX5_isFull 6 = .ok (.if_icmp .lt 7, 3) := by decide +kernel
theorem dX5_isFull_9 : decode cX5_isFull 9 = .ok (.iconst 1, 1) := by decide +kernel
theorem dX5_isFull_10 : decode cX5_isFull 10 = .ok (.goto 4, 3) := by decide +kernel
theorem dX5_isFull_13 : decode cX5_isFull 13 = .ok (.iconst 0, 1) := by decide +kernel
theorem dX5_isFull_14 : decode cX5_isFull 14 = .ok (.ireturn, 1) := by decide +kernel
theorem dX5_add_0 : decode cX5_add 0 = .ok (.aload_n 0, 1) := by decide +kernel
theorem dX5_add_1 : decode cX5_add 1 = .ok (.getfield 11, 3) := by decide +kernel
theorem dX5_add_4 : decode cX5_add 4 = .ok (.aload_n 0, 1) := by decide +kernel
theorem dX5_add_5 : decode cX5_add 5 = .ok (.getfield 18, 3) := by decide +kernel
theorem dX5_add_8 : decode cX5_add 8 = .ok (.iload_n 1, 1) := by decide +kernel
theorem dX5_add_9 : decode cX5_add 9 = .ok (.iastore, 1) := by decide +kernel
theorem dX5_add_10 : decode cX5_add 10 = .ok (.aload_n 0, 1) := by decide +kernel
theorem dX5_add_11 : decode cX5_add 11 = .ok (.dup, 1) := by decide +kernel
theorem dX5_add_12 : decode cX5_add 12 = .ok (.getfield 18, 3) := by decide +kernel
theorem dX5_add_15 : decode cX5_add 15 = .ok (.iconst 1, 1) := by decide +kernel
theorem dX5_add_16 : decode cX5_add 16 = .ok (.iadd, 1) := by decide +kernel
theorem dX5_add_17 : decode cX5_add 17 = .ok (.putfield 18, 3) := by decide +kernel
theorem dX5_add_20 : decode cX5_add 20 = .ok (.aload_n 0, 1) := by decide +kernel
theorem dX5_add_21 : decode cX5_add 21 = .ok (.getfield 18, 3) := by decide +kernel
theorem dX5_add_24 : decode cX5_add 24 = .ok (.ireturn, 1) := by decide +kernel
theorem dX5_command_0 : decode cX5_command 0 = .ok (.aload_n 0, 1) := by decide +kernel
theorem dX5_command_1 : decode cX5_command 1 = .ok (.getfield 22, 3) := by decide +kernel
theorem dX5_command_4 : decode cX5_command 4 = .ok (.ireturn, 1) := by decide +kernel
theorem dX5_number_0 : decode cX5_number 0 = .ok (.aload_n 0, 1) := by decide +kernel
theorem dX5_number_1 : decode cX5_number 1 = .ok (.getfield 15, 3) := by decide +kernel
theorem dX5_number_4 : decode cX5_number 4 = .ok (.iload_n 1, 1) := by decide +kernel
theorem dX5_number_5 : decode cX5_number 5 = .ok (.iaload, 1) := by decide +kernel
theorem dX5_number_6 : decode cX5_number 6 = .ok (.ireturn, 1) := by decide +kernel
theorem dX5_findError_0 : decode cX5_findError 0 = .ok (.aload_n 0, 1) := by decide +kernel
theorem dX5_findError_1 : decode cX5_findError 1 = .ok (.invokevirtual 25, 3) := by decide +kernel
theorem dX5_findError_4 : decode cX5_findError 4 = .ok (.ifCond .ne 8, 3) := by decide +kernel
theorem dX5_findError_7 : decode cX5_findError 7 = .ok (.aload_n 0, 1) := by decide +kernel
theorem dX5_findError_8 : decode cX5_findError 8 = .ok (.getfield 29, 3) := by decide +kernel
theorem dX5_findError_11 : decode cX5_findError 11 = .ok (.ireturn, 1) := by decide +kernel
theorem dX5_findError_12 : decode cX5_findError 12 = .ok (.iconst 0, 1) := by decide +kernel
theorem dX5_findError_13 : decode cX5_findError 13 = .ok (.istore_n 1, 1) := by decide +kernel
theorem dX5_findError_14 : decode cX5_findError 14 = .ok (.iload_n 1, 1) := by decide +kernel
theorem dX5_findError_15 : decode cX5_findError 15 = .ok (.bipush 120, 2) := by decide +kernel
theorem dX5_findError_17 : decode cX5_findError 17 = .ok (.if_icmp .ge 32, 3) := by decide +kernel
theorem dX5_findError_20 : decode cX5_findError 20 = .ok (.aload_n 0, 1) := by decide +kernel
theorem dX5_findError_21 : decode cX5_findError 21 = .ok (.getfield 29, 3) := by decide +kernel
theorem dX5_findError_24 : decode cX5_findError 24 = .ok (.aload_n 0, 1) := by decide +kernel
theorem dX5_findError_25 : decode cX5_findError 25 = .ok (.getfield 18, 3) := by decide +kernel
theorem dX5_findError_28 : decode cX5_findError 28 = .ok (.if_icmp .ge 21, 3) := by decide +kernel
theorem dX5_findError_31 : decode cX5_findError 31 = .ok (.aload_n 0, 1) := by decide +kernel
theorem dX5_findError_32 : decode cX5_findError 32 = .ok (.invokevirtual 32, 3) := by decide +kernel
theorem dX5_findError_35 : decode cX5_findError 35 = .ok (.ifCond .ne 8, 3) := by decide +kernel
theorem dX5_findError_38 : decode cX5_findError 38 = .ok (.aload_n 0, 1) := by decide +kernel
theorem dX5_findError_39 : decode cX5_findError 39 = .ok (.getfield 29, 3) := by decide +kernel
theorem dX5_findError_42 : decode cX5_findError 42 = .ok (.ireturn, 1) := by decide +kernel
theorem dX5_findError_43 : decode cX5_findError 43 = .ok (.iinc 1 1, 3) := by decide +kernel
theorem dX5_findError_46 : decode cX5_findError 46 = .ok (.goto (-32), 3) := by decide +kernel
theorem dX5_findError_49 : decode cX5_findError 49 = .ok (.iconst (-1), 1) := by decide +kernel
theorem dX5_findError_50 : decode cX5_findError 50 = .ok (.ireturn, 1) := by decide +kernel
theorem dX5_readHead_0 : decode cX5_readHead 0 = .ok (.aload_n 0, 1) := by decide +kernel
theorem dX5_readHead_1 : decode cX5_readHead 1 = .ok (.iconst 0, 1) := by decide +kernel
theorem dX5_readHead_2 : decode cX5_readHead 2 = .ok (.putfield 29, 3) := by decide +kernel
theorem dX5_readHead_5 : decode cX5_readHead 5 = .ok (.aload_n 0, 1) := by decide +kernel
theorem dX5_readHead_6 : decode cX5_readHead 6 = .ok (.invokevirtual 35, 3) := by decide +kernel
theorem dX5_readHead_9 : decode cX5_readHead 9 = .ok (.bipush 80, 2) := by decide +kernel
theorem dX5_readHead_11 : decode cX5_readHead 11 = .ok (.if_icmp .eq 5, 3) := by decide +kernel
theorem dX5_readHead_14 : decode cX5_readHead 14 = .ok (.iconst 0, 1) := by decide +kernel
theorem dX5_readHead_15 : decode cX5_readHead 15 = .ok (.ireturn, 1) := by decide +kernel
theorem dX5_readHead_16 : decode cX5_readHead 16 = .ok (.aload_n 0, 1) := by decide +kernel
theorem dX5_readHead_17 : decode cX5_readHead 17 = .ok (.iconst 1, 1) := by decide +kernel
theorem dX5_readHead_18 : decode cX5_readHead 18 = .ok (.putfield 29, 3) := by decide +kernel
theorem dX5_readHead_21 : decode cX5_readHead 21 = .ok (.iconst 1, 1) := by decide +kernel
theorem dX5_readHead_22 : decode cX5_readHead 22 = .ok (.ireturn, 1) := by decide +kernel
theorem dX5_readCommand_0 : decode cX5_readCommand 0 = .ok (.aload_n 0, 1) := by decide +kernel
theorem dX5_readCommand_1 : decode cX5_readCommand 1 = .ok (.aload_n 0, 1) := by decide +kernel
theorem dX5_readCommand_2 : decode cX5_readCommand 2 = .ok (.invokevirtual 35, 3) := by decide +kernel
theorem dX5_readCommand_5 : decode cX5_readCommand 5 = .ok (.putfield 22, 3) := by decide +kernel
theorem dX5_readCommand_8 : decode cX5_readCommand 8 = .ok (.aload_n 0, 1) := by decide +kernel
theorem dX5_readCommand_9 : decode cX5_readCommand 9 = .ok (.getfield 22, 3) := by decide +kernel
theorem dX5_readCommand_12 : decode cX5_readCommand 12 = .ok (.tableswitch 152 100 119 #[120, 152, 152, 152, 152, 152, 152, 152, 152, 152, 152, 104, 152, 136, 152, 96, 128, 152, 144, 112], 96) := by decide +kernel
theorem dX5_readCommand_108 : decode cX5_readCommand 108 = .ok (.aload_n 0, 1) := by decide +kernel
theorem dX5_readCommand_109 : decode cX5_readCommand 109 = .ok (.getstatic 39, 3) := by decide +kernel
theorem dX5_readCommand_112 : decode cX5_readCommand 112 = .ok (.invokevirtual 42, 3) := by decide +kernel
theorem dX5_readCommand_115 : decode cX5_readCommand 115 = .ok (.ireturn, 1) := by decide +kernel
theorem dX5_readCommand_116 : decode cX5_readCommand 116 = .ok (.aload_n 0, 1) := by decide +kernel
theorem dX5_readCommand_117 : decode cX5_readCommand 117 = .ok (.getstatic 46, 3) := by decide +kernel
theorem dX5_readCommand_120 : decode cX5_readCommand 120 = .ok (.invokevirtual 42, 3) := by decide +kernel
theorem dX5_readCommand_123 : decode cX5_readCommand 123 = .ok (.ireturn, 1) := by decide +kernel
theorem dX5_readCommand_124 : decode cX5_readCommand 124 = .ok (.aload_n 0, 1) := by decide +kernel
theorem dX5_readCommand_125 : decode cX5_readCommand 125 = .ok (.getstatic 49, 3) := by decide +kernel
theorem dX5_readCommand_128 : decode cX5_readCommand 128 = .ok (.invokevirtual 42, 3) := by decide +kernel
theorem dX5_readCommand_131 : decode cX5_readCommand 131 = .ok (.ireturn, 1) := by decide +kernel
theorem dX5_readCommand_132 : decode cX5_readCommand 132 = .ok (.aload_n 0, 1) := by decide +kernel
theorem dX5_readCommand_133 : decode cX5_readCommand 133 = .ok (.getstatic 52, 3) := by decide +kernel
theorem dX5_readCommand_136 : decode cX5_readCommand 136 = .ok (.invokevirtual 42, 3) := by decide +kernel
theorem dX5_readCommand_139 : decode cX5_readCommand 139 = .ok (.ireturn, 1) := by decide +kernel
theorem dX5_readCommand_140 : decode cX5_readCommand 140 = .ok (.aload_n 0, 1) := by decide +kernel
theorem dX5_readCommand_141 : decode cX5_readCommand 141 = .ok (.getstatic 55, 3) := by decide +kernel
theorem dX5_readCommand_144 : decode cX5_readCommand 144 = .ok (.invokevirtual 42, 3) := by decide +kernel
theorem dX5_readCommand_147 : decode cX5_readCommand 147 = .ok (.ireturn, 1) := by decide +kernel
theorem dX5_readCommand_148 : decode cX5_readCommand 148 = .ok (.aload_n 0, 1) := by decide +kernel
theorem dX5_readCommand_149 : decode cX5_readCommand 149 = .ok (.getstatic 58, 3) := by decide +kernel
theorem dX5_readCommand_152 : decode cX5_readCommand 152 = .ok (.invokevirtual 42, 3) := by decide +kernel
theorem dX5_readCommand_155 : decode cX5_readCommand 155 = .ok (.ireturn, 1) := by decide +kernel
theorem dX5_readCommand_156 : decode cX5_readCommand 156 = .ok (.aload_n 0, 1) := by decide +kernel
theorem dX5_readCommand_157 : decode cX5_readCommand 157 = .ok (.getstatic 61, 3) := by decide +kernel
theorem dX5_readCommand_160 : decode cX5_readCommand 160 = .ok (.invokevirtual 42, 3) := by decide +kernel
theorem dX5_readCommand_163 : decode cX5_readCommand 163 = .ok (.ireturn, 1) := by decide +kernel
theorem dX5_readCommand_164 : decode cX5_readCommand 164 = .ok (.iconst 0, 1) := by decide +kernel
theorem dX5_readCommand_165 : decode cX5_readCommand 165 = .ok (.ireturn, 1) := by decide +kernel
theorem dX5_signHere_0 : decode cX5_signHere 0 = .ok (.aload_n 0, 1) := by decide +kernel
theorem dX5_signHere_1 : decode cX5_signHere 1 = .ok (.getfield 29, 3) := by decide +kernel
theorem dX5_signHere_4 : decode cX5_signHere 4 = .ok (.aload_n 0, 1) := by decide +kernel
theorem dX5_signHere_5 : decode cX5_signHere 5 = .ok (.getfield 18, 3) := by decide +kernel
theorem dX5_signHere_8 : decode cX5_signHere 8 = .ok (.if_icmp .ge 15, 3) := by decide +kernel
theorem dX5_signHere_11 : decode cX5_signHere 11 = .ok (.aload_n 0, 1) := by decide +kernel
theorem dX5_signHere_12 : decode cX5_signHere 12 = .ok (.getfield 11, 3) := by decide +kernel
theorem dX5_signHere_15 : decode cX5_signHere 15 = .ok (.aload_n 0, 1) := by decide +kernel
theorem dX5_signHere_16 : decode cX5_signHere 16 = .ok (.getfield 29, 3) := by decide +kernel
theorem dX5_signHere_19 : decode cX5_signHere 19 = .ok (.iaload, 1) := by decide +kernel
theorem dX5_signHere_20 : decode cX5_signHere 20 = .ok (.goto 4, 3) := by decide +kernel
theorem dX5_signHere_23 : decode cX5_signHere 23 = .ok (.iconst (-1), 1) := by decide +kernel
theorem dX5_signHere_24 : decode cX5_signHere 24 = .ok (.ireturn, 1) := by decide +kernel
theorem dX5_readNumbers_0 : decode cX5_readNumbers 0 = .ok (.aload_n 0, 1) := by decide +kernel
theorem dX5_readNumbers_1 : decode cX5_readNumbers 1 = .ok (.dup, 1) := by decide +kernel
theorem dX5_readNumbers_2 : decode cX5_readNumbers 2 = .ok (.getfield 29, 3) := by decide +kernel
theorem dX5_readNumbers_5 : decode cX5_readNumbers 5 = .ok (.iconst 1, 1) := by decide +kernel
theorem dX5_readNumbers_6 : decode cX5_readNumbers 6 = .ok (.iadd, 1) := by decide +kernel
theorem dX5_readNumbers_7 : decode cX5_readNumbers 7 = .ok (.putfield 29, 3) := by decide +kernel
theorem dX5_readNumbers_10 : decode cX5_readNumbers 10 = .ok (.iconst 0, 1) := by decide +kernel
theorem dX5_readNumbers_11 : decode cX5_readNumbers 11 = .ok (.istore_n 2, 1) := by decide +kernel
theorem dX5_readNumbers_12 : decode cX5_readNumbers 12 = .ok (.iload_n 2, 1) := by decide +kernel
theorem dX5_readNumbers_13 : decode cX5_readNumbers 13 = .ok (.bipush 6, 2) := by decide +kernel
theorem dX5_readNumbers_15 : decode cX5_readNumbers 15 = .ok (.if_icmp .ge 60, 3) := by decide +kernel
theorem dX5_readNumbers_18 : decode cX5_readNumbers 18 = .ok (.iconst 3, 1) := by decide +kernel
theorem dX5_readNumbers_19 : decode cX5_readNumbers 19 = .ok (.iload_n 2, 1) := by decide +kernel
theorem dX5_readNumbers_20 : decode cX5_readNumbers 20 = .ok (.imul, 1) := by decide +kernel
theorem dX5_readNumbers_21 : decode cX5_readNumbers 21 = .ok (.iconst 2, 1) := by decide +kernel
theorem dX5_readNumbers_22 : decode cX5_readNumbers 22 = .ok (.iadd, 1) := by decide +kernel
theorem dX5_readNumbers_23 : decode cX5_readNumbers 23 = .ok (.aload_n 1, 1) := by decide +kernel
theorem dX5_readNumbers_24 : decode cX5_readNumbers 24 = .ok (.arraylength, 1) := by decide +kernel
theorem dX5_readNumbers_25 : decode cX5_readNumbers 25 = .ok (.if_icmp .ge 50, 3) := by decide +kernel
theorem dX5_readNumbers_28 : decode cX5_readNumbers 28 = .ok (.aload_n 0, 1) := by decide +kernel
theorem dX5_readNumbers_29 : decode cX5_readNumbers 29 = .ok (.getfield 15, 3) := by decide +kernel
theorem dX5_readNumbers_32 : decode cX5_readNumbers 32 = .ok (.iload_n 2, 1) := by decide +kernel
theorem dX5_readNumbers_33 : decode cX5_readNumbers 33 = .ok (.aload_n 0, 1) := by decide +kernel
theorem dX5_readNumbers_34 : decode cX5_readNumbers 34 = .ok (.aload_n 1, 1) := by decide +kernel
theorem dX5_readNumbers_35 : decode cX5_readNumbers 35 = .ok (.iconst 3, 1) := by decide +kernel
theorem dX5_readNumbers_36 : decode cX5_readNumbers 36 = .ok (.iload_n 2, 1) := by decide +kernel
theorem dX5_readNumbers_37 : decode cX5_readNumbers 37 = .ok (.imul, 1) := by decide +kernel
theorem dX5_readNumbers_38 : decode cX5_readNumbers 38 = .ok (.iaload, 1) := by decide +kernel
theorem dX5_readNumbers_39 : decode cX5_readNumbers 39 = .ok (.aload_n 1, 1) := by decide +kernel
theorem dX5_readNumbers_40 : decode cX5_readNumbers 40 = .ok (.iconst 3, 1) := by decide +kernel
theorem dX5_readNumbers_41 : decode cX5_readNumbers 41 = .ok (.iload_n 2, 1) := by decide +kernel
theorem dX5_readNumbers_42 : decode cX5_readNumbers 42 = .ok (.imul, 1) := by decide +kernel
theorem dX5_readNumbers_43 : decode cX5_readNumbers 43 = .ok (.iconst 1, 1) := by decide +kernel
theorem dX5_readNumbers_44 : decode cX5_readNumbers 44 = .ok (.iadd, 1) := by decide +kernel
theorem dX5_readNumbers_45 : decode cX5_readNumbers 45 = .ok (.iaload, 1) := by decide +kernel
theorem dX5_readNumbers_46 : decode cX5_readNumbers 46 = .ok (.aload_n 1, 1) := by decide +kernel
theorem dX5_readNumbers_47 : decode cX5_readNumbers 47 = .ok (.iconst 3, 1) := by decide +kernel
theorem dX5_readNumbers_48 : decode cX5_readNumbers 48 = .ok (.iload_n 2, 1) := by decide +kernel
theorem dX5_readNumbers_49 : decode cX5_readNumbers 49 = .ok (.imul, 1) := by decide +kernel
theorem dX5_readNumbers_50 : decode cX5_readNumbers 50 = .ok (.iconst 2, 1) := by decide +kernel
theorem dX5_readNumbers_51 : decode cX5_readNumbers 51 = .ok (.iadd, 1) := by decide +kernel
theorem dX5_readNumbers_52 : decode cX5_readNumbers 52 = .ok (.iaload, 1) := by decide +kernel
theorem dX5_readNumbers_53 : decode cX5_readNumbers 53 = .ok (.invokevirtual 64, 3) := by decide +kernel
theorem dX5_readNumbers_56 : decode cX5_readNumbers 56 = .ok (.iastore, 1) := by decide +kernel
theorem dX5_readNumbers_57 : decode cX5_readNumbers 57 = .ok (.aload_n 0, 1) := by decide +kernel
theorem dX5_readNumbers_58 : decode cX5_readNumbers 58 = .ok (.getfield 15, 3) := by decide +kernel
theorem dX5_readNumbers_61 : decode cX5_readNumbers 61 = .ok (.iload_n 2, 1) := by decide +kernel
theorem dX5_readNumbers_62 : decode cX5_readNumbers 62 = .ok (.iaload, 1) := by decide +kernel
theorem dX5_readNumbers_63 : decode cX5_readNumbers 63 = .ok (.iconst (-1), 1) := by decide +kernel
theorem dX5_readNumbers_64 : decode cX5_readNumbers 64 = .ok (.if_icmp .ne 5, 3) := by decide +kernel
theorem dX5_readNumbers_67 : decode cX5_readNumbers 67 = .ok (.iconst 0, 1) := by decide +kernel
theorem dX5_readNumbers_68 : decode cX5_readNumbers 68 = .ok (.ireturn, 1) := by decide +kernel
theorem dX5_readNumbers_69 : decode cX5_readNumbers 69 = .ok (.iinc 2 1, 3) := by decide +kernel
theorem dX5_readNumbers_72 : decode cX5_readNumbers 72 = .ok (.goto (-60), 3) := by decide +kernel
theorem dX5_readNumbers_75 : decode cX5_readNumbers 75 = .ok (.iconst 1, 1) := by decide +kernel
theorem dX5_readNumbers_76 : decode cX5_readNumbers 76 = .ok (.ireturn, 1) := by decide +kernel
theorem dX5_readNumber_0 : decode cX5_readNumber 0 = .ok (.iconst 0, 1) := by decide +kernel
theorem dX5_readNumber_1 : decode cX5_readNumber 1 = .ok (.istore 4, 2) := by decide +kernel
theorem dX5_readNumber_3 : decode cX5_readNumber 3 = .ok (.iload_n 1, 1) := by decide +kernel
theorem dX5_readNumber_4 : decode cX5_readNumber 4 = .ok (.iconst 1, 1) := by decide +kernel
theorem dX5_readNumber_5 : decode cX5_readNumber 5 = .ok (.isub, 1) := by decide +kernel
theorem dX5_readNumber_6 : decode cX5_readNumber 6 = .ok (.istore 5, 2) := by decide +kernel
theorem dX5_readNumber_8 : decode cX5_readNumber 8 = .ok (.iload 5, 2) := by decide +kernel
theorem dX5_readNumber_10 : decode cX5_readNumber 10 = .ok (.ifCond .lt 75, 3) := by decide +kernel
theorem dX5_readNumber_13 : decode cX5_readNumber 13 = .ok (.aload_n 0, 1) := by decide +kernel
theorem dX5_readNumber_14 : decode cX5_readNumber 14 = .ok (.invokevirtual 35, 3) := by decide +kernel
theorem dX5_readNumber_17 : decode cX5_readNumber 17 = .ok (.istore 6, 2) := by decide +kernel
theorem dX5_readNumber_19 : decode cX5_readNumber 19 = .ok (.iload 6, 2) := by decide +kernel
theorem dX5_readNumber_21 : decode cX5_readNumber 21 = .ok (.bipush 48, 2) := by decide +kernel
theorem dX5_readNumber_23 : decode cX5_readNumber 23 = .ok (.if_icmp .lt 31, 3) := by decide +kernel
theorem dX5_readNumber_26 : decode cX5_readNumber 26 = .ok (.iload 6, 2) := by decide +kernel
theorem dX5_readNumber_28 : decode cX5_readNumber 28 = .ok (.bipush 57, 2) := by decide +kernel
theorem dX5_readNumber_30 : decode cX5_readNumber 30 = .ok (.if_icmp .gt 24, 3) := by decide +kernel
theorem dX5_readNumber_33 : decode cX5_readNumber 33 = .ok (.bipush 10, 2) := by decide +kernel
theorem dX5_readNumber_35 : decode cX5_readNumber 35 = .ok (.iload 4, 2) := by decide +kernel
theorem dX5_readNumber_37 : decode cX5_readNumber 37 = .ok (.imul, 1) := by decide +kernel
theorem dX5_readNumber_38 : decode cX5_readNumber 38 = .ok (.iload 6, 2) := by decide +kernel
theorem dX5_readNumber_40 : decode cX5_readNumber 40 = .ok (.iadd, 1) := by decide +kernel
theorem dX5_readNumber_41 : decode cX5_readNumber 41 = .ok (.bipush 48, 2) := by decide +kernel
theorem dX5_readNumber_43 : decode cX5_readNumber 43 = .ok (.isub, 1) := by decide +kernel
theorem dX5_readNumber_44 : decode cX5_readNumber 44 = .ok (.iload 5, 2) := by decide +kernel
theorem dX5_readNumber_46 : decode cX5_readNumber 46 = .ok (.iload_n 2, 1) := by decide +kernel
theorem dX5_readNumber_47 : decode cX5_readNumber 47 = .ok (.iload_n 3, 1) := by decide +kernel
theorem dX5_readNumber_48 : decode cX5_readNumber 48 = .ok (.invokestatic 68, 3) := by decide +kernel
theorem dX5_readNumber_51 : decode cX5_readNumber 51 = .ok (.ifCond .ne 5, 3) := by decide +kernel
theorem dX5_readNumber_54 : decode cX5_readNumber 54 = .ok (.iconst (-1), 1) := by decide +kernel
theorem dX5_readNumber_55 : decode cX5_readNumber 55 = .ok (.ireturn, 1) := by decide +kernel
theorem dX5_readNumber_56 : decode cX5_readNumber 56 = .ok (.bipush 10, 2) := by decide +kernel
theorem dX5_readNumber_58 : decode cX5_readNumber 58 = .ok (.iload 4, 2) := by decide +kernel
theorem dX5_readNumber_60 : decode cX5_readNumber 60 = .ok (.imul, 1) := by decide +kernel
theorem dX5_readNumber_61 : decode cX5_readNumber 61 = .ok (.iload 6, 2) := by decide +kernel
theorem dX5_readNumber_63 : decode cX5_readNumber 63 = .ok (.iadd, 1) := by decide +kernel
theorem dX5_readNumber_64 : decode cX5_readNumber 64 = .ok (.bipush 48, 2) := by decide +kernel
theorem dX5_readNumber_66 : decode cX5_readNumber 66 = .ok (.isub, 1) := by decide +kernel
theorem dX5_readNumber_67 : decode cX5_readNumber 67 = .ok (.istore 4, 2) := by decide +kernel
theorem dX5_readNumber_69 : decode cX5_readNumber 69 = .ok (.aload_n 0, 1) := by decide +kernel
theorem dX5_readNumber_70 : decode cX5_readNumber 70 = .ok (.dup, 1) := by decide +kernel
theorem dX5_readNumber_71 : decode cX5_readNumber 71 = .ok (.getfield 29, 3) := by decide +kernel
theorem dX5_readNumber_74 : decode cX5_readNumber 74 = .ok (.iconst 1, 1) := by decide +kernel
theorem dX5_readNumber_75 : decode cX5_readNumber 75 = .ok (.iadd, 1) := by decide +kernel
theorem dX5_readNumber_76 : decode cX5_readNumber 76 = .ok (.putfield 29, 3) := by decide +kernel
theorem dX5_readNumber_79 : decode cX5_readNumber 79 = .ok (.iinc 5 (-1), 3) := by decide +kernel
theorem dX5_readNumber_82 : decode cX5_readNumber 82 = .ok (.goto (-74), 3) := by decide +kernel
theorem dX5_readNumber_85 : decode cX5_readNumber 85 = .ok (.iload 4, 2) := by decide +kernel
theorem dX5_readNumber_87 : decode cX5_readNumber 87 = .ok (.ireturn, 1) := by decide +kernel
theorem dX5_leadsInto_0 : decode cX5_leadsInto 0 = .ok (.iload_n 0, 1) := by decide +kernel
theorem dX5_leadsInto_1 : decode cX5_leadsInto 1 = .ok (.istore 4, 2) := by decide +kernel
theorem dX5_leadsInto_3 : decode cX5_leadsInto 3 = .ok (.iload_n 0, 1) := by decide +kernel
theorem dX5_leadsInto_4 : decode cX5_leadsInto 4 = .ok (.istore 5, 2) := by decide +kernel
theorem dX5_leadsInto_6 : decode cX5_leadsInto 6 = .ok (.iconst 0, 1) := by decide +kernel
theorem dX5_leadsInto_7 : decode cX5_leadsInto 7 = .ok (.istore 6, 2) := by decide +kernel
theorem dX5_leadsInto_9 : decode cX5_leadsInto 9 = .ok (.iload 6, 2) := by decide +kernel
theorem dX5_leadsInto_11 : decode cX5_leadsInto 11 = .ok (.iload_n 1, 1) := by decide +kernel
theorem dX5_leadsInto_12 : decode cX5_leadsInto 12 = .ok (.if_icmp .ge 26, 3) := by decide +kernel
theorem dX5_leadsInto_15 : decode cX5_leadsInto 15 = .ok (.bipush 10, 2) := by decide +kernel
theorem dX5_leadsInto_17 : decode cX5_leadsInto 17 = .ok (.iload 4, 2) := by decide +kernel
theorem dX5_leadsInto_19 : decode cX5_leadsInto 19 = .ok (.imul, 1) := by decide +kernel
theorem dX5_leadsInto_20 : decode cX5_leadsInto 20 = .ok (.istore 4, 2) := by decide +kernel
theorem dX5_leadsInto_22 : decode cX5_leadsInto 22 = .ok (.bipush 10, 2) := by decide +kernel
theorem dX5_leadsInto_24 : decode cX5_leadsInto 24 = .ok (.iload 5, 2) := by decide +kernel
theorem dX5_leadsInto_26 : decode cX5_leadsInto 26 = .ok (.imul, 1) := by decide +kernel
theorem dX5_leadsInto_27 : decode cX5_leadsInto 27 = .ok (.bipush 9, 2) := by decide +kernel
theorem dX5_leadsInto_29 : decode cX5_leadsInto 29 = .ok (.iadd, 1) := by decide +kernel
theorem dX5_leadsInto_30 : decode cX5_leadsInto 30 = .ok (.istore 5, 2) := by decide +kernel
theorem dX5_leadsInto_32 : decode cX5_leadsInto 32 = .ok (.iinc 6 1, 3) := by decide +kernel
theorem dX5_leadsInto_35 : decode cX5_leadsInto 35 = .ok (.goto (-26), 3) := by decide +kernel
theorem dX5_leadsInto_38 : decode cX5_leadsInto 38 = .ok (.iload 4, 2) := by decide +kernel
theorem dX5_leadsInto_40 : decode cX5_leadsInto 40 = .ok (.iload_n 3, 1) := by decide +kernel
theorem dX5_leadsInto_41 : decode cX5_leadsInto 41 = .ok (.if_icmp .gt 13, 3) := by decide +kernel
theorem dX5_leadsInto_44 : decode cX5_leadsInto 44 = .ok (.iload_n 2, 1) := by decide +kernel
theorem dX5_leadsInto_45 : decode cX5_leadsInto 45 = .ok (.iload 5, 2) := by decide +kernel
theorem dX5_leadsInto_47 : decode cX5_leadsInto 47 = .ok (.if_icmp .gt 7, 3) := by decide +kernel
theorem dX5_leadsInto_50 : decode cX5_leadsInto 50 = .ok (.iconst 1, 1) := by decide +kernel
theorem dX5_leadsInto_51 : decode cX5_leadsInto 51 = .ok (.goto 4, 3) := by decide +kernel
theorem dX5_leadsInto_54 : decode cX5_leadsInto 54 = .ok (.iconst 0, 1) := by decide +kernel
theorem dX5_leadsInto_55 : decode cX5_leadsInto 55 = .ok (.ireturn, 1) := by decide +kernel
theorem dX6_init_0 : decode cX6_init 0 = .ok (.aload_n 0, 1) := by decide +kernel
theorem dX6_init_1 : decode cX6_init 1 = .ok (.invokespecial 1, 3) := by decide +kernel
theorem dX6_init_4 : decode cX6_init 4 = .ok (.aload_n 0, 1) := by decide +kernel
theorem dX6_init_5 : decode cX6_init 5 = .ok (.new 7, 3) := by decide +kernel
theorem dX6_init_8 : decode cX6_init 8 = .ok (.dup, 1) := by decide +kernel
theorem dX6_init_9 : decode cX6_init 9 = .ok (.invokespecial 9, 3) := by decide +kernel
theorem dX6_init_12 : decode cX6_init 12 = .ok (.putfield 10, 3) := by decide +kernel
theorem dX6_init_15 : decode cX6_init 15 = .ok (.aload_n 0, 1) := by decide +kernel
theorem dX6_init_16 : decode cX6_init 16 = .ok (.new 7, 3) := by decide +kernel
theorem dX6_init_19 : decode cX6_init 19 = .ok (.dup, 1) := by decide +kernel
theorem dX6_init_20 : decode cX6_init 20 = .ok (.invokespecial 9, 3) := by decide +kernel
theorem dX6_init_23 : decode cX6_init 23 = .ok (.putfield 16, 3) := by decide +kernel
theorem dX6_init_26 : decode cX6_init 26 = .ok (.aload_n 0, 1) := by decide +kernel
theorem dX6_init_27 : decode cX6_init 27 = .ok (.iconst 2, 1) := by decide +kernel
theorem dX6_init_28 : decode cX6_init 28 = .ok (.anewarray 7, 3) := by decide +kernel
theorem dX6_init_31 : decode cX6_init 31 = .ok (.putfield 19, 3) := by decide +kernel
theorem dX6_init_34 : decode cX6_init 34 = .ok (.aload_n 0, 1) := by decide +kernel
theorem dX6_init_35 : decode cX6_init 35 = .ok (.iconst 2, 1) := by decide +kernel
theorem dX6_init_36 : decode cX6_init 36 = .ok (.newarray .boolean, 2) := by decide +kernel
theorem dX6_init_38 : decode cX6_init 38 = .ok (.putfield 23, 3) := by decide +kernel
theorem dX6_init_41 : decode cX6_init 41 = .ok (.aload_n 0, 1) := by decide +kernel
theorem dX6_init_42 : decode cX6_init 42 = .ok (.new 27, 3) := by decide +kernel
theorem dX6_init_45 : decode cX6_init 45 = .ok (.dup, 1) := by decide +kernel
theorem dX6_init_46 : decode cX6_init 46 = .ok (.invokespecial 29, 3) := by decide +kernel
theorem dX6_init_49 : decode cX6_init 49 = .ok (.putfield 30, 3) := by decide +kernel
theorem dX6_init_52 : decode cX6_init 52 = .ok (.aload_n 0, 1) := by decide +kernel
theorem dX6_init_53 : decode cX6_init 53 = .ok (.new 34, 3) := by decide +kernel
theorem dX6_init_56 : decode cX6_init 56 = .ok (.dup, 1) := by decide +kernel
theorem dX6_init_57 : decode cX6_init 57 = .ok (.invokespecial 36, 3) := by decide +kernel
theorem dX6_init_60 : decode cX6_init 60 = .ok (.putfield 37, 3) := by decide +kernel
theorem dX6_init_63 : decode cX6_init 63 = .ok (.aload_n 0, 1) := by decide +kernel
theorem dX6_init_64 : decode cX6_init 64 = .ok (.new 41, 3) := by decide +kernel
theorem dX6_init_67 : decode cX6_init 67 = .ok (.dup, 1) := by decide +kernel
theorem dX6_init_68 : decode cX6_init 68 = .ok (.invokespecial 43, 3) := by decide +kernel
theorem dX6_init_71 : decode cX6_init 71 = .ok (.putfield 44, 3) := by decide +kernel
theorem dX6_init_74 : decode cX6_init 74 = .ok (.iconst 0, 1) := by decide +kernel
theorem dX6_init_75 : decode cX6_init 75 = .ok (.istore_n 1, 1) := by decide +kernel
theorem dX6_init_76 : decode cX6_init 76 = .ok (.iload_n 1, 1) := by decide +kernel
theorem dX6_init_77 : decode cX6_init 77 = .ok (.aload_n 0, 1) := by decide +kernel
theorem dX6_init_78 : decode cX6_init 78 = .ok (.getfield 19, 3) := by decide +kernel
theorem dX6_init_81 : decode cX6_init 81 = .ok (.arraylength, 1) := by decide +kernel
theorem dX6_init_82 : decode cX6_init 82 = .ok (.if_icmp .ge 22, 3) := by decide +kernel
theorem dX6_init_85 : decode cX6_init 85 = .ok (.aload_n 0, 1) := by decide +kernel
theorem dX6_init_86 : decode cX6_init 86 = .ok (.getfield 19, 3) := by decide +kernel
theorem dX6_init_89 : decode cX6_init 89 = .ok (.iload_n 1, 1) := by decide +kernel
theorem dX6_init_90 : decode cX6_init 90 = .ok (.new 7, 3) := by decide +kernel
theorem dX6_init_93 : decode cX6_init 93 = .ok (.dup, 1) := by decide +kernel
theorem dX6_init_94 : decode cX6_init 94 = .ok (.invokespecial 9, 3) := by decide +kernel
theorem dX6_init_97 : decode cX6_init 97 = .ok (.aastore, 1) := by decide +kernel
theorem dX6_init_98 : decode cX6_init 98 = .ok (.iinc 1 1, 3) := by decide +kernel
theorem dX6_init_101 : decode cX6_init 101 = .ok (.goto (-25), 3) := by decide +kernel
theorem dX6_init_104 : decode cX6_init 104 = .ok (.return_, 1) := by decide +kernel
theorem dX6_append_0 : decode cX6_append 0 = .ok (.iconst 0, 1) := by decide +kernel
theorem dX6_append_1 : decode cX6_append 1 = .ok (.iload_n 1, 1) := by decide +kernel
theorem dX6_append_2 : decode cX6_append 2 = .ok (.if_icmp .gt 14, 3) := by decide +kernel
theorem dX6_append_5 : decode cX6_append 5 = .ok (.iload_n 1, 1) := by decide +kernel
theorem dX6_append_6 : decode cX6_append 6 = .ok (.sipush 255, 3) := by decide +kernel
theorem dX6_append_9 : decode cX6_append 9 = .ok (.if_icmp .gt 7, 3) := by decide +kernel
theorem dX6_append_12 : decode cX6_append 12 = .ok (.iconst 1, 1) := by decide +kernel
theorem dX6_append_13 : decode cX6_append 13 = .ok (.goto 4, 3) := by decide +kernel
theorem dX6_append_16 : decode cX6_append 16 = .ok (.iconst 0, 1) := by decide +kernel
theorem dX6_append_17 : decode cX6_append 17 = .ok (.invokestatic 48, 3) := by decide +kernel
theorem dX6_append_20 : decode cX6_append 20 = .ok (.aload_n 0, 1) := by decide +kernel
theorem dX6_append_21 : decode cX6_append 21 = .ok (.getfield 37, 3) := by decide +kernel
theorem dX6_append_24 : decode cX6_append 24 = .ok (.invokevirtual 52, 3) := by decide +kernel
theorem dX6_append_27 : decode cX6_append 27 = .ok (.ifCond .eq 13, 3) := by decide +kernel
theorem dX6_append_30 : decode cX6_append 30 = .ok (.new 56, 3) := by decide +kernel
theorem dX6_append_33 : decode cX6_append 33 = .ok (.dup, 1) := by decide +kernel
theorem dX6_append_34 : decode cX6_append 34 = .ok (.ldc 58, 2) := by decide +kernel
theorem dX6_append_36 : decode cX6_append 36 = .ok (.invokespecial 60, 3) := by decide +kernel
theorem dX6_append_39 : decode cX6_append 39 = .ok (.athrow, 1) := by decide +kernel
theorem dX6_append_40 : decode cX6_append 40 = .ok (.aload_n 0, 1) := by decide +kernel
theorem dX6_append_41 : decode cX6_append 41 = .ok (.getfield 37, 3) := by decide +kernel
theorem dX6_append_44 : decode cX6_append 44 = .ok (.iload_n 1, 1) := by decide +kernel
theorem dX6_append_45 : decode cX6_append 45 = .ok (.invokevirtual 63, 3) := by decide +kernel
theorem dX6_append_48 : decode cX6_append 48 = .ok (.ireturn, 1) := by decide +kernel
theorem dX6_load_0 : decode cX6_load 0 = .ok (.aload_n 0, 1) := by decide +kernel
theorem dX6_load_1 : decode cX6_load 1 = .ok (.getfield 37, 3) := by decide +kernel
theorem dX6_load_4 : decode cX6_load 4 = .ok (.invokevirtual 71, 3) := by decide +kernel
theorem dX6_load_7 : decode cX6_load 7 = .ok (.iconst (-1), 1) := by decide +kernel
theorem dX6_load_8 : decode cX6_load 8 = .ok (.if_icmp .eq 13, 3) := by decide +kernel
theorem dX6_load_11 : decode cX6_load 11 = .ok (.new 56, 3) := by decide +kernel
theorem dX6_load_14 : decode cX6_load 14 = .ok (.dup, 1) := by decide +kernel
theorem dX6_load_15 : decode cX6_load 15 = .ok (.ldc 74, 2) := by decide +kernel
theorem dX6_load_17 : decode cX6_load 17 = .ok (.invokespecial 60, 3) := by decide +kernel
theorem dX6_load_20 : decode cX6_load 20 = .ok (.athrow, 1) := by decide +kernel
theorem dX6_load_21 : decode cX6_load 21 = .ok (.aload_n 0, 1) := by decide +kernel
theorem dX6_load_22 : decode cX6_load 22 = .ok (.getfield 10, 3) := by decide +kernel
theorem dX6_load_25 : decode cX6_load 25 = .ok (.invokevirtual 76, 3) := by decide +kernel
theorem dX6_load_28 : decode cX6_load 28 = .ok (.aload_n 0, 1) := by decide +kernel
theorem dX6_load_29 : decode cX6_load 29 = .ok (.getfield 30, 3) := by decide +kernel
theorem dX6_load_32 : decode cX6_load 32 = .ok (.invokevirtual 79, 3) := by decide +kernel
theorem dX6_load_35 : decode cX6_load 35 = .ok (.iconst 0, 1) := by decide +kernel
theorem dX6_load_36 : decode cX6_load 36 = .ok (.istore_n 1, 1) := by decide +kernel
theorem dX6_load_37 : decode cX6_load 37 = .ok (.iload_n 1, 1) := by decide +kernel
theorem dX6_load_38 : decode cX6_load 38 = .ok (.aload_n 0, 1) := by decide +kernel
theorem dX6_load_39 : decode cX6_load 39 = .ok (.getfield 23, 3) := by decide +kernel
theorem dX6_load_42 : decode cX6_load 42 = .ok (.arraylength, 1) := by decide +kernel
theorem dX6_load_43 : decode cX6_load 43 = .ok (.if_icmp .ge 16, 3) := by decide +kernel
theorem dX6_load_46 : decode cX6_load 46 = .ok (.aload_n 0, 1) := by decide +kernel
theorem dX6_load_47 : decode cX6_load 47 = .ok (.getfield 23, 3) := by decide +kernel
theorem dX6_load_50 : decode cX6_load 50 = .ok (.iload_n 1, 1) := by decide +kernel
theorem dX6_load_51 : decode cX6_load 51 = .ok (.iconst 0, 1) := by decide +kernel
theorem dX6_load_52 : decode cX6_load 52 = .ok (.bastore, 1) := by decide +kernel
theorem dX6_load_53 : decode cX6_load 53 = .ok (.iinc 1 1, 3) := by decide +kernel
theorem dX6_load_56 : decode cX6_load 56 = .ok (.goto (-19), 3) := by decide +kernel
theorem dX6_load_59 : decode cX6_load 59 = .ok (.iconst 0, 1) := by decide +kernel
theorem dX6_load_60 : decode cX6_load 60 = .ok (.istore_n 1, 1) := by decide +kernel
theorem dX6_load_61 : decode cX6_load 61 = .ok (.aload_n 0, 1) := by decide +kernel
theorem dX6_load_62 : decode cX6_load 62 = .ok (.getfield 37, 3) := by decide +kernel
theorem dX6_load_65 : decode cX6_load 65 = .ok (.invokevirtual 82, 3) := by decide +kernel
theorem dX6_load_68 : decode cX6_load 68 = .ok (.pop, 1) := by decide +kernel
theorem dX6_load_69 : decode cX6_load 69 = .ok (.iconst 0, 1) := by decide +kernel
theorem dX6_load_70 : decode cX6_load 70 = .ok (.istore_n 2, 1) := by decide +kernel
theorem dX6_load_71 : decode cX6_load 71 = .ok (.iload_n 2, 1) := by decide +kernel
theorem dX6_load_72 : decode cX6_load 72 = .ok (.bipush 120, 2) := by decide +kernel
theorem dX6_load_74 : decode cX6_load 74 = .ok (.if_icmp .ge 29, 3) := by decide +kernel
theorem dX6_load_77 : decode cX6_load 77 = .ok (.aload_n 0, 1) := by decide +kernel
theorem dX6_load_78 : decode cX6_load 78 = .ok (.getfield 37, 3) := by decide +kernel
theorem dX6_load_81 : decode cX6_load 81 = .ok (.invokevirtual 85, 3) := by decide +kernel
theorem dX6_load_84 : decode cX6_load 84 = .ok (.ifCond .eq 19, 3) := by decide +kernel
theorem dX6_load_87 : decode cX6_load 87 = .ok (.aload_n 0, 1) := by decide +kernel
theorem dX6_load_88 : decode cX6_load 88 = .ok (.invokevirtual 88, 3) := by decide +kernel
theorem dX6_load_91 : decode cX6_load 91 = .ok (.ifCond .ne 6, 3) := by decide +kernel
theorem dX6_load_94 : decode cX6_load 94 = .ok (.iinc 1 1, 3) := by decide +kernel
theorem dX6_load_97 : decode cX6_load 97 = .ok (.iinc 2 1, 3) := by decide +kernel
theorem dX6_load_100 : decode cX6_load 100 = .ok (.goto (-29), 3) := by decide +kernel
theorem dX6_load_103 : decode cX6_load 103 = .ok (.iload_n 1, 1) := by decide +kernel
theorem dX6_load_104 : decode cX6_load 104 = .ok (.ireturn, 1) := by decide +kernel
theorem dX6_doCommandOfText_0 : decode cX6_doCommandOfText 0 = .ok (.aload_n 0, 1) := by decide +kernel
theorem dX6_doCommandOfText_1 : decode cX6_doCommandOfText 1 = .ok (.getfield 37, 3) := by decide +kernel
theorem dX6_doCommandOfText_4 : decode cX6_doCommandOfText 4 = .ok (.iconst 0, 1) := by decide +kernel
theorem dX6_doCommandOfText_5 : decode cX6_doCommandOfText 5 = .ok (.invokevirtual 91, 3) := by decide +kernel
theorem dX6_doCommandOfText_8 : decode cX6_doCommandOfText 8 = .ok (.istore_n 1, 1) := by decide +kernel
theorem dX6_doCommandOfText_9 : decode cX6_doCommandOfText 9 = .ok (.aload_n 0, 1) := by decide +kernel
theorem dX6_doCommandOfText_10 : decode cX6_doCommandOfText 10 = .ok (.getfield 37, 3) := by decide +kernel
theorem dX6_doCommandOfText_13 : decode cX6_doCommandOfText 13 = .ok (.iconst 1, 1) := by decide +kernel
theorem dX6_doCommandOfText_14 : decode cX6_doCommandOfText 14 = .ok (.invokevirtual 91, 3) := by decide +kernel
theorem dX6_doCommandOfText_17 : decode cX6_doCommandOfText 17 = .ok (.istore_n 2, 1) := by decide +kernel
theorem dX6_doCommandOfText_18 : decode cX6_doCommandOfText 18 = .ok (.aload_n 0, 1) := by decide +kernel
theorem dX6_doCommandOfText_19 : decode cX6_doCommandOfText 19 = .ok (.getfield 37, 3) := by decide +kernel
theorem dX6_doCommandOfText_22 : decode cX6_doCommandOfText 22 = .ok (.invokevirtual 94, 3) := by decide +kernel
theorem dX6_doCommandOfText_25 : decode cX6_doCommandOfText 25 = .ok (.tableswitch 249 100 119 #[210, 249, 249, 249, 249, 249, 249, 249, 249, 249, 249, 138, 249, 229, 249, 95, 219, 249, 239, 181], 95) := by decide +kernel
theorem dX6_doCommandOfText_120 : decode cX6_doCommandOfText 120 = .ok (.aload_n 0, 1) := by decide +kernel
theorem dX6_doCommandOfText_121 : decode cX6_doCommandOfText 121 = .ok (.getfield 10, 3) := by decide +kernel
theorem dX6_doCommandOfText_124 : decode cX6_doCommandOfText 124 = .ok (.iload_n 1, 1) := by decide +kernel
theorem dX6_doCommandOfText_125 : decode cX6_doCommandOfText 125 = .ok (.iload_n 2, 1) := by decide +kernel
theorem dX6_doCommandOfText_126 : decode cX6_doCommandOfText 126 = .ok (.iconst 0, 1) := by decide +kernel
theorem dX6_doCommandOfText_127 : decode cX6_doCommandOfText 127 = .ok (.aload_n 0, 1) := by decide +kernel
theorem dX6_doCommandOfText_128 : decode cX6_doCommandOfText 128 = .ok (.getfield 37, 3) := by decide +kernel
theorem dX6_doCommandOfText_131 : decode cX6_doCommandOfText 131 = .ok (.iconst 2, 1) := by decide +kernel
theorem dX6_doCommandOfText_132 : decode cX6_doCommandOfText 132 = .ok (.invokevirtual 91, 3) := by decide +kernel
theorem dX6_doCommandOfText_135 : decode cX6_doCommandOfText 135 = .ok (.aload_n 0, 1) := by decide +kernel
theorem dX6_doCommandOfText_136 : decode cX6_doCommandOfText 136 = .ok (.getfield 37, 3) := by decide +kernel
theorem dX6_doCommandOfText_139 : decode cX6_doCommandOfText 139 = .ok (.iconst 3, 1) := by decide +kernel
theorem dX6_doCommandOfText_140 : decode cX6_doCommandOfText 140 = .ok (.invokevirtual 91, 3) := by decide +kernel
theorem dX6_doCommandOfText_143 : decode cX6_doCommandOfText 143 = .ok (.aload_n 0, 1) := by decide +kernel
theorem dX6_doCommandOfText_144 : decode cX6_doCommandOfText 144 = .ok (.getfield 37, 3) := by decide +kernel
theorem dX6_doCommandOfText_147 : decode cX6_doCommandOfText 147 = .ok (.iconst 4, 1) := by decide +kernel
theorem dX6_doCommandOfText_148 : decode cX6_doCommandOfText 148 = .ok (.invokevirtual 91, 3) := by decide +kernel
theorem dX6_doCommandOfText_151 : decode cX6_doCommandOfText 151 = .ok (.aload_n 0, 1) := by decide +kernel
theorem dX6_doCommandOfText_152 : decode cX6_doCommandOfText 152 = .ok (.getfield 37, 3) := by decide +kernel
theorem dX6_doCommandOfText_155 : decode cX6_doCommandOfText 155 = .ok (.iconst 5, 1) := by decide +kernel
theorem dX6_doCommandOfText_156 : decode cX6_doCommandOfText 156 = .ok (.invokevirtual 91, 3) := by decide +kernel
theorem dX6_doCommandOfText_159 : decode cX6_doCommandOfText 159 = .ok (.invokevirtual 97, 3) := by decide +kernel
theorem dX6_doCommandOfText_162 : decode cX6_doCommandOfText 162 = .ok (.ireturn, 1) := by decide +kernel
theorem dX6_doCommandOfText_163 : decode cX6_doCommandOfText 163 = .ok (.aload_n 0, 1) := by decide +kernel
theorem dX6_doCommandOfText_164 : decode cX6_doCommandOfText 164 = .ok (.getfield 10, 3) := by decide +kernel
theorem dX6_doCommandOfText_167 : decode cX6_doCommandOfText 167 = .ok (.iload_n 1, 1) := by decide +kernel
theorem dX6_doCommandOfText_168 : decode cX6_doCommandOfText 168 = .ok (.iload_n 2, 1) := by decide +kernel
theorem dX6_doCommandOfText_169 : decode cX6_doCommandOfText 169 = .ok (.iconst 1, 1) := by decide +kernel
theorem dX6_doCommandOfText_170 : decode cX6_doCommandOfText 170 = .ok (.aload_n 0, 1) := by decide +kernel
theorem dX6_doCommandOfText_171 : decode cX6_doCommandOfText 171 = .ok (.getfield 37, 3) := by decide +kernel
theorem dX6_doCommandOfText_174 : decode cX6_doCommandOfText 174 = .ok (.iconst 2, 1) := by decide +kernel
theorem dX6_doCommandOfText_175 : decode cX6_doCommandOfText 175 = .ok (.invokevirtual 91, 3) := by decide +kernel
theorem dX6_doCommandOfText_178 : decode cX6_doCommandOfText 178 = .ok (.aload_n 0, 1) := by decide +kernel
theorem dX6_doCommandOfText_179 : decode cX6_doCommandOfText 179 = .ok (.getfield 37, 3) := by decide +kernel
theorem dX6_doCommandOfText_182 : decode cX6_doCommandOfText 182 = .ok (.iconst 3, 1) := by decide +kernel
theorem dX6_doCommandOfText_183 : decode cX6_doCommandOfText 183 = .ok (.invokevirtual 91, 3) := by decide +kernel
theorem dX6_doCommandOfText_186 : decode cX6_doCommandOfText 186 = .ok (.aload_n 0, 1) := by decide +kernel
theorem dX6_doCommandOfText_187 : decode cX6_doCommandOfText 187 = .ok (.getfield 37, 3) := by decide +kernel
theorem dX6_doCommandOfText_190 : decode cX6_doCommandOfText 190 = .ok (.iconst 4, 1) := by decide +kernel
theorem dX6_doCommandOfText_191 : decode cX6_doCommandOfText 191 = .ok (.invokevirtual 91, 3) := by decide +kernel
theorem dX6_doCommandOfText_194 : decode cX6_doCommandOfText 194 = .ok (.aload_n 0, 1) := by decide +kernel
theorem dX6_doCommandOfText_195 : decode cX6_doCommandOfText 195 = .ok (.getfield 37, 3) := by decide +kernel
theorem dX6_doCommandOfText_198 : decode cX6_doCommandOfText 198 = .ok (.iconst 5, 1) := by decide +kernel
theorem dX6_doCommandOfText_199 : decode cX6_doCommandOfText 199 = .ok (.invokevirtual 91, 3) := by decide +kernel
theorem dX6_doCommandOfText_202 : decode cX6_doCommandOfText 202 = .ok (.invokevirtual 97, 3) := by decide +kernel
theorem dX6_doCommandOfText_205 : decode cX6_doCommandOfText 205 = .ok (.ireturn, 1) := by decide +kernel
theorem dX6_doCommandOfText_206 : decode cX6_doCommandOfText 206 = .ok (.aload_n 0, 1) := by decide +kernel
theorem dX6_doCommandOfText_207 : decode cX6_doCommandOfText 207 = .ok (.getfield 10, 3) := by decide +kernel
theorem dX6_doCommandOfText_210 : decode cX6_doCommandOfText 210 = .ok (.iload_n 1, 1) := by decide +kernel
theorem dX6_doCommandOfText_211 : decode cX6_doCommandOfText 211 = .ok (.iload_n 2, 1) := by decide +kernel
theorem dX6_doCommandOfText_212 : decode cX6_doCommandOfText 212 = .ok (.iconst 2, 1) := by decide +kernel
theorem dX6_doCommandOfText_213 : decode cX6_doCommandOfText 213 = .ok (.aload_n 0, 1) := by decide +kernel
theorem dX6_doCommandOfText_214 : decode cX6_doCommandOfText 214 = .ok (.getfield 37, 3) := by decide +kernel
theorem dX6_doCommandOfText_217 : decode cX6_doCommandOfText 217 = .ok (.iconst 2, 1) := by decide +kernel
theorem dX6_doCommandOfText_218 : decode cX6_doCommandOfText 218 = .ok (.invokevirtual 91, 3) := by decide +kernel
theorem dX6_doCommandOfText_221 : decode cX6_doCommandOfText 221 = .ok (.aload_n 0, 1) := by decide +kernel
theorem dX6_doCommandOfText_222 : decode cX6_doCommandOfText 222 = .ok (.getfield 37, 3) := by decide +kernel
theorem dX6_doCommandOfText_225 : decode cX6_doCommandOfText 225 = .ok (.iconst 3, 1) := by decide +kernel
theorem dX6_doCommandOfText_226 : decode cX6_doCommandOfText 226 = .ok (.invokevirtual 91, 3) := by decide +kernel
theorem dX6_doCommandOfText_229 : decode cX6_doCommandOfText 229 = .ok (.iconst 0, 1) := by decide +kernel
theorem dX6_doCommandOfText_230 : decode cX6_doCommandOfText 230 = .ok (.iconst 0, 1) := by decide +kernel
theorem dX6_doCommandOfText_231 : decode cX6_doCommandOfText 231 = .ok (.invokevirtual 97, 3) := by decide +kernel
theorem dX6_doCommandOfText_234 : decode cX6_doCommandOfText 234 = .ok (.ireturn, 1) := by decide +kernel
theorem dX6_doCommandOfText_235 : decode cX6_doCommandOfText 235 = .ok (.aload_n 0, 1) := by decide +kernel
theorem dX6_doCommandOfText_236 : decode cX6_doCommandOfText 236 = .ok (.getfield 10, 3) := by decide +kernel
theorem dX6_doCommandOfText_239 : decode cX6_doCommandOfText 239 = .ok (.iload_n 1, 1) := by decide +kernel
theorem dX6_doCommandOfText_240 : decode cX6_doCommandOfText 240 = .ok (.invokevirtual 101, 3) := by decide +kernel
theorem dX6_doCommandOfText_243 : decode cX6_doCommandOfText 243 = .ok (.ireturn, 1) := by decide +kernel
theorem dX6_doCommandOfText_244 : decode cX6_doCommandOfText 244 = .ok (.aload_n 0, 1) := by decide +kernel
theorem dX6_doCommandOfText_245 : decode cX6_doCommandOfText 245 = .ok (.getfield 10, 3) := by decide +kernel
theorem dX6_doCommandOfText_248 : decode cX6_doCommandOfText 248 = .ok (.iload_n 1, 1) := by decide +kernel
theorem dX6_doCommandOfText_249 : decode cX6_doCommandOfText 249 = .ok (.iload_n 2, 1) := by decide +kernel
theorem dX6_doCommandOfText_250 : decode cX6_doCommandOfText 250 = .ok (.invokevirtual 105, 3) := by decide +kernel
theorem dX6_doCommandOfText_253 : decode cX6_doCommandOfText 253 = .ok (.ireturn, 1) := by decide +kernel
theorem dX6_doCommandOfText_254 : decode cX6_doCommandOfText 254 = .ok (.aload_n 0, 1) := by decide +kernel
theorem dX6_doCommandOfText_255 : decode cX6_doCommandOfText 255 = .ok (.getfield 10, 3) := by decide +kernel
theorem dX6_doCommandOfText_258 : decode cX6_doCommandOfText 258 = .ok (.invokevirtual 109, 3) := by decide +kernel
theorem dX6_doCommandOfText_261 : decode cX6_doCommandOfText 261 = .ok (.pop, 1) := by decide +kernel
theorem dX6_doCommandOfText_262 : decode cX6_doCommandOfText 262 = .ok (.iconst 1, 1) := by decide +kernel
theorem dX6_doCommandOfText_263 : decode cX6_doCommandOfText 263 = .ok (.ireturn, 1) := by decide +kernel
theorem dX6_doCommandOfText_264 : decode cX6_doCommandOfText 264 = .ok (.aload_n 0, 1) := by decide +kernel
theorem dX6_doCommandOfText_265 : decode cX6_doCommandOfText 265 = .ok (.getfield 10, 3) := by decide +kernel
theorem dX6_doCommandOfText_268 : decode cX6_doCommandOfText 268 = .ok (.iload_n 1, 1) := by decide +kernel
theorem dX6_doCommandOfText_269 : decode cX6_doCommandOfText 269 = .ok (.iload_n 2, 1) := by decide +kernel
theorem dX6_doCommandOfText_270 : decode cX6_doCommandOfText 270 = .ok (.invokevirtual 112, 3) := by decide +kernel
theorem dX6_doCommandOfText_273 : decode cX6_doCommandOfText 273 = .ok (.ireturn, 1) := by decide +kernel
theorem dX6_doCommandOfText_274 : decode cX6_doCommandOfText 274 = .ok (.iconst 0, 1) := by decide +kernel
theorem dX6_doCommandOfText_275 : decode cX6_doCommandOfText 275 = .ok (.ireturn, 1) := by decide +kernel
theorem dX6_about_0 : decode cX6_about 0 = .ok (.iconst 0, 1) := by decide +kernel
theorem dX6_about_1 : decode cX6_about 1 = .ok (.iload_n 1, 1) := by decide +kernel
theorem dX6_about_2 : decode cX6_about 2 = .ok (.if_icmp .gt 13, 3) := by decide +kernel
theorem dX6_about_5 : decode cX6_about 5 = .ok (.iload_n 1, 1) := by decide +kernel
theorem dX6_about_6 : decode cX6_about 6 = .ok (.bipush 9, 2) := by decide +kernel
theorem dX6_about_8 : decode cX6_about 8 = .ok (.if_icmp .gt 7, 3) := by decide +kernel
theorem dX6_about_11 : decode cX6_about 11 = .ok (.iconst 1, 1) := by decide +kernel
theorem dX6_about_12 : decode cX6_about 12 = .ok (.goto 4, 3) := by decide +kernel
theorem dX6_about_15 : decode cX6_about 15 = .ok (.iconst 0, 1) := by decide +kernel
theorem dX6_about_16 : decode cX6_about 16 = .ok (.invokestatic 48, 3) := by decide +kernel
theorem dX6_about_19 : decode cX6_about 19 = .ok (.iload_n 1, 1) := by decide +kernel
theorem dX6_about_20 : decode cX6_about 20 = .ok (.tableswitch 124 0 8 #[52, 60, 68, 76, 84, 92, 100, 108, 116], 52) := by decide +kernel
theorem dX6_about_72 : decode cX6_about 72 = .ok (.aload_n 0, 1) := by decide +kernel
theorem dX6_about_73 : decode cX6_about 73 = .ok (.getfield 10, 3) := by decide +kernel
theorem dX6_about_76 : decode cX6_about 76 = .ok (.invokevirtual 115, 3) := by decide +kernel
theorem dX6_about_79 : decode cX6_about 79 = .ok (.ireturn, 1) := by decide +kernel
theorem dX6_about_80 : decode cX6_about 80 = .ok (.aload_n 0, 1) := by decide +kernel
theorem dX6_about_81 : decode cX6_about 81 = .ok (.getfield 10, 3) := by decide +kernel
theorem dX6_about_84 : decode cX6_about 84 = .ok (.invokevirtual 118, 3) := by decide +kernel
theorem dX6_about_87 : decode cX6_about 87 = .ok (.ireturn, 1) := by decide +kernel
theorem dX6_about_88 : decode cX6_about 88 = .ok (.aload_n 0, 1) := by decide +kernel
theorem dX6_about_89 : decode cX6_about 89 = .ok (.getfield 10, 3) := by decide +kernel
theorem dX6_about_92 : decode cX6_about 92 = .ok (.invokevirtual 121, 3) := by decide +kernel
theorem dX6_about_95 : decode cX6_about 95 = .ok (.ireturn, 1) := by decide +kernel
theorem dX6_about_96 : decode cX6_about 96 = .ok (.aload_n 0, 1) := by decide +kernel
theorem dX6_about_97 : decode cX6_about 97 = .ok (.getfield 10, 3) := by decide +kernel
theorem dX6_about_100 : decode cX6_about 100 = .ok (.invokevirtual 124, 3) := by decide +kernel
theorem dX6_about_103 : decode cX6_about 103 = .ok (.ireturn, 1) := by decide +kernel
theorem dX6_about_104 : decode cX6_about 104 = .ok (.aload_n 0, 1) := by decide +kernel
theorem dX6_about_105 : decode cX6_about 105 = .ok (.getfield 10, 3) := by decide +kernel
theorem dX6_about_108 : decode cX6_about 108 = .ok (.invokevirtual 127, 3) := by decide +kernel
theorem dX6_about_111 : decode cX6_about 111 = .ok (.ireturn, 1) := by decide +kernel
theorem dX6_about_112 : decode cX6_about 112 = .ok (.aload_n 0, 1) := by decide +kernel
theorem dX6_about_113 : decode cX6_about 113 = .ok (.getfield 10, 3) := by decide +kernel
theorem dX6_about_116 : decode cX6_about 116 = .ok (.invokevirtual 130, 3) := by decide +kernel
theorem dX6_about_119 : decode cX6_about 119 = .ok (.ireturn, 1) := by decide +kernel
theorem dX6_about_120 : decode cX6_about 120 = .ok (.aload_n 0, 1) := by decide +kernel
theorem dX6_about_121 : decode cX6_about 121 = .ok (.getfield 10, 3) := by decide +kernel
theorem dX6_about_124 : decode cX6_about 124 = .ok (.invokevirtual 133, 3) := by decide +kernel
theorem dX6_about_127 : decode cX6_about 127 = .ok (.ireturn, 1) := by decide +kernel
theorem dX6_about_128 : decode cX6_about 128 = .ok (.aload_n 0, 1) := by decide +kernel
theorem dX6_about_129 : decode cX6_about 129 = .ok (.getfield 10, 3) := by decide +kernel
theorem dX6_about_132 : decode cX6_about 132 = .ok (.invokevirtual 136, 3) := by decide +kernel
theorem dX6_about_135 : decode cX6_about 135 = .ok (.ireturn, 1) := by decide +kernel
theorem dX6_about_136 : decode cX6_about 136 = .ok (.aload_n 0, 1) := by decide +kernel
theorem dX6_about_137 : decode cX6_about 137 = .ok (.getfield 10, 3) := by decide +kernel
theorem dX6_about_140 : decode cX6_about 140 = .ok (.invokevirtual 139, 3) := by decide +kernel
theorem dX6_about_143 : decode cX6_about 143 = .ok (.ireturn, 1) := by decide +kernel
theorem dX6_about_144 : decode cX6_about 144 = .ok (.aload_n 0, 1) := by decide +kernel
theorem dX6_about_145 : decode cX6_about 145 = .ok (.getfield 10, 3) := by decide +kernel
theorem dX6_about_148 : decode cX6_about 148 = .ok (.invokevirtual 142, 3) := by decide +kernel
theorem dX6_about_151 : decode cX6_about 151 = .ok (.ireturn, 1) := by decide +kernel
theorem dX6_measureOf_0 : decode cX6_measureOf 0 = .ok (.aload_n 0, 1) := by decide +kernel
theorem dX6_measureOf_1 : decode cX6_measureOf 1 = .ok (.iload_n 1, 1) := by decide +kernel
theorem dX6_measureOf_2 : decode cX6_measureOf 2 = .ok (.invokevirtual 145, 3) := by decide +kernel
theorem dX6_measureOf_5 : decode cX6_measureOf 5 = .ok (.iconst 0, 1) := by decide +kernel
theorem dX6_measureOf_6 : decode cX6_measureOf 6 = .ok (.iload_n 2, 1) := by decide +kernel
theorem dX6_measureOf_7 : decode cX6_measureOf 7 = .ok (.if_icmp .gt 13, 3) := by decide +kernel
theorem dX6_measureOf_10 : decode cX6_measureOf 10 = .ok (.iload_n 2, 1) := by decide +kernel
theorem dX6_measureOf_11 : decode cX6_measureOf 11 = .ok (.bipush 10, 2) := by decide +kernel
theorem dX6_measureOf_13 : decode cX6_measureOf 13 = .ok (.if_icmp .gt 7, 3) := by decide +kernel
theorem dX6_measureOf_16 : decode cX6_measureOf 16 = .ok (.iconst 1, 1) := by decide +kernel
theorem dX6_measureOf_17 : decode cX6_measureOf 17 = .ok (.goto 4, 3) := by decide +kernel
theorem dX6_measureOf_20 : decode cX6_measureOf 20 = .ok (.iconst 0, 1) := by decide +kernel
theorem dX6_measureOf_21 : decode cX6_measureOf 21 = .ok (.invokestatic 48, 3) := by decide +kernel
theorem dX6_measureOf_24 : decode cX6_measureOf 24 = .ok (.iload_n 2, 1) := by decide +kernel
theorem dX6_measureOf_25 : decode cX6_measureOf 25 = .ok (.lookupswitch 45 #[(9, 27), (10, 36)], 27) := by decide +kernel
theorem dX6_measureOf_52 : decode cX6_measureOf 52 = .ok (.aload_n 0, 1) := by decide +kernel
theorem dX6_measureOf_53 : decode cX6_measureOf 53 = .ok (.getfield 10, 3) := by decide +kernel
theorem dX6_measureOf_56 : decode cX6_measureOf 56 = .ok (.iload_n 1, 1) := by decide +kernel
theorem dX6_measureOf_57 : decode cX6_measureOf 57 = .ok (.invokevirtual 149, 3) := by decide +kernel
theorem dX6_measureOf_60 : decode cX6_measureOf 60 = .ok (.ireturn, 1) := by decide +kernel
theorem dX6_measureOf_61 : decode cX6_measureOf 61 = .ok (.aload_n 0, 1) := by decide +kernel
theorem dX6_measureOf_62 : decode cX6_measureOf 62 = .ok (.getfield 10, 3) := by decide +kernel
theorem dX6_measureOf_65 : decode cX6_measureOf 65 = .ok (.iload_n 1, 1) := by decide +kernel
theorem dX6_measureOf_66 : decode cX6_measureOf 66 = .ok (.invokevirtual 152, 3) := by decide +kernel
theorem dX6_measureOf_69 : decode cX6_measureOf 69 = .ok (.ireturn, 1) := by decide +kernel
theorem dX6_measureOf_70 : decode cX6_measureOf 70 = .ok (.aload_n 0, 1) := by decide +kernel
theorem dX6_measureOf_71 : decode cX6_measureOf 71 = .ok (.getfield 10, 3) := by decide +kernel
theorem dX6_measureOf_74 : decode cX6_measureOf 74 = .ok (.iload_n 1, 1) := by decide +kernel
theorem dX6_measureOf_75 : decode cX6_measureOf 75 = .ok (.iload_n 2, 1) := by decide +kernel
theorem dX6_measureOf_76 : decode cX6_measureOf 76 = .ok (.invokevirtual 155, 3) := by decide +kernel
theorem dX6_measureOf_79 : decode cX6_measureOf 79 = .ok (.ireturn, 1) := by decide +kernel
theorem dX6_tellerOf_0 : decode cX6_tellerOf 0 = .ok (.iload_n 1, 1) := by decide +kernel
theorem dX6_tellerOf_1 : decode cX6_tellerOf 1 = .ok (.invokestatic 158, 3) := by decide +kernel
theorem dX6_tellerOf_4 : decode cX6_tellerOf 4 = .ok (.iconst 0, 1) := by decide +kernel
theorem dX6_tellerOf_5 : decode cX6_tellerOf 5 = .ok (.iload_n 2, 1) := by decide +kernel
theorem dX6_tellerOf_6 : decode cX6_tellerOf 6 = .ok (.if_icmp .gt 12, 3) := by decide +kernel
theorem dX6_tellerOf_9 : decode cX6_tellerOf 9 = .ok (.iload_n 2, 1) := by decide +kernel
theorem dX6_tellerOf_10 : decode cX6_tellerOf 10 = .ok (.iconst 4, 1) := by decide +kernel
theorem dX6_tellerOf_11 : decode cX6_tellerOf 11 = .ok (.if_icmp .gt 7, 3) := by decide +kernel
theorem dX6_tellerOf_14 : decode cX6_tellerOf 14 = .ok (.iconst 1, 1) := by decide +kernel
theorem dX6_tellerOf_15 : decode cX6_tellerOf 15 = .ok (.goto 4, 3) := by decide +kernel
theorem dX6_tellerOf_18 : decode cX6_tellerOf 18 = .ok (.iconst 0, 1) := by decide +kernel
theorem dX6_tellerOf_19 : decode cX6_tellerOf 19 = .ok (.invokestatic 48, 3) := by decide +kernel
theorem dX6_tellerOf_22 : decode cX6_tellerOf 22 = .ok (.iload_n 2, 1) := by decide +kernel
theorem dX6_tellerOf_23 : decode cX6_tellerOf 23 = .ok (.tableswitch 65 0 3 #[29, 38, 47, 56], 29) := by decide +kernel
theorem dX6_tellerOf_52 : decode cX6_tellerOf 52 = .ok (.aload_n 0, 1) := by decide +kernel
theorem dX6_tellerOf_53 : decode cX6_tellerOf 53 = .ok (.getfield 10, 3) := by decide +kernel
theorem dX6_tellerOf_56 : decode cX6_tellerOf 56 = .ok (.iload_n 1, 1) := by decide +kernel
theorem dX6_tellerOf_57 : decode cX6_tellerOf 57 = .ok (.invokevirtual 161, 3) := by decide +kernel
theorem dX6_tellerOf_60 : decode cX6_tellerOf 60 = .ok (.ireturn, 1) := by decide +kernel
theorem dX6_tellerOf_61 : decode cX6_tellerOf 61 = .ok (.aload_n 0, 1) := by decide +kernel
theorem dX6_tellerOf_62 : decode cX6_tellerOf 62 = .ok (.getfield 10, 3) := by decide +kernel
theorem dX6_tellerOf_65 : decode cX6_tellerOf 65 = .ok (.iload_n 1, 1) := by decide +kernel
theorem dX6_tellerOf_66 : decode cX6_tellerOf 66 = .ok (.invokevirtual 164, 3) := by decide +kernel
theorem dX6_tellerOf_69 : decode cX6_tellerOf 69 = .ok (.ireturn, 1) := by decide +kernel
theorem dX6_tellerOf_70 : decode cX6_tellerOf 70 = .ok (.aload_n 0, 1) := by decide +kernel
theorem dX6_tellerOf_71 : decode cX6_tellerOf 71 = .ok (.getfield 10, 3) := by decide +kernel
theorem dX6_tellerOf_74 : decode cX6_tellerOf 74 = .ok (.iload_n 1, 1) := by decide +kernel
theorem dX6_tellerOf_75 : decode cX6_tellerOf 75 = .ok (.invokevirtual 167, 3) := by decide +kernel
theorem dX6_tellerOf_78 : decode cX6_tellerOf 78 = .ok (.ireturn, 1) := by decide +kernel
theorem dX6_tellerOf_79 : decode cX6_tellerOf 79 = .ok (.aload_n 0, 1) := by decide +kernel
theorem dX6_tellerOf_80 : decode cX6_tellerOf 80 = .ok (.getfield 10, 3) := by decide +kernel
theorem dX6_tellerOf_83 : decode cX6_tellerOf 83 = .ok (.iload_n 1, 1) := by decide +kernel
theorem dX6_tellerOf_84 : decode cX6_tellerOf 84 = .ok (.invokevirtual 170, 3) := by decide +kernel
theorem dX6_tellerOf_87 : decode cX6_tellerOf 87 = .ok (.ireturn, 1) := by decide +kernel
theorem dX6_tellerOf_88 : decode cX6_tellerOf 88 = .ok (.aload_n 0, 1) := by decide +kernel
theorem dX6_tellerOf_89 : decode cX6_tellerOf 89 = .ok (.getfield 10, 3) := by decide +kernel
theorem dX6_tellerOf_92 : decode cX6_tellerOf 92 = .ok (.iload_n 1, 1) := by decide +kernel
theorem dX6_tellerOf_93 : decode cX6_tellerOf 93 = .ok (.invokevirtual 173, 3) := by decide +kernel
theorem dX6_tellerOf_96 : decode cX6_tellerOf 96 = .ok (.ireturn, 1) := by decide +kernel
theorem dX6_steepleOf_0 : decode cX6_steepleOf 0 = .ok (.iload_n 1, 1) := by decide +kernel
theorem dX6_steepleOf_1 : decode cX6_steepleOf 1 = .ok (.invokestatic 176, 3) := by decide +kernel
theorem dX6_steepleOf_4 : decode cX6_steepleOf 4 = .ok (.iconst 0, 1) := by decide +kernel
theorem dX6_steepleOf_5 : decode cX6_steepleOf 5 = .ok (.iload_n 2, 1) := by decide +kernel
theorem dX6_steepleOf_6 : decode cX6_steepleOf 6 = .ok (.if_icmp .gt 12, 3) := by decide +kernel
theorem dX6_steepleOf_9 : decode cX6_steepleOf 9 = .ok (.iload_n 2, 1) := by decide +kernel
theorem dX6_steepleOf_10 : decode cX6_steepleOf 10 = .ok (.iconst 2, 1) := by decide +kernel
theorem dX6_steepleOf_11 : decode cX6_steepleOf 11 = .ok (.if_icmp .gt 7, 3) := by decide +kernel
theorem dX6_steepleOf_14 : decode cX6_steepleOf 14 = .ok (.iconst 1, 1) := by decide +kernel
theorem dX6_steepleOf_15 : decode cX6_steepleOf 15 = .ok (.goto 4, 3) := by decide +kernel
theorem dX6_steepleOf_18 : decode cX6_steepleOf 18 = .ok (.iconst 0, 1) := by decide +kernel
theorem dX6_steepleOf_19 : decode cX6_steepleOf 19 = .ok (.invokestatic 48, 3) := by decide +kernel
theorem dX6_steepleOf_22 : decode cX6_steepleOf 22 = .ok (.iload_n 2, 1) := by decide +kernel
theorem dX6_steepleOf_23 : decode cX6_steepleOf 23 = .ok (.lookupswitch 43 #[(0, 25), (1, 34)], 25) := by decide +kernel
theorem dX6_steepleOf_48 : decode cX6_steepleOf 48 = .ok (.aload_n 0, 1) := by decide +kernel
theorem dX6_steepleOf_49 : decode cX6_steepleOf 49 = .ok (.getfield 10, 3) := by decide +kernel
theorem dX6_steepleOf_52 : decode cX6_steepleOf 52 = .ok (.iload_n 1, 1) := by decide +kernel
theorem dX6_steepleOf_53 : decode cX6_steepleOf 53 = .ok (.invokevirtual 179, 3) := by decide +kernel
theorem dX6_steepleOf_56 : decode cX6_steepleOf 56 = .ok (.ireturn, 1) := by decide +kernel
theorem dX6_steepleOf_57 : decode cX6_steepleOf 57 = .ok (.aload_n 0, 1) := by decide +kernel
theorem dX6_steepleOf_58 : decode cX6_steepleOf 58 = .ok (.getfield 10, 3) := by decide +kernel
theorem dX6_steepleOf_61 : decode cX6_steepleOf 61 = .ok (.iload_n 1, 1) := by decide +kernel
theorem dX6_steepleOf_62 : decode cX6_steepleOf 62 = .ok (.invokevirtual 182, 3) := by decide +kernel
theorem dX6_steepleOf_65 : decode cX6_steepleOf 65 = .ok (.ireturn, 1) := by decide +kernel
theorem dX6_steepleOf_66 : decode cX6_steepleOf 66 = .ok (.aload_n 0, 1) := by decide +kernel
theorem dX6_steepleOf_67 : decode cX6_steepleOf 67 = .ok (.getfield 10, 3) := by decide +kernel
theorem dX6_steepleOf_70 : decode cX6_steepleOf 70 = .ok (.iload_n 1, 1) := by decide +kernel
theorem dX6_steepleOf_71 : decode cX6_steepleOf 71 = .ok (.invokevirtual 185, 3) := by decide +kernel
theorem dX6_steepleOf_74 : decode cX6_steepleOf 74 = .ok (.ireturn, 1) := by decide +kernel
theorem dX6_vote_0 : decode cX6_vote 0 = .ok (.iload_n 1, 1) := by decide +kernel
theorem dX6_vote_1 : decode cX6_vote 1 = .ok (.invokestatic 176, 3) := by decide +kernel
theorem dX6_vote_4 : decode cX6_vote 4 = .ok (.iload_n 2, 1) := by decide +kernel
theorem dX6_vote_5 : decode cX6_vote 5 = .ok (.invokestatic 188, 3) := by decide +kernel
theorem dX6_vote_8 : decode cX6_vote 8 = .ok (.invokestatic 48, 3) := by decide +kernel
theorem dX6_vote_11 : decode cX6_vote 11 = .ok (.aload_n 0, 1) := by decide +kernel
theorem dX6_vote_12 : decode cX6_vote 12 = .ok (.getfield 10, 3) := by decide +kernel
theorem dX6_vote_15 : decode cX6_vote 15 = .ok (.iload_n 1, 1) := by decide +kernel
theorem dX6_vote_16 : decode cX6_vote 16 = .ok (.iload_n 2, 1) := by decide +kernel
theorem dX6_vote_17 : decode cX6_vote 17 = .ok (.iconst (-1), 1) := by decide +kernel
theorem dX6_vote_18 : decode cX6_vote 18 = .ok (.invokevirtual 191, 3) := by decide +kernel
theorem dX6_vote_21 : decode cX6_vote 21 = .ok (.ireturn, 1) := by decide +kernel
theorem dX6_best_0 : decode cX6_best 0 = .ok (.iload_n 1, 1) := by decide +kernel
theorem dX6_best_1 : decode cX6_best 1 = .ok (.invokestatic 176, 3) := by decide +kernel
theorem dX6_best_4 : decode cX6_best 4 = .ok (.iconst 0, 1) := by decide +kernel
theorem dX6_best_5 : decode cX6_best 5 = .ok (.iload_n 2, 1) := by decide +kernel
theorem dX6_best_6 : decode cX6_best 6 = .ok (.if_icmp .gt 22, 3) := by decide +kernel
theorem dX6_best_9 : decode cX6_best 9 = .ok (.iload_n 2, 1) := by decide +kernel
theorem dX6_best_10 : decode cX6_best 10 = .ok (.iconst 2, 1) := by decide +kernel
theorem dX6_best_11 : decode cX6_best 11 = .ok (.if_icmp .gt 17, 3) := by decide +kernel
theorem dX6_best_14 : decode cX6_best 14 = .ok (.iconst 0, 1) := by decide +kernel
theorem dX6_best_15 : decode cX6_best 15 = .ok (.iload_n 3, 1) := by decide +kernel
theorem dX6_best_16 : decode cX6_best 16 = .ok (.if_icmp .gt 12, 3) := by decide +kernel
theorem dX6_best_19 : decode cX6_best 19 = .ok (.iload_n 3, 1) := by decide +kernel
theorem dX6_best_20 : decode cX6_best 20 = .ok (.iconst 1, 1) := by decide +kernel
theorem dX6_best_21 : decode cX6_best 21 = .ok (.if_icmp .gt 7, 3) := by decide +kernel
theorem dX6_best_24 : decode cX6_best 24 = .ok (.iconst 1, 1) := by decide +kernel
theorem dX6_best_25 : decode cX6_best 25 = .ok (.goto 4, 3) := by decide +kernel
theorem dX6_best_28 : decode cX6_best 28 = .ok (.iconst 0, 1) := by decide +kernel
theorem dX6_best_29 : decode cX6_best 29 = .ok (.invokestatic 48, 3) := by decide +kernel
theorem dX6_best_32 : decode cX6_best 32 = .ok (.iload_n 3, 1) := by decide +kernel
theorem dX6_best_33 : decode cX6_best 33 = .ok (.ifCond .ne 18, 3) := by decide +kernel
theorem dX6_best_36 : decode cX6_best 36 = .ok (.aload_n 0, 1) := by decide +kernel
theorem dX6_best_37 : decode cX6_best 37 = .ok (.getfield 44, 3) := by decide +kernel
theorem dX6_best_40 : decode cX6_best 40 = .ok (.aload_n 0, 1) := by decide +kernel
theorem dX6_best_41 : decode cX6_best 41 = .ok (.getfield 10, 3) := by decide +kernel
theorem dX6_best_44 : decode cX6_best 44 = .ok (.iload_n 1, 1) := by decide +kernel
theorem dX6_best_45 : decode cX6_best 45 = .ok (.invokevirtual 195, 3) := by decide +kernel
theorem dX6_best_48 : decode cX6_best 48 = .ok (.goto 16, 3) := by decide +kernel
theorem dX6_best_51 : decode cX6_best 51 = .ok (.aload_n 0, 1) := by decide +kernel
theorem dX6_best_52 : decode cX6_best 52 = .ok (.getfield 44, 3) := by decide +kernel
theorem dX6_best_55 : decode cX6_best 55 = .ok (.aload_n 0, 1) := by decide +kernel
theorem dX6_best_56 : decode cX6_best 56 = .ok (.getfield 10, 3) := by decide +kernel
theorem dX6_best_59 : decode cX6_best 59 = .ok (.iload_n 1, 1) := by decide +kernel
theorem dX6_best_60 : decode cX6_best 60 = .ok (.iconst (-1), 1) := by decide +kernel
theorem dX6_best_61 : decode cX6_best 61 = .ok (.invokevirtual 199, 3) := by decide +kernel
theorem dX6_best_64 : decode cX6_best 64 = .ok (.aload_n 0, 1) := by decide +kernel
theorem dX6_best_65 : decode cX6_best 65 = .ok (.getfield 44, 3) := by decide +kernel
theorem dX6_best_68 : decode cX6_best 68 = .ok (.iload_n 2, 1) := by decide +kernel
theorem dX6_best_69 : decode cX6_best 69 = .ok (.invokevirtual 203, 3) := by decide +kernel
theorem dX6_best_72 : decode cX6_best 72 = .ok (.ireturn, 1) := by decide +kernel
theorem dX6_setting_0 : decode cX6_setting 0 = .ok (.iload_n 1, 1) := by decide +kernel
theorem dX6_setting_1 : decode cX6_setting 1 = .ok (.invokestatic 206, 3) := by decide +kernel
theorem dX6_setting_4 : decode cX6_setting 4 = .ok (.invokestatic 48, 3) := by decide +kernel
theorem dX6_setting_7 : decode cX6_setting 7 = .ok (.aload_n 0, 1) := by decide +kernel
theorem dX6_setting_8 : decode cX6_setting 8 = .ok (.getfield 10, 3) := by decide +kernel
theorem dX6_setting_11 : decode cX6_setting 11 = .ok (.iload_n 1, 1) := by decide +kernel
theorem dX6_setting_12 : decode cX6_setting 12 = .ok (.invokevirtual 209, 3) := by decide +kernel
theorem dX6_setting_15 : decode cX6_setting 15 = .ok (.ireturn, 1) := by decide +kernel
theorem dX6_measure_0 : decode cX6_measure 0 = .ok (.iload_n 1, 1) := by decide +kernel
theorem dX6_measure_1 : decode cX6_measure 1 = .ok (.invokestatic 176, 3) := by decide +kernel
theorem dX6_measure_4 : decode cX6_measure 4 = .ok (.iload_n 2, 1) := by decide +kernel
theorem dX6_measure_5 : decode cX6_measure 5 = .ok (.invokestatic 158, 3) := by decide +kernel
theorem dX6_measure_8 : decode cX6_measure 8 = .ok (.iload_n 3, 1) := by decide +kernel
theorem dX6_measure_9 : decode cX6_measure 9 = .ok (.iload 4, 2) := by decide +kernel
theorem dX6_measure_11 : decode cX6_measure 11 = .ok (.iload 5, 2) := by decide +kernel
theorem dX6_measure_13 : decode cX6_measure 13 = .ok (.iload 6, 2) := by decide +kernel
theorem dX6_measure_15 : decode cX6_measure 15 = .ok (.iload 7, 2) := by decide +kernel
theorem dX6_measure_17 : decode cX6_measure 17 = .ok (.invokestatic 212, 3) := by decide +kernel
theorem dX6_measure_20 : decode cX6_measure 20 = .ok (.invokestatic 48, 3) := by decide +kernel
theorem dX6_measure_23 : decode cX6_measure 23 = .ok (.aload_n 0, 1) := by decide +kernel
theorem dX6_measure_24 : decode cX6_measure 24 = .ok (.getfield 10, 3) := by decide +kernel
theorem dX6_measure_27 : decode cX6_measure 27 = .ok (.invokevirtual 216, 3) := by decide +kernel
theorem dX6_measure_30 : decode cX6_measure 30 = .ok (.ifCond .eq 13, 3) := by decide +kernel
theorem dX6_measure_33 : decode cX6_measure 33 = .ok (.new 56, 3) := by decide +kernel
theorem dX6_measure_36 : decode cX6_measure 36 = .ok (.dup, 1) := by decide +kernel
theorem dX6_measure_37 : decode cX6_measure 37 = .ok (.ldc 217, 2) := by decide +kernel
theorem dX6_measure_39 : decode cX6_measure 39 = .ok (.invokespecial 60, 3) := by decide +kernel
theorem dX6_measure_42 : decode cX6_measure 42 = .ok (.athrow, 1) := by decide +kernel
theorem dX6_measure_43 : decode cX6_measure 43 = .ok (.aload_n 0, 1) := by decide +kernel
theorem dX6_measure_44 : decode cX6_measure 44 = .ok (.getfield 30, 3) := by decide +kernel
theorem dX6_measure_47 : decode cX6_measure 47 = .ok (.aload_n 0, 1) := by decide +kernel
theorem dX6_measure_48 : decode cX6_measure 48 = .ok (.getfield 10, 3) := by decide +kernel
theorem dX6_measure_51 : decode cX6_measure 51 = .ok (.invokevirtual 219, 3) := by decide +kernel
theorem dX6_measure_54 : decode cX6_measure 54 = .ok (.aload_n 0, 1) := by decide +kernel
theorem dX6_measure_55 : decode cX6_measure 55 = .ok (.getfield 10, 3) := by decide +kernel
theorem dX6_measure_58 : decode cX6_measure 58 = .ok (.iload_n 1, 1) := by decide +kernel
theorem dX6_measure_59 : decode cX6_measure 59 = .ok (.iload_n 2, 1) := by decide +kernel
theorem dX6_measure_60 : decode cX6_measure 60 = .ok (.iload_n 3, 1) := by decide +kernel
theorem dX6_measure_61 : decode cX6_measure 61 = .ok (.iload 4, 2) := by decide +kernel
theorem dX6_measure_63 : decode cX6_measure 63 = .ok (.iload 5, 2) := by decide +kernel
theorem dX6_measure_65 : decode cX6_measure 65 = .ok (.iload 6, 2) := by decide +kernel
theorem dX6_measure_67 : decode cX6_measure 67 = .ok (.iload 7, 2) := by decide +kernel
theorem dX6_measure_69 : decode cX6_measure 69 = .ok (.invokevirtual 223, 3) := by decide +kernel
theorem dX6_measure_72 : decode cX6_measure 72 = .ok (.ireturn, 1) := by decide +kernel
theorem dX6_drop_0 : decode cX6_drop 0 = .ok (.aload_n 0, 1) := by decide +kernel
theorem dX6_drop_1 : decode cX6_drop 1 = .ok (.iload_n 1, 1) := by decide +kernel
theorem dX6_drop_2 : decode cX6_drop 2 = .ok (.invokevirtual 145, 3) := by decide +kernel
theorem dX6_drop_5 : decode cX6_drop 5 = .ok (.aload_n 0, 1) := by decide +kernel
theorem dX6_drop_6 : decode cX6_drop 6 = .ok (.getfield 30, 3) := by decide +kernel
theorem dX6_drop_9 : decode cX6_drop 9 = .ok (.aload_n 0, 1) := by decide +kernel
theorem dX6_drop_10 : decode cX6_drop 10 = .ok (.getfield 10, 3) := by decide +kernel
theorem dX6_drop_13 : decode cX6_drop 13 = .ok (.invokevirtual 219, 3) := by decide +kernel
theorem dX6_drop_16 : decode cX6_drop 16 = .ok (.aload_n 0, 1) := by decide +kernel
theorem dX6_drop_17 : decode cX6_drop 17 = .ok (.getfield 10, 3) := by decide +kernel
theorem dX6_drop_20 : decode cX6_drop 20 = .ok (.iload_n 1, 1) := by decide +kernel
theorem dX6_drop_21 : decode cX6_drop 21 = .ok (.invokevirtual 227, 3) := by decide +kernel
theorem dX6_drop_24 : decode cX6_drop 24 = .ok (.ireturn, 1) := by decide +kernel
theorem dX6_trust_0 : decode cX6_trust 0 = .ok (.iload_n 1, 1) := by decide +kernel
theorem dX6_trust_1 : decode cX6_trust 1 = .ok (.invokestatic 158, 3) := by decide +kernel
theorem dX6_trust_4 : decode cX6_trust 4 = .ok (.iload_n 2, 1) := by decide +kernel
theorem dX6_trust_5 : decode cX6_trust 5 = .ok (.invokestatic 230, 3) := by decide +kernel
theorem dX6_trust_8 : decode cX6_trust 8 = .ok (.invokestatic 48, 3) := by decide +kernel
theorem dX6_trust_11 : decode cX6_trust 11 = .ok (.aload_n 0, 1) := by decide +kernel
theorem dX6_trust_12 : decode cX6_trust 12 = .ok (.getfield 30, 3) := by decide +kernel
theorem dX6_trust_15 : decode cX6_trust 15 = .ok (.aload_n 0, 1) := by decide +kernel
theorem dX6_trust_16 : decode cX6_trust 16 = .ok (.getfield 10, 3) := by decide +kernel
theorem dX6_trust_19 : decode cX6_trust 19 = .ok (.invokevirtual 219, 3) := by decide +kernel
theorem dX6_trust_22 : decode cX6_trust 22 = .ok (.aload_n 0, 1) := by decide +kernel
theorem dX6_trust_23 : decode cX6_trust 23 = .ok (.getfield 10, 3) := by decide +kernel
theorem dX6_trust_26 : decode cX6_trust 26 = .ok (.iload_n 1, 1) := by decide +kernel
theorem dX6_trust_27 : decode cX6_trust 27 = .ok (.iload_n 2, 1) := by decide +kernel
theorem dX6_trust_28 : decode cX6_trust 28 = .ok (.invokevirtual 233, 3) := by decide +kernel
theorem dX6_trust_31 : decode cX6_trust 31 = .ok (.ireturn, 1) := by decide +kernel
theorem dX6_evening_0 : decode cX6_evening 0 = .ok (.aload_n 0, 1) := by decide +kernel
theorem dX6_evening_1 : decode cX6_evening 1 = .ok (.getfield 30, 3) := by decide +kernel
theorem dX6_evening_4 : decode cX6_evening 4 = .ok (.aload_n 0, 1) := by decide +kernel
theorem dX6_evening_5 : decode cX6_evening 5 = .ok (.getfield 10, 3) := by decide +kernel
theorem dX6_evening_8 : decode cX6_evening 8 = .ok (.invokevirtual 219, 3) := by decide +kernel
theorem dX6_evening_11 : decode cX6_evening 11 = .ok (.aload_n 0, 1) := by decide +kernel
theorem dX6_evening_12 : decode cX6_evening 12 = .ok (.getfield 10, 3) := by decide +kernel
theorem dX6_evening_15 : decode cX6_evening 15 = .ok (.invokevirtual 109, 3) := by decide +kernel
theorem dX6_evening_18 : decode cX6_evening 18 = .ok (.ireturn, 1) := by decide +kernel
theorem dX6_survey_0 : decode cX6_survey 0 = .ok (.iload_n 1, 1) := by decide +kernel
theorem dX6_survey_1 : decode cX6_survey 1 = .ok (.invokestatic 176, 3) := by decide +kernel
theorem dX6_survey_4 : decode cX6_survey 4 = .ok (.iload_n 2, 1) := by decide +kernel
theorem dX6_survey_5 : decode cX6_survey 5 = .ok (.invokestatic 188, 3) := by decide +kernel
theorem dX6_survey_8 : decode cX6_survey 8 = .ok (.invokestatic 48, 3) := by decide +kernel
theorem dX6_survey_11 : decode cX6_survey 11 = .ok (.aload_n 0, 1) := by decide +kernel
theorem dX6_survey_12 : decode cX6_survey 12 = .ok (.getfield 30, 3) := by decide +kernel
theorem dX6_survey_15 : decode cX6_survey 15 = .ok (.aload_n 0, 1) := by decide +kernel
theorem dX6_survey_16 : decode cX6_survey 16 = .ok (.getfield 10, 3) := by decide +kernel
theorem dX6_survey_19 : decode cX6_survey 19 = .ok (.invokevirtual 219, 3) := by decide +kernel
theorem dX6_survey_22 : decode cX6_survey 22 = .ok (.aload_n 0, 1) := by decide +kernel
theorem dX6_survey_23 : decode cX6_survey 23 = .ok (.getfield 10, 3) := by decide +kernel
theorem dX6_survey_26 : decode cX6_survey 26 = .ok (.iload_n 1, 1) := by decide +kernel
theorem dX6_survey_27 : decode cX6_survey 27 = .ok (.iload_n 2, 1) := by decide +kernel
theorem dX6_survey_28 : decode cX6_survey 28 = .ok (.invokevirtual 236, 3) := by decide +kernel
theorem dX6_survey_31 : decode cX6_survey 31 = .ok (.ireturn, 1) := by decide +kernel
theorem dX6_set_0 : decode cX6_set 0 = .ok (.iload_n 1, 1) := by decide +kernel
theorem dX6_set_1 : decode cX6_set 1 = .ok (.iload_n 2, 1) := by decide +kernel
theorem dX6_set_2 : decode cX6_set 2 = .ok (.invokestatic 239, 3) := by decide +kernel
theorem dX6_set_5 : decode cX6_set 5 = .ok (.invokestatic 48, 3) := by decide +kernel
theorem dX6_set_8 : decode cX6_set 8 = .ok (.aload_n 0, 1) := by decide +kernel
theorem dX6_set_9 : decode cX6_set 9 = .ok (.getfield 30, 3) := by decide +kernel
theorem dX6_set_12 : decode cX6_set 12 = .ok (.aload_n 0, 1) := by decide +kernel
theorem dX6_set_13 : decode cX6_set 13 = .ok (.getfield 10, 3) := by decide +kernel
theorem dX6_set_16 : decode cX6_set 16 = .ok (.invokevirtual 219, 3) := by decide +kernel
theorem dX6_set_19 : decode cX6_set 19 = .ok (.aload_n 0, 1) := by decide +kernel
theorem dX6_set_20 : decode cX6_set 20 = .ok (.getfield 10, 3) := by decide +kernel
theorem dX6_set_23 : decode cX6_set 23 = .ok (.iload_n 1, 1) := by decide +kernel
theorem dX6_set_24 : decode cX6_set 24 = .ok (.iload_n 2, 1) := by decide +kernel
theorem dX6_set_25 : decode cX6_set 25 = .ok (.invokevirtual 242, 3) := by decide +kernel
theorem dX6_set_28 : decode cX6_set 28 = .ok (.ireturn, 1) := by decide +kernel
theorem dX6_undo_0 : decode cX6_undo 0 = .ok (.aload_n 0, 1) := by decide +kernel
theorem dX6_undo_1 : decode cX6_undo 1 = .ok (.getfield 30, 3) := by decide +kernel
theorem dX6_undo_4 : decode cX6_undo 4 = .ok (.invokevirtual 245, 3) := by decide +kernel
theorem dX6_undo_7 : decode cX6_undo 7 = .ok (.ifCond .eq 13, 3) := by decide +kernel
theorem dX6_undo_10 : decode cX6_undo 10 = .ok (.new 56, 3) := by decide +kernel
theorem dX6_undo_13 : decode cX6_undo 13 = .ok (.dup, 1) := by decide +kernel
theorem dX6_undo_14 : decode cX6_undo 14 = .ok (.ldc 248, 2) := by decide +kernel
theorem dX6_undo_16 : decode cX6_undo 16 = .ok (.invokespecial 60, 3) := by decide +kernel
theorem dX6_undo_19 : decode cX6_undo 19 = .ok (.athrow, 1) := by decide +kernel
theorem dX6_undo_20 : decode cX6_undo 20 = .ok (.aload_n 0, 1) := by decide +kernel
theorem dX6_undo_21 : decode cX6_undo 21 = .ok (.getfield 30, 3) := by decide +kernel
theorem dX6_undo_24 : decode cX6_undo 24 = .ok (.aload_n 0, 1) := by decide +kernel
theorem dX6_undo_25 : decode cX6_undo 25 = .ok (.getfield 10, 3) := by decide +kernel
theorem dX6_undo_28 : decode cX6_undo 28 = .ok (.invokevirtual 250, 3) := by decide +kernel
theorem dX6_undo_31 : decode cX6_undo 31 = .ok (.ireturn, 1) := by decide +kernel
theorem dX6_apart_0 : decode cX6_apart 0 = .ok (.aload_n 0, 1) := by decide +kernel
theorem dX6_apart_1 : decode cX6_apart 1 = .ok (.iload_n 1, 1) := by decide +kernel
theorem dX6_apart_2 : decode cX6_apart 2 = .ok (.invokevirtual 145, 3) := by decide +kernel
theorem dX6_apart_5 : decode cX6_apart 5 = .ok (.aload_n 0, 1) := by decide +kernel
theorem dX6_apart_6 : decode cX6_apart 6 = .ok (.iload_n 2, 1) := by decide +kernel
theorem dX6_apart_7 : decode cX6_apart 7 = .ok (.invokevirtual 145, 3) := by decide +kernel
theorem dX6_apart_10 : decode cX6_apart 10 = .ok (.aload_n 0, 1) := by decide +kernel
theorem dX6_apart_11 : decode cX6_apart 11 = .ok (.getfield 10, 3) := by decide +kernel
theorem dX6_apart_14 : decode cX6_apart 14 = .ok (.iload_n 1, 1) := by decide +kernel
theorem dX6_apart_15 : decode cX6_apart 15 = .ok (.iload_n 2, 1) := by decide +kernel
theorem dX6_apart_16 : decode cX6_apart 16 = .ok (.invokevirtual 254, 3) := by decide +kernel
theorem dX6_apart_19 : decode cX6_apart 19 = .ok (.ireturn, 1) := by decide +kernel
theorem dX6_against_0 : decode cX6_against 0 = .ok (.iload_n 1, 1) := by decide +kernel
theorem dX6_against_1 : decode cX6_against 1 = .ok (.invokestatic 176, 3) := by decide +kernel
theorem dX6_against_4 : decode cX6_against 4 = .ok (.aload_n 0, 1) := by decide +kernel
theorem dX6_against_5 : decode cX6_against 5 = .ok (.getfield 44, 3) := by decide +kernel
theorem dX6_against_8 : decode cX6_against 8 = .ok (.aload_n 0, 1) := by decide +kernel
theorem dX6_against_9 : decode cX6_against 9 = .ok (.getfield 10, 3) := by decide +kernel
theorem dX6_against_12 : decode cX6_against 12 = .ok (.iload_n 1, 1) := by decide +kernel
theorem dX6_against_13 : decode cX6_against 13 = .ok (.iconst (-1), 1) := by decide +kernel
theorem dX6_against_14 : decode cX6_against 14 = .ok (.invokevirtual 199, 3) := by decide +kernel
theorem dX6_against_17 : decode cX6_against 17 = .ok (.aload_n 0, 1) := by decide +kernel
theorem dX6_against_18 : decode cX6_against 18 = .ok (.getfield 10, 3) := by decide +kernel
theorem dX6_against_21 : decode cX6_against 21 = .ok (.iload_n 1, 1) := by decide +kernel
theorem dX6_against_22 : decode cX6_against 22 = .ok (.aload_n 0, 1) := by decide +kernel
theorem dX6_against_23 : decode cX6_against 23 = .ok (.getfield 44, 3) := by decide +kernel
theorem dX6_against_26 : decode cX6_against 26 = .ok (.invokevirtual 257, 3) := by decide +kernel
theorem dX6_against_29 : decode cX6_against 29 = .ok (.invokevirtual 260, 3) := by decide +kernel
theorem dX6_against_32 : decode cX6_against 32 = .ok (.ireturn, 1) := by decide +kernel
theorem dX6_without_0 : decode cX6_without 0 = .ok (.aload_n 0, 1) := by decide +kernel
theorem dX6_without_1 : decode cX6_without 1 = .ok (.iload_n 1, 1) := by decide +kernel
theorem dX6_without_2 : decode cX6_without 2 = .ok (.invokevirtual 145, 3) := by decide +kernel
theorem dX6_without_5 : decode cX6_without 5 = .ok (.iconst 0, 1) := by decide +kernel
theorem dX6_without_6 : decode cX6_without 6 = .ok (.iload_n 2, 1) := by decide +kernel
theorem dX6_without_7 : decode cX6_without 7 = .ok (.if_icmp .gt 12, 3) := by decide +kernel
theorem dX6_without_10 : decode cX6_without 10 = .ok (.iload_n 2, 1) := by decide +kernel
theorem dX6_without_11 : decode cX6_without 11 = .ok (.iconst 2, 1) := by decide +kernel
theorem dX6_without_12 : decode cX6_without 12 = .ok (.if_icmp .gt 7, 3) := by decide +kernel
theorem dX6_without_15 : decode cX6_without 15 = .ok (.iconst 1, 1) := by decide +kernel
theorem dX6_without_16 : decode cX6_without 16 = .ok (.goto 4, 3) := by decide +kernel
theorem dX6_without_19 : decode cX6_without 19 = .ok (.iconst 0, 1) := by decide +kernel
theorem dX6_without_20 : decode cX6_without 20 = .ok (.invokestatic 48, 3) := by decide +kernel
theorem dX6_without_23 : decode cX6_without 23 = .ok (.aload_n 0, 1) := by decide +kernel
end
section
theorem dX6_without_24 : decode cX6_without 24 = .ok (.getfield 44, 3) := by decide +kernel
theorem dX6_without_27 : decode cX6_without 27 = .ok (.aload_n 0, 1) := by decide +kernel
theorem dX6_without_28 : decode cX6_without 28 = .ok (.getfield 10, 3) := by decide +kernel
theorem dX6_without_31 : decode cX6_without 31 = .ok (.aload_n 0, 1) := by decide +kernel
theorem dX6_without_32 : decode cX6_without 32 = .ok (.getfield 10, 3) := by decide +kernel
theorem dX6_without_35 : decode cX6_without 35 = .ok (.iload_n 1, 1) := by decide +kernel
theorem dX6_without_36 : decode cX6_without 36 = .ok (.iconst 0, 1) := by decide +kernel
theorem dX6_without_37 : decode cX6_without 37 = .ok (.invokevirtual 155, 3) := by decide +kernel
theorem dX6_without_40 : decode cX6_without 40 = .ok (.iload_n 1, 1) := by decide +kernel
theorem dX6_without_41 : decode cX6_without 41 = .ok (.invokevirtual 199, 3) := by decide +kernel
theorem dX6_without_44 : decode cX6_without 44 = .ok (.aload_n 0, 1) := by decide +kernel
theorem dX6_without_45 : decode cX6_without 45 = .ok (.getfield 44, 3) := by decide +kernel
theorem dX6_without_48 : decode cX6_without 48 = .ok (.iload_n 2, 1) := by decide +kernel
theorem dX6_without_49 : decode cX6_without 49 = .ok (.invokevirtual 203, 3) := by decide +kernel
theorem dX6_without_52 : decode cX6_without 52 = .ok (.ireturn, 1) := by decide +kernel
theorem dX6_swings_0 : decode cX6_swings 0 = .ok (.iload_n 1, 1) := by decide +kernel
theorem dX6_swings_1 : decode cX6_swings 1 = .ok (.invokestatic 158, 3) := by decide +kernel
theorem dX6_swings_4 : decode cX6_swings 4 = .ok (.iload_n 2, 1) := by decide +kernel
theorem dX6_swings_5 : decode cX6_swings 5 = .ok (.invokestatic 176, 3) := by decide +kernel
theorem dX6_swings_8 : decode cX6_swings 8 = .ok (.aload_n 0, 1) := by decide +kernel
theorem dX6_swings_9 : decode cX6_swings 9 = .ok (.getfield 16, 3) := by decide +kernel
theorem dX6_swings_12 : decode cX6_swings 12 = .ok (.aload_n 0, 1) := by decide +kernel
theorem dX6_swings_13 : decode cX6_swings 13 = .ok (.getfield 10, 3) := by decide +kernel
theorem dX6_swings_16 : decode cX6_swings 16 = .ok (.invokevirtual 263, 3) := by decide +kernel
theorem dX6_swings_19 : decode cX6_swings 19 = .ok (.iconst 0, 1) := by decide +kernel
theorem dX6_swings_20 : decode cX6_swings 20 = .ok (.istore_n 3, 1) := by decide +kernel
theorem dX6_swings_21 : decode cX6_swings 21 = .ok (.iload_n 3, 1) := by decide +kernel
theorem dX6_swings_22 : decode cX6_swings 22 = .ok (.bipush 9, 2) := by decide +kernel
theorem dX6_swings_24 : decode cX6_swings 24 = .ok (.if_icmp .gt 53, 3) := by decide +kernel
theorem dX6_swings_27 : decode cX6_swings 27 = .ok (.aload_n 0, 1) := by decide +kernel
theorem dX6_swings_28 : decode cX6_swings 28 = .ok (.getfield 16, 3) := by decide +kernel
theorem dX6_swings_31 : decode cX6_swings 31 = .ok (.iload_n 1, 1) := by decide +kernel
theorem dX6_swings_32 : decode cX6_swings 32 = .ok (.iload_n 3, 1) := by decide +kernel
theorem dX6_swings_33 : decode cX6_swings 33 = .ok (.invokevirtual 233, 3) := by decide +kernel
theorem dX6_swings_36 : decode cX6_swings 36 = .ok (.pop, 1) := by decide +kernel
theorem dX6_swings_37 : decode cX6_swings 37 = .ok (.aload_n 0, 1) := by decide +kernel
theorem dX6_swings_38 : decode cX6_swings 38 = .ok (.getfield 44, 3) := by decide +kernel
theorem dX6_swings_41 : decode cX6_swings 41 = .ok (.aload_n 0, 1) := by decide +kernel
theorem dX6_swings_42 : decode cX6_swings 42 = .ok (.getfield 16, 3) := by decide +kernel
theorem dX6_swings_45 : decode cX6_swings 45 = .ok (.iload_n 2, 1) := by decide +kernel
theorem dX6_swings_46 : decode cX6_swings 46 = .ok (.iconst (-1), 1) := by decide +kernel
theorem dX6_swings_47 : decode cX6_swings 47 = .ok (.invokevirtual 199, 3) := by decide +kernel
theorem dX6_swings_50 : decode cX6_swings 50 = .ok (.aload_n 0, 1) := by decide +kernel
theorem dX6_swings_51 : decode cX6_swings 51 = .ok (.getfield 16, 3) := by decide +kernel
theorem dX6_swings_54 : decode cX6_swings 54 = .ok (.iload_n 1, 1) := by decide +kernel
theorem dX6_swings_55 : decode cX6_swings 55 = .ok (.iload_n 2, 1) := by decide +kernel
theorem dX6_swings_56 : decode cX6_swings 56 = .ok (.aload_n 0, 1) := by decide +kernel
theorem dX6_swings_57 : decode cX6_swings 57 = .ok (.getfield 44, 3) := by decide +kernel
theorem dX6_swings_60 : decode cX6_swings 60 = .ok (.invokevirtual 257, 3) := by decide +kernel
theorem dX6_swings_63 : decode cX6_swings 63 = .ok (.invokevirtual 266, 3) := by decide +kernel
theorem dX6_swings_66 : decode cX6_swings 66 = .ok (.ifCond .eq 5, 3) := by decide +kernel
theorem dX6_swings_69 : decode cX6_swings 69 = .ok (.iload_n 3, 1) := by decide +kernel
theorem dX6_swings_70 : decode cX6_swings 70 = .ok (.ireturn, 1) := by decide +kernel
theorem dX6_swings_71 : decode cX6_swings 71 = .ok (.iinc 3 1, 3) := by decide +kernel
theorem dX6_swings_74 : decode cX6_swings 74 = .ok (.goto (-53), 3) := by decide +kernel
theorem dX6_swings_77 : decode cX6_swings 77 = .ok (.iconst (-1), 1) := by decide +kernel
theorem dX6_swings_78 : decode cX6_swings 78 = .ok (.ireturn, 1) := by decide +kernel
theorem dX6_truest_0 : decode cX6_truest 0 = .ok (.aload_n 0, 1) := by decide +kernel
theorem dX6_truest_1 : decode cX6_truest 1 = .ok (.getfield 10, 3) := by decide +kernel
theorem dX6_truest_4 : decode cX6_truest 4 = .ok (.invokevirtual 270, 3) := by decide +kernel
theorem dX6_truest_7 : decode cX6_truest 7 = .ok (.ireturn, 1) := by decide +kernel
theorem dX6_runScript_0 : decode cX6_runScript 0 = .ok (.iconst 1, 1) := by decide +kernel
theorem dX6_runScript_1 : decode cX6_runScript 1 = .ok (.iload_n 1, 1) := by decide +kernel
theorem dX6_runScript_2 : decode cX6_runScript 2 = .ok (.if_icmp .gt 12, 3) := by decide +kernel
theorem dX6_runScript_5 : decode cX6_runScript 5 = .ok (.iload_n 1, 1) := by decide +kernel
theorem dX6_runScript_6 : decode cX6_runScript 6 = .ok (.iconst 3, 1) := by decide +kernel
theorem dX6_runScript_7 : decode cX6_runScript 7 = .ok (.if_icmp .gt 7, 3) := by decide +kernel
theorem dX6_runScript_10 : decode cX6_runScript 10 = .ok (.iconst 1, 1) := by decide +kernel
theorem dX6_runScript_11 : decode cX6_runScript 11 = .ok (.goto 4, 3) := by decide +kernel
theorem dX6_runScript_14 : decode cX6_runScript 14 = .ok (.iconst 0, 1) := by decide +kernel
theorem dX6_runScript_15 : decode cX6_runScript 15 = .ok (.invokestatic 48, 3) := by decide +kernel
theorem dX6_runScript_18 : decode cX6_runScript 18 = .ok (.lconst 0, 1) := by decide +kernel
theorem dX6_runScript_19 : decode cX6_runScript 19 = .ok (.lload_n 2, 1) := by decide +kernel
theorem dX6_runScript_20 : decode cX6_runScript 20 = .ok (.lcmp, 1) := by decide +kernel
theorem dX6_runScript_21 : decode cX6_runScript 21 = .ok (.ifCond .gt 16, 3) := by decide +kernel
theorem dX6_runScript_24 : decode cX6_runScript 24 = .ok (.lload_n 2, 1) := by decide +kernel
theorem dX6_runScript_25 : decode cX6_runScript 25 = .ok (.iload_n 1, 1) := by decide +kernel
theorem dX6_runScript_26 : decode cX6_runScript 26 = .ok (.invokestatic 275, 3) := by decide +kernel
theorem dX6_runScript_29 : decode cX6_runScript 29 = .ok (.lcmp, 1) := by decide +kernel
theorem dX6_runScript_30 : decode cX6_runScript 30 = .ok (.ifCond .ge 7, 3) := by decide +kernel
theorem dX6_runScript_33 : decode cX6_runScript 33 = .ok (.iconst 1, 1) := by decide +kernel
theorem dX6_runScript_34 : decode cX6_runScript 34 = .ok (.goto 4, 3) := by decide +kernel
theorem dX6_runScript_37 : decode cX6_runScript 37 = .ok (.iconst 0, 1) := by decide +kernel
theorem dX6_runScript_38 : decode cX6_runScript 38 = .ok (.invokestatic 48, 3) := by decide +kernel
theorem dX6_runScript_41 : decode cX6_runScript 41 = .ok (.aload_n 0, 1) := by decide +kernel
theorem dX6_runScript_42 : decode cX6_runScript 42 = .ok (.getfield 16, 3) := by decide +kernel
theorem dX6_runScript_45 : decode cX6_runScript 45 = .ok (.aload_n 0, 1) := by decide +kernel
theorem dX6_runScript_46 : decode cX6_runScript 46 = .ok (.getfield 10, 3) := by decide +kernel
theorem dX6_runScript_49 : decode cX6_runScript 49 = .ok (.invokevirtual 263, 3) := by decide +kernel
theorem dX6_runScript_52 : decode cX6_runScript 52 = .ok (.iconst 0, 1) := by decide +kernel
theorem dX6_runScript_53 : decode cX6_runScript 53 = .ok (.istore 4, 2) := by decide +kernel
theorem dX6_runScript_55 : decode cX6_runScript 55 = .ok (.iload 4, 2) := by decide +kernel
theorem dX6_runScript_57 : decode cX6_runScript 57 = .ok (.iload_n 1, 1) := by decide +kernel
theorem dX6_runScript_58 : decode cX6_runScript 58 = .ok (.if_icmp .ge 36, 3) := by decide +kernel
theorem dX6_runScript_61 : decode cX6_runScript 61 = .ok (.aload_n 0, 1) := by decide +kernel
theorem dX6_runScript_62 : decode cX6_runScript 62 = .ok (.getfield 16, 3) := by decide +kernel
theorem dX6_runScript_65 : decode cX6_runScript 65 = .ok (.aload_n 0, 1) := by decide +kernel
theorem dX6_runScript_66 : decode cX6_runScript 66 = .ok (.getfield 44, 3) := by decide +kernel
theorem dX6_runScript_69 : decode cX6_runScript 69 = .ok (.lload_n 2, 1) := by decide +kernel
theorem dX6_runScript_70 : decode cX6_runScript 70 = .ok (.iload_n 1, 1) := by decide +kernel
theorem dX6_runScript_71 : decode cX6_runScript 71 = .ok (.iconst 1, 1) := by decide +kernel
theorem dX6_runScript_72 : decode cX6_runScript 72 = .ok (.isub, 1) := by decide +kernel
theorem dX6_runScript_73 : decode cX6_runScript 73 = .ok (.iload 4, 2) := by decide +kernel
theorem dX6_runScript_75 : decode cX6_runScript 75 = .ok (.isub, 1) := by decide +kernel
theorem dX6_runScript_76 : decode cX6_runScript 76 = .ok (.invokestatic 279, 3) := by decide +kernel
theorem dX6_runScript_79 : decode cX6_runScript 79 = .ok (.invokestatic 283, 3) := by decide +kernel
theorem dX6_runScript_82 : decode cX6_runScript 82 = .ok (.ifCond .ne 6, 3) := by decide +kernel
theorem dX6_runScript_85 : decode cX6_runScript 85 = .ok (.iload 4, 2) := by decide +kernel
theorem dX6_runScript_87 : decode cX6_runScript 87 = .ok (.ireturn, 1) := by decide +kernel
theorem dX6_runScript_88 : decode cX6_runScript 88 = .ok (.iinc 4 1, 3) := by decide +kernel
theorem dX6_runScript_91 : decode cX6_runScript 91 = .ok (.goto (-36), 3) := by decide +kernel
theorem dX6_runScript_94 : decode cX6_runScript 94 = .ok (.iconst (-1), 1) := by decide +kernel
theorem dX6_runScript_95 : decode cX6_runScript 95 = .ok (.ireturn, 1) := by decide +kernel
theorem dX6_simulate_0 : decode cX6_simulate 0 = .ok (.iconst 1, 1) := by decide +kernel
theorem dX6_simulate_1 : decode cX6_simulate 1 = .ok (.iload_n 3, 1) := by decide +kernel
theorem dX6_simulate_2 : decode cX6_simulate 2 = .ok (.if_icmp .gt 13, 3) := by decide +kernel
theorem dX6_simulate_5 : decode cX6_simulate 5 = .ok (.iload_n 3, 1) := by decide +kernel
theorem dX6_simulate_6 : decode cX6_simulate 6 = .ok (.bipush 60, 2) := by decide +kernel
theorem dX6_simulate_8 : decode cX6_simulate 8 = .ok (.if_icmp .gt 7, 3) := by decide +kernel
theorem dX6_simulate_11 : decode cX6_simulate 11 = .ok (.iconst 1, 1) := by decide +kernel
theorem dX6_simulate_12 : decode cX6_simulate 12 = .ok (.goto 4, 3) := by decide +kernel
theorem dX6_simulate_15 : decode cX6_simulate 15 = .ok (.iconst 0, 1) := by decide +kernel
theorem dX6_simulate_16 : decode cX6_simulate 16 = .ok (.invokestatic 48, 3) := by decide +kernel
theorem dX6_simulate_19 : decode cX6_simulate 19 = .ok (.aload_n 0, 1) := by decide +kernel
theorem dX6_simulate_20 : decode cX6_simulate 20 = .ok (.getfield 16, 3) := by decide +kernel
theorem dX6_simulate_23 : decode cX6_simulate 23 = .ok (.aload_n 0, 1) := by decide +kernel
theorem dX6_simulate_24 : decode cX6_simulate 24 = .ok (.getfield 10, 3) := by decide +kernel
theorem dX6_simulate_27 : decode cX6_simulate 27 = .ok (.invokevirtual 263, 3) := by decide +kernel
theorem dX6_simulate_30 : decode cX6_simulate 30 = .ok (.lload_n 1, 1) := by decide +kernel
theorem dX6_simulate_31 : decode cX6_simulate 31 = .ok (.lstore 4, 2) := by decide +kernel
theorem dX6_simulate_33 : decode cX6_simulate 33 = .ok (.iconst 0, 1) := by decide +kernel
theorem dX6_simulate_34 : decode cX6_simulate 34 = .ok (.istore 6, 2) := by decide +kernel
theorem dX6_simulate_36 : decode cX6_simulate 36 = .ok (.iload 6, 2) := by decide +kernel
theorem dX6_simulate_38 : decode cX6_simulate 38 = .ok (.iload_n 3, 1) := by decide +kernel
theorem dX6_simulate_39 : decode cX6_simulate 39 = .ok (.if_icmp .ge 34, 3) := by decide +kernel
theorem dX6_simulate_42 : decode cX6_simulate 42 = .ok (.lload 4, 2) := by decide +kernel
theorem dX6_simulate_44 : decode cX6_simulate 44 = .ok (.ldc2_w 287, 3) := by decide +kernel
theorem dX6_simulate_47 : decode cX6_simulate 47 = .ok (.lmul, 1) := by decide +kernel
theorem dX6_simulate_48 : decode cX6_simulate 48 = .ok (.ldc2_w 289, 3) := by decide +kernel
theorem dX6_simulate_51 : decode cX6_simulate 51 = .ok (.ladd, 1) := by decide +kernel
theorem dX6_simulate_52 : decode cX6_simulate 52 = .ok (.lstore 4, 2) := by decide +kernel
theorem dX6_simulate_54 : decode cX6_simulate 54 = .ok (.aload_n 0, 1) := by decide +kernel
theorem dX6_simulate_55 : decode cX6_simulate 55 = .ok (.getfield 16, 3) := by decide +kernel
theorem dX6_simulate_58 : decode cX6_simulate 58 = .ok (.lload 4, 2) := by decide +kernel
theorem dX6_simulate_60 : decode cX6_simulate 60 = .ok (.bipush 33, 2) := by decide +kernel
theorem dX6_simulate_62 : decode cX6_simulate 62 = .ok (.lushr, 1) := by decide +kernel
theorem dX6_simulate_63 : decode cX6_simulate 63 = .ok (.l2i, 1) := by decide +kernel
theorem dX6_simulate_64 : decode cX6_simulate 64 = .ok (.invokestatic 291, 3) := by decide +kernel
theorem dX6_simulate_67 : decode cX6_simulate 67 = .ok (.iinc 6 1, 3) := by decide +kernel
theorem dX6_simulate_70 : decode cX6_simulate 70 = .ok (.goto (-34), 3) := by decide +kernel
theorem dX6_simulate_73 : decode cX6_simulate 73 = .ok (.aload_n 0, 1) := by decide +kernel
theorem dX6_simulate_74 : decode cX6_simulate 74 = .ok (.getfield 16, 3) := by decide +kernel
theorem dX6_simulate_77 : decode cX6_simulate 77 = .ok (.invokevirtual 139, 3) := by decide +kernel
theorem dX6_simulate_80 : decode cX6_simulate 80 = .ok (.aload_n 0, 1) := by decide +kernel
theorem dX6_simulate_81 : decode cX6_simulate 81 = .ok (.getfield 10, 3) := by decide +kernel
theorem dX6_simulate_84 : decode cX6_simulate 84 = .ok (.invokevirtual 139, 3) := by decide +kernel
theorem dX6_simulate_87 : decode cX6_simulate 87 = .ok (.isub, 1) := by decide +kernel
theorem dX6_simulate_88 : decode cX6_simulate 88 = .ok (.istore 6, 2) := by decide +kernel
theorem dX6_simulate_90 : decode cX6_simulate 90 = .ok (.sipush 10000, 3) := by decide +kernel
theorem dX6_simulate_93 : decode cX6_simulate 93 = .ok (.aload_n 0, 1) := by decide +kernel
theorem dX6_simulate_94 : decode cX6_simulate 94 = .ok (.getfield 16, 3) := by decide +kernel
theorem dX6_simulate_97 : decode cX6_simulate 97 = .ok (.invokevirtual 115, 3) := by decide +kernel
theorem dX6_simulate_100 : decode cX6_simulate 100 = .ok (.imul, 1) := by decide +kernel
theorem dX6_simulate_101 : decode cX6_simulate 101 = .ok (.bipush 100, 2) := by decide +kernel
theorem dX6_simulate_103 : decode cX6_simulate 103 = .ok (.aload_n 0, 1) := by decide +kernel
theorem dX6_simulate_104 : decode cX6_simulate 104 = .ok (.getfield 16, 3) := by decide +kernel
theorem dX6_simulate_107 : decode cX6_simulate 107 = .ok (.invokevirtual 133, 3) := by decide +kernel
theorem dX6_simulate_110 : decode cX6_simulate 110 = .ok (.imul, 1) := by decide +kernel
theorem dX6_simulate_111 : decode cX6_simulate 111 = .ok (.iadd, 1) := by decide +kernel
theorem dX6_simulate_112 : decode cX6_simulate 112 = .ok (.iload 6, 2) := by decide +kernel
theorem dX6_simulate_114 : decode cX6_simulate 114 = .ok (.bipush 100, 2) := by decide +kernel
theorem dX6_simulate_116 : decode cX6_simulate 116 = .ok (.irem, 1) := by decide +kernel
theorem dX6_simulate_117 : decode cX6_simulate 117 = .ok (.iadd, 1) := by decide +kernel
theorem dX6_simulate_118 : decode cX6_simulate 118 = .ok (.ireturn, 1) := by decide +kernel
theorem dX6_save_0 : decode cX6_save 0 = .ok (.iload_n 1, 1) := by decide +kernel
theorem dX6_save_1 : decode cX6_save 1 = .ok (.invokestatic 296, 3) := by decide +kernel
theorem dX6_save_4 : decode cX6_save 4 = .ok (.aload_n 0, 1) := by decide +kernel
theorem dX6_save_5 : decode cX6_save 5 = .ok (.getfield 19, 3) := by decide +kernel
theorem dX6_save_8 : decode cX6_save 8 = .ok (.iload_n 1, 1) := by decide +kernel
theorem dX6_save_9 : decode cX6_save 9 = .ok (.aaload, 1) := by decide +kernel
theorem dX6_save_10 : decode cX6_save 10 = .ok (.aload_n 0, 1) := by decide +kernel
theorem dX6_save_11 : decode cX6_save 11 = .ok (.getfield 10, 3) := by decide +kernel
theorem dX6_save_14 : decode cX6_save 14 = .ok (.invokevirtual 263, 3) := by decide +kernel
theorem dX6_save_17 : decode cX6_save 17 = .ok (.aload_n 0, 1) := by decide +kernel
theorem dX6_save_18 : decode cX6_save 18 = .ok (.getfield 23, 3) := by decide +kernel
theorem dX6_save_21 : decode cX6_save 21 = .ok (.iload_n 1, 1) := by decide +kernel
theorem dX6_save_22 : decode cX6_save 22 = .ok (.iconst 1, 1) := by decide +kernel
theorem dX6_save_23 : decode cX6_save 23 = .ok (.bastore, 1) := by decide +kernel
theorem dX6_save_24 : decode cX6_save 24 = .ok (.aload_n 0, 1) := by decide +kernel
theorem dX6_save_25 : decode cX6_save 25 = .ok (.getfield 10, 3) := by decide +kernel
theorem dX6_save_28 : decode cX6_save 28 = .ok (.invokevirtual 115, 3) := by decide +kernel
theorem dX6_save_31 : decode cX6_save 31 = .ok (.ireturn, 1) := by decide +kernel
theorem dX6_restore_0 : decode cX6_restore 0 = .ok (.iload_n 1, 1) := by decide +kernel
theorem dX6_restore_1 : decode cX6_restore 1 = .ok (.invokestatic 296, 3) := by decide +kernel
theorem dX6_restore_4 : decode cX6_restore 4 = .ok (.aload_n 0, 1) := by decide +kernel
theorem dX6_restore_5 : decode cX6_restore 5 = .ok (.getfield 23, 3) := by decide +kernel
theorem dX6_restore_8 : decode cX6_restore 8 = .ok (.iload_n 1, 1) := by decide +kernel
theorem dX6_restore_9 : decode cX6_restore 9 = .ok (.baload, 1) := by decide +kernel
theorem dX6_restore_10 : decode cX6_restore 10 = .ok (.ifCond .ne 14, 3) := by decide +kernel
theorem dX6_restore_13 : decode cX6_restore 13 = .ok (.new 56, 3) := by decide +kernel
theorem dX6_restore_16 : decode cX6_restore 16 = .ok (.dup, 1) := by decide +kernel
theorem dX6_restore_17 : decode cX6_restore 17 = .ok (.ldc_w 299, 3) := by decide +kernel
theorem dX6_restore_20 : decode cX6_restore 20 = .ok (.invokespecial 60, 3) := by decide +kernel
theorem dX6_restore_23 : decode cX6_restore 23 = .ok (.athrow, 1) := by decide +kernel
theorem dX6_restore_24 : decode cX6_restore 24 = .ok (.aload_n 0, 1) := by decide +kernel
theorem dX6_restore_25 : decode cX6_restore 25 = .ok (.getfield 10, 3) := by decide +kernel
theorem dX6_restore_28 : decode cX6_restore 28 = .ok (.aload_n 0, 1) := by decide +kernel
theorem dX6_restore_29 : decode cX6_restore 29 = .ok (.getfield 19, 3) := by decide +kernel
theorem dX6_restore_32 : decode cX6_restore 32 = .ok (.iload_n 1, 1) := by decide +kernel
theorem dX6_restore_33 : decode cX6_restore 33 = .ok (.aaload, 1) := by decide +kernel
theorem dX6_restore_34 : decode cX6_restore 34 = .ok (.invokevirtual 263, 3) := by decide +kernel
theorem dX6_restore_37 : decode cX6_restore 37 = .ok (.aload_n 0, 1) := by decide +kernel
theorem dX6_restore_38 : decode cX6_restore 38 = .ok (.getfield 30, 3) := by decide +kernel
theorem dX6_restore_41 : decode cX6_restore 41 = .ok (.invokevirtual 79, 3) := by decide +kernel
theorem dX6_restore_44 : decode cX6_restore 44 = .ok (.aload_n 0, 1) := by decide +kernel
theorem dX6_restore_45 : decode cX6_restore 45 = .ok (.getfield 10, 3) := by decide +kernel
theorem dX6_restore_48 : decode cX6_restore 48 = .ok (.invokevirtual 115, 3) := by decide +kernel
theorem dX6_restore_51 : decode cX6_restore 51 = .ok (.ireturn, 1) := by decide +kernel
theorem dX6_need_0 : decode cX6_need 0 = .ok (.iload_n 0, 1) := by decide +kernel
theorem dX6_need_1 : decode cX6_need 1 = .ok (.ifCond .ne 14, 3) := by decide +kernel
theorem dX6_need_4 : decode cX6_need 4 = .ok (.new 301, 3) := by decide +kernel
theorem dX6_need_7 : decode cX6_need 7 = .ok (.dup, 1) := by decide +kernel
theorem dX6_need_8 : decode cX6_need 8 = .ok (.ldc_w 303, 3) := by decide +kernel
theorem dX6_need_11 : decode cX6_need 11 = .ok (.invokespecial 305, 3) := by decide +kernel
theorem dX6_need_14 : decode cX6_need 14 = .ok (.athrow, 1) := by decide +kernel
theorem dX6_need_15 : decode cX6_need 15 = .ok (.return_, 1) := by decide +kernel
theorem dX6_needSteeple_0 : decode cX6_needSteeple 0 = .ok (.iload_n 0, 1) := by decide +kernel
theorem dX6_needSteeple_1 : decode cX6_needSteeple 1 = .ok (.invokestatic 306, 3) := by decide +kernel
theorem dX6_needSteeple_4 : decode cX6_needSteeple 4 = .ok (.ifCond .ne 14, 3) := by decide +kernel
theorem dX6_needSteeple_7 : decode cX6_needSteeple 7 = .ok (.new 309, 3) := by decide +kernel
theorem dX6_needSteeple_10 : decode cX6_needSteeple 10 = .ok (.dup, 1) := by decide +kernel
theorem dX6_needSteeple_11 : decode cX6_needSteeple 11 = .ok (.ldc_w 311, 3) := by decide +kernel
theorem dX6_needSteeple_14 : decode cX6_needSteeple 14 = .ok (.invokespecial 313, 3) := by decide +kernel
theorem dX6_needSteeple_17 : decode cX6_needSteeple 17 = .ok (.athrow, 1) := by decide +kernel
theorem dX6_needSteeple_18 : decode cX6_needSteeple 18 = .ok (.return_, 1) := by decide +kernel
theorem dX6_needTeller_0 : decode cX6_needTeller 0 = .ok (.iload_n 0, 1) := by decide +kernel
theorem dX6_needTeller_1 : decode cX6_needTeller 1 = .ok (.invokestatic 314, 3) := by decide +kernel
theorem dX6_needTeller_4 : decode cX6_needTeller 4 = .ok (.ifCond .ne 14, 3) := by decide +kernel
theorem dX6_needTeller_7 : decode cX6_needTeller 7 = .ok (.new 309, 3) := by decide +kernel
theorem dX6_needTeller_10 : decode cX6_needTeller 10 = .ok (.dup, 1) := by decide +kernel
theorem dX6_needTeller_11 : decode cX6_needTeller 11 = .ok (.ldc_w 317, 3) := by decide +kernel
theorem dX6_needTeller_14 : decode cX6_needTeller 14 = .ok (.invokespecial 313, 3) := by decide +kernel
theorem dX6_needTeller_17 : decode cX6_needTeller 17 = .ok (.athrow, 1) := by decide +kernel
theorem dX6_needTeller_18 : decode cX6_needTeller 18 = .ok (.return_, 1) := by decide +kernel
theorem dX6_needMeasure_0 : decode cX6_needMeasure 0 = .ok (.aload_n 0, 1) := by decide +kernel
theorem dX6_needMeasure_1 : decode cX6_needMeasure 1 = .ok (.getfield 10, 3) := by decide +kernel
theorem dX6_needMeasure_4 : decode cX6_needMeasure 4 = .ok (.iload_n 1, 1) := by decide +kernel
theorem dX6_needMeasure_5 : decode cX6_needMeasure 5 = .ok (.invokevirtual 319, 3) := by decide +kernel
theorem dX6_needMeasure_8 : decode cX6_needMeasure 8 = .ok (.ifCond .ne 14, 3) := by decide +kernel
theorem dX6_needMeasure_11 : decode cX6_needMeasure 11 = .ok (.new 309, 3) := by decide +kernel
theorem dX6_needMeasure_14 : decode cX6_needMeasure 14 = .ok (.dup, 1) := by decide +kernel
theorem dX6_needMeasure_15 : decode cX6_needMeasure 15 = .ok (.ldc_w 322, 3) := by decide +kernel
theorem dX6_needMeasure_18 : decode cX6_needMeasure 18 = .ok (.invokespecial 313, 3) := by decide +kernel
theorem dX6_needMeasure_21 : decode cX6_needMeasure 21 = .ok (.athrow, 1) := by decide +kernel
theorem dX6_needMeasure_22 : decode cX6_needMeasure 22 = .ok (.return_, 1) := by decide +kernel
theorem dX6_needSlot_0 : decode cX6_needSlot 0 = .ok (.iload_n 0, 1) := by decide +kernel
theorem dX6_needSlot_1 : decode cX6_needSlot 1 = .ok (.ifCond .lt 8, 3) := by decide +kernel
theorem dX6_needSlot_4 : decode cX6_needSlot 4 = .ok (.iload_n 0, 1) := by decide +kernel
theorem dX6_needSlot_5 : decode cX6_needSlot 5 = .ok (.iconst 2, 1) := by decide +kernel
theorem dX6_needSlot_6 : decode cX6_needSlot 6 = .ok (.if_icmp .lt 14, 3) := by decide +kernel
theorem dX6_needSlot_9 : decode cX6_needSlot 9 = .ok (.new 309, 3) := by decide +kernel
theorem dX6_needSlot_12 : decode cX6_needSlot 12 = .ok (.dup, 1) := by decide +kernel
theorem dX6_needSlot_13 : decode cX6_needSlot 13 = .ok (.ldc_w 324, 3) := by decide +kernel
theorem dX6_needSlot_16 : decode cX6_needSlot 16 = .ok (.invokespecial 313, 3) := by decide +kernel
theorem dX6_needSlot_19 : decode cX6_needSlot 19 = .ok (.athrow, 1) := by decide +kernel
theorem dX6_needSlot_20 : decode cX6_needSlot 20 = .ok (.return_, 1) := by decide +kernel
theorem dJ9_floorDiv_7cf53_0 : decode cJ9_floorDiv_7cf53 0 = .ok (.iload_n 0, 1) := by decide +kernel
theorem dJ9_floorDiv_7cf53_1 : decode cJ9_floorDiv_7cf53 1 = .ok (.iload_n 1, 1) := by decide +kernel
theorem dJ9_floorDiv_7cf53_2 : decode cJ9_floorDiv_7cf53 2 = .ok (.idiv, 1) := by decide +kernel
theorem dJ9_floorDiv_7cf53_3 : decode cJ9_floorDiv_7cf53 3 = .ok (.istore_n 2, 1) := by decide +kernel
theorem dJ9_floorDiv_7cf53_4 : decode cJ9_floorDiv_7cf53 4 = .ok (.iload_n 0, 1) := by decide +kernel
theorem dJ9_floorDiv_7cf53_5 : decode cJ9_floorDiv_7cf53 5 = .ok (.iload_n 1, 1) := by decide +kernel
theorem dJ9_floorDiv_7cf53_6 : decode cJ9_floorDiv_7cf53 6 = .ok (.ixor, 1) := by decide +kernel
theorem dJ9_floorDiv_7cf53_7 : decode cJ9_floorDiv_7cf53 7 = .ok (.ifCond .ge 14, 3) := by decide +kernel
theorem dJ9_floorDiv_7cf53_10 : decode cJ9_floorDiv_7cf53 10 = .ok (.iload_n 2, 1) := by decide +kernel
theorem dJ9_floorDiv_7cf53_11 : decode cJ9_floorDiv_7cf53 11 = .ok (.iload_n 1, 1) := by decide +kernel
theorem dJ9_floorDiv_7cf53_12 : decode cJ9_floorDiv_7cf53 12 = .ok (.imul, 1) := by decide +kernel
theorem dJ9_floorDiv_7cf53_13 : decode cJ9_floorDiv_7cf53 13 = .ok (.iload_n 0, 1) := by decide +kernel
theorem dJ9_floorDiv_7cf53_14 : decode cJ9_floorDiv_7cf53 14 = .ok (.if_icmp .eq 7, 3) := by decide +kernel
theorem dJ9_floorDiv_7cf53_17 : decode cJ9_floorDiv_7cf53 17 = .ok (.iload_n 2, 1) := by decide +kernel
theorem dJ9_floorDiv_7cf53_18 : decode cJ9_floorDiv_7cf53 18 = .ok (.iconst 1, 1) := by decide +kernel
theorem dJ9_floorDiv_7cf53_19 : decode cJ9_floorDiv_7cf53 19 = .ok (.isub, 1) := by decide +kernel
theorem dJ9_floorDiv_7cf53_20 : decode cJ9_floorDiv_7cf53 20 = .ok (.ireturn, 1) := by decide +kernel
theorem dJ9_floorDiv_7cf53_21 : decode cJ9_floorDiv_7cf53 21 = .ok (.iload_n 2, 1) := by decide +kernel
theorem dJ9_floorDiv_7cf53_22 : decode cJ9_floorDiv_7cf53 22 = .ok (.ireturn, 1) := by decide +kernel
theorem dJ9_max_7cf53_0 : decode cJ9_max_7cf53 0 = .ok (.iload_n 0, 1) := by decide +kernel
theorem dJ9_max_7cf53_1 : decode cJ9_max_7cf53 1 = .ok (.iload_n 1, 1) := by decide +kernel
theorem dJ9_max_7cf53_2 : decode cJ9_max_7cf53 2 = .ok (.if_icmp .lt 7, 3) := by decide +kernel
theorem dJ9_max_7cf53_5 : decode cJ9_max_7cf53 5 = .ok (.iload_n 0, 1) := by decide +kernel
theorem dJ9_max_7cf53_6 : decode cJ9_max_7cf53 6 = .ok (.goto 4, 3) := by decide +kernel
theorem dJ9_max_7cf53_9 : decode cJ9_max_7cf53 9 = .ok (.iload_n 1, 1) := by decide +kernel
theorem dJ9_max_7cf53_10 : decode cJ9_max_7cf53 10 = .ok (.ireturn, 1) := by decide +kernel
theorem dJ9_min_7cf53_0 : decode cJ9_min_7cf53 0 = .ok (.iload_n 0, 1) := by decide +kernel
theorem dJ9_min_7cf53_1 : decode cJ9_min_7cf53 1 = .ok (.iload_n 1, 1) := by decide +kernel
theorem dJ9_min_7cf53_2 : decode cJ9_min_7cf53 2 = .ok (.if_icmp .gt 7, 3) := by decide +kernel
theorem dJ9_min_7cf53_5 : decode cJ9_min_7cf53 5 = .ok (.iload_n 0, 1) := by decide +kernel
theorem dJ9_min_7cf53_6 : decode cJ9_min_7cf53 6 = .ok (.goto 4, 3) := by decide +kernel
theorem dJ9_min_7cf53_9 : decode cJ9_min_7cf53 9 = .ok (.iload_n 1, 1) := by decide +kernel
theorem dJ9_min_7cf53_10 : decode cJ9_min_7cf53 10 = .ok (.ireturn, 1) := by decide +kernel
theorem dJ7_fill_53178_0 : decode cJ7_fill_53178 0 = .ok (.iconst 0, 1) := by decide +kernel
theorem dJ7_fill_53178_1 : decode cJ7_fill_53178 1 = .ok (.istore_n 2, 1) := by decide +kernel
theorem dJ7_fill_53178_2 : decode cJ7_fill_53178 2 = .ok (.aload_n 0, 1) := by decide +kernel
theorem dJ7_fill_53178_3 : decode cJ7_fill_53178 3 = .ok (.arraylength, 1) := by decide +kernel
theorem dJ7_fill_53178_4 : decode cJ7_fill_53178 4 = .ok (.istore_n 3, 1) := by decide +kernel
theorem dJ7_fill_53178_5 : decode cJ7_fill_53178 5 = .ok (.iload_n 2, 1) := by decide +kernel
theorem dJ7_fill_53178_6 : decode cJ7_fill_53178 6 = .ok (.iload_n 3, 1) := by decide +kernel
theorem dJ7_fill_53178_7 : decode cJ7_fill_53178 7 = .ok (.if_icmp .ge 13, 3) := by decide +kernel
theorem dJ7_fill_53178_10 : decode cJ7_fill_53178 10 = .ok (.aload_n 0, 1) := by decide +kernel
theorem dJ7_fill_53178_11 : decode cJ7_fill_53178 11 = .ok (.iload_n 2, 1) := by decide +kernel
theorem dJ7_fill_53178_12 : decode cJ7_fill_53178 12 = .ok (.iload_n 1, 1) := by decide +kernel
theorem dJ7_fill_53178_13 : decode cJ7_fill_53178 13 = .ok (.iastore, 1) := by decide +kernel
theorem dJ7_fill_53178_14 : decode cJ7_fill_53178 14 = .ok (.iinc 2 1, 3) := by decide +kernel
theorem dJ7_fill_53178_17 : decode cJ7_fill_53178 17 = .ok (.goto (-12), 3) := by decide +kernel
theorem dJ7_fill_53178_20 : decode cJ7_fill_53178 20 = .ok (.return_, 1) := by decide +kernel
theorem dL_told_0 : decode cL_told 0 = .ok (.aload_n 0, 1) := by decide +kernel
theorem dL_told_1 : decode cL_told 1 = .ok (.iload_n 1, 1) := by decide +kernel
theorem dL_told_2 : decode cL_told 2 = .ok (.iload_n 2, 1) := by decide +kernel
theorem dL_told_3 : decode cL_told 3 = .ok (.iload_n 3, 1) := by decide +kernel
theorem dL_told_4 : decode cL_told 4 = .ok (.iload 4, 2) := by decide +kernel
theorem dL_told_6 : decode cL_told 6 = .ok (.iload 5, 2) := by decide +kernel
theorem dL_told_8 : decode cL_told 8 = .ok (.iload 6, 2) := by decide +kernel
theorem dL_told_10 : decode cL_told 10 = .ok (.iload 7, 2) := by decide +kernel
theorem dL_told_12 : decode cL_told 12 = .ok (.invokevirtual 7, 3) := by decide +kernel
theorem dL_told_15 : decode cL_told 15 = .ok (.ireturn, 1) := by decide +kernel
theorem dL_told_16 : decode cL_told 16 = .ok (.astore 8, 2) := by decide +kernel
theorem dL_told_18 : decode cL_told 18 = .ok (.ldc 15, 2) := by decide +kernel
theorem dL_told_20 : decode cL_told 20 = .ok (.ireturn, 1) := by decide +kernel
theorem dL_told_21 : decode cL_told 21 = .ok (.astore 8, 2) := by decide +kernel
theorem dL_told_23 : decode cL_told 23 = .ok (.ldc 18, 2) := by decide +kernel
theorem dL_told_25 : decode cL_told 25 = .ok (.ireturn, 1) := by decide +kernel
theorem dL_told_26 : decode cL_told 26 = .ok (.astore 8, 2) := by decide +kernel
theorem dL_told_28 : decode cL_told 28 = .ok (.ldc 21, 2) := by decide +kernel
theorem dL_told_30 : decode cL_told 30 = .ok (.ireturn, 1) := by decide +kernel
theorem dL_doScript_0 : decode cL_doScript 0 = .ok (.aload_n 0, 1) := by decide +kernel
theorem dL_doScript_1 : decode cL_doScript 1 = .ok (.iload_n 1, 1) := by decide +kernel
theorem dL_doScript_2 : decode cL_doScript 2 = .ok (.lload_n 2, 1) := by decide +kernel
theorem dL_doScript_3 : decode cL_doScript 3 = .ok (.invokevirtual 22, 3) := by decide +kernel
theorem dL_doScript_6 : decode cL_doScript 6 = .ok (.ireturn, 1) := by decide +kernel
theorem dL_doScript_7 : decode cL_doScript 7 = .ok (.astore 4, 2) := by decide +kernel
theorem dL_doScript_9 : decode cL_doScript 9 = .ok (.ldc 18, 2) := by decide +kernel
theorem dL_doScript_11 : decode cL_doScript 11 = .ok (.ireturn, 1) := by decide +kernel
theorem dL_doSimulate_0 : decode cL_doSimulate 0 = .ok (.aload_n 0, 1) := by decide +kernel
theorem dL_doSimulate_1 : decode cL_doSimulate 1 = .ok (.lload_n 1, 1) := by decide +kernel
theorem dL_doSimulate_2 : decode cL_doSimulate 2 = .ok (.iload_n 3, 1) := by decide +kernel
theorem dL_doSimulate_3 : decode cL_doSimulate 3 = .ok (.invokevirtual 26, 3) := by decide +kernel
theorem dL_doSimulate_6 : decode cL_doSimulate 6 = .ok (.ireturn, 1) := by decide +kernel
theorem dL_doSimulate_7 : decode cL_doSimulate 7 = .ok (.astore 4, 2) := by decide +kernel
theorem dL_doSimulate_9 : decode cL_doSimulate 9 = .ok (.ldc 18, 2) := by decide +kernel
theorem dL_doSimulate_11 : decode cL_doSimulate 11 = .ok (.ireturn, 1) := by decide +kernel
theorem dL_tryAppend_0 : decode cL_tryAppend 0 = .ok (.aload_n 0, 1) := by decide +kernel
theorem dL_tryAppend_1 : decode cL_tryAppend 1 = .ok (.iload_n 1, 1) := by decide +kernel
theorem dL_tryAppend_2 : decode cL_tryAppend 2 = .ok (.invokevirtual 30, 3) := by decide +kernel
theorem dL_tryAppend_5 : decode cL_tryAppend 5 = .ok (.ireturn, 1) := by decide +kernel
theorem dL_tryAppend_6 : decode cL_tryAppend 6 = .ok (.astore_n 2, 1) := by decide +kernel
theorem dL_tryAppend_7 : decode cL_tryAppend 7 = .ok (.ldc 18, 2) := by decide +kernel
theorem dL_tryAppend_9 : decode cL_tryAppend 9 = .ok (.ireturn, 1) := by decide +kernel
theorem dL_tryAppend_10 : decode cL_tryAppend 10 = .ok (.astore_n 2, 1) := by decide +kernel
theorem dL_tryAppend_11 : decode cL_tryAppend 11 = .ok (.ldc 21, 2) := by decide +kernel
theorem dL_tryAppend_13 : decode cL_tryAppend 13 = .ok (.ireturn, 1) := by decide +kernel
theorem dL_tryLoad_0 : decode cL_tryLoad 0 = .ok (.aload_n 0, 1) := by decide +kernel
theorem dL_tryLoad_1 : decode cL_tryLoad 1 = .ok (.invokevirtual 34, 3) := by decide +kernel
theorem dL_tryLoad_4 : decode cL_tryLoad 4 = .ok (.ireturn, 1) := by decide +kernel
theorem dL_tryLoad_5 : decode cL_tryLoad 5 = .ok (.astore_n 1, 1) := by decide +kernel
theorem dL_tryLoad_6 : decode cL_tryLoad 6 = .ok (.ldc 21, 2) := by decide +kernel
theorem dL_tryLoad_8 : decode cL_tryLoad 8 = .ok (.ireturn, 1) := by decide +kernel
theorem dL_tryAbout_0 : decode cL_tryAbout 0 = .ok (.aload_n 0, 1) := by decide +kernel
theorem dL_tryAbout_1 : decode cL_tryAbout 1 = .ok (.iload_n 1, 1) := by decide +kernel
theorem dL_tryAbout_2 : decode cL_tryAbout 2 = .ok (.invokevirtual 38, 3) := by decide +kernel
theorem dL_tryAbout_5 : decode cL_tryAbout 5 = .ok (.ireturn, 1) := by decide +kernel
theorem dL_tryAbout_6 : decode cL_tryAbout 6 = .ok (.astore_n 2, 1) := by decide +kernel
theorem dL_tryAbout_7 : decode cL_tryAbout 7 = .ok (.ldc 18, 2) := by decide +kernel
theorem dL_tryAbout_9 : decode cL_tryAbout 9 = .ok (.ireturn, 1) := by decide +kernel
theorem dL_tryOf_0 : decode cL_tryOf 0 = .ok (.aload_n 0, 1) := by decide +kernel
theorem dL_tryOf_1 : decode cL_tryOf 1 = .ok (.iload_n 1, 1) := by decide +kernel
theorem dL_tryOf_2 : decode cL_tryOf 2 = .ok (.iload_n 2, 1) := by decide +kernel
theorem dL_tryOf_3 : decode cL_tryOf 3 = .ok (.invokevirtual 41, 3) := by decide +kernel
theorem dL_tryOf_6 : decode cL_tryOf 6 = .ok (.ireturn, 1) := by decide +kernel
theorem dL_tryOf_7 : decode cL_tryOf 7 = .ok (.astore_n 3, 1) := by decide +kernel
theorem dL_tryOf_8 : decode cL_tryOf 8 = .ok (.ldc 15, 2) := by decide +kernel
theorem dL_tryOf_10 : decode cL_tryOf 10 = .ok (.ireturn, 1) := by decide +kernel
theorem dL_tryOf_11 : decode cL_tryOf 11 = .ok (.astore_n 3, 1) := by decide +kernel
theorem dL_tryOf_12 : decode cL_tryOf 12 = .ok (.ldc 18, 2) := by decide +kernel
theorem dL_tryOf_14 : decode cL_tryOf 14 = .ok (.ireturn, 1) := by decide +kernel
theorem dL_tryTeller_0 : decode cL_tryTeller 0 = .ok (.aload_n 0, 1) := by decide +kernel
theorem dL_tryTeller_1 : decode cL_tryTeller 1 = .ok (.iload_n 1, 1) := by decide +kernel
theorem dL_tryTeller_2 : decode cL_tryTeller 2 = .ok (.iload_n 2, 1) := by decide +kernel
theorem dL_tryTeller_3 : decode cL_tryTeller 3 = .ok (.invokevirtual 45, 3) := by decide +kernel
theorem dL_tryTeller_6 : decode cL_tryTeller 6 = .ok (.ireturn, 1) := by decide +kernel
theorem dL_tryTeller_7 : decode cL_tryTeller 7 = .ok (.astore_n 3, 1) := by decide +kernel
theorem dL_tryTeller_8 : decode cL_tryTeller 8 = .ok (.ldc 15, 2) := by decide +kernel
theorem dL_tryTeller_10 : decode cL_tryTeller 10 = .ok (.ireturn, 1) := by decide +kernel
theorem dL_tryTeller_11 : decode cL_tryTeller 11 = .ok (.astore_n 3, 1) := by decide +kernel
theorem dL_tryTeller_12 : decode cL_tryTeller 12 = .ok (.ldc 18, 2) := by decide +kernel
theorem dL_tryTeller_14 : decode cL_tryTeller 14 = .ok (.ireturn, 1) := by decide +kernel
theorem dL_trySteeple_0 : decode cL_trySteeple 0 = .ok (.aload_n 0, 1) := by decide +kernel
theorem dL_trySteeple_1 : decode cL_trySteeple 1 = .ok (.iload_n 1, 1) := by decide +kernel
theorem dL_trySteeple_2 : decode cL_trySteeple 2 = .ok (.iload_n 2, 1) := by decide +kernel
theorem dL_trySteeple_3 : decode cL_trySteeple 3 = .ok (.invokevirtual 48, 3) := by decide +kernel
theorem dL_trySteeple_6 : decode cL_trySteeple 6 = .ok (.ireturn, 1) := by decide +kernel
theorem dL_trySteeple_7 : decode cL_trySteeple 7 = .ok (.astore_n 3, 1) := by decide +kernel
theorem dL_trySteeple_8 : decode cL_trySteeple 8 = .ok (.ldc 15, 2) := by decide +kernel
theorem dL_trySteeple_10 : decode cL_trySteeple 10 = .ok (.ireturn, 1) := by decide +kernel
theorem dL_trySteeple_11 : decode cL_trySteeple 11 = .ok (.astore_n 3, 1) := by decide +kernel
theorem dL_trySteeple_12 : decode cL_trySteeple 12 = .ok (.ldc 18, 2) := by decide +kernel
theorem dL_trySteeple_14 : decode cL_trySteeple 14 = .ok (.ireturn, 1) := by decide +kernel
theorem dL_tryVote_0 : decode cL_tryVote 0 = .ok (.aload_n 0, 1) := by decide +kernel
theorem dL_tryVote_1 : decode cL_tryVote 1 = .ok (.iload_n 1, 1) := by decide +kernel
theorem dL_tryVote_2 : decode cL_tryVote 2 = .ok (.iload_n 2, 1) := by decide +kernel
theorem dL_tryVote_3 : decode cL_tryVote 3 = .ok (.invokevirtual 51, 3) := by decide +kernel
theorem dL_tryVote_6 : decode cL_tryVote 6 = .ok (.ireturn, 1) := by decide +kernel
theorem dL_tryVote_7 : decode cL_tryVote 7 = .ok (.astore_n 3, 1) := by decide +kernel
theorem dL_tryVote_8 : decode cL_tryVote 8 = .ok (.ldc 15, 2) := by decide +kernel
theorem dL_tryVote_10 : decode cL_tryVote 10 = .ok (.ireturn, 1) := by decide +kernel
theorem dL_tryVote_11 : decode cL_tryVote 11 = .ok (.astore_n 3, 1) := by decide +kernel
theorem dL_tryVote_12 : decode cL_tryVote 12 = .ok (.ldc 18, 2) := by decide +kernel
theorem dL_tryVote_14 : decode cL_tryVote 14 = .ok (.ireturn, 1) := by decide +kernel
theorem dL_tryBest_0 : decode cL_tryBest 0 = .ok (.aload_n 0, 1) := by decide +kernel
theorem dL_tryBest_1 : decode cL_tryBest 1 = .ok (.iload_n 1, 1) := by decide +kernel
theorem dL_tryBest_2 : decode cL_tryBest 2 = .ok (.iload_n 2, 1) := by decide +kernel
theorem dL_tryBest_3 : decode cL_tryBest 3 = .ok (.iload_n 3, 1) := by decide +kernel
theorem dL_tryBest_4 : decode cL_tryBest 4 = .ok (.invokevirtual 54, 3) := by decide +kernel
theorem dL_tryBest_7 : decode cL_tryBest 7 = .ok (.ireturn, 1) := by decide +kernel
theorem dL_tryBest_8 : decode cL_tryBest 8 = .ok (.astore 4, 2) := by decide +kernel
theorem dL_tryBest_10 : decode cL_tryBest 10 = .ok (.ldc 15, 2) := by decide +kernel
theorem dL_tryBest_12 : decode cL_tryBest 12 = .ok (.ireturn, 1) := by decide +kernel
theorem dL_tryBest_13 : decode cL_tryBest 13 = .ok (.astore 4, 2) := by decide +kernel
theorem dL_tryBest_15 : decode cL_tryBest 15 = .ok (.ldc 18, 2) := by decide +kernel
theorem dL_tryBest_17 : decode cL_tryBest 17 = .ok (.ireturn, 1) := by decide +kernel
theorem dL_trySetting_0 : decode cL_trySetting 0 = .ok (.aload_n 0, 1) := by decide +kernel
theorem dL_trySetting_1 : decode cL_trySetting 1 = .ok (.iload_n 1, 1) := by decide +kernel
theorem dL_trySetting_2 : decode cL_trySetting 2 = .ok (.invokevirtual 58, 3) := by decide +kernel
theorem dL_trySetting_5 : decode cL_trySetting 5 = .ok (.ireturn, 1) := by decide +kernel
theorem dL_trySetting_6 : decode cL_trySetting 6 = .ok (.astore_n 2, 1) := by decide +kernel
theorem dL_trySetting_7 : decode cL_trySetting 7 = .ok (.ldc 18, 2) := by decide +kernel
theorem dL_trySetting_9 : decode cL_trySetting 9 = .ok (.ireturn, 1) := by decide +kernel
theorem dL_tryDrop_0 : decode cL_tryDrop 0 = .ok (.aload_n 0, 1) := by decide +kernel
theorem dL_tryDrop_1 : decode cL_tryDrop 1 = .ok (.iload_n 1, 1) := by decide +kernel
theorem dL_tryDrop_2 : decode cL_tryDrop 2 = .ok (.invokevirtual 61, 3) := by decide +kernel
theorem dL_tryDrop_5 : decode cL_tryDrop 5 = .ok (.ireturn, 1) := by decide +kernel
theorem dL_tryDrop_6 : decode cL_tryDrop 6 = .ok (.astore_n 2, 1) := by decide +kernel
theorem dL_tryDrop_7 : decode cL_tryDrop 7 = .ok (.ldc 15, 2) := by decide +kernel
theorem dL_tryDrop_9 : decode cL_tryDrop 9 = .ok (.ireturn, 1) := by decide +kernel
theorem dL_tryTrust_0 : decode cL_tryTrust 0 = .ok (.aload_n 0, 1) := by decide +kernel
theorem dL_tryTrust_1 : decode cL_tryTrust 1 = .ok (.iload_n 1, 1) := by decide +kernel
theorem dL_tryTrust_2 : decode cL_tryTrust 2 = .ok (.iload_n 2, 1) := by decide +kernel
theorem dL_tryTrust_3 : decode cL_tryTrust 3 = .ok (.invokevirtual 64, 3) := by decide +kernel
theorem dL_tryTrust_6 : decode cL_tryTrust 6 = .ok (.ireturn, 1) := by decide +kernel
theorem dL_tryTrust_7 : decode cL_tryTrust 7 = .ok (.astore_n 3, 1) := by decide +kernel
theorem dL_tryTrust_8 : decode cL_tryTrust 8 = .ok (.ldc 15, 2) := by decide +kernel
theorem dL_tryTrust_10 : decode cL_tryTrust 10 = .ok (.ireturn, 1) := by decide +kernel
theorem dL_tryTrust_11 : decode cL_tryTrust 11 = .ok (.astore_n 3, 1) := by decide +kernel
theorem dL_tryTrust_12 : decode cL_tryTrust 12 = .ok (.ldc 18, 2) := by decide +kernel
theorem dL_tryTrust_14 : decode cL_tryTrust 14 = .ok (.ireturn, 1) := by decide +kernel
theorem dL_trySurvey_0 : decode cL_trySurvey 0 = .ok (.aload_n 0, 1) := by decide +kernel
theorem dL_trySurvey_1 : decode cL_trySurvey 1 = .ok (.iload_n 1, 1) := by decide +kernel
theorem dL_trySurvey_2 : decode cL_trySurvey 2 = .ok (.iload_n 2, 1) := by decide +kernel
theorem dL_trySurvey_3 : decode cL_trySurvey 3 = .ok (.invokevirtual 67, 3) := by decide +kernel
theorem dL_trySurvey_6 : decode cL_trySurvey 6 = .ok (.ireturn, 1) := by decide +kernel
theorem dL_trySurvey_7 : decode cL_trySurvey 7 = .ok (.astore_n 3, 1) := by decide +kernel
theorem dL_trySurvey_8 : decode cL_trySurvey 8 = .ok (.ldc 15, 2) := by decide +kernel
theorem dL_trySurvey_10 : decode cL_trySurvey 10 = .ok (.ireturn, 1) := by decide +kernel
theorem dL_trySurvey_11 : decode cL_trySurvey 11 = .ok (.astore_n 3, 1) := by decide +kernel
theorem dL_trySurvey_12 : decode cL_trySurvey 12 = .ok (.ldc 18, 2) := by decide +kernel
theorem dL_trySurvey_14 : decode cL_trySurvey 14 = .ok (.ireturn, 1) := by decide +kernel
theorem dL_tryLay_0 : decode cL_tryLay 0 = .ok (.aload_n 0, 1) := by decide +kernel
theorem dL_tryLay_1 : decode cL_tryLay 1 = .ok (.iload_n 1, 1) := by decide +kernel
theorem dL_tryLay_2 : decode cL_tryLay 2 = .ok (.iload_n 2, 1) := by decide +kernel
theorem dL_tryLay_3 : decode cL_tryLay 3 = .ok (.invokevirtual 70, 3) := by decide +kernel
theorem dL_tryLay_6 : decode cL_tryLay 6 = .ok (.ireturn, 1) := by decide +kernel
theorem dL_tryLay_7 : decode cL_tryLay 7 = .ok (.astore_n 3, 1) := by decide +kernel
theorem dL_tryLay_8 : decode cL_tryLay 8 = .ok (.ldc 18, 2) := by decide +kernel
theorem dL_tryLay_10 : decode cL_tryLay 10 = .ok (.ireturn, 1) := by decide +kernel
theorem dL_tryUndo_0 : decode cL_tryUndo 0 = .ok (.aload_n 0, 1) := by decide +kernel
theorem dL_tryUndo_1 : decode cL_tryUndo 1 = .ok (.invokevirtual 73, 3) := by decide +kernel
theorem dL_tryUndo_4 : decode cL_tryUndo 4 = .ok (.ireturn, 1) := by decide +kernel
theorem dL_tryUndo_5 : decode cL_tryUndo 5 = .ok (.astore_n 1, 1) := by decide +kernel
theorem dL_tryUndo_6 : decode cL_tryUndo 6 = .ok (.ldc 21, 2) := by decide +kernel
theorem dL_tryUndo_8 : decode cL_tryUndo 8 = .ok (.ireturn, 1) := by decide +kernel
theorem dL_tryApart_0 : decode cL_tryApart 0 = .ok (.aload_n 0, 1) := by decide +kernel
theorem dL_tryApart_1 : decode cL_tryApart 1 = .ok (.iload_n 1, 1) := by decide +kernel
theorem dL_tryApart_2 : decode cL_tryApart 2 = .ok (.iload_n 2, 1) := by decide +kernel
theorem dL_tryApart_3 : decode cL_tryApart 3 = .ok (.invokevirtual 76, 3) := by decide +kernel
theorem dL_tryApart_6 : decode cL_tryApart 6 = .ok (.ireturn, 1) := by decide +kernel
theorem dL_tryApart_7 : decode cL_tryApart 7 = .ok (.astore_n 3, 1) := by decide +kernel
theorem dL_tryApart_8 : decode cL_tryApart 8 = .ok (.ldc 15, 2) := by decide +kernel
theorem dL_tryApart_10 : decode cL_tryApart 10 = .ok (.ireturn, 1) := by decide +kernel
theorem dL_tryAgainst_0 : decode cL_tryAgainst 0 = .ok (.aload_n 0, 1) := by decide +kernel
theorem dL_tryAgainst_1 : decode cL_tryAgainst 1 = .ok (.iload_n 1, 1) := by decide +kernel
theorem dL_tryAgainst_2 : decode cL_tryAgainst 2 = .ok (.invokevirtual 79, 3) := by decide +kernel
theorem dL_tryAgainst_5 : decode cL_tryAgainst 5 = .ok (.ireturn, 1) := by decide +kernel
theorem dL_tryAgainst_6 : decode cL_tryAgainst 6 = .ok (.astore_n 2, 1) := by decide +kernel
theorem dL_tryAgainst_7 : decode cL_tryAgainst 7 = .ok (.ldc 15, 2) := by decide +kernel
theorem dL_tryAgainst_9 : decode cL_tryAgainst 9 = .ok (.ireturn, 1) := by decide +kernel
theorem dL_tryWithout_0 : decode cL_tryWithout 0 = .ok (.aload_n 0, 1) := by decide +kernel
theorem dL_tryWithout_1 : decode cL_tryWithout 1 = .ok (.iload_n 1, 1) := by decide +kernel
theorem dL_tryWithout_2 : decode cL_tryWithout 2 = .ok (.iload_n 2, 1) := by decide +kernel
theorem dL_tryWithout_3 : decode cL_tryWithout 3 = .ok (.invokevirtual 82, 3) := by decide +kernel
theorem dL_tryWithout_6 : decode cL_tryWithout 6 = .ok (.ireturn, 1) := by decide +kernel
theorem dL_tryWithout_7 : decode cL_tryWithout 7 = .ok (.astore_n 3, 1) := by decide +kernel
theorem dL_tryWithout_8 : decode cL_tryWithout 8 = .ok (.ldc 15, 2) := by decide +kernel
theorem dL_tryWithout_10 : decode cL_tryWithout 10 = .ok (.ireturn, 1) := by decide +kernel
theorem dL_tryWithout_11 : decode cL_tryWithout 11 = .ok (.astore_n 3, 1) := by decide +kernel
theorem dL_tryWithout_12 : decode cL_tryWithout 12 = .ok (.ldc 18, 2) := by decide +kernel
theorem dL_tryWithout_14 : decode cL_tryWithout 14 = .ok (.ireturn, 1) := by decide +kernel
theorem dL_trySwings_0 : decode cL_trySwings 0 = .ok (.aload_n 0, 1) := by decide +kernel
theorem dL_trySwings_1 : decode cL_trySwings 1 = .ok (.iload_n 1, 1) := by decide +kernel
theorem dL_trySwings_2 : decode cL_trySwings 2 = .ok (.iload_n 2, 1) := by decide +kernel
theorem dL_trySwings_3 : decode cL_trySwings 3 = .ok (.invokevirtual 85, 3) := by decide +kernel
theorem dL_trySwings_6 : decode cL_trySwings 6 = .ok (.ireturn, 1) := by decide +kernel
theorem dL_trySwings_7 : decode cL_trySwings 7 = .ok (.astore_n 3, 1) := by decide +kernel
theorem dL_trySwings_8 : decode cL_trySwings 8 = .ok (.ldc 15, 2) := by decide +kernel
theorem dL_trySwings_10 : decode cL_trySwings 10 = .ok (.ireturn, 1) := by decide +kernel
theorem dL_tryKeep_0 : decode cL_tryKeep 0 = .ok (.aload_n 0, 1) := by decide +kernel
theorem dL_tryKeep_1 : decode cL_tryKeep 1 = .ok (.iload_n 1, 1) := by decide +kernel
theorem dL_tryKeep_2 : decode cL_tryKeep 2 = .ok (.invokevirtual 88, 3) := by decide +kernel
theorem dL_tryKeep_5 : decode cL_tryKeep 5 = .ok (.ireturn, 1) := by decide +kernel
theorem dL_tryKeep_6 : decode cL_tryKeep 6 = .ok (.astore_n 2, 1) := by decide +kernel
theorem dL_tryKeep_7 : decode cL_tryKeep 7 = .ok (.ldc 15, 2) := by decide +kernel
theorem dL_tryKeep_9 : decode cL_tryKeep 9 = .ok (.ireturn, 1) := by decide +kernel
theorem dL_tryBack_0 : decode cL_tryBack 0 = .ok (.aload_n 0, 1) := by decide +kernel
theorem dL_tryBack_1 : decode cL_tryBack 1 = .ok (.iload_n 1, 1) := by decide +kernel
theorem dL_tryBack_2 : decode cL_tryBack 2 = .ok (.invokevirtual 91, 3) := by decide +kernel
theorem dL_tryBack_5 : decode cL_tryBack 5 = .ok (.ireturn, 1) := by decide +kernel
theorem dL_tryBack_6 : decode cL_tryBack 6 = .ok (.astore_n 2, 1) := by decide +kernel
theorem dL_tryBack_7 : decode cL_tryBack 7 = .ok (.ldc 15, 2) := by decide +kernel
theorem dL_tryBack_9 : decode cL_tryBack 9 = .ok (.ireturn, 1) := by decide +kernel
theorem dL_tryBack_10 : decode cL_tryBack 10 = .ok (.astore_n 2, 1) := by decide +kernel
theorem dL_tryBack_11 : decode cL_tryBack 11 = .ok (.ldc 21, 2) := by decide +kernel
theorem dL_tryBack_13 : decode cL_tryBack 13 = .ok (.ireturn, 1) := by decide +kernel
theorem dL_call_0 : decode cL_call 0 = .ok (.iload_n 1, 1) := by decide +kernel
theorem dL_call_1 : decode cL_call 1 = .ok (.tableswitch 216 0 18 #[91, 97, 102, 108, 115, 122, 129, 136, 145, 151, 157, 164, 171, 178, 183, 190, 196, 203, 210], 91) := by decide +kernel
theorem dL_call_92 : decode cL_call 92 = .ok (.aload_n 0, 1) := by decide +kernel
theorem dL_call_93 : decode cL_call 93 = .ok (.iload_n 2, 1) := by decide +kernel
theorem dL_call_94 : decode cL_call 94 = .ok (.invokestatic 94, 3) := by decide +kernel
theorem dL_call_97 : decode cL_call 97 = .ok (.ireturn, 1) := by decide +kernel
theorem dL_call_98 : decode cL_call 98 = .ok (.aload_n 0, 1) := by decide +kernel
theorem dL_call_99 : decode cL_call 99 = .ok (.invokestatic 100, 3) := by decide +kernel
theorem dL_call_102 : decode cL_call 102 = .ok (.ireturn, 1) := by decide +kernel
theorem dL_call_103 : decode cL_call 103 = .ok (.aload_n 0, 1) := by decide +kernel
theorem dL_call_104 : decode cL_call 104 = .ok (.iload_n 2, 1) := by decide +kernel
theorem dL_call_105 : decode cL_call 105 = .ok (.invokestatic 104, 3) := by decide +kernel
theorem dL_call_108 : decode cL_call 108 = .ok (.ireturn, 1) := by decide +kernel
theorem dL_call_109 : decode cL_call 109 = .ok (.aload_n 0, 1) := by decide +kernel
theorem dL_call_110 : decode cL_call 110 = .ok (.iload_n 2, 1) := by decide +kernel
theorem dL_call_111 : decode cL_call 111 = .ok (.iload_n 3, 1) := by decide +kernel
theorem dL_call_112 : decode cL_call 112 = .ok (.invokestatic 107, 3) := by decide +kernel
theorem dL_call_115 : decode cL_call 115 = .ok (.ireturn, 1) := by decide +kernel
theorem dL_call_116 : decode cL_call 116 = .ok (.aload_n 0, 1) := by decide +kernel
theorem dL_call_117 : decode cL_call 117 = .ok (.iload_n 2, 1) := by decide +kernel
theorem dL_call_118 : decode cL_call 118 = .ok (.iload_n 3, 1) := by decide +kernel
theorem dL_call_119 : decode cL_call 119 = .ok (.invokestatic 111, 3) := by decide +kernel
theorem dL_call_122 : decode cL_call 122 = .ok (.ireturn, 1) := by decide +kernel
theorem dL_call_123 : decode cL_call 123 = .ok (.aload_n 0, 1) := by decide +kernel
theorem dL_call_124 : decode cL_call 124 = .ok (.iload_n 2, 1) := by decide +kernel
theorem dL_call_125 : decode cL_call 125 = .ok (.iload_n 3, 1) := by decide +kernel
theorem dL_call_126 : decode cL_call 126 = .ok (.invokestatic 114, 3) := by decide +kernel
theorem dL_call_129 : decode cL_call 129 = .ok (.ireturn, 1) := by decide +kernel
theorem dL_call_130 : decode cL_call 130 = .ok (.aload_n 0, 1) := by decide +kernel
theorem dL_call_131 : decode cL_call 131 = .ok (.iload_n 2, 1) := by decide +kernel
theorem dL_call_132 : decode cL_call 132 = .ok (.iload_n 3, 1) := by decide +kernel
theorem dL_call_133 : decode cL_call 133 = .ok (.invokestatic 117, 3) := by decide +kernel
theorem dL_call_136 : decode cL_call 136 = .ok (.ireturn, 1) := by decide +kernel
theorem dL_call_137 : decode cL_call 137 = .ok (.aload_n 0, 1) := by decide +kernel
theorem dL_call_138 : decode cL_call 138 = .ok (.iload_n 2, 1) := by decide +kernel
theorem dL_call_139 : decode cL_call 139 = .ok (.iload_n 3, 1) := by decide +kernel
theorem dL_call_140 : decode cL_call 140 = .ok (.iload 4, 2) := by decide +kernel
theorem dL_call_142 : decode cL_call 142 = .ok (.invokestatic 120, 3) := by decide +kernel
theorem dL_call_145 : decode cL_call 145 = .ok (.ireturn, 1) := by decide +kernel
theorem dL_call_146 : decode cL_call 146 = .ok (.aload_n 0, 1) := by decide +kernel
theorem dL_call_147 : decode cL_call 147 = .ok (.iload_n 2, 1) := by decide +kernel
theorem dL_call_148 : decode cL_call 148 = .ok (.invokestatic 124, 3) := by decide +kernel
theorem dL_call_151 : decode cL_call 151 = .ok (.ireturn, 1) := by decide +kernel
theorem dL_call_152 : decode cL_call 152 = .ok (.aload_n 0, 1) := by decide +kernel
theorem dL_call_153 : decode cL_call 153 = .ok (.iload_n 2, 1) := by decide +kernel
theorem dL_call_154 : decode cL_call 154 = .ok (.invokestatic 127, 3) := by decide +kernel
theorem dL_call_157 : decode cL_call 157 = .ok (.ireturn, 1) := by decide +kernel
theorem dL_call_158 : decode cL_call 158 = .ok (.aload_n 0, 1) := by decide +kernel
theorem dL_call_159 : decode cL_call 159 = .ok (.iload_n 2, 1) := by decide +kernel
theorem dL_call_160 : decode cL_call 160 = .ok (.iload_n 3, 1) := by decide +kernel
theorem dL_call_161 : decode cL_call 161 = .ok (.invokestatic 130, 3) := by decide +kernel
theorem dL_call_164 : decode cL_call 164 = .ok (.ireturn, 1) := by decide +kernel
theorem dL_call_165 : decode cL_call 165 = .ok (.aload_n 0, 1) := by decide +kernel
theorem dL_call_166 : decode cL_call 166 = .ok (.iload_n 2, 1) := by decide +kernel
theorem dL_call_167 : decode cL_call 167 = .ok (.iload_n 3, 1) := by decide +kernel
theorem dL_call_168 : decode cL_call 168 = .ok (.invokestatic 133, 3) := by decide +kernel
theorem dL_call_171 : decode cL_call 171 = .ok (.ireturn, 1) := by decide +kernel
theorem dL_call_172 : decode cL_call 172 = .ok (.aload_n 0, 1) := by decide +kernel
theorem dL_call_173 : decode cL_call 173 = .ok (.iload_n 2, 1) := by decide +kernel
theorem dL_call_174 : decode cL_call 174 = .ok (.iload_n 3, 1) := by decide +kernel
theorem dL_call_175 : decode cL_call 175 = .ok (.invokestatic 136, 3) := by decide +kernel
theorem dL_call_178 : decode cL_call 178 = .ok (.ireturn, 1) := by decide +kernel
theorem dL_call_179 : decode cL_call 179 = .ok (.aload_n 0, 1) := by decide +kernel
theorem dL_call_180 : decode cL_call 180 = .ok (.invokestatic 139, 3) := by decide +kernel
theorem dL_call_183 : decode cL_call 183 = .ok (.ireturn, 1) := by decide +kernel
theorem dL_call_184 : decode cL_call 184 = .ok (.aload_n 0, 1) := by decide +kernel
theorem dL_call_185 : decode cL_call 185 = .ok (.iload_n 2, 1) := by decide +kernel
theorem dL_call_186 : decode cL_call 186 = .ok (.iload_n 3, 1) := by decide +kernel
theorem dL_call_187 : decode cL_call 187 = .ok (.invokestatic 142, 3) := by decide +kernel
theorem dL_call_190 : decode cL_call 190 = .ok (.ireturn, 1) := by decide +kernel
theorem dL_call_191 : decode cL_call 191 = .ok (.aload_n 0, 1) := by decide +kernel
theorem dL_call_192 : decode cL_call 192 = .ok (.iload_n 2, 1) := by decide +kernel
theorem dL_call_193 : decode cL_call 193 = .ok (.invokestatic 145, 3) := by decide +kernel
theorem dL_call_196 : decode cL_call 196 = .ok (.ireturn, 1) := by decide +kernel
theorem dL_call_197 : decode cL_call 197 = .ok (.aload_n 0, 1) := by decide +kernel
theorem dL_call_198 : decode cL_call 198 = .ok (.iload_n 2, 1) := by decide +kernel
theorem dL_call_199 : decode cL_call 199 = .ok (.iload_n 3, 1) := by decide +kernel
theorem dL_call_200 : decode cL_call 200 = .ok (.invokestatic 148, 3) := by decide +kernel
theorem dL_call_203 : decode cL_call 203 = .ok (.ireturn, 1) := by decide +kernel
theorem dL_call_204 : decode cL_call 204 = .ok (.aload_n 0, 1) := by decide +kernel
theorem dL_call_205 : decode cL_call 205 = .ok (.iload_n 2, 1) := by decide +kernel
theorem dL_call_206 : decode cL_call 206 = .ok (.iload_n 3, 1) := by decide +kernel
theorem dL_call_207 : decode cL_call 207 = .ok (.invokestatic 151, 3) := by decide +kernel
theorem dL_call_210 : decode cL_call 210 = .ok (.ireturn, 1) := by decide +kernel
theorem dL_call_211 : decode cL_call 211 = .ok (.aload_n 0, 1) := by decide +kernel
theorem dL_call_212 : decode cL_call 212 = .ok (.iload_n 2, 1) := by decide +kernel
theorem dL_call_213 : decode cL_call 213 = .ok (.invokestatic 154, 3) := by decide +kernel
theorem dL_call_216 : decode cL_call 216 = .ok (.ireturn, 1) := by decide +kernel
theorem dL_call_217 : decode cL_call 217 = .ok (.aload_n 0, 1) := by decide +kernel
theorem dL_call_218 : decode cL_call 218 = .ok (.iload_n 2, 1) := by decide +kernel
theorem dL_call_219 : decode cL_call 219 = .ok (.invokestatic 157, 3) := by decide +kernel
theorem dL_call_222 : decode cL_call 222 = .ok (.ireturn, 1) := by decide +kernel
theorem dL_cell_0 : decode cL_cell 0 = .ok (.iload_n 1, 1) := by decide +kernel
theorem dL_cell_1 : decode cL_cell 1 = .ok (.aload_n 0, 1) := by decide +kernel
theorem dL_cell_2 : decode cL_cell 2 = .ok (.arraylength, 1) := by decide +kernel
theorem dL_cell_3 : decode cL_cell 3 = .ok (.if_icmp .ge 9, 3) := by decide +kernel
theorem dL_cell_6 : decode cL_cell 6 = .ok (.aload_n 0, 1) := by decide +kernel
theorem dL_cell_7 : decode cL_cell 7 = .ok (.iload_n 1, 1) := by decide +kernel
theorem dL_cell_8 : decode cL_cell 8 = .ok (.iaload, 1) := by decide +kernel
theorem dL_cell_9 : decode cL_cell 9 = .ok (.goto 13, 3) := by decide +kernel
theorem dL_cell_12 : decode cL_cell 12 = .ok (.ldc 160, 2) := by decide +kernel
theorem dL_cell_14 : decode cL_cell 14 = .ok (.iload_n 1, 1) := by decide +kernel
theorem dL_cell_15 : decode cL_cell 15 = .ok (.iconst 3, 1) := by decide +kernel
theorem dL_cell_16 : decode cL_cell 16 = .ok (.iadd, 1) := by decide +kernel
theorem dL_cell_17 : decode cL_cell 17 = .ok (.imul, 1) := by decide +kernel
theorem dL_cell_18 : decode cL_cell 18 = .ok (.sipush 12101, 3) := by decide +kernel
theorem dL_cell_21 : decode cL_cell 21 = .ok (.iadd, 1) := by decide +kernel
theorem dL_cell_22 : decode cL_cell 22 = .ok (.ldc 161, 2) := by decide +kernel
theorem dL_cell_24 : decode cL_cell 24 = .ok (.iand, 1) := by decide +kernel
theorem dL_cell_25 : decode cL_cell 25 = .ok (.ireturn, 1) := by decide +kernel
theorem dL_thrown_0 : decode cL_thrown 0 = .ok (.iload_n 0, 1) := by decide +kernel
theorem dL_thrown_1 : decode cL_thrown 1 = .ok (.ldc 15, 2) := by decide +kernel
theorem dL_thrown_3 : decode cL_thrown 3 = .ok (.if_icmp .eq 15, 3) := by decide +kernel
theorem dL_thrown_6 : decode cL_thrown 6 = .ok (.iload_n 0, 1) := by decide +kernel
theorem dL_thrown_7 : decode cL_thrown 7 = .ok (.ldc 18, 2) := by decide +kernel
theorem dL_thrown_9 : decode cL_thrown 9 = .ok (.if_icmp .eq 9, 3) := by decide +kernel
theorem dL_thrown_12 : decode cL_thrown 12 = .ok (.iload_n 0, 1) := by decide +kernel
theorem dL_thrown_13 : decode cL_thrown 13 = .ok (.ldc 21, 2) := by decide +kernel
theorem dL_thrown_15 : decode cL_thrown 15 = .ok (.if_icmp .ne 7, 3) := by decide +kernel
theorem dL_thrown_18 : decode cL_thrown 18 = .ok (.iconst 1, 1) := by decide +kernel
theorem dL_thrown_19 : decode cL_thrown 19 = .ok (.goto 4, 3) := by decide +kernel
theorem dL_thrown_22 : decode cL_thrown 22 = .ok (.iconst 0, 1) := by decide +kernel
theorem dL_thrown_23 : decode cL_thrown 23 = .ok (.ireturn, 1) := by decide +kernel
theorem dL_refuses_0 : decode cL_refuses 0 = .ok (.aload_n 0, 1) := by decide +kernel
theorem dL_refuses_1 : decode cL_refuses 1 = .ok (.iconst 2, 1) := by decide +kernel
theorem dL_refuses_2 : decode cL_refuses 2 = .ok (.iconst 0, 1) := by decide +kernel
theorem dL_refuses_3 : decode cL_refuses 3 = .ok (.iconst 0, 1) := by decide +kernel
theorem dL_refuses_4 : decode cL_refuses 4 = .ok (.iconst 0, 1) := by decide +kernel
theorem dL_refuses_5 : decode cL_refuses 5 = .ok (.invokestatic 162, 3) := by decide +kernel
theorem dL_refuses_8 : decode cL_refuses 8 = .ok (.istore_n 2, 1) := by decide +kernel
theorem dL_refuses_9 : decode cL_refuses 9 = .ok (.iload_n 1, 1) := by decide +kernel
theorem dL_refuses_10 : decode cL_refuses 10 = .ok (.iconst 2, 1) := by decide +kernel
theorem dL_refuses_11 : decode cL_refuses 11 = .ok (.irem, 1) := by decide +kernel
theorem dL_refuses_12 : decode cL_refuses 12 = .ok (.ifCond .ne 12, 3) := by decide +kernel
theorem dL_refuses_15 : decode cL_refuses 15 = .ok (.iconst (-1), 1) := by decide +kernel
theorem dL_refuses_16 : decode cL_refuses 16 = .ok (.iload_n 1, 1) := by decide +kernel
theorem dL_refuses_17 : decode cL_refuses 17 = .ok (.bipush 99, 2) := by decide +kernel
theorem dL_refuses_19 : decode cL_refuses 19 = .ok (.irem, 1) := by decide +kernel
theorem dL_refuses_20 : decode cL_refuses 20 = .ok (.isub, 1) := by decide +kernel
theorem dL_refuses_21 : decode cL_refuses 21 = .ok (.goto 9, 3) := by decide +kernel
theorem dL_refuses_24 : decode cL_refuses 24 = .ok (.iload_n 2, 1) := by decide +kernel
theorem dL_refuses_25 : decode cL_refuses 25 = .ok (.iload_n 1, 1) := by decide +kernel
theorem dL_refuses_26 : decode cL_refuses 26 = .ok (.bipush 99, 2) := by decide +kernel
theorem dL_refuses_28 : decode cL_refuses 28 = .ok (.irem, 1) := by decide +kernel
theorem dL_refuses_29 : decode cL_refuses 29 = .ok (.iadd, 1) := by decide +kernel
theorem dL_refuses_30 : decode cL_refuses 30 = .ok (.istore_n 3, 1) := by decide +kernel
theorem dL_refuses_31 : decode cL_refuses 31 = .ok (.iload_n 1, 1) := by decide +kernel
theorem dL_refuses_32 : decode cL_refuses 32 = .ok (.iconst 2, 1) := by decide +kernel
theorem dL_refuses_33 : decode cL_refuses 33 = .ok (.irem, 1) := by decide +kernel
theorem dL_refuses_34 : decode cL_refuses 34 = .ok (.ifCond .ne 12, 3) := by decide +kernel
theorem dL_refuses_37 : decode cL_refuses 37 = .ok (.iconst (-1), 1) := by decide +kernel
theorem dL_refuses_38 : decode cL_refuses 38 = .ok (.iload_n 1, 1) := by decide +kernel
theorem dL_refuses_39 : decode cL_refuses 39 = .ok (.bipush 99, 2) := by decide +kernel
theorem dL_refuses_41 : decode cL_refuses 41 = .ok (.irem, 1) := by decide +kernel
theorem dL_refuses_42 : decode cL_refuses 42 = .ok (.isub, 1) := by decide +kernel
theorem dL_refuses_43 : decode cL_refuses 43 = .ok (.goto 9, 3) := by decide +kernel
theorem dL_refuses_46 : decode cL_refuses 46 = .ok (.iconst 3, 1) := by decide +kernel
theorem dL_refuses_47 : decode cL_refuses 47 = .ok (.iload_n 1, 1) := by decide +kernel
theorem dL_refuses_48 : decode cL_refuses 48 = .ok (.bipush 99, 2) := by decide +kernel
theorem dL_refuses_50 : decode cL_refuses 50 = .ok (.irem, 1) := by decide +kernel
theorem dL_refuses_51 : decode cL_refuses 51 = .ok (.iadd, 1) := by decide +kernel
theorem dL_refuses_52 : decode cL_refuses 52 = .ok (.istore 4, 2) := by decide +kernel
theorem dL_refuses_54 : decode cL_refuses 54 = .ok (.iload_n 1, 1) := by decide +kernel
theorem dL_refuses_55 : decode cL_refuses 55 = .ok (.iconst 2, 1) := by decide +kernel
theorem dL_refuses_56 : decode cL_refuses 56 = .ok (.irem, 1) := by decide +kernel
theorem dL_refuses_57 : decode cL_refuses 57 = .ok (.ifCond .ne 12, 3) := by decide +kernel
theorem dL_refuses_60 : decode cL_refuses 60 = .ok (.iconst (-1), 1) := by decide +kernel
theorem dL_refuses_61 : decode cL_refuses 61 = .ok (.iload_n 1, 1) := by decide +kernel
theorem dL_refuses_62 : decode cL_refuses 62 = .ok (.bipush 99, 2) := by decide +kernel
theorem dL_refuses_64 : decode cL_refuses 64 = .ok (.irem, 1) := by decide +kernel
theorem dL_refuses_65 : decode cL_refuses 65 = .ok (.isub, 1) := by decide +kernel
theorem dL_refuses_66 : decode cL_refuses 66 = .ok (.goto 10, 3) := by decide +kernel
theorem dL_refuses_69 : decode cL_refuses 69 = .ok (.bipush 6, 2) := by decide +kernel
theorem dL_refuses_71 : decode cL_refuses 71 = .ok (.iload_n 1, 1) := by decide +kernel
theorem dL_refuses_72 : decode cL_refuses 72 = .ok (.bipush 99, 2) := by decide +kernel
theorem dL_refuses_74 : decode cL_refuses 74 = .ok (.irem, 1) := by decide +kernel
theorem dL_refuses_75 : decode cL_refuses 75 = .ok (.iadd, 1) := by decide +kernel
theorem dL_refuses_76 : decode cL_refuses 76 = .ok (.istore 5, 2) := by decide +kernel
theorem dL_refuses_78 : decode cL_refuses 78 = .ok (.iload_n 1, 1) := by decide +kernel
theorem dL_refuses_79 : decode cL_refuses 79 = .ok (.iconst 2, 1) := by decide +kernel
theorem dL_refuses_80 : decode cL_refuses 80 = .ok (.irem, 1) := by decide +kernel
theorem dL_refuses_81 : decode cL_refuses 81 = .ok (.ifCond .ne 12, 3) := by decide +kernel
theorem dL_refuses_84 : decode cL_refuses 84 = .ok (.iconst 0, 1) := by decide +kernel
theorem dL_refuses_85 : decode cL_refuses 85 = .ok (.iload_n 1, 1) := by decide +kernel
theorem dL_refuses_86 : decode cL_refuses 86 = .ok (.bipush 99, 2) := by decide +kernel
theorem dL_refuses_88 : decode cL_refuses 88 = .ok (.irem, 1) := by decide +kernel
theorem dL_refuses_89 : decode cL_refuses 89 = .ok (.isub, 1) := by decide +kernel
theorem dL_refuses_90 : decode cL_refuses 90 = .ok (.goto 11, 3) := by decide +kernel
theorem dL_refuses_93 : decode cL_refuses 93 = .ok (.sipush 1000, 3) := by decide +kernel
theorem dL_refuses_96 : decode cL_refuses 96 = .ok (.iload_n 1, 1) := by decide +kernel
theorem dL_refuses_97 : decode cL_refuses 97 = .ok (.bipush 99, 2) := by decide +kernel
theorem dL_refuses_99 : decode cL_refuses 99 = .ok (.irem, 1) := by decide +kernel
theorem dL_refuses_100 : decode cL_refuses 100 = .ok (.iadd, 1) := by decide +kernel
theorem dL_refuses_101 : decode cL_refuses 101 = .ok (.istore 6, 2) := by decide +kernel
theorem dL_refuses_103 : decode cL_refuses 103 = .ok (.aload_n 0, 1) := by decide +kernel
theorem dL_refuses_104 : decode cL_refuses 104 = .ok (.iconst 0, 1) := by decide +kernel
theorem dL_refuses_105 : decode cL_refuses 105 = .ok (.iload_n 1, 1) := by decide +kernel
theorem dL_refuses_106 : decode cL_refuses 106 = .ok (.iconst 2, 1) := by decide +kernel
theorem dL_refuses_107 : decode cL_refuses 107 = .ok (.irem, 1) := by decide +kernel
theorem dL_refuses_108 : decode cL_refuses 108 = .ok (.ifCond .ne 12, 3) := by decide +kernel
theorem dL_refuses_111 : decode cL_refuses 111 = .ok (.iconst (-1), 1) := by decide +kernel
theorem dL_refuses_112 : decode cL_refuses 112 = .ok (.iload_n 1, 1) := by decide +kernel
theorem dL_refuses_113 : decode cL_refuses 113 = .ok (.bipush 9, 2) := by decide +kernel
theorem dL_refuses_115 : decode cL_refuses 115 = .ok (.irem, 1) := by decide +kernel
theorem dL_refuses_116 : decode cL_refuses 116 = .ok (.isub, 1) := by decide +kernel
theorem dL_refuses_117 : decode cL_refuses 117 = .ok (.goto 11, 3) := by decide +kernel
theorem dL_refuses_120 : decode cL_refuses 120 = .ok (.sipush 256, 3) := by decide +kernel
theorem dL_refuses_123 : decode cL_refuses 123 = .ok (.iload_n 1, 1) := by decide +kernel
theorem dL_refuses_124 : decode cL_refuses 124 = .ok (.bipush 9, 2) := by decide +kernel
theorem dL_refuses_126 : decode cL_refuses 126 = .ok (.irem, 1) := by decide +kernel
theorem dL_refuses_127 : decode cL_refuses 127 = .ok (.iadd, 1) := by decide +kernel
theorem dL_refuses_128 : decode cL_refuses 128 = .ok (.iconst 0, 1) := by decide +kernel
theorem dL_refuses_129 : decode cL_refuses 129 = .ok (.iconst 0, 1) := by decide +kernel
theorem dL_refuses_130 : decode cL_refuses 130 = .ok (.invokestatic 162, 3) := by decide +kernel
theorem dL_refuses_133 : decode cL_refuses 133 = .ok (.ldc 18, 2) := by decide +kernel
theorem dL_refuses_135 : decode cL_refuses 135 = .ok (.if_icmp .ne 595, 3) := by decide +kernel
theorem dL_refuses_138 : decode cL_refuses 138 = .ok (.aload_n 0, 1) := by decide +kernel
theorem dL_refuses_139 : decode cL_refuses 139 = .ok (.iconst 2, 1) := by decide +kernel
theorem dL_refuses_140 : decode cL_refuses 140 = .ok (.bipush 10, 2) := by decide +kernel
theorem dL_refuses_142 : decode cL_refuses 142 = .ok (.iload_n 1, 1) := by decide +kernel
theorem dL_refuses_143 : decode cL_refuses 143 = .ok (.bipush 50, 2) := by decide +kernel
theorem dL_refuses_145 : decode cL_refuses 145 = .ok (.irem, 1) := by decide +kernel
theorem dL_refuses_146 : decode cL_refuses 146 = .ok (.iadd, 1) := by decide +kernel
theorem dL_refuses_147 : decode cL_refuses 147 = .ok (.iconst 0, 1) := by decide +kernel
theorem dL_refuses_148 : decode cL_refuses 148 = .ok (.iconst 0, 1) := by decide +kernel
theorem dL_refuses_149 : decode cL_refuses 149 = .ok (.invokestatic 162, 3) := by decide +kernel
theorem dL_refuses_152 : decode cL_refuses 152 = .ok (.ldc 18, 2) := by decide +kernel
theorem dL_refuses_154 : decode cL_refuses 154 = .ok (.if_icmp .ne 576, 3) := by decide +kernel
theorem dL_refuses_157 : decode cL_refuses 157 = .ok (.aload_n 0, 1) := by decide +kernel
theorem dL_refuses_158 : decode cL_refuses 158 = .ok (.iconst 3, 1) := by decide +kernel
theorem dL_refuses_159 : decode cL_refuses 159 = .ok (.iload_n 3, 1) := by decide +kernel
theorem dL_refuses_160 : decode cL_refuses 160 = .ok (.bipush 99, 2) := by decide +kernel
theorem dL_refuses_162 : decode cL_refuses 162 = .ok (.iconst 0, 1) := by decide +kernel
theorem dL_refuses_163 : decode cL_refuses 163 = .ok (.invokestatic 162, 3) := by decide +kernel
theorem dL_refuses_166 : decode cL_refuses 166 = .ok (.ldc 15, 2) := by decide +kernel
theorem dL_refuses_168 : decode cL_refuses 168 = .ok (.if_icmp .ne 562, 3) := by decide +kernel
theorem dL_refuses_171 : decode cL_refuses 171 = .ok (.iload_n 2, 1) := by decide +kernel
theorem dL_refuses_172 : decode cL_refuses 172 = .ok (.ifCond .eq 22, 3) := by decide +kernel
theorem dL_refuses_175 : decode cL_refuses 175 = .ok (.aload_n 0, 1) := by decide +kernel
theorem dL_refuses_176 : decode cL_refuses 176 = .ok (.iconst 3, 1) := by decide +kernel
theorem dL_refuses_177 : decode cL_refuses 177 = .ok (.iconst 0, 1) := by decide +kernel
theorem dL_refuses_178 : decode cL_refuses 178 = .ok (.bipush 11, 2) := by decide +kernel
theorem dL_refuses_180 : decode cL_refuses 180 = .ok (.iload_n 1, 1) := by decide +kernel
theorem dL_refuses_181 : decode cL_refuses 181 = .ok (.bipush 9, 2) := by decide +kernel
theorem dL_refuses_183 : decode cL_refuses 183 = .ok (.irem, 1) := by decide +kernel
theorem dL_refuses_184 : decode cL_refuses 184 = .ok (.iadd, 1) := by decide +kernel
theorem dL_refuses_185 : decode cL_refuses 185 = .ok (.iconst 0, 1) := by decide +kernel
theorem dL_refuses_186 : decode cL_refuses 186 = .ok (.invokestatic 162, 3) := by decide +kernel
theorem dL_refuses_189 : decode cL_refuses 189 = .ok (.ldc 18, 2) := by decide +kernel
theorem dL_refuses_191 : decode cL_refuses 191 = .ok (.if_icmp .ne 539, 3) := by decide +kernel
theorem dL_refuses_194 : decode cL_refuses 194 = .ok (.aload_n 0, 1) := by decide +kernel
theorem dL_refuses_195 : decode cL_refuses 195 = .ok (.iconst 4, 1) := by decide +kernel
theorem dL_refuses_196 : decode cL_refuses 196 = .ok (.iload 5, 2) := by decide +kernel
theorem dL_refuses_198 : decode cL_refuses 198 = .ok (.bipush 9, 2) := by decide +kernel
theorem dL_refuses_200 : decode cL_refuses 200 = .ok (.iconst 0, 1) := by decide +kernel
theorem dL_refuses_201 : decode cL_refuses 201 = .ok (.invokestatic 162, 3) := by decide +kernel
theorem dL_refuses_204 : decode cL_refuses 204 = .ok (.ldc 15, 2) := by decide +kernel
theorem dL_refuses_206 : decode cL_refuses 206 = .ok (.if_icmp .ne 524, 3) := by decide +kernel
theorem dL_refuses_209 : decode cL_refuses 209 = .ok (.aload_n 0, 1) := by decide +kernel
theorem dL_refuses_210 : decode cL_refuses 210 = .ok (.iconst 4, 1) := by decide +kernel
theorem dL_refuses_211 : decode cL_refuses 211 = .ok (.iconst 0, 1) := by decide +kernel
theorem dL_refuses_212 : decode cL_refuses 212 = .ok (.iconst 5, 1) := by decide +kernel
theorem dL_refuses_213 : decode cL_refuses 213 = .ok (.iload_n 1, 1) := by decide +kernel
theorem dL_refuses_214 : decode cL_refuses 214 = .ok (.bipush 9, 2) := by decide +kernel
theorem dL_refuses_216 : decode cL_refuses 216 = .ok (.irem, 1) := by decide +kernel
theorem dL_refuses_217 : decode cL_refuses 217 = .ok (.iadd, 1) := by decide +kernel
theorem dL_refuses_218 : decode cL_refuses 218 = .ok (.iconst 0, 1) := by decide +kernel
theorem dL_refuses_219 : decode cL_refuses 219 = .ok (.invokestatic 162, 3) := by decide +kernel
theorem dL_refuses_222 : decode cL_refuses 222 = .ok (.ldc 18, 2) := by decide +kernel
theorem dL_refuses_224 : decode cL_refuses 224 = .ok (.if_icmp .ne 506, 3) := by decide +kernel
theorem dL_refuses_227 : decode cL_refuses 227 = .ok (.aload_n 0, 1) := by decide +kernel
theorem dL_refuses_228 : decode cL_refuses 228 = .ok (.iconst 5, 1) := by decide +kernel
theorem dL_refuses_229 : decode cL_refuses 229 = .ok (.iload 4, 2) := by decide +kernel
theorem dL_refuses_231 : decode cL_refuses 231 = .ok (.bipush 9, 2) := by decide +kernel
theorem dL_refuses_233 : decode cL_refuses 233 = .ok (.iconst 0, 1) := by decide +kernel
theorem dL_refuses_234 : decode cL_refuses 234 = .ok (.invokestatic 162, 3) := by decide +kernel
theorem dL_refuses_237 : decode cL_refuses 237 = .ok (.ldc 15, 2) := by decide +kernel
theorem dL_refuses_239 : decode cL_refuses 239 = .ok (.if_icmp .ne 491, 3) := by decide +kernel
theorem dL_refuses_242 : decode cL_refuses 242 = .ok (.aload_n 0, 1) := by decide +kernel
theorem dL_refuses_243 : decode cL_refuses 243 = .ok (.iconst 5, 1) := by decide +kernel
theorem dL_refuses_244 : decode cL_refuses 244 = .ok (.iconst 0, 1) := by decide +kernel
theorem dL_refuses_245 : decode cL_refuses 245 = .ok (.iconst 3, 1) := by decide +kernel
theorem dL_refuses_246 : decode cL_refuses 246 = .ok (.iload_n 1, 1) := by decide +kernel
theorem dL_refuses_247 : decode cL_refuses 247 = .ok (.bipush 9, 2) := by decide +kernel
theorem dL_refuses_249 : decode cL_refuses 249 = .ok (.irem, 1) := by decide +kernel
theorem dL_refuses_250 : decode cL_refuses 250 = .ok (.iadd, 1) := by decide +kernel
theorem dL_refuses_251 : decode cL_refuses 251 = .ok (.iconst 0, 1) := by decide +kernel
theorem dL_refuses_252 : decode cL_refuses 252 = .ok (.invokestatic 162, 3) := by decide +kernel
theorem dL_refuses_255 : decode cL_refuses 255 = .ok (.ldc 18, 2) := by decide +kernel
theorem dL_refuses_257 : decode cL_refuses 257 = .ok (.if_icmp .ne 473, 3) := by decide +kernel
theorem dL_refuses_260 : decode cL_refuses 260 = .ok (.aload_n 0, 1) := by decide +kernel
theorem dL_refuses_261 : decode cL_refuses 261 = .ok (.bipush 6, 2) := by decide +kernel
theorem dL_refuses_263 : decode cL_refuses 263 = .ok (.iload 4, 2) := by decide +kernel
theorem dL_refuses_265 : decode cL_refuses 265 = .ok (.iconst 0, 1) := by decide +kernel
theorem dL_refuses_266 : decode cL_refuses 266 = .ok (.iconst 0, 1) := by decide +kernel
theorem dL_refuses_267 : decode cL_refuses 267 = .ok (.invokestatic 162, 3) := by decide +kernel
theorem dL_refuses_270 : decode cL_refuses 270 = .ok (.ldc 15, 2) := by decide +kernel
theorem dL_refuses_272 : decode cL_refuses 272 = .ok (.if_icmp .ne 458, 3) := by decide +kernel
theorem dL_refuses_275 : decode cL_refuses 275 = .ok (.aload_n 0, 1) := by decide +kernel
theorem dL_refuses_276 : decode cL_refuses 276 = .ok (.bipush 6, 2) := by decide +kernel
theorem dL_refuses_278 : decode cL_refuses 278 = .ok (.iconst 0, 1) := by decide +kernel
theorem dL_refuses_279 : decode cL_refuses 279 = .ok (.iload 6, 2) := by decide +kernel
theorem dL_refuses_281 : decode cL_refuses 281 = .ok (.iconst 0, 1) := by decide +kernel
theorem dL_refuses_282 : decode cL_refuses 282 = .ok (.invokestatic 162, 3) := by decide +kernel
theorem dL_refuses_285 : decode cL_refuses 285 = .ok (.ldc 18, 2) := by decide +kernel
theorem dL_refuses_287 : decode cL_refuses 287 = .ok (.if_icmp .ne 443, 3) := by decide +kernel
theorem dL_refuses_290 : decode cL_refuses 290 = .ok (.aload_n 0, 1) := by decide +kernel
theorem dL_refuses_291 : decode cL_refuses 291 = .ok (.bipush 7, 2) := by decide +kernel
theorem dL_refuses_293 : decode cL_refuses 293 = .ok (.iload 4, 2) := by decide +kernel
theorem dL_refuses_295 : decode cL_refuses 295 = .ok (.bipush 9, 2) := by decide +kernel
theorem dL_refuses_297 : decode cL_refuses 297 = .ok (.bipush 9, 2) := by decide +kernel
theorem dL_refuses_299 : decode cL_refuses 299 = .ok (.invokestatic 162, 3) := by decide +kernel
theorem dL_refuses_302 : decode cL_refuses 302 = .ok (.ldc 15, 2) := by decide +kernel
theorem dL_refuses_304 : decode cL_refuses 304 = .ok (.if_icmp .ne 426, 3) := by decide +kernel
theorem dL_refuses_307 : decode cL_refuses 307 = .ok (.aload_n 0, 1) := by decide +kernel
theorem dL_refuses_308 : decode cL_refuses 308 = .ok (.bipush 7, 2) := by decide +kernel
theorem dL_refuses_310 : decode cL_refuses 310 = .ok (.iconst 0, 1) := by decide +kernel
theorem dL_refuses_311 : decode cL_refuses 311 = .ok (.iconst 3, 1) := by decide +kernel
theorem dL_refuses_312 : decode cL_refuses 312 = .ok (.iload_n 1, 1) := by decide +kernel
theorem dL_refuses_313 : decode cL_refuses 313 = .ok (.bipush 9, 2) := by decide +kernel
theorem dL_refuses_315 : decode cL_refuses 315 = .ok (.irem, 1) := by decide +kernel
theorem dL_refuses_316 : decode cL_refuses 316 = .ok (.iadd, 1) := by decide +kernel
theorem dL_refuses_317 : decode cL_refuses 317 = .ok (.iconst 0, 1) := by decide +kernel
theorem dL_refuses_318 : decode cL_refuses 318 = .ok (.invokestatic 162, 3) := by decide +kernel
theorem dL_refuses_321 : decode cL_refuses 321 = .ok (.ldc 18, 2) := by decide +kernel
theorem dL_refuses_323 : decode cL_refuses 323 = .ok (.if_icmp .ne 407, 3) := by decide +kernel
theorem dL_refuses_326 : decode cL_refuses 326 = .ok (.aload_n 0, 1) := by decide +kernel
theorem dL_refuses_327 : decode cL_refuses 327 = .ok (.bipush 7, 2) := by decide +kernel
theorem dL_refuses_329 : decode cL_refuses 329 = .ok (.iconst 0, 1) := by decide +kernel
theorem dL_refuses_330 : decode cL_refuses 330 = .ok (.iconst 0, 1) := by decide +kernel
theorem dL_refuses_331 : decode cL_refuses 331 = .ok (.iconst 2, 1) := by decide +kernel
theorem dL_refuses_332 : decode cL_refuses 332 = .ok (.iload_n 1, 1) := by decide +kernel
theorem dL_refuses_333 : decode cL_refuses 333 = .ok (.bipush 9, 2) := by decide +kernel
theorem dL_refuses_335 : decode cL_refuses 335 = .ok (.irem, 1) := by decide +kernel
theorem dL_refuses_336 : decode cL_refuses 336 = .ok (.iadd, 1) := by decide +kernel
theorem dL_refuses_337 : decode cL_refuses 337 = .ok (.invokestatic 162, 3) := by decide +kernel
theorem dL_refuses_340 : decode cL_refuses 340 = .ok (.ldc 18, 2) := by decide +kernel
theorem dL_refuses_342 : decode cL_refuses 342 = .ok (.if_icmp .ne 388, 3) := by decide +kernel
theorem dL_refuses_345 : decode cL_refuses 345 = .ok (.aload_n 0, 1) := by decide +kernel
theorem dL_refuses_346 : decode cL_refuses 346 = .ok (.bipush 8, 2) := by decide +kernel
theorem dL_refuses_348 : decode cL_refuses 348 = .ok (.iconst 2, 1) := by decide +kernel
theorem dL_refuses_349 : decode cL_refuses 349 = .ok (.iload_n 1, 1) := by decide +kernel
theorem dL_refuses_350 : decode cL_refuses 350 = .ok (.bipush 9, 2) := by decide +kernel
theorem dL_refuses_352 : decode cL_refuses 352 = .ok (.irem, 1) := by decide +kernel
theorem dL_refuses_353 : decode cL_refuses 353 = .ok (.iadd, 1) := by decide +kernel
theorem dL_refuses_354 : decode cL_refuses 354 = .ok (.iconst 0, 1) := by decide +kernel
theorem dL_refuses_355 : decode cL_refuses 355 = .ok (.iconst 0, 1) := by decide +kernel
theorem dL_refuses_356 : decode cL_refuses 356 = .ok (.invokestatic 162, 3) := by decide +kernel
theorem dL_refuses_359 : decode cL_refuses 359 = .ok (.ldc 18, 2) := by decide +kernel
theorem dL_refuses_361 : decode cL_refuses 361 = .ok (.if_icmp .ne 369, 3) := by decide +kernel
theorem dL_refuses_364 : decode cL_refuses 364 = .ok (.aload_n 0, 1) := by decide +kernel
theorem dL_refuses_365 : decode cL_refuses 365 = .ok (.iload 4, 2) := by decide +kernel
theorem dL_refuses_367 : decode cL_refuses 367 = .ok (.iconst 0, 1) := by decide +kernel
theorem dL_refuses_368 : decode cL_refuses 368 = .ok (.bipush 9, 2) := by decide +kernel
theorem dL_refuses_370 : decode cL_refuses 370 = .ok (.iconst 0, 1) := by decide +kernel
theorem dL_refuses_371 : decode cL_refuses 371 = .ok (.iconst 0, 1) := by decide +kernel
theorem dL_refuses_372 : decode cL_refuses 372 = .ok (.iconst 0, 1) := by decide +kernel
theorem dL_refuses_373 : decode cL_refuses 373 = .ok (.iconst 0, 1) := by decide +kernel
theorem dL_refuses_374 : decode cL_refuses 374 = .ok (.invokestatic 166, 3) := by decide +kernel
theorem dL_refuses_377 : decode cL_refuses 377 = .ok (.ldc 15, 2) := by decide +kernel
theorem dL_refuses_379 : decode cL_refuses 379 = .ok (.if_icmp .ne 351, 3) := by decide +kernel
theorem dL_refuses_382 : decode cL_refuses 382 = .ok (.aload_n 0, 1) := by decide +kernel
theorem dL_refuses_383 : decode cL_refuses 383 = .ok (.iconst 0, 1) := by decide +kernel
theorem dL_refuses_384 : decode cL_refuses 384 = .ok (.iload 5, 2) := by decide +kernel
theorem dL_refuses_386 : decode cL_refuses 386 = .ok (.bipush 9, 2) := by decide +kernel
theorem dL_refuses_388 : decode cL_refuses 388 = .ok (.iconst 0, 1) := by decide +kernel
theorem dL_refuses_389 : decode cL_refuses 389 = .ok (.iconst 0, 1) := by decide +kernel
theorem dL_refuses_390 : decode cL_refuses 390 = .ok (.iconst 0, 1) := by decide +kernel
theorem dL_refuses_391 : decode cL_refuses 391 = .ok (.iconst 0, 1) := by decide +kernel
theorem dL_refuses_392 : decode cL_refuses 392 = .ok (.invokestatic 166, 3) := by decide +kernel
theorem dL_refuses_395 : decode cL_refuses 395 = .ok (.ldc 15, 2) := by decide +kernel
theorem dL_refuses_397 : decode cL_refuses 397 = .ok (.if_icmp .ne 333, 3) := by decide +kernel
theorem dL_refuses_400 : decode cL_refuses 400 = .ok (.aload_n 0, 1) := by decide +kernel
theorem dL_refuses_401 : decode cL_refuses 401 = .ok (.iconst 0, 1) := by decide +kernel
theorem dL_refuses_402 : decode cL_refuses 402 = .ok (.iconst 0, 1) := by decide +kernel
theorem dL_refuses_403 : decode cL_refuses 403 = .ok (.iload_n 1, 1) := by decide +kernel
theorem dL_refuses_404 : decode cL_refuses 404 = .ok (.iconst 2, 1) := by decide +kernel
theorem dL_refuses_405 : decode cL_refuses 405 = .ok (.irem, 1) := by decide +kernel
theorem dL_refuses_406 : decode cL_refuses 406 = .ok (.ifCond .ne 7, 3) := by decide +kernel
theorem dL_refuses_409 : decode cL_refuses 409 = .ok (.iconst (-1), 1) := by decide +kernel
theorem dL_refuses_410 : decode cL_refuses 410 = .ok (.goto 9, 3) := by decide +kernel
theorem dL_refuses_413 : decode cL_refuses 413 = .ok (.iconst 3, 1) := by decide +kernel
theorem dL_refuses_414 : decode cL_refuses 414 = .ok (.iload_n 1, 1) := by decide +kernel
theorem dL_refuses_415 : decode cL_refuses 415 = .ok (.bipush 9, 2) := by decide +kernel
theorem dL_refuses_417 : decode cL_refuses 417 = .ok (.irem, 1) := by decide +kernel
theorem dL_refuses_418 : decode cL_refuses 418 = .ok (.iadd, 1) := by decide +kernel
theorem dL_refuses_419 : decode cL_refuses 419 = .ok (.iconst 5, 1) := by decide +kernel
theorem dL_refuses_420 : decode cL_refuses 420 = .ok (.iconst 5, 1) := by decide +kernel
theorem dL_refuses_421 : decode cL_refuses 421 = .ok (.iconst 5, 1) := by decide +kernel
theorem dL_refuses_422 : decode cL_refuses 422 = .ok (.iconst 0, 1) := by decide +kernel
theorem dL_refuses_423 : decode cL_refuses 423 = .ok (.invokestatic 166, 3) := by decide +kernel
theorem dL_refuses_426 : decode cL_refuses 426 = .ok (.ldc 18, 2) := by decide +kernel
theorem dL_refuses_428 : decode cL_refuses 428 = .ok (.if_icmp .ne 302, 3) := by decide +kernel
theorem dL_refuses_431 : decode cL_refuses 431 = .ok (.aload_n 0, 1) := by decide +kernel
theorem dL_refuses_432 : decode cL_refuses 432 = .ok (.iconst 0, 1) := by decide +kernel
theorem dL_refuses_433 : decode cL_refuses 433 = .ok (.iconst 0, 1) := by decide +kernel
theorem dL_refuses_434 : decode cL_refuses 434 = .ok (.iconst 0, 1) := by decide +kernel
theorem dL_refuses_435 : decode cL_refuses 435 = .ok (.iload_n 1, 1) := by decide +kernel
theorem dL_refuses_436 : decode cL_refuses 436 = .ok (.iconst 2, 1) := by decide +kernel
theorem dL_refuses_437 : decode cL_refuses 437 = .ok (.irem, 1) := by decide +kernel
theorem dL_refuses_438 : decode cL_refuses 438 = .ok (.ifCond .ne 7, 3) := by decide +kernel
theorem dL_refuses_441 : decode cL_refuses 441 = .ok (.iconst 0, 1) := by decide +kernel
theorem dL_refuses_442 : decode cL_refuses 442 = .ok (.goto 10, 3) := by decide +kernel
theorem dL_refuses_445 : decode cL_refuses 445 = .ok (.bipush 21, 2) := by decide +kernel
theorem dL_refuses_447 : decode cL_refuses 447 = .ok (.iload_n 1, 1) := by decide +kernel
theorem dL_refuses_448 : decode cL_refuses 448 = .ok (.bipush 9, 2) := by decide +kernel
theorem dL_refuses_450 : decode cL_refuses 450 = .ok (.irem, 1) := by decide +kernel
theorem dL_refuses_451 : decode cL_refuses 451 = .ok (.iadd, 1) := by decide +kernel
theorem dL_refuses_452 : decode cL_refuses 452 = .ok (.iconst 5, 1) := by decide +kernel
theorem dL_refuses_453 : decode cL_refuses 453 = .ok (.iconst 5, 1) := by decide +kernel
theorem dL_refuses_454 : decode cL_refuses 454 = .ok (.iconst 0, 1) := by decide +kernel
theorem dL_refuses_455 : decode cL_refuses 455 = .ok (.invokestatic 166, 3) := by decide +kernel
theorem dL_refuses_458 : decode cL_refuses 458 = .ok (.ldc 18, 2) := by decide +kernel
theorem dL_refuses_460 : decode cL_refuses 460 = .ok (.if_icmp .ne 270, 3) := by decide +kernel
theorem dL_refuses_463 : decode cL_refuses 463 = .ok (.aload_n 0, 1) := by decide +kernel
theorem dL_refuses_464 : decode cL_refuses 464 = .ok (.iconst 0, 1) := by decide +kernel
theorem dL_refuses_465 : decode cL_refuses 465 = .ok (.iconst 0, 1) := by decide +kernel
theorem dL_refuses_466 : decode cL_refuses 466 = .ok (.iconst 0, 1) := by decide +kernel
theorem dL_refuses_467 : decode cL_refuses 467 = .ok (.iconst 5, 1) := by decide +kernel
theorem dL_refuses_468 : decode cL_refuses 468 = .ok (.iload_n 1, 1) := by decide +kernel
theorem dL_refuses_469 : decode cL_refuses 469 = .ok (.iconst 2, 1) := by decide +kernel
theorem dL_refuses_470 : decode cL_refuses 470 = .ok (.irem, 1) := by decide +kernel
theorem dL_refuses_471 : decode cL_refuses 471 = .ok (.ifCond .ne 7, 3) := by decide +kernel
theorem dL_refuses_474 : decode cL_refuses 474 = .ok (.iconst 0, 1) := by decide +kernel
theorem dL_refuses_475 : decode cL_refuses 475 = .ok (.goto 10, 3) := by decide +kernel
theorem dL_refuses_478 : decode cL_refuses 478 = .ok (.bipush 41, 2) := by decide +kernel
theorem dL_refuses_480 : decode cL_refuses 480 = .ok (.iload_n 1, 1) := by decide +kernel
theorem dL_refuses_481 : decode cL_refuses 481 = .ok (.bipush 9, 2) := by decide +kernel
theorem dL_refuses_483 : decode cL_refuses 483 = .ok (.irem, 1) := by decide +kernel
theorem dL_refuses_484 : decode cL_refuses 484 = .ok (.iadd, 1) := by decide +kernel
theorem dL_refuses_485 : decode cL_refuses 485 = .ok (.iconst 5, 1) := by decide +kernel
theorem dL_refuses_486 : decode cL_refuses 486 = .ok (.iconst 0, 1) := by decide +kernel
theorem dL_refuses_487 : decode cL_refuses 487 = .ok (.invokestatic 166, 3) := by decide +kernel
theorem dL_refuses_490 : decode cL_refuses 490 = .ok (.ldc 18, 2) := by decide +kernel
theorem dL_refuses_492 : decode cL_refuses 492 = .ok (.if_icmp .ne 238, 3) := by decide +kernel
theorem dL_refuses_495 : decode cL_refuses 495 = .ok (.aload_n 0, 1) := by decide +kernel
theorem dL_refuses_496 : decode cL_refuses 496 = .ok (.iconst 0, 1) := by decide +kernel
theorem dL_refuses_497 : decode cL_refuses 497 = .ok (.iconst 0, 1) := by decide +kernel
theorem dL_refuses_498 : decode cL_refuses 498 = .ok (.iconst 1, 1) := by decide +kernel
theorem dL_refuses_499 : decode cL_refuses 499 = .ok (.iload_n 1, 1) := by decide +kernel
theorem dL_refuses_500 : decode cL_refuses 500 = .ok (.iconst 2, 1) := by decide +kernel
theorem dL_refuses_501 : decode cL_refuses 501 = .ok (.irem, 1) := by decide +kernel
theorem dL_refuses_502 : decode cL_refuses 502 = .ok (.ifCond .ne 7, 3) := by decide +kernel
theorem dL_refuses_505 : decode cL_refuses 505 = .ok (.iconst 0, 1) := by decide +kernel
theorem dL_refuses_506 : decode cL_refuses 506 = .ok (.goto 10, 3) := by decide +kernel
theorem dL_refuses_509 : decode cL_refuses 509 = .ok (.bipush 10, 2) := by decide +kernel
theorem dL_refuses_511 : decode cL_refuses 511 = .ok (.iload_n 1, 1) := by decide +kernel
theorem dL_refuses_512 : decode cL_refuses 512 = .ok (.bipush 9, 2) := by decide +kernel
theorem dL_refuses_514 : decode cL_refuses 514 = .ok (.irem, 1) := by decide +kernel
theorem dL_refuses_515 : decode cL_refuses 515 = .ok (.iadd, 1) := by decide +kernel
theorem dL_refuses_516 : decode cL_refuses 516 = .ok (.iconst 5, 1) := by decide +kernel
theorem dL_refuses_517 : decode cL_refuses 517 = .ok (.iconst 5, 1) := by decide +kernel
theorem dL_refuses_518 : decode cL_refuses 518 = .ok (.iconst 0, 1) := by decide +kernel
theorem dL_refuses_519 : decode cL_refuses 519 = .ok (.invokestatic 166, 3) := by decide +kernel
theorem dL_refuses_522 : decode cL_refuses 522 = .ok (.ldc 18, 2) := by decide +kernel
theorem dL_refuses_524 : decode cL_refuses 524 = .ok (.if_icmp .ne 206, 3) := by decide +kernel
theorem dL_refuses_527 : decode cL_refuses 527 = .ok (.aload_n 0, 1) := by decide +kernel
theorem dL_refuses_528 : decode cL_refuses 528 = .ok (.iconst 0, 1) := by decide +kernel
theorem dL_refuses_529 : decode cL_refuses 529 = .ok (.iconst 0, 1) := by decide +kernel
theorem dL_refuses_530 : decode cL_refuses 530 = .ok (.iconst 1, 1) := by decide +kernel
theorem dL_refuses_531 : decode cL_refuses 531 = .ok (.iconst 5, 1) := by decide +kernel
theorem dL_refuses_532 : decode cL_refuses 532 = .ok (.iload_n 1, 1) := by decide +kernel
theorem dL_refuses_533 : decode cL_refuses 533 = .ok (.iconst 2, 1) := by decide +kernel
theorem dL_refuses_534 : decode cL_refuses 534 = .ok (.irem, 1) := by decide +kernel
theorem dL_refuses_535 : decode cL_refuses 535 = .ok (.ifCond .ne 7, 3) := by decide +kernel
theorem dL_refuses_538 : decode cL_refuses 538 = .ok (.iconst 0, 1) := by decide +kernel
theorem dL_refuses_539 : decode cL_refuses 539 = .ok (.goto 10, 3) := by decide +kernel
theorem dL_refuses_542 : decode cL_refuses 542 = .ok (.bipush 61, 2) := by decide +kernel
theorem dL_refuses_544 : decode cL_refuses 544 = .ok (.iload_n 1, 1) := by decide +kernel
theorem dL_refuses_545 : decode cL_refuses 545 = .ok (.bipush 9, 2) := by decide +kernel
theorem dL_refuses_547 : decode cL_refuses 547 = .ok (.irem, 1) := by decide +kernel
theorem dL_refuses_548 : decode cL_refuses 548 = .ok (.iadd, 1) := by decide +kernel
theorem dL_refuses_549 : decode cL_refuses 549 = .ok (.iconst 5, 1) := by decide +kernel
theorem dL_refuses_550 : decode cL_refuses 550 = .ok (.iconst 0, 1) := by decide +kernel
theorem dL_refuses_551 : decode cL_refuses 551 = .ok (.invokestatic 166, 3) := by decide +kernel
theorem dL_refuses_554 : decode cL_refuses 554 = .ok (.ldc 18, 2) := by decide +kernel
theorem dL_refuses_556 : decode cL_refuses 556 = .ok (.if_icmp .ne 174, 3) := by decide +kernel
theorem dL_refuses_559 : decode cL_refuses 559 = .ok (.aload_n 0, 1) := by decide +kernel
theorem dL_refuses_560 : decode cL_refuses 560 = .ok (.iconst 0, 1) := by decide +kernel
theorem dL_refuses_561 : decode cL_refuses 561 = .ok (.iconst 0, 1) := by decide +kernel
theorem dL_refuses_562 : decode cL_refuses 562 = .ok (.iload_n 1, 1) := by decide +kernel
theorem dL_refuses_563 : decode cL_refuses 563 = .ok (.iconst 2, 1) := by decide +kernel
theorem dL_refuses_564 : decode cL_refuses 564 = .ok (.irem, 1) := by decide +kernel
theorem dL_refuses_565 : decode cL_refuses 565 = .ok (.iconst 5, 1) := by decide +kernel
theorem dL_refuses_566 : decode cL_refuses 566 = .ok (.iconst 5, 1) := by decide +kernel
theorem dL_refuses_567 : decode cL_refuses 567 = .ok (.iload_n 1, 1) := by decide +kernel
theorem dL_refuses_568 : decode cL_refuses 568 = .ok (.iconst 4, 1) := by decide +kernel
theorem dL_refuses_569 : decode cL_refuses 569 = .ok (.irem, 1) := by decide +kernel
theorem dL_refuses_570 : decode cL_refuses 570 = .ok (.iconst 2, 1) := by decide +kernel
theorem dL_refuses_571 : decode cL_refuses 571 = .ok (.if_icmp .ge 7, 3) := by decide +kernel
theorem dL_refuses_574 : decode cL_refuses 574 = .ok (.iconst 0, 1) := by decide +kernel
theorem dL_refuses_575 : decode cL_refuses 575 = .ok (.goto 11, 3) := by decide +kernel
theorem dL_refuses_578 : decode cL_refuses 578 = .ok (.sipush 401, 3) := by decide +kernel
theorem dL_refuses_581 : decode cL_refuses 581 = .ok (.iload_n 1, 1) := by decide +kernel
theorem dL_refuses_582 : decode cL_refuses 582 = .ok (.bipush 9, 2) := by decide +kernel
theorem dL_refuses_584 : decode cL_refuses 584 = .ok (.irem, 1) := by decide +kernel
theorem dL_refuses_585 : decode cL_refuses 585 = .ok (.iadd, 1) := by decide +kernel
theorem dL_refuses_586 : decode cL_refuses 586 = .ok (.iconst 0, 1) := by decide +kernel
theorem dL_refuses_587 : decode cL_refuses 587 = .ok (.invokestatic 166, 3) := by decide +kernel
theorem dL_refuses_590 : decode cL_refuses 590 = .ok (.ldc 18, 2) := by decide +kernel
theorem dL_refuses_592 : decode cL_refuses 592 = .ok (.if_icmp .ne 138, 3) := by decide +kernel
theorem dL_refuses_595 : decode cL_refuses 595 = .ok (.aload_n 0, 1) := by decide +kernel
theorem dL_refuses_596 : decode cL_refuses 596 = .ok (.iconst 0, 1) := by decide +kernel
theorem dL_refuses_597 : decode cL_refuses 597 = .ok (.iconst 0, 1) := by decide +kernel
theorem dL_refuses_598 : decode cL_refuses 598 = .ok (.iload_n 1, 1) := by decide +kernel
theorem dL_refuses_599 : decode cL_refuses 599 = .ok (.iconst 2, 1) := by decide +kernel
theorem dL_refuses_600 : decode cL_refuses 600 = .ok (.irem, 1) := by decide +kernel
theorem dL_refuses_601 : decode cL_refuses 601 = .ok (.iconst 5, 1) := by decide +kernel
theorem dL_refuses_602 : decode cL_refuses 602 = .ok (.iconst 5, 1) := by decide +kernel
theorem dL_refuses_603 : decode cL_refuses 603 = .ok (.iconst 5, 1) := by decide +kernel
theorem dL_refuses_604 : decode cL_refuses 604 = .ok (.iload_n 1, 1) := by decide +kernel
theorem dL_refuses_605 : decode cL_refuses 605 = .ok (.iconst 4, 1) := by decide +kernel
theorem dL_refuses_606 : decode cL_refuses 606 = .ok (.irem, 1) := by decide +kernel
theorem dL_refuses_607 : decode cL_refuses 607 = .ok (.iconst 2, 1) := by decide +kernel
theorem dL_refuses_608 : decode cL_refuses 608 = .ok (.if_icmp .ge 7, 3) := by decide +kernel
theorem dL_refuses_611 : decode cL_refuses 611 = .ok (.iconst (-1), 1) := by decide +kernel
theorem dL_refuses_612 : decode cL_refuses 612 = .ok (.goto 10, 3) := by decide +kernel
theorem dL_refuses_615 : decode cL_refuses 615 = .ok (.bipush 21, 2) := by decide +kernel
theorem dL_refuses_617 : decode cL_refuses 617 = .ok (.iload_n 1, 1) := by decide +kernel
theorem dL_refuses_618 : decode cL_refuses 618 = .ok (.bipush 9, 2) := by decide +kernel
theorem dL_refuses_620 : decode cL_refuses 620 = .ok (.irem, 1) := by decide +kernel
theorem dL_refuses_621 : decode cL_refuses 621 = .ok (.iadd, 1) := by decide +kernel
theorem dL_refuses_622 : decode cL_refuses 622 = .ok (.invokestatic 166, 3) := by decide +kernel
theorem dL_refuses_625 : decode cL_refuses 625 = .ok (.ldc 18, 2) := by decide +kernel
theorem dL_refuses_627 : decode cL_refuses 627 = .ok (.if_icmp .ne 103, 3) := by decide +kernel
theorem dL_refuses_630 : decode cL_refuses 630 = .ok (.aload_n 0, 1) := by decide +kernel
theorem dL_refuses_631 : decode cL_refuses 631 = .ok (.iconst 0, 1) := by decide +kernel
theorem dL_refuses_632 : decode cL_refuses 632 = .ok (.iconst 0, 1) := by decide +kernel
theorem dL_refuses_633 : decode cL_refuses 633 = .ok (.iconst 2, 1) := by decide +kernel
theorem dL_refuses_634 : decode cL_refuses 634 = .ok (.bipush 7, 2) := by decide +kernel
theorem dL_refuses_636 : decode cL_refuses 636 = .ok (.iload_n 1, 1) := by decide +kernel
theorem dL_refuses_637 : decode cL_refuses 637 = .ok (.iconst 2, 1) := by decide +kernel
theorem dL_refuses_638 : decode cL_refuses 638 = .ok (.irem, 1) := by decide +kernel
theorem dL_refuses_639 : decode cL_refuses 639 = .ok (.ifCond .ne 8, 3) := by decide +kernel
theorem dL_refuses_642 : decode cL_refuses 642 = .ok (.bipush 6, 2) := by decide +kernel
theorem dL_refuses_644 : decode cL_refuses 644 = .ok (.goto 11, 3) := by decide +kernel
theorem dL_refuses_647 : decode cL_refuses 647 = .ok (.sipush 1000, 3) := by decide +kernel
theorem dL_refuses_650 : decode cL_refuses 650 = .ok (.iload_n 1, 1) := by decide +kernel
theorem dL_refuses_651 : decode cL_refuses 651 = .ok (.bipush 9, 2) := by decide +kernel
theorem dL_refuses_653 : decode cL_refuses 653 = .ok (.irem, 1) := by decide +kernel
theorem dL_refuses_654 : decode cL_refuses 654 = .ok (.iadd, 1) := by decide +kernel
theorem dL_refuses_655 : decode cL_refuses 655 = .ok (.iconst 0, 1) := by decide +kernel
theorem dL_refuses_656 : decode cL_refuses 656 = .ok (.iconst 0, 1) := by decide +kernel
theorem dL_refuses_657 : decode cL_refuses 657 = .ok (.invokestatic 166, 3) := by decide +kernel
theorem dL_refuses_660 : decode cL_refuses 660 = .ok (.ldc 18, 2) := by decide +kernel
theorem dL_refuses_662 : decode cL_refuses 662 = .ok (.if_icmp .ne 68, 3) := by decide +kernel
theorem dL_refuses_665 : decode cL_refuses 665 = .ok (.aload_n 0, 1) := by decide +kernel
theorem dL_refuses_666 : decode cL_refuses 666 = .ok (.iconst 0, 1) := by decide +kernel
theorem dL_refuses_667 : decode cL_refuses 667 = .ok (.iconst 0, 1) := by decide +kernel
theorem dL_refuses_668 : decode cL_refuses 668 = .ok (.iconst 2, 1) := by decide +kernel
theorem dL_refuses_669 : decode cL_refuses 669 = .ok (.iconst 0, 1) := by decide +kernel
theorem dL_refuses_670 : decode cL_refuses 670 = .ok (.bipush 7, 2) := by decide +kernel
theorem dL_refuses_672 : decode cL_refuses 672 = .ok (.iconst 0, 1) := by decide +kernel
theorem dL_refuses_673 : decode cL_refuses 673 = .ok (.iconst 0, 1) := by decide +kernel
theorem dL_refuses_674 : decode cL_refuses 674 = .ok (.invokestatic 166, 3) := by decide +kernel
theorem dL_refuses_677 : decode cL_refuses 677 = .ok (.ldc 18, 2) := by decide +kernel
theorem dL_refuses_679 : decode cL_refuses 679 = .ok (.if_icmp .ne 51, 3) := by decide +kernel
theorem dL_refuses_682 : decode cL_refuses 682 = .ok (.aload_n 0, 1) := by decide +kernel
theorem dL_refuses_683 : decode cL_refuses 683 = .ok (.iconst 0, 1) := by decide +kernel
theorem dL_refuses_684 : decode cL_refuses 684 = .ok (.iconst 0, 1) := by decide +kernel
theorem dL_refuses_685 : decode cL_refuses 685 = .ok (.iconst 2, 1) := by decide +kernel
theorem dL_refuses_686 : decode cL_refuses 686 = .ok (.iconst 5, 1) := by decide +kernel
theorem dL_refuses_687 : decode cL_refuses 687 = .ok (.bipush 7, 2) := by decide +kernel
theorem dL_refuses_689 : decode cL_refuses 689 = .ok (.iconst 1, 1) := by decide +kernel
theorem dL_refuses_690 : decode cL_refuses 690 = .ok (.iload_n 1, 1) := by decide +kernel
theorem dL_refuses_691 : decode cL_refuses 691 = .ok (.bipush 9, 2) := by decide +kernel
theorem dL_refuses_693 : decode cL_refuses 693 = .ok (.irem, 1) := by decide +kernel
theorem dL_refuses_694 : decode cL_refuses 694 = .ok (.iadd, 1) := by decide +kernel
theorem dL_refuses_695 : decode cL_refuses 695 = .ok (.iconst 0, 1) := by decide +kernel
theorem dL_refuses_696 : decode cL_refuses 696 = .ok (.invokestatic 166, 3) := by decide +kernel
theorem dL_refuses_699 : decode cL_refuses 699 = .ok (.ldc 18, 2) := by decide +kernel
theorem dL_refuses_701 : decode cL_refuses 701 = .ok (.if_icmp .ne 29, 3) := by decide +kernel
theorem dL_refuses_704 : decode cL_refuses 704 = .ok (.aload_n 0, 1) := by decide +kernel
theorem dL_refuses_705 : decode cL_refuses 705 = .ok (.iconst 0, 1) := by decide +kernel
theorem dL_refuses_706 : decode cL_refuses 706 = .ok (.iconst 0, 1) := by decide +kernel
theorem dL_refuses_707 : decode cL_refuses 707 = .ok (.iconst 2, 1) := by decide +kernel
theorem dL_refuses_708 : decode cL_refuses 708 = .ok (.iconst 5, 1) := by decide +kernel
theorem dL_refuses_709 : decode cL_refuses 709 = .ok (.bipush 7, 2) := by decide +kernel
theorem dL_refuses_711 : decode cL_refuses 711 = .ok (.iconst 0, 1) := by decide +kernel
theorem dL_refuses_712 : decode cL_refuses 712 = .ok (.iconst 1, 1) := by decide +kernel
theorem dL_refuses_713 : decode cL_refuses 713 = .ok (.iload_n 1, 1) := by decide +kernel
theorem dL_refuses_714 : decode cL_refuses 714 = .ok (.bipush 9, 2) := by decide +kernel
theorem dL_refuses_716 : decode cL_refuses 716 = .ok (.irem, 1) := by decide +kernel
theorem dL_refuses_717 : decode cL_refuses 717 = .ok (.iadd, 1) := by decide +kernel
theorem dL_refuses_718 : decode cL_refuses 718 = .ok (.invokestatic 166, 3) := by decide +kernel
theorem dL_refuses_721 : decode cL_refuses 721 = .ok (.ldc 18, 2) := by decide +kernel
theorem dL_refuses_723 : decode cL_refuses 723 = .ok (.if_icmp .ne 7, 3) := by decide +kernel
theorem dL_refuses_726 : decode cL_refuses 726 = .ok (.iconst 1, 1) := by decide +kernel
theorem dL_refuses_727 : decode cL_refuses 727 = .ok (.goto 4, 3) := by decide +kernel
theorem dL_refuses_730 : decode cL_refuses 730 = .ok (.iconst 0, 1) := by decide +kernel
theorem dL_refuses_731 : decode cL_refuses 731 = .ok (.istore 7, 2) := by decide +kernel
theorem dL_refuses_733 : decode cL_refuses 733 = .ok (.iload 7, 2) := by decide +kernel
theorem dL_refuses_735 : decode cL_refuses 735 = .ok (.ifCond .eq 347, 3) := by decide +kernel
theorem dL_refuses_738 : decode cL_refuses 738 = .ok (.aload_n 0, 1) := by decide +kernel
theorem dL_refuses_739 : decode cL_refuses 739 = .ok (.bipush 9, 2) := by decide +kernel
theorem dL_refuses_741 : decode cL_refuses 741 = .ok (.iload_n 3, 1) := by decide +kernel
theorem dL_refuses_742 : decode cL_refuses 742 = .ok (.iconst 0, 1) := by decide +kernel
theorem dL_refuses_743 : decode cL_refuses 743 = .ok (.iconst 0, 1) := by decide +kernel
theorem dL_refuses_744 : decode cL_refuses 744 = .ok (.invokestatic 162, 3) := by decide +kernel
theorem dL_refuses_747 : decode cL_refuses 747 = .ok (.ldc 15, 2) := by decide +kernel
theorem dL_refuses_749 : decode cL_refuses 749 = .ok (.if_icmp .ne 333, 3) := by decide +kernel
theorem dL_refuses_752 : decode cL_refuses 752 = .ok (.aload_n 0, 1) := by decide +kernel
theorem dL_refuses_753 : decode cL_refuses 753 = .ok (.bipush 10, 2) := by decide +kernel
theorem dL_refuses_755 : decode cL_refuses 755 = .ok (.iload 5, 2) := by decide +kernel
theorem dL_refuses_757 : decode cL_refuses 757 = .ok (.bipush 99, 2) := by decide +kernel
theorem dL_refuses_759 : decode cL_refuses 759 = .ok (.iconst 0, 1) := by decide +kernel
theorem dL_refuses_760 : decode cL_refuses 760 = .ok (.invokestatic 162, 3) := by decide +kernel
theorem dL_refuses_763 : decode cL_refuses 763 = .ok (.ldc 15, 2) := by decide +kernel
theorem dL_refuses_765 : decode cL_refuses 765 = .ok (.if_icmp .ne 317, 3) := by decide +kernel
theorem dL_refuses_768 : decode cL_refuses 768 = .ok (.aload_n 0, 1) := by decide +kernel
theorem dL_refuses_769 : decode cL_refuses 769 = .ok (.bipush 10, 2) := by decide +kernel
theorem dL_refuses_771 : decode cL_refuses 771 = .ok (.iconst 0, 1) := by decide +kernel
theorem dL_refuses_772 : decode cL_refuses 772 = .ok (.iload_n 1, 1) := by decide +kernel
theorem dL_refuses_773 : decode cL_refuses 773 = .ok (.iconst 2, 1) := by decide +kernel
theorem dL_refuses_774 : decode cL_refuses 774 = .ok (.irem, 1) := by decide +kernel
theorem dL_refuses_775 : decode cL_refuses 775 = .ok (.ifCond .ne 7, 3) := by decide +kernel
theorem dL_refuses_778 : decode cL_refuses 778 = .ok (.iconst (-1), 1) := by decide +kernel
theorem dL_refuses_779 : decode cL_refuses 779 = .ok (.goto 10, 3) := by decide +kernel
theorem dL_refuses_782 : decode cL_refuses 782 = .ok (.bipush 10, 2) := by decide +kernel
theorem dL_refuses_784 : decode cL_refuses 784 = .ok (.iload_n 1, 1) := by decide +kernel
theorem dL_refuses_785 : decode cL_refuses 785 = .ok (.bipush 9, 2) := by decide +kernel
theorem dL_refuses_787 : decode cL_refuses 787 = .ok (.irem, 1) := by decide +kernel
theorem dL_refuses_788 : decode cL_refuses 788 = .ok (.iadd, 1) := by decide +kernel
theorem dL_refuses_789 : decode cL_refuses 789 = .ok (.iconst 0, 1) := by decide +kernel
theorem dL_refuses_790 : decode cL_refuses 790 = .ok (.invokestatic 162, 3) := by decide +kernel
theorem dL_refuses_793 : decode cL_refuses 793 = .ok (.ldc 18, 2) := by decide +kernel
theorem dL_refuses_795 : decode cL_refuses 795 = .ok (.if_icmp .ne 287, 3) := by decide +kernel
theorem dL_refuses_798 : decode cL_refuses 798 = .ok (.aload_n 0, 1) := by decide +kernel
theorem dL_refuses_799 : decode cL_refuses 799 = .ok (.bipush 11, 2) := by decide +kernel
theorem dL_refuses_801 : decode cL_refuses 801 = .ok (.iload 4, 2) := by decide +kernel
theorem dL_refuses_803 : decode cL_refuses 803 = .ok (.iconst 0, 1) := by decide +kernel
theorem dL_refuses_804 : decode cL_refuses 804 = .ok (.iconst 0, 1) := by decide +kernel
theorem dL_refuses_805 : decode cL_refuses 805 = .ok (.invokestatic 162, 3) := by decide +kernel
theorem dL_refuses_808 : decode cL_refuses 808 = .ok (.ldc 15, 2) := by decide +kernel
theorem dL_refuses_810 : decode cL_refuses 810 = .ok (.if_icmp .ne 272, 3) := by decide +kernel
theorem dL_refuses_813 : decode cL_refuses 813 = .ok (.aload_n 0, 1) := by decide +kernel
theorem dL_refuses_814 : decode cL_refuses 814 = .ok (.bipush 11, 2) := by decide +kernel
theorem dL_refuses_816 : decode cL_refuses 816 = .ok (.iconst 0, 1) := by decide +kernel
theorem dL_refuses_817 : decode cL_refuses 817 = .ok (.iload 6, 2) := by decide +kernel
theorem dL_refuses_819 : decode cL_refuses 819 = .ok (.iconst 0, 1) := by decide +kernel
theorem dL_refuses_820 : decode cL_refuses 820 = .ok (.invokestatic 162, 3) := by decide +kernel
theorem dL_refuses_823 : decode cL_refuses 823 = .ok (.ldc 18, 2) := by decide +kernel
theorem dL_refuses_825 : decode cL_refuses 825 = .ok (.if_icmp .ne 257, 3) := by decide +kernel
theorem dL_refuses_828 : decode cL_refuses 828 = .ok (.aload_n 0, 1) := by decide +kernel
theorem dL_refuses_829 : decode cL_refuses 829 = .ok (.bipush 12, 2) := by decide +kernel
theorem dL_refuses_831 : decode cL_refuses 831 = .ok (.iconst 0, 1) := by decide +kernel
theorem dL_refuses_832 : decode cL_refuses 832 = .ok (.iload_n 1, 1) := by decide +kernel
theorem dL_refuses_833 : decode cL_refuses 833 = .ok (.iconst 2, 1) := by decide +kernel
theorem dL_refuses_834 : decode cL_refuses 834 = .ok (.irem, 1) := by decide +kernel
theorem dL_refuses_835 : decode cL_refuses 835 = .ok (.ifCond .ne 7, 3) := by decide +kernel
theorem dL_refuses_838 : decode cL_refuses 838 = .ok (.iconst (-1), 1) := by decide +kernel
theorem dL_refuses_839 : decode cL_refuses 839 = .ok (.goto 10, 3) := by decide +kernel
theorem dL_refuses_842 : decode cL_refuses 842 = .ok (.bipush 6, 2) := by decide +kernel
theorem dL_refuses_844 : decode cL_refuses 844 = .ok (.iload_n 1, 1) := by decide +kernel
theorem dL_refuses_845 : decode cL_refuses 845 = .ok (.bipush 9, 2) := by decide +kernel
theorem dL_refuses_847 : decode cL_refuses 847 = .ok (.irem, 1) := by decide +kernel
theorem dL_refuses_848 : decode cL_refuses 848 = .ok (.iadd, 1) := by decide +kernel
theorem dL_refuses_849 : decode cL_refuses 849 = .ok (.iconst 0, 1) := by decide +kernel
theorem dL_refuses_850 : decode cL_refuses 850 = .ok (.invokestatic 162, 3) := by decide +kernel
theorem dL_refuses_853 : decode cL_refuses 853 = .ok (.ldc 18, 2) := by decide +kernel
theorem dL_refuses_855 : decode cL_refuses 855 = .ok (.if_icmp .ne 227, 3) := by decide +kernel
theorem dL_refuses_858 : decode cL_refuses 858 = .ok (.aload_n 0, 1) := by decide +kernel
theorem dL_refuses_859 : decode cL_refuses 859 = .ok (.bipush 12, 2) := by decide +kernel
theorem dL_refuses_861 : decode cL_refuses 861 = .ok (.iconst 1, 1) := by decide +kernel
theorem dL_refuses_862 : decode cL_refuses 862 = .ok (.iload_n 1, 1) := by decide +kernel
theorem dL_refuses_863 : decode cL_refuses 863 = .ok (.iconst 2, 1) := by decide +kernel
theorem dL_refuses_864 : decode cL_refuses 864 = .ok (.irem, 1) := by decide +kernel
theorem dL_refuses_865 : decode cL_refuses 865 = .ok (.ifCond .ne 7, 3) := by decide +kernel
theorem dL_refuses_868 : decode cL_refuses 868 = .ok (.iconst (-1), 1) := by decide +kernel
theorem dL_refuses_869 : decode cL_refuses 869 = .ok (.goto 10, 3) := by decide +kernel
theorem dL_refuses_872 : decode cL_refuses 872 = .ok (.bipush 51, 2) := by decide +kernel
theorem dL_refuses_874 : decode cL_refuses 874 = .ok (.iload_n 1, 1) := by decide +kernel
theorem dL_refuses_875 : decode cL_refuses 875 = .ok (.bipush 9, 2) := by decide +kernel
theorem dL_refuses_877 : decode cL_refuses 877 = .ok (.irem, 1) := by decide +kernel
theorem dL_refuses_878 : decode cL_refuses 878 = .ok (.iadd, 1) := by decide +kernel
theorem dL_refuses_879 : decode cL_refuses 879 = .ok (.iconst 0, 1) := by decide +kernel
theorem dL_refuses_880 : decode cL_refuses 880 = .ok (.invokestatic 162, 3) := by decide +kernel
theorem dL_refuses_883 : decode cL_refuses 883 = .ok (.ldc 18, 2) := by decide +kernel
theorem dL_refuses_885 : decode cL_refuses 885 = .ok (.if_icmp .ne 197, 3) := by decide +kernel
theorem dL_refuses_888 : decode cL_refuses 888 = .ok (.aload_n 0, 1) := by decide +kernel
theorem dL_refuses_889 : decode cL_refuses 889 = .ok (.bipush 12, 2) := by decide +kernel
theorem dL_refuses_891 : decode cL_refuses 891 = .ok (.iconst 2, 1) := by decide +kernel
theorem dL_refuses_892 : decode cL_refuses 892 = .ok (.iload_n 1, 1) := by decide +kernel
theorem dL_refuses_893 : decode cL_refuses 893 = .ok (.bipush 9, 2) := by decide +kernel
theorem dL_refuses_895 : decode cL_refuses 895 = .ok (.irem, 1) := by decide +kernel
theorem dL_refuses_896 : decode cL_refuses 896 = .ok (.iadd, 1) := by decide +kernel
theorem dL_refuses_897 : decode cL_refuses 897 = .ok (.iconst 1, 1) := by decide +kernel
theorem dL_refuses_898 : decode cL_refuses 898 = .ok (.iconst 0, 1) := by decide +kernel
theorem dL_refuses_899 : decode cL_refuses 899 = .ok (.invokestatic 162, 3) := by decide +kernel
theorem dL_refuses_902 : decode cL_refuses 902 = .ok (.ldc 18, 2) := by decide +kernel
theorem dL_refuses_904 : decode cL_refuses 904 = .ok (.if_icmp .ne 178, 3) := by decide +kernel
theorem dL_refuses_907 : decode cL_refuses 907 = .ok (.aload_n 0, 1) := by decide +kernel
theorem dL_refuses_908 : decode cL_refuses 908 = .ok (.bipush 14, 2) := by decide +kernel
theorem dL_refuses_910 : decode cL_refuses 910 = .ok (.iload_n 3, 1) := by decide +kernel
theorem dL_refuses_911 : decode cL_refuses 911 = .ok (.iconst 0, 1) := by decide +kernel
theorem dL_refuses_912 : decode cL_refuses 912 = .ok (.iconst 0, 1) := by decide +kernel
theorem dL_refuses_913 : decode cL_refuses 913 = .ok (.invokestatic 162, 3) := by decide +kernel
theorem dL_refuses_916 : decode cL_refuses 916 = .ok (.ldc 15, 2) := by decide +kernel
theorem dL_refuses_918 : decode cL_refuses 918 = .ok (.if_icmp .ne 164, 3) := by decide +kernel
theorem dL_refuses_921 : decode cL_refuses 921 = .ok (.aload_n 0, 1) := by decide +kernel
theorem dL_refuses_922 : decode cL_refuses 922 = .ok (.bipush 14, 2) := by decide +kernel
theorem dL_refuses_924 : decode cL_refuses 924 = .ok (.iconst 0, 1) := by decide +kernel
theorem dL_refuses_925 : decode cL_refuses 925 = .ok (.iload_n 3, 1) := by decide +kernel
theorem dL_refuses_926 : decode cL_refuses 926 = .ok (.iconst 0, 1) := by decide +kernel
theorem dL_refuses_927 : decode cL_refuses 927 = .ok (.invokestatic 162, 3) := by decide +kernel
theorem dL_refuses_930 : decode cL_refuses 930 = .ok (.ldc 15, 2) := by decide +kernel
theorem dL_refuses_932 : decode cL_refuses 932 = .ok (.if_icmp .ne 150, 3) := by decide +kernel
theorem dL_refuses_935 : decode cL_refuses 935 = .ok (.aload_n 0, 1) := by decide +kernel
theorem dL_refuses_936 : decode cL_refuses 936 = .ok (.bipush 15, 2) := by decide +kernel
theorem dL_refuses_938 : decode cL_refuses 938 = .ok (.iload 4, 2) := by decide +kernel
theorem dL_refuses_940 : decode cL_refuses 940 = .ok (.iconst 0, 1) := by decide +kernel
theorem dL_refuses_941 : decode cL_refuses 941 = .ok (.iconst 0, 1) := by decide +kernel
theorem dL_refuses_942 : decode cL_refuses 942 = .ok (.invokestatic 162, 3) := by decide +kernel
theorem dL_refuses_945 : decode cL_refuses 945 = .ok (.ldc 15, 2) := by decide +kernel
theorem dL_refuses_947 : decode cL_refuses 947 = .ok (.if_icmp .ne 135, 3) := by decide +kernel
theorem dL_refuses_950 : decode cL_refuses 950 = .ok (.aload_n 0, 1) := by decide +kernel
theorem dL_refuses_951 : decode cL_refuses 951 = .ok (.bipush 16, 2) := by decide +kernel
theorem dL_refuses_953 : decode cL_refuses 953 = .ok (.iload_n 3, 1) := by decide +kernel
theorem dL_refuses_954 : decode cL_refuses 954 = .ok (.bipush 9, 2) := by decide +kernel
theorem dL_refuses_956 : decode cL_refuses 956 = .ok (.iconst 0, 1) := by decide +kernel
theorem dL_refuses_957 : decode cL_refuses 957 = .ok (.invokestatic 162, 3) := by decide +kernel
theorem dL_refuses_960 : decode cL_refuses 960 = .ok (.ldc 15, 2) := by decide +kernel
theorem dL_refuses_962 : decode cL_refuses 962 = .ok (.if_icmp .ne 120, 3) := by decide +kernel
theorem dL_refuses_965 : decode cL_refuses 965 = .ok (.aload_n 0, 1) := by decide +kernel
theorem dL_refuses_966 : decode cL_refuses 966 = .ok (.bipush 17, 2) := by decide +kernel
theorem dL_refuses_968 : decode cL_refuses 968 = .ok (.iload 5, 2) := by decide +kernel
theorem dL_refuses_970 : decode cL_refuses 970 = .ok (.iconst 0, 1) := by decide +kernel
theorem dL_refuses_971 : decode cL_refuses 971 = .ok (.iconst 0, 1) := by decide +kernel
theorem dL_refuses_972 : decode cL_refuses 972 = .ok (.invokestatic 162, 3) := by decide +kernel
theorem dL_refuses_975 : decode cL_refuses 975 = .ok (.ldc 15, 2) := by decide +kernel
theorem dL_refuses_977 : decode cL_refuses 977 = .ok (.if_icmp .ne 105, 3) := by decide +kernel
theorem dL_refuses_980 : decode cL_refuses 980 = .ok (.aload_n 0, 1) := by decide +kernel
theorem dL_refuses_981 : decode cL_refuses 981 = .ok (.bipush 17, 2) := by decide +kernel
theorem dL_refuses_983 : decode cL_refuses 983 = .ok (.iconst 0, 1) := by decide +kernel
theorem dL_refuses_984 : decode cL_refuses 984 = .ok (.iload 4, 2) := by decide +kernel
theorem dL_refuses_986 : decode cL_refuses 986 = .ok (.iconst 0, 1) := by decide +kernel
theorem dL_refuses_987 : decode cL_refuses 987 = .ok (.invokestatic 162, 3) := by decide +kernel
theorem dL_refuses_990 : decode cL_refuses 990 = .ok (.ldc 15, 2) := by decide +kernel
theorem dL_refuses_992 : decode cL_refuses 992 = .ok (.if_icmp .ne 90, 3) := by decide +kernel
theorem dL_refuses_995 : decode cL_refuses 995 = .ok (.aload_n 0, 1) := by decide +kernel
theorem dL_refuses_996 : decode cL_refuses 996 = .ok (.bipush 18, 2) := by decide +kernel
theorem dL_refuses_998 : decode cL_refuses 998 = .ok (.iconst 2, 1) := by decide +kernel
theorem dL_refuses_999 : decode cL_refuses 999 = .ok (.iload_n 1, 1) := by decide +kernel
theorem dL_refuses_1000 : decode cL_refuses 1000 = .ok (.bipush 50, 2) := by decide +kernel
theorem dL_refuses_1002 : decode cL_refuses 1002 = .ok (.irem, 1) := by decide +kernel
theorem dL_refuses_1003 : decode cL_refuses 1003 = .ok (.iadd, 1) := by decide +kernel
theorem dL_refuses_1004 : decode cL_refuses 1004 = .ok (.iconst 0, 1) := by decide +kernel
theorem dL_refuses_1005 : decode cL_refuses 1005 = .ok (.iconst 0, 1) := by decide +kernel
theorem dL_refuses_1006 : decode cL_refuses 1006 = .ok (.invokestatic 162, 3) := by decide +kernel
theorem dL_refuses_1009 : decode cL_refuses 1009 = .ok (.ldc 15, 2) := by decide +kernel
theorem dL_refuses_1011 : decode cL_refuses 1011 = .ok (.if_icmp .ne 71, 3) := by decide +kernel
theorem dL_refuses_1014 : decode cL_refuses 1014 = .ok (.aload_n 0, 1) := by decide +kernel
theorem dL_refuses_1015 : decode cL_refuses 1015 = .ok (.bipush 19, 2) := by decide +kernel
theorem dL_refuses_1017 : decode cL_refuses 1017 = .ok (.iconst (-1), 1) := by decide +kernel
theorem dL_refuses_1018 : decode cL_refuses 1018 = .ok (.iload_n 1, 1) := by decide +kernel
theorem dL_refuses_1019 : decode cL_refuses 1019 = .ok (.bipush 9, 2) := by decide +kernel
theorem dL_refuses_1021 : decode cL_refuses 1021 = .ok (.irem, 1) := by decide +kernel
theorem dL_refuses_1022 : decode cL_refuses 1022 = .ok (.isub, 1) := by decide +kernel
theorem dL_refuses_1023 : decode cL_refuses 1023 = .ok (.iconst 0, 1) := by decide +kernel
theorem dL_refuses_1024 : decode cL_refuses 1024 = .ok (.iconst 0, 1) := by decide +kernel
theorem dL_refuses_1025 : decode cL_refuses 1025 = .ok (.invokestatic 162, 3) := by decide +kernel
theorem dL_refuses_1028 : decode cL_refuses 1028 = .ok (.ldc 15, 2) := by decide +kernel
theorem dL_refuses_1030 : decode cL_refuses 1030 = .ok (.if_icmp .ne 52, 3) := by decide +kernel
theorem dL_refuses_1033 : decode cL_refuses 1033 = .ok (.aload_n 0, 1) := by decide +kernel
theorem dL_refuses_1034 : decode cL_refuses 1034 = .ok (.iconst 0, 1) := by decide +kernel
theorem dL_refuses_1035 : decode cL_refuses 1035 = .ok (.lconst 0, 1) := by decide +kernel
theorem dL_refuses_1036 : decode cL_refuses 1036 = .ok (.invokestatic 170, 3) := by decide +kernel
theorem dL_refuses_1039 : decode cL_refuses 1039 = .ok (.ldc 18, 2) := by decide +kernel
theorem dL_refuses_1041 : decode cL_refuses 1041 = .ok (.if_icmp .ne 41, 3) := by decide +kernel
theorem dL_refuses_1044 : decode cL_refuses 1044 = .ok (.aload_n 0, 1) := by decide +kernel
theorem dL_refuses_1045 : decode cL_refuses 1045 = .ok (.iconst 1, 1) := by decide +kernel
theorem dL_refuses_1046 : decode cL_refuses 1046 = .ok (.ldc2_w 174, 3) := by decide +kernel
theorem dL_refuses_1049 : decode cL_refuses 1049 = .ok (.iload_n 1, 1) := by decide +kernel
theorem dL_refuses_1050 : decode cL_refuses 1050 = .ok (.i2l, 1) := by decide +kernel
theorem dL_refuses_1051 : decode cL_refuses 1051 = .ok (.ladd, 1) := by decide +kernel
theorem dL_refuses_1052 : decode cL_refuses 1052 = .ok (.invokestatic 170, 3) := by decide +kernel
theorem dL_refuses_1055 : decode cL_refuses 1055 = .ok (.ldc 18, 2) := by decide +kernel
theorem dL_refuses_1057 : decode cL_refuses 1057 = .ok (.if_icmp .ne 25, 3) := by decide +kernel
theorem dL_refuses_1060 : decode cL_refuses 1060 = .ok (.aload_n 0, 1) := by decide +kernel
theorem dL_refuses_1061 : decode cL_refuses 1061 = .ok (.iload_n 1, 1) := by decide +kernel
theorem dL_refuses_1062 : decode cL_refuses 1062 = .ok (.i2l, 1) := by decide +kernel
theorem dL_refuses_1063 : decode cL_refuses 1063 = .ok (.bipush 61, 2) := by decide +kernel
theorem dL_refuses_1065 : decode cL_refuses 1065 = .ok (.iload_n 1, 1) := by decide +kernel
theorem dL_refuses_1066 : decode cL_refuses 1066 = .ok (.bipush 9, 2) := by decide +kernel
theorem dL_refuses_1068 : decode cL_refuses 1068 = .ok (.irem, 1) := by decide +kernel
theorem dL_refuses_1069 : decode cL_refuses 1069 = .ok (.iadd, 1) := by decide +kernel
theorem dL_refuses_1070 : decode cL_refuses 1070 = .ok (.invokestatic 176, 3) := by decide +kernel
theorem dL_refuses_1073 : decode cL_refuses 1073 = .ok (.ldc 18, 2) := by decide +kernel
theorem dL_refuses_1075 : decode cL_refuses 1075 = .ok (.if_icmp .ne 7, 3) := by decide +kernel
theorem dL_refuses_1078 : decode cL_refuses 1078 = .ok (.iconst 1, 1) := by decide +kernel
theorem dL_refuses_1079 : decode cL_refuses 1079 = .ok (.goto 4, 3) := by decide +kernel
theorem dL_refuses_1082 : decode cL_refuses 1082 = .ok (.iconst 0, 1) := by decide +kernel
theorem dL_refuses_1083 : decode cL_refuses 1083 = .ok (.istore 7, 2) := by decide +kernel
theorem dL_refuses_1085 : decode cL_refuses 1085 = .ok (.iload 7, 2) := by decide +kernel
theorem dL_refuses_1087 : decode cL_refuses 1087 = .ok (.ifCond .eq 52, 3) := by decide +kernel
theorem dL_refuses_1090 : decode cL_refuses 1090 = .ok (.iload_n 2, 1) := by decide +kernel
theorem dL_refuses_1091 : decode cL_refuses 1091 = .ok (.bipush 16, 2) := by decide +kernel
theorem dL_refuses_1093 : decode cL_refuses 1093 = .ok (.if_icmp .lt 19, 3) := by decide +kernel
theorem dL_refuses_1096 : decode cL_refuses 1096 = .ok (.aload_n 0, 1) := by decide +kernel
theorem dL_refuses_1097 : decode cL_refuses 1097 = .ok (.iconst 0, 1) := by decide +kernel
theorem dL_refuses_1098 : decode cL_refuses 1098 = .ok (.iconst 0, 1) := by decide +kernel
theorem dL_refuses_1099 : decode cL_refuses 1099 = .ok (.iconst 2, 1) := by decide +kernel
theorem dL_refuses_1100 : decode cL_refuses 1100 = .ok (.iconst 5, 1) := by decide +kernel
theorem dL_refuses_1101 : decode cL_refuses 1101 = .ok (.iconst 5, 1) := by decide +kernel
theorem dL_refuses_1102 : decode cL_refuses 1102 = .ok (.iconst 0, 1) := by decide +kernel
theorem dL_refuses_1103 : decode cL_refuses 1103 = .ok (.iconst 0, 1) := by decide +kernel
theorem dL_refuses_1104 : decode cL_refuses 1104 = .ok (.invokestatic 166, 3) := by decide +kernel
theorem dL_refuses_1107 : decode cL_refuses 1107 = .ok (.ldc 21, 2) := by decide +kernel
theorem dL_refuses_1109 : decode cL_refuses 1109 = .ok (.if_icmp .ne 30, 3) := by decide +kernel
theorem dL_refuses_1112 : decode cL_refuses 1112 = .ok (.iload_n 2, 1) := by decide +kernel
theorem dL_refuses_1113 : decode cL_refuses 1113 = .ok (.ifCond .eq 22, 3) := by decide +kernel
theorem dL_refuses_1116 : decode cL_refuses 1116 = .ok (.aload_n 0, 1) := by decide +kernel
theorem dL_refuses_1117 : decode cL_refuses 1117 = .ok (.bipush 16, 2) := by decide +kernel
theorem dL_refuses_1119 : decode cL_refuses 1119 = .ok (.iconst 0, 1) := by decide +kernel
theorem dL_refuses_1120 : decode cL_refuses 1120 = .ok (.iconst 3, 1) := by decide +kernel
theorem dL_refuses_1121 : decode cL_refuses 1121 = .ok (.iload_n 1, 1) := by decide +kernel
theorem dL_refuses_1122 : decode cL_refuses 1122 = .ok (.bipush 9, 2) := by decide +kernel
theorem dL_refuses_1124 : decode cL_refuses 1124 = .ok (.irem, 1) := by decide +kernel
theorem dL_refuses_1125 : decode cL_refuses 1125 = .ok (.iadd, 1) := by decide +kernel
theorem dL_refuses_1126 : decode cL_refuses 1126 = .ok (.iconst 0, 1) := by decide +kernel
theorem dL_refuses_1127 : decode cL_refuses 1127 = .ok (.invokestatic 162, 3) := by decide +kernel
theorem dL_refuses_1130 : decode cL_refuses 1130 = .ok (.ldc 18, 2) := by decide +kernel
theorem dL_refuses_1132 : decode cL_refuses 1132 = .ok (.if_icmp .ne 7, 3) := by decide +kernel
theorem dL_refuses_1135 : decode cL_refuses 1135 = .ok (.iconst 1, 1) := by decide +kernel
theorem dL_refuses_1136 : decode cL_refuses 1136 = .ok (.goto 4, 3) := by decide +kernel
theorem dL_refuses_1139 : decode cL_refuses 1139 = .ok (.iconst 0, 1) := by decide +kernel
theorem dL_refuses_1140 : decode cL_refuses 1140 = .ok (.ireturn, 1) := by decide +kernel
theorem dL_holds_0 : decode cL_holds 0 = .ok (.aload_n 0, 1) := by decide +kernel
theorem dL_holds_1 : decode cL_holds 1 = .ok (.iconst 2, 1) := by decide +kernel
theorem dL_holds_2 : decode cL_holds 2 = .ok (.iconst 0, 1) := by decide +kernel
theorem dL_holds_3 : decode cL_holds 3 = .ok (.iconst 0, 1) := by decide +kernel
theorem dL_holds_4 : decode cL_holds 4 = .ok (.iconst 0, 1) := by decide +kernel
theorem dL_holds_5 : decode cL_holds 5 = .ok (.invokestatic 162, 3) := by decide +kernel
theorem dL_holds_8 : decode cL_holds 8 = .ok (.istore_n 2, 1) := by decide +kernel
theorem dL_holds_9 : decode cL_holds 9 = .ok (.iconst 0, 1) := by decide +kernel
theorem dL_holds_10 : decode cL_holds 10 = .ok (.istore_n 3, 1) := by decide +kernel
theorem dL_holds_11 : decode cL_holds 11 = .ok (.iconst 0, 1) := by decide +kernel
theorem dL_holds_12 : decode cL_holds 12 = .ok (.istore 4, 2) := by decide +kernel
theorem dL_holds_14 : decode cL_holds 14 = .ok (.iconst 0, 1) := by decide +kernel
theorem dL_holds_15 : decode cL_holds 15 = .ok (.istore 5, 2) := by decide +kernel
theorem dL_holds_17 : decode cL_holds 17 = .ok (.iconst 0, 1) := by decide +kernel
theorem dL_holds_18 : decode cL_holds 18 = .ok (.istore 6, 2) := by decide +kernel
theorem dL_holds_20 : decode cL_holds 20 = .ok (.iconst 0, 1) := by decide +kernel
theorem dL_holds_21 : decode cL_holds 21 = .ok (.istore 7, 2) := by decide +kernel
theorem dL_holds_23 : decode cL_holds 23 = .ok (.iload_n 2, 1) := by decide +kernel
theorem dL_holds_24 : decode cL_holds 24 = .ok (.bipush 16, 2) := by decide +kernel
theorem dL_holds_26 : decode cL_holds 26 = .ok (.if_icmp .gt 19, 3) := by decide +kernel
theorem dL_holds_29 : decode cL_holds 29 = .ok (.iload_n 2, 1) := by decide +kernel
theorem dL_holds_30 : decode cL_holds 30 = .ok (.aload_n 0, 1) := by decide +kernel
theorem dL_holds_31 : decode cL_holds 31 = .ok (.iconst 2, 1) := by decide +kernel
theorem dL_holds_32 : decode cL_holds 32 = .ok (.iconst 1, 1) := by decide +kernel
theorem dL_holds_33 : decode cL_holds 33 = .ok (.iconst 0, 1) := by decide +kernel
theorem dL_holds_34 : decode cL_holds 34 = .ok (.iconst 0, 1) := by decide +kernel
theorem dL_holds_35 : decode cL_holds 35 = .ok (.invokestatic 162, 3) := by decide +kernel
theorem dL_holds_38 : decode cL_holds 38 = .ok (.if_icmp .gt 7, 3) := by decide +kernel
theorem dL_holds_41 : decode cL_holds 41 = .ok (.iconst 1, 1) := by decide +kernel
theorem dL_holds_42 : decode cL_holds 42 = .ok (.goto 4, 3) := by decide +kernel
theorem dL_holds_45 : decode cL_holds 45 = .ok (.iconst 0, 1) := by decide +kernel
theorem dL_holds_46 : decode cL_holds 46 = .ok (.istore 8, 2) := by decide +kernel
theorem dL_holds_48 : decode cL_holds 48 = .ok (.iconst 0, 1) := by decide +kernel
theorem dL_holds_49 : decode cL_holds 49 = .ok (.istore 9, 2) := by decide +kernel
theorem dL_holds_51 : decode cL_holds 51 = .ok (.iload 9, 2) := by decide +kernel
theorem dL_holds_53 : decode cL_holds 53 = .ok (.iload_n 2, 1) := by decide +kernel
theorem dL_holds_54 : decode cL_holds 54 = .ok (.if_icmp .ge 318, 3) := by decide +kernel
theorem dL_holds_57 : decode cL_holds 57 = .ok (.iload 8, 2) := by decide +kernel
theorem dL_holds_59 : decode cL_holds 59 = .ok (.ifCond .eq 313, 3) := by decide +kernel
theorem dL_holds_62 : decode cL_holds 62 = .ok (.iconst 0, 1) := by decide +kernel
theorem dL_holds_63 : decode cL_holds 63 = .ok (.istore 10, 2) := by decide +kernel
theorem dL_holds_65 : decode cL_holds 65 = .ok (.aload_n 0, 1) := by decide +kernel
theorem dL_holds_66 : decode cL_holds 66 = .ok (.iconst 3, 1) := by decide +kernel
theorem dL_holds_67 : decode cL_holds 67 = .ok (.iload 9, 2) := by decide +kernel
theorem dL_holds_69 : decode cL_holds 69 = .ok (.iconst 2, 1) := by decide +kernel
theorem dL_holds_70 : decode cL_holds 70 = .ok (.iconst 0, 1) := by decide +kernel
theorem dL_holds_71 : decode cL_holds 71 = .ok (.invokestatic 162, 3) := by decide +kernel
theorem dL_holds_74 : decode cL_holds 74 = .ok (.istore 11, 2) := by decide +kernel
theorem dL_holds_76 : decode cL_holds 76 = .ok (.iconst 0, 1) := by decide +kernel
theorem dL_holds_77 : decode cL_holds 77 = .ok (.istore 12, 2) := by decide +kernel
theorem dL_holds_79 : decode cL_holds 79 = .ok (.iload 12, 2) := by decide +kernel
theorem dL_holds_81 : decode cL_holds 81 = .ok (.iload_n 2, 1) := by decide +kernel
theorem dL_holds_82 : decode cL_holds 82 = .ok (.if_icmp .ge 150, 3) := by decide +kernel
theorem dL_holds_85 : decode cL_holds 85 = .ok (.iload 8, 2) := by decide +kernel
theorem dL_holds_87 : decode cL_holds 87 = .ok (.ifCond .eq 145, 3) := by decide +kernel
theorem dL_holds_90 : decode cL_holds 90 = .ok (.aload_n 0, 1) := by decide +kernel
theorem dL_holds_91 : decode cL_holds 91 = .ok (.bipush 14, 2) := by decide +kernel
theorem dL_holds_93 : decode cL_holds 93 = .ok (.iload 9, 2) := by decide +kernel
theorem dL_holds_95 : decode cL_holds 95 = .ok (.iload 12, 2) := by decide +kernel
theorem dL_holds_97 : decode cL_holds 97 = .ok (.iconst 0, 1) := by decide +kernel
theorem dL_holds_98 : decode cL_holds 98 = .ok (.invokestatic 162, 3) := by decide +kernel
theorem dL_holds_101 : decode cL_holds 101 = .ok (.istore 13, 2) := by decide +kernel
theorem dL_holds_103 : decode cL_holds 103 = .ok (.aload_n 0, 1) := by decide +kernel
theorem dL_holds_104 : decode cL_holds 104 = .ok (.iconst 3, 1) := by decide +kernel
theorem dL_holds_105 : decode cL_holds 105 = .ok (.iload 9, 2) := by decide +kernel
theorem dL_holds_107 : decode cL_holds 107 = .ok (.iconst 0, 1) := by decide +kernel
theorem dL_holds_108 : decode cL_holds 108 = .ok (.iconst 0, 1) := by decide +kernel
theorem dL_holds_109 : decode cL_holds 109 = .ok (.invokestatic 162, 3) := by decide +kernel
theorem dL_holds_112 : decode cL_holds 112 = .ok (.aload_n 0, 1) := by decide +kernel
theorem dL_holds_113 : decode cL_holds 113 = .ok (.iconst 3, 1) := by decide +kernel
theorem dL_holds_114 : decode cL_holds 114 = .ok (.iload 12, 2) := by decide +kernel
theorem dL_holds_116 : decode cL_holds 116 = .ok (.iconst 0, 1) := by decide +kernel
theorem dL_holds_117 : decode cL_holds 117 = .ok (.iconst 0, 1) := by decide +kernel
theorem dL_holds_118 : decode cL_holds 118 = .ok (.invokestatic 162, 3) := by decide +kernel
theorem dL_holds_121 : decode cL_holds 121 = .ok (.if_icmp .ne 7, 3) := by decide +kernel
theorem dL_holds_124 : decode cL_holds 124 = .ok (.iconst 1, 1) := by decide +kernel
theorem dL_holds_125 : decode cL_holds 125 = .ok (.goto 4, 3) := by decide +kernel
theorem dL_holds_128 : decode cL_holds 128 = .ok (.iconst 0, 1) := by decide +kernel
theorem dL_holds_129 : decode cL_holds 129 = .ok (.istore 14, 2) := by decide +kernel
theorem dL_holds_131 : decode cL_holds 131 = .ok (.iload 10, 2) := by decide +kernel
theorem dL_holds_133 : decode cL_holds 133 = .ok (.iload 13, 2) := by decide +kernel
theorem dL_holds_135 : decode cL_holds 135 = .ok (.ifCond .le 28, 3) := by decide +kernel
theorem dL_holds_138 : decode cL_holds 138 = .ok (.aload_n 0, 1) := by decide +kernel
theorem dL_holds_139 : decode cL_holds 139 = .ok (.iconst 3, 1) := by decide +kernel
theorem dL_holds_140 : decode cL_holds 140 = .ok (.iload 9, 2) := by decide +kernel
theorem dL_holds_142 : decode cL_holds 142 = .ok (.iconst 1, 1) := by decide +kernel
theorem dL_holds_143 : decode cL_holds 143 = .ok (.iconst 0, 1) := by decide +kernel
theorem dL_holds_144 : decode cL_holds 144 = .ok (.invokestatic 162, 3) := by decide +kernel
theorem dL_holds_147 : decode cL_holds 147 = .ok (.aload_n 0, 1) := by decide +kernel
theorem dL_holds_148 : decode cL_holds 148 = .ok (.iconst 3, 1) := by decide +kernel
theorem dL_holds_149 : decode cL_holds 149 = .ok (.iload 12, 2) := by decide +kernel
theorem dL_holds_151 : decode cL_holds 151 = .ok (.iconst 1, 1) := by decide +kernel
theorem dL_holds_152 : decode cL_holds 152 = .ok (.iconst 0, 1) := by decide +kernel
theorem dL_holds_153 : decode cL_holds 153 = .ok (.invokestatic 162, 3) := by decide +kernel
theorem dL_holds_156 : decode cL_holds 156 = .ok (.if_icmp .eq 7, 3) := by decide +kernel
theorem dL_holds_159 : decode cL_holds 159 = .ok (.iconst 1, 1) := by decide +kernel
theorem dL_holds_160 : decode cL_holds 160 = .ok (.goto 4, 3) := by decide +kernel
theorem dL_holds_163 : decode cL_holds 163 = .ok (.iconst 0, 1) := by decide +kernel
theorem dL_holds_164 : decode cL_holds 164 = .ok (.iadd, 1) := by decide +kernel
theorem dL_holds_165 : decode cL_holds 165 = .ok (.istore 10, 2) := by decide +kernel
theorem dL_holds_167 : decode cL_holds 167 = .ok (.iload 13, 2) := by decide +kernel
theorem dL_holds_169 : decode cL_holds 169 = .ok (.aload_n 0, 1) := by decide +kernel
theorem dL_holds_170 : decode cL_holds 170 = .ok (.bipush 14, 2) := by decide +kernel
theorem dL_holds_172 : decode cL_holds 172 = .ok (.iload 12, 2) := by decide +kernel
theorem dL_holds_174 : decode cL_holds 174 = .ok (.iload 9, 2) := by decide +kernel
theorem dL_holds_176 : decode cL_holds 176 = .ok (.iconst 0, 1) := by decide +kernel
theorem dL_holds_177 : decode cL_holds 177 = .ok (.invokestatic 162, 3) := by decide +kernel
theorem dL_holds_180 : decode cL_holds 180 = .ok (.if_icmp .ne 43, 3) := by decide +kernel
theorem dL_holds_183 : decode cL_holds 183 = .ok (.iload 13, 2) := by decide +kernel
theorem dL_holds_185 : decode cL_holds 185 = .ok (.iconst (-1), 1) := by decide +kernel
theorem dL_holds_186 : decode cL_holds 186 = .ok (.if_icmp .ne 7, 3) := by decide +kernel
theorem dL_holds_189 : decode cL_holds 189 = .ok (.iconst 1, 1) := by decide +kernel
theorem dL_holds_190 : decode cL_holds 190 = .ok (.goto 4, 3) := by decide +kernel
theorem dL_holds_193 : decode cL_holds 193 = .ok (.iconst 0, 1) := by decide +kernel
theorem dL_holds_194 : decode cL_holds 194 = .ok (.iload 14, 2) := by decide +kernel
theorem dL_holds_196 : decode cL_holds 196 = .ok (.ifCond .ne 7, 3) := by decide +kernel
theorem dL_holds_199 : decode cL_holds 199 = .ok (.iconst 1, 1) := by decide +kernel
theorem dL_holds_200 : decode cL_holds 200 = .ok (.goto 4, 3) := by decide +kernel
theorem dL_holds_203 : decode cL_holds 203 = .ok (.iconst 0, 1) := by decide +kernel
theorem dL_holds_204 : decode cL_holds 204 = .ok (.if_icmp .ne 19, 3) := by decide +kernel
theorem dL_holds_207 : decode cL_holds 207 = .ok (.iload 9, 2) := by decide +kernel
theorem dL_holds_209 : decode cL_holds 209 = .ok (.iload 12, 2) := by decide +kernel
theorem dL_holds_211 : decode cL_holds 211 = .ok (.if_icmp .ne 8, 3) := by decide +kernel
theorem dL_holds_214 : decode cL_holds 214 = .ok (.iload 13, 2) := by decide +kernel
theorem dL_holds_216 : decode cL_holds 216 = .ok (.ifCond .ne 7, 3) := by decide +kernel
theorem dL_holds_219 : decode cL_holds 219 = .ok (.iconst 1, 1) := by decide +kernel
theorem dL_holds_220 : decode cL_holds 220 = .ok (.goto 4, 3) := by decide +kernel
theorem dL_holds_223 : decode cL_holds 223 = .ok (.iconst 0, 1) := by decide +kernel
theorem dL_holds_224 : decode cL_holds 224 = .ok (.istore 8, 2) := by decide +kernel
theorem dL_holds_226 : decode cL_holds 226 = .ok (.iinc 12 1, 3) := by decide +kernel
theorem dL_holds_229 : decode cL_holds 229 = .ok (.goto (-150), 3) := by decide +kernel
theorem dL_holds_232 : decode cL_holds 232 = .ok (.iload_n 3, 1) := by decide +kernel
theorem dL_holds_233 : decode cL_holds 233 = .ok (.iload 10, 2) := by decide +kernel
theorem dL_holds_235 : decode cL_holds 235 = .ok (.iadd, 1) := by decide +kernel
theorem dL_holds_236 : decode cL_holds 236 = .ok (.istore_n 3, 1) := by decide +kernel
theorem dL_holds_237 : decode cL_holds 237 = .ok (.iload 8, 2) := by decide +kernel
theorem dL_holds_239 : decode cL_holds 239 = .ok (.ifCond .eq 124, 3) := by decide +kernel
theorem dL_holds_242 : decode cL_holds 242 = .ok (.iload 10, 2) := by decide +kernel
theorem dL_holds_244 : decode cL_holds 244 = .ok (.aload_n 0, 1) := by decide +kernel
end
section
theorem dL_holds_245 : decode cL_holds 245 = .ok (.iconst 3, 1) := by decide +kernel
theorem dL_holds_246 : decode cL_holds 246 = .ok (.iload 9, 2) := by decide +kernel
theorem dL_holds_248 : decode cL_holds 248 = .ok (.bipush 10, 2) := by decide +kernel
theorem dL_holds_250 : decode cL_holds 250 = .ok (.iconst 0, 1) := by decide +kernel
theorem dL_holds_251 : decode cL_holds 251 = .ok (.invokestatic 162, 3) := by decide +kernel
theorem dL_holds_254 : decode cL_holds 254 = .ok (.if_icmp .ne 109, 3) := by decide +kernel
theorem dL_holds_257 : decode cL_holds 257 = .ok (.aload_n 0, 1) := by decide +kernel
theorem dL_holds_258 : decode cL_holds 258 = .ok (.iconst 3, 1) := by decide +kernel
theorem dL_holds_259 : decode cL_holds 259 = .ok (.iload 9, 2) := by decide +kernel
theorem dL_holds_261 : decode cL_holds 261 = .ok (.bipush 7, 2) := by decide +kernel
theorem dL_holds_263 : decode cL_holds 263 = .ok (.iconst 0, 1) := by decide +kernel
theorem dL_holds_264 : decode cL_holds 264 = .ok (.invokestatic 162, 3) := by decide +kernel
theorem dL_holds_267 : decode cL_holds 267 = .ok (.iconst 1, 1) := by decide +kernel
theorem dL_holds_268 : decode cL_holds 268 = .ok (.if_icmp .lt 95, 3) := by decide +kernel
theorem dL_holds_271 : decode cL_holds 271 = .ok (.aload_n 0, 1) := by decide +kernel
theorem dL_holds_272 : decode cL_holds 272 = .ok (.iconst 3, 1) := by decide +kernel
theorem dL_holds_273 : decode cL_holds 273 = .ok (.iload 9, 2) := by decide +kernel
theorem dL_holds_275 : decode cL_holds 275 = .ok (.bipush 7, 2) := by decide +kernel
theorem dL_holds_277 : decode cL_holds 277 = .ok (.iconst 0, 1) := by decide +kernel
theorem dL_holds_278 : decode cL_holds 278 = .ok (.invokestatic 162, 3) := by decide +kernel
theorem dL_holds_281 : decode cL_holds 281 = .ok (.aload_n 0, 1) := by decide +kernel
theorem dL_holds_282 : decode cL_holds 282 = .ok (.iconst 3, 1) := by decide +kernel
theorem dL_holds_283 : decode cL_holds 283 = .ok (.iload 9, 2) := by decide +kernel
theorem dL_holds_285 : decode cL_holds 285 = .ok (.bipush 8, 2) := by decide +kernel
theorem dL_holds_287 : decode cL_holds 287 = .ok (.iconst 0, 1) := by decide +kernel
theorem dL_holds_288 : decode cL_holds 288 = .ok (.invokestatic 162, 3) := by decide +kernel
theorem dL_holds_291 : decode cL_holds 291 = .ok (.if_icmp .gt 72, 3) := by decide +kernel
theorem dL_holds_294 : decode cL_holds 294 = .ok (.aload_n 0, 1) := by decide +kernel
theorem dL_holds_295 : decode cL_holds 295 = .ok (.iconst 3, 1) := by decide +kernel
theorem dL_holds_296 : decode cL_holds 296 = .ok (.iload 9, 2) := by decide +kernel
theorem dL_holds_298 : decode cL_holds 298 = .ok (.bipush 8, 2) := by decide +kernel
theorem dL_holds_300 : decode cL_holds 300 = .ok (.iconst 0, 1) := by decide +kernel
theorem dL_holds_301 : decode cL_holds 301 = .ok (.invokestatic 162, 3) := by decide +kernel
theorem dL_holds_304 : decode cL_holds 304 = .ok (.sipush 999, 3) := by decide +kernel
theorem dL_holds_307 : decode cL_holds 307 = .ok (.if_icmp .gt 56, 3) := by decide +kernel
theorem dL_holds_310 : decode cL_holds 310 = .ok (.aload_n 0, 1) := by decide +kernel
theorem dL_holds_311 : decode cL_holds 311 = .ok (.iconst 3, 1) := by decide +kernel
theorem dL_holds_312 : decode cL_holds 312 = .ok (.iload 9, 2) := by decide +kernel
theorem dL_holds_314 : decode cL_holds 314 = .ok (.bipush 9, 2) := by decide +kernel
theorem dL_holds_316 : decode cL_holds 316 = .ok (.iconst 0, 1) := by decide +kernel
theorem dL_holds_317 : decode cL_holds 317 = .ok (.invokestatic 162, 3) := by decide +kernel
theorem dL_holds_320 : decode cL_holds 320 = .ok (.aload_n 0, 1) := by decide +kernel
theorem dL_holds_321 : decode cL_holds 321 = .ok (.iconst 4, 1) := by decide +kernel
theorem dL_holds_322 : decode cL_holds 322 = .ok (.aload_n 0, 1) := by decide +kernel
theorem dL_holds_323 : decode cL_holds 323 = .ok (.iconst 3, 1) := by decide +kernel
theorem dL_holds_324 : decode cL_holds 324 = .ok (.iload 9, 2) := by decide +kernel
theorem dL_holds_326 : decode cL_holds 326 = .ok (.iconst 1, 1) := by decide +kernel
theorem dL_holds_327 : decode cL_holds 327 = .ok (.iconst 0, 1) := by decide +kernel
theorem dL_holds_328 : decode cL_holds 328 = .ok (.invokestatic 162, 3) := by decide +kernel
theorem dL_holds_331 : decode cL_holds 331 = .ok (.iconst 0, 1) := by decide +kernel
theorem dL_holds_332 : decode cL_holds 332 = .ok (.iconst 0, 1) := by decide +kernel
theorem dL_holds_333 : decode cL_holds 333 = .ok (.invokestatic 162, 3) := by decide +kernel
theorem dL_holds_336 : decode cL_holds 336 = .ok (.iload 11, 2) := by decide +kernel
theorem dL_holds_338 : decode cL_holds 338 = .ok (.iconst 2, 1) := by decide +kernel
theorem dL_holds_339 : decode cL_holds 339 = .ok (.if_icmp .ge 15, 3) := by decide +kernel
theorem dL_holds_342 : decode cL_holds 342 = .ok (.aload_n 0, 1) := by decide +kernel
theorem dL_holds_343 : decode cL_holds 343 = .ok (.bipush 8, 2) := by decide +kernel
theorem dL_holds_345 : decode cL_holds 345 = .ok (.iconst 0, 1) := by decide +kernel
theorem dL_holds_346 : decode cL_holds 346 = .ok (.iconst 0, 1) := by decide +kernel
theorem dL_holds_347 : decode cL_holds 347 = .ok (.iconst 0, 1) := by decide +kernel
theorem dL_holds_348 : decode cL_holds 348 = .ok (.invokestatic 162, 3) := by decide +kernel
theorem dL_holds_351 : decode cL_holds 351 = .ok (.goto 4, 3) := by decide +kernel
theorem dL_holds_354 : decode cL_holds 354 = .ok (.iconst 0, 1) := by decide +kernel
theorem dL_holds_355 : decode cL_holds 355 = .ok (.iadd, 1) := by decide +kernel
theorem dL_holds_356 : decode cL_holds 356 = .ok (.if_icmp .ne 7, 3) := by decide +kernel
theorem dL_holds_359 : decode cL_holds 359 = .ok (.iconst 1, 1) := by decide +kernel
theorem dL_holds_360 : decode cL_holds 360 = .ok (.goto 4, 3) := by decide +kernel
theorem dL_holds_363 : decode cL_holds 363 = .ok (.iconst 0, 1) := by decide +kernel
theorem dL_holds_364 : decode cL_holds 364 = .ok (.istore 8, 2) := by decide +kernel
theorem dL_holds_366 : decode cL_holds 366 = .ok (.iinc 9 1, 3) := by decide +kernel
theorem dL_holds_369 : decode cL_holds 369 = .ok (.goto (-318), 3) := by decide +kernel
theorem dL_holds_372 : decode cL_holds 372 = .ok (.iconst 0, 1) := by decide +kernel
theorem dL_holds_373 : decode cL_holds 373 = .ok (.istore 9, 2) := by decide +kernel
theorem dL_holds_375 : decode cL_holds 375 = .ok (.iconst 0, 1) := by decide +kernel
theorem dL_holds_376 : decode cL_holds 376 = .ok (.istore 10, 2) := by decide +kernel
theorem dL_holds_378 : decode cL_holds 378 = .ok (.iload 10, 2) := by decide +kernel
theorem dL_holds_380 : decode cL_holds 380 = .ok (.bipush 6, 2) := by decide +kernel
theorem dL_holds_382 : decode cL_holds 382 = .ok (.if_icmp .ge 117, 3) := by decide +kernel
theorem dL_holds_385 : decode cL_holds 385 = .ok (.iload 8, 2) := by decide +kernel
theorem dL_holds_387 : decode cL_holds 387 = .ok (.ifCond .eq 112, 3) := by decide +kernel
theorem dL_holds_390 : decode cL_holds 390 = .ok (.iload 6, 2) := by decide +kernel
theorem dL_holds_392 : decode cL_holds 392 = .ok (.aload_n 0, 1) := by decide +kernel
theorem dL_holds_393 : decode cL_holds 393 = .ok (.iconst 4, 1) := by decide +kernel
theorem dL_holds_394 : decode cL_holds 394 = .ok (.iload 10, 2) := by decide +kernel
theorem dL_holds_396 : decode cL_holds 396 = .ok (.iconst 0, 1) := by decide +kernel
theorem dL_holds_397 : decode cL_holds 397 = .ok (.iconst 0, 1) := by decide +kernel
theorem dL_holds_398 : decode cL_holds 398 = .ok (.invokestatic 162, 3) := by decide +kernel
theorem dL_holds_401 : decode cL_holds 401 = .ok (.iadd, 1) := by decide +kernel
theorem dL_holds_402 : decode cL_holds 402 = .ok (.istore 6, 2) := by decide +kernel
theorem dL_holds_404 : decode cL_holds 404 = .ok (.iload 7, 2) := by decide +kernel
theorem dL_holds_406 : decode cL_holds 406 = .ok (.aload_n 0, 1) := by decide +kernel
theorem dL_holds_407 : decode cL_holds 407 = .ok (.iconst 4, 1) := by decide +kernel
theorem dL_holds_408 : decode cL_holds 408 = .ok (.iload 10, 2) := by decide +kernel
theorem dL_holds_410 : decode cL_holds 410 = .ok (.iconst 1, 1) := by decide +kernel
theorem dL_holds_411 : decode cL_holds 411 = .ok (.iconst 0, 1) := by decide +kernel
theorem dL_holds_412 : decode cL_holds 412 = .ok (.invokestatic 162, 3) := by decide +kernel
theorem dL_holds_415 : decode cL_holds 415 = .ok (.iadd, 1) := by decide +kernel
theorem dL_holds_416 : decode cL_holds 416 = .ok (.istore 7, 2) := by decide +kernel
theorem dL_holds_418 : decode cL_holds 418 = .ok (.iload 4, 2) := by decide +kernel
theorem dL_holds_420 : decode cL_holds 420 = .ok (.aload_n 0, 1) := by decide +kernel
theorem dL_holds_421 : decode cL_holds 421 = .ok (.iconst 4, 1) := by decide +kernel
theorem dL_holds_422 : decode cL_holds 422 = .ok (.iload 10, 2) := by decide +kernel
theorem dL_holds_424 : decode cL_holds 424 = .ok (.iconst 2, 1) := by decide +kernel
theorem dL_holds_425 : decode cL_holds 425 = .ok (.iconst 0, 1) := by decide +kernel
theorem dL_holds_426 : decode cL_holds 426 = .ok (.invokestatic 162, 3) := by decide +kernel
theorem dL_holds_429 : decode cL_holds 429 = .ok (.iadd, 1) := by decide +kernel
theorem dL_holds_430 : decode cL_holds 430 = .ok (.istore 4, 2) := by decide +kernel
theorem dL_holds_432 : decode cL_holds 432 = .ok (.iload 5, 2) := by decide +kernel
theorem dL_holds_434 : decode cL_holds 434 = .ok (.aload_n 0, 1) := by decide +kernel
theorem dL_holds_435 : decode cL_holds 435 = .ok (.iconst 4, 1) := by decide +kernel
theorem dL_holds_436 : decode cL_holds 436 = .ok (.iload 10, 2) := by decide +kernel
theorem dL_holds_438 : decode cL_holds 438 = .ok (.iconst 3, 1) := by decide +kernel
theorem dL_holds_439 : decode cL_holds 439 = .ok (.iconst 0, 1) := by decide +kernel
theorem dL_holds_440 : decode cL_holds 440 = .ok (.invokestatic 162, 3) := by decide +kernel
theorem dL_holds_443 : decode cL_holds 443 = .ok (.iadd, 1) := by decide +kernel
theorem dL_holds_444 : decode cL_holds 444 = .ok (.istore 5, 2) := by decide +kernel
theorem dL_holds_446 : decode cL_holds 446 = .ok (.iload 9, 2) := by decide +kernel
theorem dL_holds_448 : decode cL_holds 448 = .ok (.aload_n 0, 1) := by decide +kernel
theorem dL_holds_449 : decode cL_holds 449 = .ok (.iconst 4, 1) := by decide +kernel
theorem dL_holds_450 : decode cL_holds 450 = .ok (.iload 10, 2) := by decide +kernel
theorem dL_holds_452 : decode cL_holds 452 = .ok (.iconst 4, 1) := by decide +kernel
theorem dL_holds_453 : decode cL_holds 453 = .ok (.iconst 0, 1) := by decide +kernel
theorem dL_holds_454 : decode cL_holds 454 = .ok (.invokestatic 162, 3) := by decide +kernel
theorem dL_holds_457 : decode cL_holds 457 = .ok (.iadd, 1) := by decide +kernel
theorem dL_holds_458 : decode cL_holds 458 = .ok (.istore 9, 2) := by decide +kernel
theorem dL_holds_460 : decode cL_holds 460 = .ok (.aload_n 0, 1) := by decide +kernel
theorem dL_holds_461 : decode cL_holds 461 = .ok (.iconst 4, 1) := by decide +kernel
theorem dL_holds_462 : decode cL_holds 462 = .ok (.iload 10, 2) := by decide +kernel
theorem dL_holds_464 : decode cL_holds 464 = .ok (.iconst 0, 1) := by decide +kernel
theorem dL_holds_465 : decode cL_holds 465 = .ok (.iconst 0, 1) := by decide +kernel
theorem dL_holds_466 : decode cL_holds 466 = .ok (.invokestatic 162, 3) := by decide +kernel
theorem dL_holds_469 : decode cL_holds 469 = .ok (.ifCond .lt 21, 3) := by decide +kernel
theorem dL_holds_472 : decode cL_holds 472 = .ok (.aload_n 0, 1) := by decide +kernel
theorem dL_holds_473 : decode cL_holds 473 = .ok (.iconst 4, 1) := by decide +kernel
theorem dL_holds_474 : decode cL_holds 474 = .ok (.iload 10, 2) := by decide +kernel
theorem dL_holds_476 : decode cL_holds 476 = .ok (.iconst 0, 1) := by decide +kernel
theorem dL_holds_477 : decode cL_holds 477 = .ok (.iconst 0, 1) := by decide +kernel
theorem dL_holds_478 : decode cL_holds 478 = .ok (.invokestatic 162, 3) := by decide +kernel
theorem dL_holds_481 : decode cL_holds 481 = .ok (.bipush 9, 2) := by decide +kernel
theorem dL_holds_483 : decode cL_holds 483 = .ok (.if_icmp .gt 7, 3) := by decide +kernel
theorem dL_holds_486 : decode cL_holds 486 = .ok (.iconst 1, 1) := by decide +kernel
theorem dL_holds_487 : decode cL_holds 487 = .ok (.goto 4, 3) := by decide +kernel
theorem dL_holds_490 : decode cL_holds 490 = .ok (.iconst 0, 1) := by decide +kernel
theorem dL_holds_491 : decode cL_holds 491 = .ok (.istore 8, 2) := by decide +kernel
theorem dL_holds_493 : decode cL_holds 493 = .ok (.iinc 10 1, 3) := by decide +kernel
theorem dL_holds_496 : decode cL_holds 496 = .ok (.goto (-118), 3) := by decide +kernel
theorem dL_holds_499 : decode cL_holds 499 = .ok (.iconst 0, 1) := by decide +kernel
theorem dL_holds_500 : decode cL_holds 500 = .ok (.istore 10, 2) := by decide +kernel
theorem dL_holds_502 : decode cL_holds 502 = .ok (.iload 10, 2) := by decide +kernel
theorem dL_holds_504 : decode cL_holds 504 = .ok (.iconst 3, 1) := by decide +kernel
theorem dL_holds_505 : decode cL_holds 505 = .ok (.if_icmp .ge 352, 3) := by decide +kernel
theorem dL_holds_508 : decode cL_holds 508 = .ok (.iload 8, 2) := by decide +kernel
theorem dL_holds_510 : decode cL_holds 510 = .ok (.ifCond .eq 347, 3) := by decide +kernel
theorem dL_holds_513 : decode cL_holds 513 = .ok (.aload_n 0, 1) := by decide +kernel
theorem dL_holds_514 : decode cL_holds 514 = .ok (.bipush 7, 2) := by decide +kernel
theorem dL_holds_516 : decode cL_holds 516 = .ok (.iload 10, 2) := by decide +kernel
theorem dL_holds_518 : decode cL_holds 518 = .ok (.iconst 0, 1) := by decide +kernel
theorem dL_holds_519 : decode cL_holds 519 = .ok (.iconst 0, 1) := by decide +kernel
theorem dL_holds_520 : decode cL_holds 520 = .ok (.invokestatic 162, 3) := by decide +kernel
theorem dL_holds_523 : decode cL_holds 523 = .ok (.istore 11, 2) := by decide +kernel
theorem dL_holds_525 : decode cL_holds 525 = .ok (.aload_n 0, 1) := by decide +kernel
theorem dL_holds_526 : decode cL_holds 526 = .ok (.bipush 7, 2) := by decide +kernel
theorem dL_holds_528 : decode cL_holds 528 = .ok (.iload 10, 2) := by decide +kernel
theorem dL_holds_530 : decode cL_holds 530 = .ok (.iconst 1, 1) := by decide +kernel
theorem dL_holds_531 : decode cL_holds 531 = .ok (.iconst 0, 1) := by decide +kernel
theorem dL_holds_532 : decode cL_holds 532 = .ok (.invokestatic 162, 3) := by decide +kernel
theorem dL_holds_535 : decode cL_holds 535 = .ok (.istore 12, 2) := by decide +kernel
theorem dL_holds_537 : decode cL_holds 537 = .ok (.aload_n 0, 1) := by decide +kernel
theorem dL_holds_538 : decode cL_holds 538 = .ok (.bipush 7, 2) := by decide +kernel
theorem dL_holds_540 : decode cL_holds 540 = .ok (.iload 10, 2) := by decide +kernel
theorem dL_holds_542 : decode cL_holds 542 = .ok (.iconst 2, 1) := by decide +kernel
theorem dL_holds_543 : decode cL_holds 543 = .ok (.iconst 0, 1) := by decide +kernel
theorem dL_holds_544 : decode cL_holds 544 = .ok (.invokestatic 162, 3) := by decide +kernel
theorem dL_holds_547 : decode cL_holds 547 = .ok (.istore 13, 2) := by decide +kernel
theorem dL_holds_549 : decode cL_holds 549 = .ok (.iconst 1, 1) := by decide +kernel
theorem dL_holds_550 : decode cL_holds 550 = .ok (.iload_n 1, 1) := by decide +kernel
theorem dL_holds_551 : decode cL_holds 551 = .ok (.sipush 999, 3) := by decide +kernel
theorem dL_holds_554 : decode cL_holds 554 = .ok (.irem, 1) := by decide +kernel
theorem dL_holds_555 : decode cL_holds 555 = .ok (.iadd, 1) := by decide +kernel
theorem dL_holds_556 : decode cL_holds 556 = .ok (.istore 14, 2) := by decide +kernel
theorem dL_holds_558 : decode cL_holds 558 = .ok (.aload_n 0, 1) := by decide +kernel
theorem dL_holds_559 : decode cL_holds 559 = .ok (.bipush 6, 2) := by decide +kernel
theorem dL_holds_561 : decode cL_holds 561 = .ok (.iload 10, 2) := by decide +kernel
theorem dL_holds_563 : decode cL_holds 563 = .ok (.iload 14, 2) := by decide +kernel
theorem dL_holds_565 : decode cL_holds 565 = .ok (.iconst 0, 1) := by decide +kernel
theorem dL_holds_566 : decode cL_holds 566 = .ok (.invokestatic 162, 3) := by decide +kernel
theorem dL_holds_569 : decode cL_holds 569 = .ok (.istore 15, 2) := by decide +kernel
theorem dL_holds_571 : decode cL_holds 571 = .ok (.aload_n 0, 1) := by decide +kernel
theorem dL_holds_572 : decode cL_holds 572 = .ok (.bipush 15, 2) := by decide +kernel
theorem dL_holds_574 : decode cL_holds 574 = .ok (.iload 10, 2) := by decide +kernel
theorem dL_holds_576 : decode cL_holds 576 = .ok (.iconst 0, 1) := by decide +kernel
theorem dL_holds_577 : decode cL_holds 577 = .ok (.iconst 0, 1) := by decide +kernel
theorem dL_holds_578 : decode cL_holds 578 = .ok (.invokestatic 162, 3) := by decide +kernel
theorem dL_holds_581 : decode cL_holds 581 = .ok (.istore 16, 2) := by decide +kernel
theorem dL_holds_583 : decode cL_holds 583 = .ok (.iload 11, 2) := by decide +kernel
theorem dL_holds_585 : decode cL_holds 585 = .ok (.aload_n 0, 1) := by decide +kernel
theorem dL_holds_586 : decode cL_holds 586 = .ok (.bipush 7, 2) := by decide +kernel
theorem dL_holds_588 : decode cL_holds 588 = .ok (.iload 10, 2) := by decide +kernel
theorem dL_holds_590 : decode cL_holds 590 = .ok (.iconst 0, 1) := by decide +kernel
theorem dL_holds_591 : decode cL_holds 591 = .ok (.iconst 1, 1) := by decide +kernel
theorem dL_holds_592 : decode cL_holds 592 = .ok (.invokestatic 162, 3) := by decide +kernel
theorem dL_holds_595 : decode cL_holds 595 = .ok (.if_icmp .ne 253, 3) := by decide +kernel
theorem dL_holds_598 : decode cL_holds 598 = .ok (.iload 12, 2) := by decide +kernel
theorem dL_holds_600 : decode cL_holds 600 = .ok (.aload_n 0, 1) := by decide +kernel
theorem dL_holds_601 : decode cL_holds 601 = .ok (.bipush 7, 2) := by decide +kernel
theorem dL_holds_603 : decode cL_holds 603 = .ok (.iload 10, 2) := by decide +kernel
theorem dL_holds_605 : decode cL_holds 605 = .ok (.iconst 1, 1) := by decide +kernel
theorem dL_holds_606 : decode cL_holds 606 = .ok (.iconst 1, 1) := by decide +kernel
theorem dL_holds_607 : decode cL_holds 607 = .ok (.invokestatic 162, 3) := by decide +kernel
theorem dL_holds_610 : decode cL_holds 610 = .ok (.if_icmp .ne 238, 3) := by decide +kernel
theorem dL_holds_613 : decode cL_holds 613 = .ok (.iload 13, 2) := by decide +kernel
theorem dL_holds_615 : decode cL_holds 615 = .ok (.aload_n 0, 1) := by decide +kernel
theorem dL_holds_616 : decode cL_holds 616 = .ok (.bipush 7, 2) := by decide +kernel
theorem dL_holds_618 : decode cL_holds 618 = .ok (.iload 10, 2) := by decide +kernel
theorem dL_holds_620 : decode cL_holds 620 = .ok (.iconst 2, 1) := by decide +kernel
theorem dL_holds_621 : decode cL_holds 621 = .ok (.iconst 1, 1) := by decide +kernel
theorem dL_holds_622 : decode cL_holds 622 = .ok (.invokestatic 162, 3) := by decide +kernel
theorem dL_holds_625 : decode cL_holds 625 = .ok (.if_icmp .ne 223, 3) := by decide +kernel
theorem dL_holds_628 : decode cL_holds 628 = .ok (.iload 11, 2) := by decide +kernel
theorem dL_holds_630 : decode cL_holds 630 = .ok (.iconst 1, 1) := by decide +kernel
theorem dL_holds_631 : decode cL_holds 631 = .ok (.if_icmp .lt 217, 3) := by decide +kernel
theorem dL_holds_634 : decode cL_holds 634 = .ok (.iload 11, 2) := by decide +kernel
theorem dL_holds_636 : decode cL_holds 636 = .ok (.iload 12, 2) := by decide +kernel
theorem dL_holds_638 : decode cL_holds 638 = .ok (.if_icmp .gt 210, 3) := by decide +kernel
theorem dL_holds_641 : decode cL_holds 641 = .ok (.iload 12, 2) := by decide +kernel
theorem dL_holds_643 : decode cL_holds 643 = .ok (.sipush 999, 3) := by decide +kernel
theorem dL_holds_646 : decode cL_holds 646 = .ok (.if_icmp .gt 202, 3) := by decide +kernel
theorem dL_holds_649 : decode cL_holds 649 = .ok (.aload_n 0, 1) := by decide +kernel
theorem dL_holds_650 : decode cL_holds 650 = .ok (.bipush 6, 2) := by decide +kernel
theorem dL_holds_652 : decode cL_holds 652 = .ok (.iload 10, 2) := by decide +kernel
theorem dL_holds_654 : decode cL_holds 654 = .ok (.iload 11, 2) := by decide +kernel
theorem dL_holds_656 : decode cL_holds 656 = .ok (.iconst 0, 1) := by decide +kernel
theorem dL_holds_657 : decode cL_holds 657 = .ok (.invokestatic 162, 3) := by decide +kernel
theorem dL_holds_660 : decode cL_holds 660 = .ok (.iload 13, 2) := by decide +kernel
theorem dL_holds_662 : decode cL_holds 662 = .ok (.if_icmp .ne 186, 3) := by decide +kernel
theorem dL_holds_665 : decode cL_holds 665 = .ok (.aload_n 0, 1) := by decide +kernel
theorem dL_holds_666 : decode cL_holds 666 = .ok (.bipush 6, 2) := by decide +kernel
theorem dL_holds_668 : decode cL_holds 668 = .ok (.iload 10, 2) := by decide +kernel
theorem dL_holds_670 : decode cL_holds 670 = .ok (.iload 12, 2) := by decide +kernel
theorem dL_holds_672 : decode cL_holds 672 = .ok (.iconst 0, 1) := by decide +kernel
theorem dL_holds_673 : decode cL_holds 673 = .ok (.invokestatic 162, 3) := by decide +kernel
theorem dL_holds_676 : decode cL_holds 676 = .ok (.iload 13, 2) := by decide +kernel
theorem dL_holds_678 : decode cL_holds 678 = .ok (.if_icmp .ne 170, 3) := by decide +kernel
theorem dL_holds_681 : decode cL_holds 681 = .ok (.iload 15, 2) := by decide +kernel
theorem dL_holds_683 : decode cL_holds 683 = .ok (.iload 13, 2) := by decide +kernel
theorem dL_holds_685 : decode cL_holds 685 = .ok (.if_icmp .lt 17, 3) := by decide +kernel
theorem dL_holds_688 : decode cL_holds 688 = .ok (.iload 15, 2) := by decide +kernel
theorem dL_holds_690 : decode cL_holds 690 = .ok (.iload 13, 2) := by decide +kernel
theorem dL_holds_692 : decode cL_holds 692 = .ok (.if_icmp .ne 156, 3) := by decide +kernel
theorem dL_holds_695 : decode cL_holds 695 = .ok (.iload 14, 2) := by decide +kernel
theorem dL_holds_697 : decode cL_holds 697 = .ok (.iload 11, 2) := by decide +kernel
theorem dL_holds_699 : decode cL_holds 699 = .ok (.if_icmp .lt 149, 3) := by decide +kernel
theorem dL_holds_702 : decode cL_holds 702 = .ok (.iload 14, 2) := by decide +kernel
theorem dL_holds_704 : decode cL_holds 704 = .ok (.iload 11, 2) := by decide +kernel
theorem dL_holds_706 : decode cL_holds 706 = .ok (.if_icmp .lt 17, 3) := by decide +kernel
theorem dL_holds_709 : decode cL_holds 709 = .ok (.iload 14, 2) := by decide +kernel
theorem dL_holds_711 : decode cL_holds 711 = .ok (.iload 12, 2) := by decide +kernel
theorem dL_holds_713 : decode cL_holds 713 = .ok (.if_icmp .gt 10, 3) := by decide +kernel
theorem dL_holds_716 : decode cL_holds 716 = .ok (.iload 15, 2) := by decide +kernel
theorem dL_holds_718 : decode cL_holds 718 = .ok (.iload 13, 2) := by decide +kernel
theorem dL_holds_720 : decode cL_holds 720 = .ok (.if_icmp .ne 128, 3) := by decide +kernel
theorem dL_holds_723 : decode cL_holds 723 = .ok (.iload 12, 2) := by decide +kernel
theorem dL_holds_725 : decode cL_holds 725 = .ok (.sipush 999, 3) := by decide +kernel
theorem dL_holds_728 : decode cL_holds 728 = .ok (.if_icmp .eq 21, 3) := by decide +kernel
theorem dL_holds_731 : decode cL_holds 731 = .ok (.aload_n 0, 1) := by decide +kernel
theorem dL_holds_732 : decode cL_holds 732 = .ok (.bipush 6, 2) := by decide +kernel
theorem dL_holds_734 : decode cL_holds 734 = .ok (.iload 10, 2) := by decide +kernel
theorem dL_holds_736 : decode cL_holds 736 = .ok (.iload 12, 2) := by decide +kernel
theorem dL_holds_738 : decode cL_holds 738 = .ok (.iconst 1, 1) := by decide +kernel
theorem dL_holds_739 : decode cL_holds 739 = .ok (.iadd, 1) := by decide +kernel
theorem dL_holds_740 : decode cL_holds 740 = .ok (.iconst 0, 1) := by decide +kernel
theorem dL_holds_741 : decode cL_holds 741 = .ok (.invokestatic 162, 3) := by decide +kernel
theorem dL_holds_744 : decode cL_holds 744 = .ok (.iload 13, 2) := by decide +kernel
theorem dL_holds_746 : decode cL_holds 746 = .ok (.if_icmp .ge 102, 3) := by decide +kernel
theorem dL_holds_749 : decode cL_holds 749 = .ok (.iload 13, 2) := by decide +kernel
theorem dL_holds_751 : decode cL_holds 751 = .ok (.aload_n 0, 1) := by decide +kernel
theorem dL_holds_752 : decode cL_holds 752 = .ok (.iconst 5, 1) := by decide +kernel
theorem dL_holds_753 : decode cL_holds 753 = .ok (.iload 10, 2) := by decide +kernel
theorem dL_holds_755 : decode cL_holds 755 = .ok (.iconst 2, 1) := by decide +kernel
theorem dL_holds_756 : decode cL_holds 756 = .ok (.iconst 0, 1) := by decide +kernel
theorem dL_holds_757 : decode cL_holds 757 = .ok (.invokestatic 162, 3) := by decide +kernel
theorem dL_holds_760 : decode cL_holds 760 = .ok (.if_icmp .gt 88, 3) := by decide +kernel
theorem dL_holds_763 : decode cL_holds 763 = .ok (.iload 16, 2) := by decide +kernel
theorem dL_holds_765 : decode cL_holds 765 = .ok (.iconst (-1), 1) := by decide +kernel
theorem dL_holds_766 : decode cL_holds 766 = .ok (.if_icmp .eq 47, 3) := by decide +kernel
theorem dL_holds_769 : decode cL_holds 769 = .ok (.aload_n 0, 1) := by decide +kernel
theorem dL_holds_770 : decode cL_holds 770 = .ok (.iconst 3, 1) := by decide +kernel
theorem dL_holds_771 : decode cL_holds 771 = .ok (.iload 16, 2) := by decide +kernel
theorem dL_holds_773 : decode cL_holds 773 = .ok (.iconst 0, 1) := by decide +kernel
theorem dL_holds_774 : decode cL_holds 774 = .ok (.iconst 0, 1) := by decide +kernel
theorem dL_holds_775 : decode cL_holds 775 = .ok (.invokestatic 162, 3) := by decide +kernel
theorem dL_holds_778 : decode cL_holds 778 = .ok (.iload 10, 2) := by decide +kernel
theorem dL_holds_780 : decode cL_holds 780 = .ok (.if_icmp .ne 68, 3) := by decide +kernel
theorem dL_holds_783 : decode cL_holds 783 = .ok (.aload_n 0, 1) := by decide +kernel
theorem dL_holds_784 : decode cL_holds 784 = .ok (.iconst 3, 1) := by decide +kernel
theorem dL_holds_785 : decode cL_holds 785 = .ok (.iload 16, 2) := by decide +kernel
theorem dL_holds_787 : decode cL_holds 787 = .ok (.bipush 7, 2) := by decide +kernel
theorem dL_holds_789 : decode cL_holds 789 = .ok (.iconst 0, 1) := by decide +kernel
theorem dL_holds_790 : decode cL_holds 790 = .ok (.invokestatic 162, 3) := by decide +kernel
theorem dL_holds_793 : decode cL_holds 793 = .ok (.iload 11, 2) := by decide +kernel
theorem dL_holds_795 : decode cL_holds 795 = .ok (.if_icmp .gt 18, 3) := by decide +kernel
theorem dL_holds_798 : decode cL_holds 798 = .ok (.aload_n 0, 1) := by decide +kernel
theorem dL_holds_799 : decode cL_holds 799 = .ok (.iconst 3, 1) := by decide +kernel
theorem dL_holds_800 : decode cL_holds 800 = .ok (.iload 16, 2) := by decide +kernel
theorem dL_holds_802 : decode cL_holds 802 = .ok (.bipush 8, 2) := by decide +kernel
theorem dL_holds_804 : decode cL_holds 804 = .ok (.iconst 0, 1) := by decide +kernel
theorem dL_holds_805 : decode cL_holds 805 = .ok (.invokestatic 162, 3) := by decide +kernel
theorem dL_holds_808 : decode cL_holds 808 = .ok (.iload 11, 2) := by decide +kernel
theorem dL_holds_810 : decode cL_holds 810 = .ok (.if_icmp .ge 38, 3) := by decide +kernel
theorem dL_holds_813 : decode cL_holds 813 = .ok (.aload_n 0, 1) := by decide +kernel
theorem dL_holds_814 : decode cL_holds 814 = .ok (.iconst 5, 1) := by decide +kernel
theorem dL_holds_815 : decode cL_holds 815 = .ok (.iload 10, 2) := by decide +kernel
theorem dL_holds_817 : decode cL_holds 817 = .ok (.iconst 0, 1) := by decide +kernel
theorem dL_holds_818 : decode cL_holds 818 = .ok (.iconst 0, 1) := by decide +kernel
theorem dL_holds_819 : decode cL_holds 819 = .ok (.invokestatic 162, 3) := by decide +kernel
theorem dL_holds_822 : decode cL_holds 822 = .ok (.ifCond .gt 22, 3) := by decide +kernel
theorem dL_holds_825 : decode cL_holds 825 = .ok (.iload 11, 2) := by decide +kernel
theorem dL_holds_827 : decode cL_holds 827 = .ok (.iconst 1, 1) := by decide +kernel
theorem dL_holds_828 : decode cL_holds 828 = .ok (.if_icmp .ne 20, 3) := by decide +kernel
theorem dL_holds_831 : decode cL_holds 831 = .ok (.iload 12, 2) := by decide +kernel
theorem dL_holds_833 : decode cL_holds 833 = .ok (.sipush 999, 3) := by decide +kernel
theorem dL_holds_836 : decode cL_holds 836 = .ok (.if_icmp .ne 12, 3) := by decide +kernel
theorem dL_holds_839 : decode cL_holds 839 = .ok (.iload 13, 2) := by decide +kernel
theorem dL_holds_841 : decode cL_holds 841 = .ok (.ifCond .ne 7, 3) := by decide +kernel
theorem dL_holds_844 : decode cL_holds 844 = .ok (.iconst 1, 1) := by decide +kernel
theorem dL_holds_845 : decode cL_holds 845 = .ok (.goto 4, 3) := by decide +kernel
theorem dL_holds_848 : decode cL_holds 848 = .ok (.iconst 0, 1) := by decide +kernel
theorem dL_holds_849 : decode cL_holds 849 = .ok (.istore 8, 2) := by decide +kernel
theorem dL_holds_851 : decode cL_holds 851 = .ok (.iinc 10 1, 3) := by decide +kernel
theorem dL_holds_854 : decode cL_holds 854 = .ok (.goto (-352), 3) := by decide +kernel
theorem dL_holds_857 : decode cL_holds 857 = .ok (.iload 8, 2) := by decide +kernel
theorem dL_holds_859 : decode cL_holds 859 = .ok (.ifCond .eq 153, 3) := by decide +kernel
theorem dL_holds_862 : decode cL_holds 862 = .ok (.iload_n 3, 1) := by decide +kernel
theorem dL_holds_863 : decode cL_holds 863 = .ok (.iconst 2, 1) := by decide +kernel
theorem dL_holds_864 : decode cL_holds 864 = .ok (.aload_n 0, 1) := by decide +kernel
theorem dL_holds_865 : decode cL_holds 865 = .ok (.iconst 2, 1) := by decide +kernel
theorem dL_holds_866 : decode cL_holds 866 = .ok (.iconst 4, 1) := by decide +kernel
theorem dL_holds_867 : decode cL_holds 867 = .ok (.iconst 0, 1) := by decide +kernel
theorem dL_holds_868 : decode cL_holds 868 = .ok (.iconst 0, 1) := by decide +kernel
theorem dL_holds_869 : decode cL_holds 869 = .ok (.invokestatic 162, 3) := by decide +kernel
theorem dL_holds_872 : decode cL_holds 872 = .ok (.imul, 1) := by decide +kernel
theorem dL_holds_873 : decode cL_holds 873 = .ok (.if_icmp .ne 139, 3) := by decide +kernel
theorem dL_holds_876 : decode cL_holds 876 = .ok (.iload 9, 2) := by decide +kernel
theorem dL_holds_878 : decode cL_holds 878 = .ok (.iload_n 3, 1) := by decide +kernel
theorem dL_holds_879 : decode cL_holds 879 = .ok (.if_icmp .ne 133, 3) := by decide +kernel
theorem dL_holds_882 : decode cL_holds 882 = .ok (.aload_n 0, 1) := by decide +kernel
theorem dL_holds_883 : decode cL_holds 883 = .ok (.iconst 2, 1) := by decide +kernel
theorem dL_holds_884 : decode cL_holds 884 = .ok (.iconst 5, 1) := by decide +kernel
theorem dL_holds_885 : decode cL_holds 885 = .ok (.iconst 0, 1) := by decide +kernel
theorem dL_holds_886 : decode cL_holds 886 = .ok (.iconst 0, 1) := by decide +kernel
theorem dL_holds_887 : decode cL_holds 887 = .ok (.invokestatic 162, 3) := by decide +kernel
theorem dL_holds_890 : decode cL_holds 890 = .ok (.aload_n 0, 1) := by decide +kernel
theorem dL_holds_891 : decode cL_holds 891 = .ok (.iconst 2, 1) := by decide +kernel
theorem dL_holds_892 : decode cL_holds 892 = .ok (.iconst 4, 1) := by decide +kernel
theorem dL_holds_893 : decode cL_holds 893 = .ok (.iconst 0, 1) := by decide +kernel
theorem dL_holds_894 : decode cL_holds 894 = .ok (.iconst 0, 1) := by decide +kernel
theorem dL_holds_895 : decode cL_holds 895 = .ok (.invokestatic 162, 3) := by decide +kernel
theorem dL_holds_898 : decode cL_holds 898 = .ok (.if_icmp .gt 114, 3) := by decide +kernel
theorem dL_holds_901 : decode cL_holds 901 = .ok (.iload 6, 2) := by decide +kernel
theorem dL_holds_903 : decode cL_holds 903 = .ok (.aload_n 0, 1) := by decide +kernel
theorem dL_holds_904 : decode cL_holds 904 = .ok (.iconst 2, 1) := by decide +kernel
theorem dL_holds_905 : decode cL_holds 905 = .ok (.bipush 6, 2) := by decide +kernel
theorem dL_holds_907 : decode cL_holds 907 = .ok (.iconst 0, 1) := by decide +kernel
theorem dL_holds_908 : decode cL_holds 908 = .ok (.iconst 0, 1) := by decide +kernel
theorem dL_holds_909 : decode cL_holds 909 = .ok (.invokestatic 162, 3) := by decide +kernel
theorem dL_holds_912 : decode cL_holds 912 = .ok (.if_icmp .ne 100, 3) := by decide +kernel
theorem dL_holds_915 : decode cL_holds 915 = .ok (.iload 4, 2) := by decide +kernel
theorem dL_holds_917 : decode cL_holds 917 = .ok (.aload_n 0, 1) := by decide +kernel
theorem dL_holds_918 : decode cL_holds 918 = .ok (.iconst 2, 1) := by decide +kernel
theorem dL_holds_919 : decode cL_holds 919 = .ok (.bipush 8, 2) := by decide +kernel
theorem dL_holds_921 : decode cL_holds 921 = .ok (.iconst 0, 1) := by decide +kernel
theorem dL_holds_922 : decode cL_holds 922 = .ok (.iconst 0, 1) := by decide +kernel
theorem dL_holds_923 : decode cL_holds 923 = .ok (.invokestatic 162, 3) := by decide +kernel
theorem dL_holds_926 : decode cL_holds 926 = .ok (.if_icmp .ne 86, 3) := by decide +kernel
theorem dL_holds_929 : decode cL_holds 929 = .ok (.iload 5, 2) := by decide +kernel
theorem dL_holds_931 : decode cL_holds 931 = .ok (.aload_n 0, 1) := by decide +kernel
theorem dL_holds_932 : decode cL_holds 932 = .ok (.iconst 2, 1) := by decide +kernel
theorem dL_holds_933 : decode cL_holds 933 = .ok (.bipush 9, 2) := by decide +kernel
theorem dL_holds_935 : decode cL_holds 935 = .ok (.iconst 0, 1) := by decide +kernel
theorem dL_holds_936 : decode cL_holds 936 = .ok (.iconst 0, 1) := by decide +kernel
theorem dL_holds_937 : decode cL_holds 937 = .ok (.invokestatic 162, 3) := by decide +kernel
theorem dL_holds_940 : decode cL_holds 940 = .ok (.if_icmp .ne 72, 3) := by decide +kernel
theorem dL_holds_943 : decode cL_holds 943 = .ok (.iload 7, 2) := by decide +kernel
theorem dL_holds_945 : decode cL_holds 945 = .ok (.iload_n 2, 1) := by decide +kernel
theorem dL_holds_946 : decode cL_holds 946 = .ok (.if_icmp .ne 66, 3) := by decide +kernel
theorem dL_holds_949 : decode cL_holds 949 = .ok (.aload_n 0, 1) := by decide +kernel
theorem dL_holds_950 : decode cL_holds 950 = .ok (.iconst 5, 1) := by decide +kernel
theorem dL_holds_951 : decode cL_holds 951 = .ok (.iconst 0, 1) := by decide +kernel
theorem dL_holds_952 : decode cL_holds 952 = .ok (.iconst 0, 1) := by decide +kernel
theorem dL_holds_953 : decode cL_holds 953 = .ok (.iconst 0, 1) := by decide +kernel
theorem dL_holds_954 : decode cL_holds 954 = .ok (.invokestatic 162, 3) := by decide +kernel
theorem dL_holds_957 : decode cL_holds 957 = .ok (.aload_n 0, 1) := by decide +kernel
theorem dL_holds_958 : decode cL_holds 958 = .ok (.iconst 5, 1) := by decide +kernel
theorem dL_holds_959 : decode cL_holds 959 = .ok (.iconst 1, 1) := by decide +kernel
theorem dL_holds_960 : decode cL_holds 960 = .ok (.iconst 0, 1) := by decide +kernel
theorem dL_holds_961 : decode cL_holds 961 = .ok (.iconst 0, 1) := by decide +kernel
theorem dL_holds_962 : decode cL_holds 962 = .ok (.invokestatic 162, 3) := by decide +kernel
theorem dL_holds_965 : decode cL_holds 965 = .ok (.iadd, 1) := by decide +kernel
theorem dL_holds_966 : decode cL_holds 966 = .ok (.aload_n 0, 1) := by decide +kernel
theorem dL_holds_967 : decode cL_holds 967 = .ok (.iconst 5, 1) := by decide +kernel
theorem dL_holds_968 : decode cL_holds 968 = .ok (.iconst 2, 1) := by decide +kernel
theorem dL_holds_969 : decode cL_holds 969 = .ok (.iconst 0, 1) := by decide +kernel
theorem dL_holds_970 : decode cL_holds 970 = .ok (.iconst 0, 1) := by decide +kernel
theorem dL_holds_971 : decode cL_holds 971 = .ok (.invokestatic 162, 3) := by decide +kernel
theorem dL_holds_974 : decode cL_holds 974 = .ok (.iadd, 1) := by decide +kernel
theorem dL_holds_975 : decode cL_holds 975 = .ok (.iload_n 2, 1) := by decide +kernel
theorem dL_holds_976 : decode cL_holds 976 = .ok (.if_icmp .ne 36, 3) := by decide +kernel
theorem dL_holds_979 : decode cL_holds 979 = .ok (.aload_n 0, 1) := by decide +kernel
theorem dL_holds_980 : decode cL_holds 980 = .ok (.invokevirtual 180, 3) := by decide +kernel
theorem dL_holds_983 : decode cL_holds 983 = .ok (.iconst (-1), 1) := by decide +kernel
theorem dL_holds_984 : decode cL_holds 984 = .ok (.if_icmp .ne 7, 3) := by decide +kernel
theorem dL_holds_987 : decode cL_holds 987 = .ok (.iconst 1, 1) := by decide +kernel
theorem dL_holds_988 : decode cL_holds 988 = .ok (.goto 4, 3) := by decide +kernel
theorem dL_holds_991 : decode cL_holds 991 = .ok (.iconst 0, 1) := by decide +kernel
theorem dL_holds_992 : decode cL_holds 992 = .ok (.iload 4, 2) := by decide +kernel
theorem dL_holds_994 : decode cL_holds 994 = .ok (.iload 5, 2) := by decide +kernel
theorem dL_holds_996 : decode cL_holds 996 = .ok (.iadd, 1) := by decide +kernel
theorem dL_holds_997 : decode cL_holds 997 = .ok (.ifCond .ne 7, 3) := by decide +kernel
theorem dL_holds_1000 : decode cL_holds 1000 = .ok (.iconst 1, 1) := by decide +kernel
theorem dL_holds_1001 : decode cL_holds 1001 = .ok (.goto 4, 3) := by decide +kernel
theorem dL_holds_1004 : decode cL_holds 1004 = .ok (.iconst 0, 1) := by decide +kernel
theorem dL_holds_1005 : decode cL_holds 1005 = .ok (.if_icmp .ne 7, 3) := by decide +kernel
theorem dL_holds_1008 : decode cL_holds 1008 = .ok (.iconst 1, 1) := by decide +kernel
theorem dL_holds_1009 : decode cL_holds 1009 = .ok (.goto 4, 3) := by decide +kernel
theorem dL_holds_1012 : decode cL_holds 1012 = .ok (.iconst 0, 1) := by decide +kernel
theorem dL_holds_1013 : decode cL_holds 1013 = .ok (.ireturn, 1) := by decide +kernel
theorem dL_act_0 : decode cL_act 0 = .ok (.iload_n 1, 1) := by decide +kernel
theorem dL_act_1 : decode cL_act 1 = .ok (.bipush 16, 2) := by decide +kernel
theorem dL_act_3 : decode cL_act 3 = .ok (.idiv, 1) := by decide +kernel
theorem dL_act_4 : decode cL_act 4 = .ok (.istore_n 2, 1) := by decide +kernel
theorem dL_act_5 : decode cL_act 5 = .ok (.aload_n 0, 1) := by decide +kernel
theorem dL_act_6 : decode cL_act 6 = .ok (.iconst 2, 1) := by decide +kernel
theorem dL_act_7 : decode cL_act 7 = .ok (.iconst 0, 1) := by decide +kernel
theorem dL_act_8 : decode cL_act 8 = .ok (.iconst 0, 1) := by decide +kernel
theorem dL_act_9 : decode cL_act 9 = .ok (.iconst 0, 1) := by decide +kernel
theorem dL_act_10 : decode cL_act 10 = .ok (.invokestatic 162, 3) := by decide +kernel
theorem dL_act_13 : decode cL_act 13 = .ok (.istore_n 3, 1) := by decide +kernel
theorem dL_act_14 : decode cL_act 14 = .ok (.iconst 1, 1) := by decide +kernel
theorem dL_act_15 : decode cL_act 15 = .ok (.iload_n 2, 1) := by decide +kernel
theorem dL_act_16 : decode cL_act 16 = .ok (.bipush 18, 2) := by decide +kernel
theorem dL_act_18 : decode cL_act 18 = .ok (.idiv, 1) := by decide +kernel
theorem dL_act_19 : decode cL_act 19 = .ok (.sipush 300, 3) := by decide +kernel
theorem dL_act_22 : decode cL_act 22 = .ok (.irem, 1) := by decide +kernel
theorem dL_act_23 : decode cL_act 23 = .ok (.iadd, 1) := by decide +kernel
theorem dL_act_24 : decode cL_act 24 = .ok (.istore 4, 2) := by decide +kernel
theorem dL_act_26 : decode cL_act 26 = .ok (.iload_n 1, 1) := by decide +kernel
theorem dL_act_27 : decode cL_act 27 = .ok (.bipush 16, 2) := by decide +kernel
theorem dL_act_29 : decode cL_act 29 = .ok (.irem, 1) := by decide +kernel
theorem dL_act_30 : decode cL_act 30 = .ok (.tableswitch 332 0 13 #[70, 70, 122, 174, 174, 174, 174, 204, 224, 243, 243, 248, 286, 296], 70) := by decide +kernel
theorem dL_act_100 : decode cL_act 100 = .ok (.aload_n 0, 1) := by decide +kernel
theorem dL_act_101 : decode cL_act 101 = .ok (.iload_n 2, 1) := by decide +kernel
theorem dL_act_102 : decode cL_act 102 = .ok (.iconst 3, 1) := by decide +kernel
theorem dL_act_103 : decode cL_act 103 = .ok (.irem, 1) := by decide +kernel
theorem dL_act_104 : decode cL_act 104 = .ok (.iload_n 2, 1) := by decide +kernel
theorem dL_act_105 : decode cL_act 105 = .ok (.iconst 3, 1) := by decide +kernel
theorem dL_act_106 : decode cL_act 106 = .ok (.idiv, 1) := by decide +kernel
theorem dL_act_107 : decode cL_act 107 = .ok (.bipush 6, 2) := by decide +kernel
theorem dL_act_109 : decode cL_act 109 = .ok (.irem, 1) := by decide +kernel
theorem dL_act_110 : decode cL_act 110 = .ok (.iconst 0, 1) := by decide +kernel
theorem dL_act_111 : decode cL_act 111 = .ok (.iconst 1, 1) := by decide +kernel
theorem dL_act_112 : decode cL_act 112 = .ok (.iload_n 2, 1) := by decide +kernel
theorem dL_act_113 : decode cL_act 113 = .ok (.bipush 18, 2) := by decide +kernel
theorem dL_act_115 : decode cL_act 115 = .ok (.idiv, 1) := by decide +kernel
theorem dL_act_116 : decode cL_act 116 = .ok (.bipush 20, 2) := by decide +kernel
theorem dL_act_118 : decode cL_act 118 = .ok (.irem, 1) := by decide +kernel
theorem dL_act_119 : decode cL_act 119 = .ok (.iadd, 1) := by decide +kernel
theorem dL_act_120 : decode cL_act 120 = .ok (.iconst 1, 1) := by decide +kernel
theorem dL_act_121 : decode cL_act 121 = .ok (.iload_n 2, 1) := by decide +kernel
theorem dL_act_122 : decode cL_act 122 = .ok (.sipush 360, 3) := by decide +kernel
theorem dL_act_125 : decode cL_act 125 = .ok (.idiv, 1) := by decide +kernel
theorem dL_act_126 : decode cL_act 126 = .ok (.bipush 40, 2) := by decide +kernel
theorem dL_act_128 : decode cL_act 128 = .ok (.irem, 1) := by decide +kernel
theorem dL_act_129 : decode cL_act 129 = .ok (.iadd, 1) := by decide +kernel
theorem dL_act_130 : decode cL_act 130 = .ok (.iconst 1, 1) := by decide +kernel
theorem dL_act_131 : decode cL_act 131 = .ok (.iload_n 2, 1) := by decide +kernel
theorem dL_act_132 : decode cL_act 132 = .ok (.sipush 21600, 3) := by decide +kernel
theorem dL_act_135 : decode cL_act 135 = .ok (.idiv, 1) := by decide +kernel
theorem dL_act_136 : decode cL_act 136 = .ok (.sipush 400, 3) := by decide +kernel
theorem dL_act_139 : decode cL_act 139 = .ok (.irem, 1) := by decide +kernel
theorem dL_act_140 : decode cL_act 140 = .ok (.iadd, 1) := by decide +kernel
theorem dL_act_141 : decode cL_act 141 = .ok (.iload_n 2, 1) := by decide +kernel
theorem dL_act_142 : decode cL_act 142 = .ok (.bipush 7, 2) := by decide +kernel
theorem dL_act_144 : decode cL_act 144 = .ok (.idiv, 1) := by decide +kernel
theorem dL_act_145 : decode cL_act 145 = .ok (.bipush 21, 2) := by decide +kernel
theorem dL_act_147 : decode cL_act 147 = .ok (.irem, 1) := by decide +kernel
theorem dL_act_148 : decode cL_act 148 = .ok (.invokestatic 166, 3) := by decide +kernel
theorem dL_act_151 : decode cL_act 151 = .ok (.ireturn, 1) := by decide +kernel
theorem dL_act_152 : decode cL_act 152 = .ok (.aload_n 0, 1) := by decide +kernel
theorem dL_act_153 : decode cL_act 153 = .ok (.iload_n 2, 1) := by decide +kernel
theorem dL_act_154 : decode cL_act 154 = .ok (.iconst 3, 1) := by decide +kernel
theorem dL_act_155 : decode cL_act 155 = .ok (.irem, 1) := by decide +kernel
theorem dL_act_156 : decode cL_act 156 = .ok (.iload_n 2, 1) := by decide +kernel
theorem dL_act_157 : decode cL_act 157 = .ok (.iconst 3, 1) := by decide +kernel
theorem dL_act_158 : decode cL_act 158 = .ok (.idiv, 1) := by decide +kernel
theorem dL_act_159 : decode cL_act 159 = .ok (.bipush 6, 2) := by decide +kernel
theorem dL_act_161 : decode cL_act 161 = .ok (.irem, 1) := by decide +kernel
theorem dL_act_162 : decode cL_act 162 = .ok (.iconst 1, 1) := by decide +kernel
theorem dL_act_163 : decode cL_act 163 = .ok (.iconst 1, 1) := by decide +kernel
theorem dL_act_164 : decode cL_act 164 = .ok (.iload_n 2, 1) := by decide +kernel
theorem dL_act_165 : decode cL_act 165 = .ok (.bipush 18, 2) := by decide +kernel
theorem dL_act_167 : decode cL_act 167 = .ok (.idiv, 1) := by decide +kernel
theorem dL_act_168 : decode cL_act 168 = .ok (.bipush 9, 2) := by decide +kernel
theorem dL_act_170 : decode cL_act 170 = .ok (.irem, 1) := by decide +kernel
theorem dL_act_171 : decode cL_act 171 = .ok (.iadd, 1) := by decide +kernel
theorem dL_act_172 : decode cL_act 172 = .ok (.iconst 1, 1) := by decide +kernel
theorem dL_act_173 : decode cL_act 173 = .ok (.iload_n 2, 1) := by decide +kernel
theorem dL_act_174 : decode cL_act 174 = .ok (.sipush 360, 3) := by decide +kernel
theorem dL_act_177 : decode cL_act 177 = .ok (.idiv, 1) := by decide +kernel
theorem dL_act_178 : decode cL_act 178 = .ok (.bipush 60, 2) := by decide +kernel
theorem dL_act_180 : decode cL_act 180 = .ok (.irem, 1) := by decide +kernel
theorem dL_act_181 : decode cL_act 181 = .ok (.iadd, 1) := by decide +kernel
theorem dL_act_182 : decode cL_act 182 = .ok (.iconst 1, 1) := by decide +kernel
theorem dL_act_183 : decode cL_act 183 = .ok (.iload_n 2, 1) := by decide +kernel
theorem dL_act_184 : decode cL_act 184 = .ok (.sipush 21600, 3) := by decide +kernel
theorem dL_act_187 : decode cL_act 187 = .ok (.idiv, 1) := by decide +kernel
theorem dL_act_188 : decode cL_act 188 = .ok (.sipush 400, 3) := by decide +kernel
theorem dL_act_191 : decode cL_act 191 = .ok (.irem, 1) := by decide +kernel
theorem dL_act_192 : decode cL_act 192 = .ok (.iadd, 1) := by decide +kernel
theorem dL_act_193 : decode cL_act 193 = .ok (.iload_n 2, 1) := by decide +kernel
theorem dL_act_194 : decode cL_act 194 = .ok (.bipush 7, 2) := by decide +kernel
theorem dL_act_196 : decode cL_act 196 = .ok (.idiv, 1) := by decide +kernel
theorem dL_act_197 : decode cL_act 197 = .ok (.bipush 21, 2) := by decide +kernel
theorem dL_act_199 : decode cL_act 199 = .ok (.irem, 1) := by decide +kernel
theorem dL_act_200 : decode cL_act 200 = .ok (.invokestatic 166, 3) := by decide +kernel
theorem dL_act_203 : decode cL_act 203 = .ok (.ireturn, 1) := by decide +kernel
theorem dL_act_204 : decode cL_act 204 = .ok (.aload_n 0, 1) := by decide +kernel
theorem dL_act_205 : decode cL_act 205 = .ok (.iload_n 2, 1) := by decide +kernel
theorem dL_act_206 : decode cL_act 206 = .ok (.iconst 3, 1) := by decide +kernel
theorem dL_act_207 : decode cL_act 207 = .ok (.irem, 1) := by decide +kernel
theorem dL_act_208 : decode cL_act 208 = .ok (.iload_n 2, 1) := by decide +kernel
theorem dL_act_209 : decode cL_act 209 = .ok (.iconst 3, 1) := by decide +kernel
theorem dL_act_210 : decode cL_act 210 = .ok (.idiv, 1) := by decide +kernel
theorem dL_act_211 : decode cL_act 211 = .ok (.bipush 6, 2) := by decide +kernel
theorem dL_act_213 : decode cL_act 213 = .ok (.irem, 1) := by decide +kernel
theorem dL_act_214 : decode cL_act 214 = .ok (.iconst 2, 1) := by decide +kernel
theorem dL_act_215 : decode cL_act 215 = .ok (.iload 4, 2) := by decide +kernel
theorem dL_act_217 : decode cL_act 217 = .ok (.iload 4, 2) := by decide +kernel
theorem dL_act_219 : decode cL_act 219 = .ok (.iload_n 2, 1) := by decide +kernel
theorem dL_act_220 : decode cL_act 220 = .ok (.sipush 5400, 3) := by decide +kernel
theorem dL_act_223 : decode cL_act 223 = .ok (.idiv, 1) := by decide +kernel
theorem dL_act_224 : decode cL_act 224 = .ok (.bipush 60, 2) := by decide +kernel
theorem dL_act_226 : decode cL_act 226 = .ok (.irem, 1) := by decide +kernel
theorem dL_act_227 : decode cL_act 227 = .ok (.iadd, 1) := by decide +kernel
theorem dL_act_228 : decode cL_act 228 = .ok (.iconst 0, 1) := by decide +kernel
theorem dL_act_229 : decode cL_act 229 = .ok (.iconst 0, 1) := by decide +kernel
theorem dL_act_230 : decode cL_act 230 = .ok (.invokestatic 166, 3) := by decide +kernel
theorem dL_act_233 : decode cL_act 233 = .ok (.ireturn, 1) := by decide +kernel
theorem dL_act_234 : decode cL_act 234 = .ok (.iload_n 3, 1) := by decide +kernel
theorem dL_act_235 : decode cL_act 235 = .ok (.ifCond .ne 7, 3) := by decide +kernel
theorem dL_act_238 : decode cL_act 238 = .ok (.iconst (-1), 1) := by decide +kernel
theorem dL_act_239 : decode cL_act 239 = .ok (.goto 14, 3) := by decide +kernel
theorem dL_act_242 : decode cL_act 242 = .ok (.aload_n 0, 1) := by decide +kernel
theorem dL_act_243 : decode cL_act 243 = .ok (.bipush 9, 2) := by decide +kernel
theorem dL_act_245 : decode cL_act 245 = .ok (.iload_n 2, 1) := by decide +kernel
theorem dL_act_246 : decode cL_act 246 = .ok (.iload_n 3, 1) := by decide +kernel
theorem dL_act_247 : decode cL_act 247 = .ok (.irem, 1) := by decide +kernel
theorem dL_act_248 : decode cL_act 248 = .ok (.iconst 0, 1) := by decide +kernel
theorem dL_act_249 : decode cL_act 249 = .ok (.iconst 0, 1) := by decide +kernel
theorem dL_act_250 : decode cL_act 250 = .ok (.invokestatic 162, 3) := by decide +kernel
theorem dL_act_253 : decode cL_act 253 = .ok (.ireturn, 1) := by decide +kernel
theorem dL_act_254 : decode cL_act 254 = .ok (.aload_n 0, 1) := by decide +kernel
theorem dL_act_255 : decode cL_act 255 = .ok (.bipush 10, 2) := by decide +kernel
theorem dL_act_257 : decode cL_act 257 = .ok (.iload_n 2, 1) := by decide +kernel
theorem dL_act_258 : decode cL_act 258 = .ok (.bipush 6, 2) := by decide +kernel
theorem dL_act_260 : decode cL_act 260 = .ok (.irem, 1) := by decide +kernel
theorem dL_act_261 : decode cL_act 261 = .ok (.iload_n 2, 1) := by decide +kernel
theorem dL_act_262 : decode cL_act 262 = .ok (.bipush 6, 2) := by decide +kernel
theorem dL_act_264 : decode cL_act 264 = .ok (.idiv, 1) := by decide +kernel
theorem dL_act_265 : decode cL_act 265 = .ok (.bipush 10, 2) := by decide +kernel
theorem dL_act_267 : decode cL_act 267 = .ok (.irem, 1) := by decide +kernel
theorem dL_act_268 : decode cL_act 268 = .ok (.iconst 0, 1) := by decide +kernel
theorem dL_act_269 : decode cL_act 269 = .ok (.invokestatic 162, 3) := by decide +kernel
theorem dL_act_272 : decode cL_act 272 = .ok (.ireturn, 1) := by decide +kernel
theorem dL_act_273 : decode cL_act 273 = .ok (.aload_n 0, 1) := by decide +kernel
theorem dL_act_274 : decode cL_act 274 = .ok (.invokevirtual 183, 3) := by decide +kernel
theorem dL_act_277 : decode cL_act 277 = .ok (.ireturn, 1) := by decide +kernel
theorem dL_act_278 : decode cL_act 278 = .ok (.iload_n 2, 1) := by decide +kernel
theorem dL_act_279 : decode cL_act 279 = .ok (.iconst 2, 1) := by decide +kernel
theorem dL_act_280 : decode cL_act 280 = .ok (.irem, 1) := by decide +kernel
theorem dL_act_281 : decode cL_act 281 = .ok (.ifCond .ne 20, 3) := by decide +kernel
theorem dL_act_284 : decode cL_act 284 = .ok (.aload_n 0, 1) := by decide +kernel
theorem dL_act_285 : decode cL_act 285 = .ok (.bipush 12, 2) := by decide +kernel
theorem dL_act_287 : decode cL_act 287 = .ok (.iconst 0, 1) := by decide +kernel
theorem dL_act_288 : decode cL_act 288 = .ok (.iload_n 2, 1) := by decide +kernel
theorem dL_act_289 : decode cL_act 289 = .ok (.iconst 2, 1) := by decide +kernel
theorem dL_act_290 : decode cL_act 290 = .ok (.idiv, 1) := by decide +kernel
theorem dL_act_291 : decode cL_act 291 = .ok (.bipush 6, 2) := by decide +kernel
theorem dL_act_293 : decode cL_act 293 = .ok (.irem, 1) := by decide +kernel
theorem dL_act_294 : decode cL_act 294 = .ok (.iconst 0, 1) := by decide +kernel
theorem dL_act_295 : decode cL_act 295 = .ok (.invokestatic 162, 3) := by decide +kernel
theorem dL_act_298 : decode cL_act 298 = .ok (.goto 17, 3) := by decide +kernel
theorem dL_act_301 : decode cL_act 301 = .ok (.aload_n 0, 1) := by decide +kernel
theorem dL_act_302 : decode cL_act 302 = .ok (.bipush 12, 2) := by decide +kernel
theorem dL_act_304 : decode cL_act 304 = .ok (.iconst 1, 1) := by decide +kernel
theorem dL_act_305 : decode cL_act 305 = .ok (.iload_n 2, 1) := by decide +kernel
theorem dL_act_306 : decode cL_act 306 = .ok (.iconst 2, 1) := by decide +kernel
theorem dL_act_307 : decode cL_act 307 = .ok (.idiv, 1) := by decide +kernel
theorem dL_act_308 : decode cL_act 308 = .ok (.bipush 51, 2) := by decide +kernel
theorem dL_act_310 : decode cL_act 310 = .ok (.irem, 1) := by decide +kernel
theorem dL_act_311 : decode cL_act 311 = .ok (.iconst 0, 1) := by decide +kernel
theorem dL_act_312 : decode cL_act 312 = .ok (.invokestatic 162, 3) := by decide +kernel
theorem dL_act_315 : decode cL_act 315 = .ok (.ireturn, 1) := by decide +kernel
theorem dL_act_316 : decode cL_act 316 = .ok (.aload_n 0, 1) := by decide +kernel
theorem dL_act_317 : decode cL_act 317 = .ok (.bipush 13, 2) := by decide +kernel
theorem dL_act_319 : decode cL_act 319 = .ok (.iconst 0, 1) := by decide +kernel
theorem dL_act_320 : decode cL_act 320 = .ok (.iconst 0, 1) := by decide +kernel
theorem dL_act_321 : decode cL_act 321 = .ok (.iconst 0, 1) := by decide +kernel
theorem dL_act_322 : decode cL_act 322 = .ok (.invokestatic 162, 3) := by decide +kernel
theorem dL_act_325 : decode cL_act 325 = .ok (.ireturn, 1) := by decide +kernel
theorem dL_act_326 : decode cL_act 326 = .ok (.iload_n 2, 1) := by decide +kernel
theorem dL_act_327 : decode cL_act 327 = .ok (.iconst 2, 1) := by decide +kernel
theorem dL_act_328 : decode cL_act 328 = .ok (.irem, 1) := by decide +kernel
theorem dL_act_329 : decode cL_act 329 = .ok (.ifCond .ne 19, 3) := by decide +kernel
theorem dL_act_332 : decode cL_act 332 = .ok (.aload_n 0, 1) := by decide +kernel
theorem dL_act_333 : decode cL_act 333 = .ok (.bipush 18, 2) := by decide +kernel
theorem dL_act_335 : decode cL_act 335 = .ok (.iload_n 2, 1) := by decide +kernel
theorem dL_act_336 : decode cL_act 336 = .ok (.iconst 2, 1) := by decide +kernel
theorem dL_act_337 : decode cL_act 337 = .ok (.idiv, 1) := by decide +kernel
theorem dL_act_338 : decode cL_act 338 = .ok (.iconst 2, 1) := by decide +kernel
theorem dL_act_339 : decode cL_act 339 = .ok (.irem, 1) := by decide +kernel
theorem dL_act_340 : decode cL_act 340 = .ok (.iconst 0, 1) := by decide +kernel
theorem dL_act_341 : decode cL_act 341 = .ok (.iconst 0, 1) := by decide +kernel
theorem dL_act_342 : decode cL_act 342 = .ok (.invokestatic 162, 3) := by decide +kernel
theorem dL_act_345 : decode cL_act 345 = .ok (.goto 16, 3) := by decide +kernel
theorem dL_act_348 : decode cL_act 348 = .ok (.aload_n 0, 1) := by decide +kernel
theorem dL_act_349 : decode cL_act 349 = .ok (.bipush 19, 2) := by decide +kernel
theorem dL_act_351 : decode cL_act 351 = .ok (.iload_n 2, 1) := by decide +kernel
theorem dL_act_352 : decode cL_act 352 = .ok (.iconst 2, 1) := by decide +kernel
theorem dL_act_353 : decode cL_act 353 = .ok (.idiv, 1) := by decide +kernel
theorem dL_act_354 : decode cL_act 354 = .ok (.iconst 2, 1) := by decide +kernel
theorem dL_act_355 : decode cL_act 355 = .ok (.irem, 1) := by decide +kernel
theorem dL_act_356 : decode cL_act 356 = .ok (.iconst 0, 1) := by decide +kernel
theorem dL_act_357 : decode cL_act 357 = .ok (.iconst 0, 1) := by decide +kernel
theorem dL_act_358 : decode cL_act 358 = .ok (.invokestatic 162, 3) := by decide +kernel
theorem dL_act_361 : decode cL_act 361 = .ok (.ireturn, 1) := by decide +kernel
theorem dL_act_362 : decode cL_act 362 = .ok (.aload_n 0, 1) := by decide +kernel
theorem dL_act_363 : decode cL_act 363 = .ok (.bipush 11, 2) := by decide +kernel
theorem dL_act_365 : decode cL_act 365 = .ok (.iload_n 2, 1) := by decide +kernel
theorem dL_act_366 : decode cL_act 366 = .ok (.iconst 3, 1) := by decide +kernel
theorem dL_act_367 : decode cL_act 367 = .ok (.irem, 1) := by decide +kernel
theorem dL_act_368 : decode cL_act 368 = .ok (.iconst 1, 1) := by decide +kernel
theorem dL_act_369 : decode cL_act 369 = .ok (.iload_n 2, 1) := by decide +kernel
theorem dL_act_370 : decode cL_act 370 = .ok (.bipush 18, 2) := by decide +kernel
theorem dL_act_372 : decode cL_act 372 = .ok (.idiv, 1) := by decide +kernel
theorem dL_act_373 : decode cL_act 373 = .ok (.sipush 360, 3) := by decide +kernel
theorem dL_act_376 : decode cL_act 376 = .ok (.irem, 1) := by decide +kernel
theorem dL_act_377 : decode cL_act 377 = .ok (.iadd, 1) := by decide +kernel
theorem dL_act_378 : decode cL_act 378 = .ok (.iconst 0, 1) := by decide +kernel
theorem dL_act_379 : decode cL_act 379 = .ok (.invokestatic 162, 3) := by decide +kernel
theorem dL_act_382 : decode cL_act 382 = .ok (.ireturn, 1) := by decide +kernel
theorem dL_alike_0 : decode cL_alike 0 = .ok (.aload_n 0, 1) := by decide +kernel
theorem dL_alike_1 : decode cL_alike 1 = .ok (.iload_n 2, 1) := by decide +kernel
theorem dL_alike_2 : decode cL_alike 2 = .ok (.i2l, 1) := by decide +kernel
theorem dL_alike_3 : decode cL_alike 3 = .ok (.iconst 1, 1) := by decide +kernel
theorem dL_alike_4 : decode cL_alike 4 = .ok (.iload_n 2, 1) := by decide +kernel
theorem dL_alike_5 : decode cL_alike 5 = .ok (.bipush 60, 2) := by decide +kernel
theorem dL_alike_7 : decode cL_alike 7 = .ok (.irem, 1) := by decide +kernel
theorem dL_alike_8 : decode cL_alike 8 = .ok (.iadd, 1) := by decide +kernel
theorem dL_alike_9 : decode cL_alike 9 = .ok (.invokestatic 176, 3) := by decide +kernel
theorem dL_alike_12 : decode cL_alike 12 = .ok (.aload_n 1, 1) := by decide +kernel
theorem dL_alike_13 : decode cL_alike 13 = .ok (.iload_n 2, 1) := by decide +kernel
theorem dL_alike_14 : decode cL_alike 14 = .ok (.i2l, 1) := by decide +kernel
theorem dL_alike_15 : decode cL_alike 15 = .ok (.iconst 1, 1) := by decide +kernel
theorem dL_alike_16 : decode cL_alike 16 = .ok (.iload_n 2, 1) := by decide +kernel
theorem dL_alike_17 : decode cL_alike 17 = .ok (.bipush 60, 2) := by decide +kernel
theorem dL_alike_19 : decode cL_alike 19 = .ok (.irem, 1) := by decide +kernel
theorem dL_alike_20 : decode cL_alike 20 = .ok (.iadd, 1) := by decide +kernel
theorem dL_alike_21 : decode cL_alike 21 = .ok (.invokestatic 176, 3) := by decide +kernel
theorem dL_alike_24 : decode cL_alike 24 = .ok (.if_icmp .ne 18, 3) := by decide +kernel
theorem dL_alike_27 : decode cL_alike 27 = .ok (.aload_n 0, 1) := by decide +kernel
theorem dL_alike_28 : decode cL_alike 28 = .ok (.invokevirtual 180, 3) := by decide +kernel
theorem dL_alike_31 : decode cL_alike 31 = .ok (.aload_n 1, 1) := by decide +kernel
theorem dL_alike_32 : decode cL_alike 32 = .ok (.invokevirtual 180, 3) := by decide +kernel
theorem dL_alike_35 : decode cL_alike 35 = .ok (.if_icmp .ne 7, 3) := by decide +kernel
theorem dL_alike_38 : decode cL_alike 38 = .ok (.iconst 1, 1) := by decide +kernel
theorem dL_alike_39 : decode cL_alike 39 = .ok (.goto 4, 3) := by decide +kernel
theorem dL_alike_42 : decode cL_alike 42 = .ok (.iconst 0, 1) := by decide +kernel
theorem dL_alike_43 : decode cL_alike 43 = .ok (.istore_n 3, 1) := by decide +kernel
theorem dL_alike_44 : decode cL_alike 44 = .ok (.iconst 0, 1) := by decide +kernel
theorem dL_alike_45 : decode cL_alike 45 = .ok (.istore 4, 2) := by decide +kernel
theorem dL_alike_47 : decode cL_alike 47 = .ok (.iload 4, 2) := by decide +kernel
theorem dL_alike_49 : decode cL_alike 49 = .ok (.bipush 16, 2) := by decide +kernel
theorem dL_alike_51 : decode cL_alike 51 = .ok (.if_icmp .ge 146, 3) := by decide +kernel
theorem dL_alike_54 : decode cL_alike 54 = .ok (.iload_n 3, 1) := by decide +kernel
theorem dL_alike_55 : decode cL_alike 55 = .ok (.ifCond .eq 142, 3) := by decide +kernel
theorem dL_alike_58 : decode cL_alike 58 = .ok (.aload_n 0, 1) := by decide +kernel
theorem dL_alike_59 : decode cL_alike 59 = .ok (.iconst 2, 1) := by decide +kernel
theorem dL_alike_60 : decode cL_alike 60 = .ok (.iload 4, 2) := by decide +kernel
theorem dL_alike_62 : decode cL_alike 62 = .ok (.iconst 0, 1) := by decide +kernel
theorem dL_alike_63 : decode cL_alike 63 = .ok (.iconst 0, 1) := by decide +kernel
theorem dL_alike_64 : decode cL_alike 64 = .ok (.invokestatic 162, 3) := by decide +kernel
theorem dL_alike_67 : decode cL_alike 67 = .ok (.aload_n 1, 1) := by decide +kernel
theorem dL_alike_68 : decode cL_alike 68 = .ok (.iconst 2, 1) := by decide +kernel
theorem dL_alike_69 : decode cL_alike 69 = .ok (.iload 4, 2) := by decide +kernel
theorem dL_alike_71 : decode cL_alike 71 = .ok (.iconst 0, 1) := by decide +kernel
theorem dL_alike_72 : decode cL_alike 72 = .ok (.iconst 0, 1) := by decide +kernel
theorem dL_alike_73 : decode cL_alike 73 = .ok (.invokestatic 162, 3) := by decide +kernel
theorem dL_alike_76 : decode cL_alike 76 = .ok (.if_icmp .ne 113, 3) := by decide +kernel
theorem dL_alike_79 : decode cL_alike 79 = .ok (.aload_n 0, 1) := by decide +kernel
theorem dL_alike_80 : decode cL_alike 80 = .ok (.iconst 3, 1) := by decide +kernel
theorem dL_alike_81 : decode cL_alike 81 = .ok (.iload 4, 2) := by decide +kernel
theorem dL_alike_83 : decode cL_alike 83 = .ok (.iload_n 2, 1) := by decide +kernel
theorem dL_alike_84 : decode cL_alike 84 = .ok (.bipush 11, 2) := by decide +kernel
theorem dL_alike_86 : decode cL_alike 86 = .ok (.irem, 1) := by decide +kernel
theorem dL_alike_87 : decode cL_alike 87 = .ok (.iconst 0, 1) := by decide +kernel
theorem dL_alike_88 : decode cL_alike 88 = .ok (.invokestatic 162, 3) := by decide +kernel
theorem dL_alike_91 : decode cL_alike 91 = .ok (.aload_n 1, 1) := by decide +kernel
theorem dL_alike_92 : decode cL_alike 92 = .ok (.iconst 3, 1) := by decide +kernel
theorem dL_alike_93 : decode cL_alike 93 = .ok (.iload 4, 2) := by decide +kernel
theorem dL_alike_95 : decode cL_alike 95 = .ok (.iload_n 2, 1) := by decide +kernel
theorem dL_alike_96 : decode cL_alike 96 = .ok (.bipush 11, 2) := by decide +kernel
theorem dL_alike_98 : decode cL_alike 98 = .ok (.irem, 1) := by decide +kernel
theorem dL_alike_99 : decode cL_alike 99 = .ok (.iconst 0, 1) := by decide +kernel
theorem dL_alike_100 : decode cL_alike 100 = .ok (.invokestatic 162, 3) := by decide +kernel
theorem dL_alike_103 : decode cL_alike 103 = .ok (.if_icmp .ne 86, 3) := by decide +kernel
theorem dL_alike_106 : decode cL_alike 106 = .ok (.aload_n 0, 1) := by decide +kernel
theorem dL_alike_107 : decode cL_alike 107 = .ok (.iconst 4, 1) := by decide +kernel
theorem dL_alike_108 : decode cL_alike 108 = .ok (.iload 4, 2) := by decide +kernel
theorem dL_alike_110 : decode cL_alike 110 = .ok (.iload_n 2, 1) := by decide +kernel
theorem dL_alike_111 : decode cL_alike 111 = .ok (.iconst 5, 1) := by decide +kernel
theorem dL_alike_112 : decode cL_alike 112 = .ok (.irem, 1) := by decide +kernel
theorem dL_alike_113 : decode cL_alike 113 = .ok (.iconst 0, 1) := by decide +kernel
theorem dL_alike_114 : decode cL_alike 114 = .ok (.invokestatic 162, 3) := by decide +kernel
theorem dL_alike_117 : decode cL_alike 117 = .ok (.aload_n 1, 1) := by decide +kernel
theorem dL_alike_118 : decode cL_alike 118 = .ok (.iconst 4, 1) := by decide +kernel
theorem dL_alike_119 : decode cL_alike 119 = .ok (.iload 4, 2) := by decide +kernel
theorem dL_alike_121 : decode cL_alike 121 = .ok (.iload_n 2, 1) := by decide +kernel
theorem dL_alike_122 : decode cL_alike 122 = .ok (.iconst 5, 1) := by decide +kernel
theorem dL_alike_123 : decode cL_alike 123 = .ok (.irem, 1) := by decide +kernel
theorem dL_alike_124 : decode cL_alike 124 = .ok (.iconst 0, 1) := by decide +kernel
theorem dL_alike_125 : decode cL_alike 125 = .ok (.invokestatic 162, 3) := by decide +kernel
theorem dL_alike_128 : decode cL_alike 128 = .ok (.if_icmp .ne 61, 3) := by decide +kernel
theorem dL_alike_131 : decode cL_alike 131 = .ok (.aload_n 0, 1) := by decide +kernel
theorem dL_alike_132 : decode cL_alike 132 = .ok (.iconst 5, 1) := by decide +kernel
theorem dL_alike_133 : decode cL_alike 133 = .ok (.iload 4, 2) := by decide +kernel
theorem dL_alike_135 : decode cL_alike 135 = .ok (.iload_n 2, 1) := by decide +kernel
theorem dL_alike_136 : decode cL_alike 136 = .ok (.iconst 3, 1) := by decide +kernel
theorem dL_alike_137 : decode cL_alike 137 = .ok (.irem, 1) := by decide +kernel
theorem dL_alike_138 : decode cL_alike 138 = .ok (.iconst 0, 1) := by decide +kernel
theorem dL_alike_139 : decode cL_alike 139 = .ok (.invokestatic 162, 3) := by decide +kernel
theorem dL_alike_142 : decode cL_alike 142 = .ok (.aload_n 1, 1) := by decide +kernel
theorem dL_alike_143 : decode cL_alike 143 = .ok (.iconst 5, 1) := by decide +kernel
theorem dL_alike_144 : decode cL_alike 144 = .ok (.iload 4, 2) := by decide +kernel
theorem dL_alike_146 : decode cL_alike 146 = .ok (.iload_n 2, 1) := by decide +kernel
theorem dL_alike_147 : decode cL_alike 147 = .ok (.iconst 3, 1) := by decide +kernel
theorem dL_alike_148 : decode cL_alike 148 = .ok (.irem, 1) := by decide +kernel
theorem dL_alike_149 : decode cL_alike 149 = .ok (.iconst 0, 1) := by decide +kernel
theorem dL_alike_150 : decode cL_alike 150 = .ok (.invokestatic 162, 3) := by decide +kernel
theorem dL_alike_153 : decode cL_alike 153 = .ok (.if_icmp .ne 36, 3) := by decide +kernel
theorem dL_alike_156 : decode cL_alike 156 = .ok (.aload_n 0, 1) := by decide +kernel
theorem dL_alike_157 : decode cL_alike 157 = .ok (.bipush 17, 2) := by decide +kernel
theorem dL_alike_159 : decode cL_alike 159 = .ok (.iload_n 2, 1) := by decide +kernel
theorem dL_alike_160 : decode cL_alike 160 = .ok (.bipush 6, 2) := by decide +kernel
theorem dL_alike_162 : decode cL_alike 162 = .ok (.irem, 1) := by decide +kernel
theorem dL_alike_163 : decode cL_alike 163 = .ok (.iload 4, 2) := by decide +kernel
theorem dL_alike_165 : decode cL_alike 165 = .ok (.iconst 0, 1) := by decide +kernel
theorem dL_alike_166 : decode cL_alike 166 = .ok (.invokestatic 162, 3) := by decide +kernel
theorem dL_alike_169 : decode cL_alike 169 = .ok (.aload_n 1, 1) := by decide +kernel
theorem dL_alike_170 : decode cL_alike 170 = .ok (.bipush 17, 2) := by decide +kernel
theorem dL_alike_172 : decode cL_alike 172 = .ok (.iload_n 2, 1) := by decide +kernel
theorem dL_alike_173 : decode cL_alike 173 = .ok (.bipush 6, 2) := by decide +kernel
theorem dL_alike_175 : decode cL_alike 175 = .ok (.irem, 1) := by decide +kernel
theorem dL_alike_176 : decode cL_alike 176 = .ok (.iload 4, 2) := by decide +kernel
theorem dL_alike_178 : decode cL_alike 178 = .ok (.iconst 0, 1) := by decide +kernel
theorem dL_alike_179 : decode cL_alike 179 = .ok (.invokestatic 162, 3) := by decide +kernel
theorem dL_alike_182 : decode cL_alike 182 = .ok (.if_icmp .ne 7, 3) := by decide +kernel
theorem dL_alike_185 : decode cL_alike 185 = .ok (.iconst 1, 1) := by decide +kernel
theorem dL_alike_186 : decode cL_alike 186 = .ok (.goto 4, 3) := by decide +kernel
theorem dL_alike_189 : decode cL_alike 189 = .ok (.iconst 0, 1) := by decide +kernel
theorem dL_alike_190 : decode cL_alike 190 = .ok (.istore_n 3, 1) := by decide +kernel
theorem dL_alike_191 : decode cL_alike 191 = .ok (.iinc 4 1, 3) := by decide +kernel
theorem dL_alike_194 : decode cL_alike 194 = .ok (.goto (-147), 3) := by decide +kernel
theorem dL_alike_197 : decode cL_alike 197 = .ok (.iload_n 3, 1) := by decide +kernel
theorem dL_alike_198 : decode cL_alike 198 = .ok (.ireturn, 1) := by decide +kernel
theorem dL_law_0 : decode cL_law 0 = .ok (.new 8, 3) := by decide +kernel
theorem dL_law_3 : decode cL_law 3 = .ok (.dup, 1) := by decide +kernel
theorem dL_law_4 : decode cL_law 4 = .ok (.invokespecial 186, 3) := by decide +kernel
theorem dL_law_7 : decode cL_law 7 = .ok (.astore_n 1, 1) := by decide +kernel
theorem dL_law_8 : decode cL_law 8 = .ok (.new 8, 3) := by decide +kernel
theorem dL_law_11 : decode cL_law 11 = .ok (.dup, 1) := by decide +kernel
theorem dL_law_12 : decode cL_law 12 = .ok (.invokespecial 186, 3) := by decide +kernel
theorem dL_law_15 : decode cL_law 15 = .ok (.astore_n 2, 1) := by decide +kernel
theorem dL_law_16 : decode cL_law 16 = .ok (.bipush 14, 2) := by decide +kernel
theorem dL_law_18 : decode cL_law 18 = .ok (.aload_n 0, 1) := by decide +kernel
theorem dL_law_19 : decode cL_law 19 = .ok (.iconst 0, 1) := by decide +kernel
theorem dL_law_20 : decode cL_law 20 = .ok (.invokestatic 187, 3) := by decide +kernel
theorem dL_law_23 : decode cL_law 23 = .ok (.bipush 21, 2) := by decide +kernel
theorem dL_law_25 : decode cL_law 25 = .ok (.irem, 1) := by decide +kernel
theorem dL_law_26 : decode cL_law 26 = .ok (.iadd, 1) := by decide +kernel
theorem dL_law_27 : decode cL_law 27 = .ok (.istore_n 3, 1) := by decide +kernel
theorem dL_law_28 : decode cL_law 28 = .ok (.iconst 1, 1) := by decide +kernel
theorem dL_law_29 : decode cL_law 29 = .ok (.istore 4, 2) := by decide +kernel
theorem dL_law_31 : decode cL_law 31 = .ok (.iconst 0, 1) := by decide +kernel
theorem dL_law_32 : decode cL_law 32 = .ok (.istore 5, 2) := by decide +kernel
theorem dL_law_34 : decode cL_law 34 = .ok (.iload 5, 2) := by decide +kernel
theorem dL_law_36 : decode cL_law 36 = .ok (.iload_n 3, 1) := by decide +kernel
theorem dL_law_37 : decode cL_law 37 = .ok (.if_icmp .ge 147, 3) := by decide +kernel
theorem dL_law_40 : decode cL_law 40 = .ok (.iload 4, 2) := by decide +kernel
theorem dL_law_42 : decode cL_law 42 = .ok (.ifCond .eq 142, 3) := by decide +kernel
theorem dL_law_45 : decode cL_law 45 = .ok (.aload_n 0, 1) := by decide +kernel
theorem dL_law_46 : decode cL_law 46 = .ok (.iconst 1, 1) := by decide +kernel
theorem dL_law_47 : decode cL_law 47 = .ok (.iload 5, 2) := by decide +kernel
theorem dL_law_49 : decode cL_law 49 = .ok (.iadd, 1) := by decide +kernel
theorem dL_law_50 : decode cL_law 50 = .ok (.invokestatic 187, 3) := by decide +kernel
theorem dL_law_53 : decode cL_law 53 = .ok (.istore 6, 2) := by decide +kernel
theorem dL_law_55 : decode cL_law 55 = .ok (.aload_n 1, 1) := by decide +kernel
theorem dL_law_56 : decode cL_law 56 = .ok (.iload 6, 2) := by decide +kernel
theorem dL_law_58 : decode cL_law 58 = .ok (.invokestatic 191, 3) := by decide +kernel
theorem dL_law_61 : decode cL_law 61 = .ok (.istore 7, 2) := by decide +kernel
theorem dL_law_63 : decode cL_law 63 = .ok (.aload_n 2, 1) := by decide +kernel
theorem dL_law_64 : decode cL_law 64 = .ok (.iload 6, 2) := by decide +kernel
theorem dL_law_66 : decode cL_law 66 = .ok (.ldc 194, 2) := by decide +kernel
theorem dL_law_68 : decode cL_law 68 = .ok (.irem, 1) := by decide +kernel
theorem dL_law_69 : decode cL_law 69 = .ok (.invokestatic 195, 3) := by decide +kernel
theorem dL_law_72 : decode cL_law 72 = .ok (.ifCond .eq 103, 3) := by decide +kernel
theorem dL_law_75 : decode cL_law 75 = .ok (.aload_n 2, 1) := by decide +kernel
theorem dL_law_76 : decode cL_law 76 = .ok (.iload 6, 2) := by decide +kernel
theorem dL_law_78 : decode cL_law 78 = .ok (.invokestatic 191, 3) := by decide +kernel
theorem dL_law_81 : decode cL_law 81 = .ok (.iload 7, 2) := by decide +kernel
theorem dL_law_83 : decode cL_law 83 = .ok (.if_icmp .ne 92, 3) := by decide +kernel
theorem dL_law_86 : decode cL_law 86 = .ok (.aload_n 2, 1) := by decide +kernel
theorem dL_law_87 : decode cL_law 87 = .ok (.iload 6, 2) := by decide +kernel
theorem dL_law_89 : decode cL_law 89 = .ok (.sipush 1000, 3) := by decide +kernel
theorem dL_law_92 : decode cL_law 92 = .ok (.irem, 1) := by decide +kernel
theorem dL_law_93 : decode cL_law 93 = .ok (.invokestatic 195, 3) := by decide +kernel
theorem dL_law_96 : decode cL_law 96 = .ok (.ifCond .eq 79, 3) := by decide +kernel
theorem dL_law_99 : decode cL_law 99 = .ok (.aload_n 1, 1) := by decide +kernel
theorem dL_law_100 : decode cL_law 100 = .ok (.aload_n 2, 1) := by decide +kernel
theorem dL_law_101 : decode cL_law 101 = .ok (.iload 6, 2) := by decide +kernel
theorem dL_law_103 : decode cL_law 103 = .ok (.sipush 5000, 3) := by decide +kernel
theorem dL_law_106 : decode cL_law 106 = .ok (.irem, 1) := by decide +kernel
theorem dL_law_107 : decode cL_law 107 = .ok (.invokestatic 199, 3) := by decide +kernel
theorem dL_law_110 : decode cL_law 110 = .ok (.ifCond .eq 65, 3) := by decide +kernel
theorem dL_law_113 : decode cL_law 113 = .ok (.iload 5, 2) := by decide +kernel
theorem dL_law_115 : decode cL_law 115 = .ok (.iconst 2, 1) := by decide +kernel
theorem dL_law_116 : decode cL_law 116 = .ok (.irem, 1) := by decide +kernel
theorem dL_law_117 : decode cL_law 117 = .ok (.ifCond .ne 17, 3) := by decide +kernel
theorem dL_law_120 : decode cL_law 120 = .ok (.aload_n 1, 1) := by decide +kernel
theorem dL_law_121 : decode cL_law 121 = .ok (.iload 6, 2) := by decide +kernel
theorem dL_law_123 : decode cL_law 123 = .ok (.iconst 3, 1) := by decide +kernel
theorem dL_law_124 : decode cL_law 124 = .ok (.idiv, 1) := by decide +kernel
theorem dL_law_125 : decode cL_law 125 = .ok (.invokestatic 203, 3) := by decide +kernel
theorem dL_law_128 : decode cL_law 128 = .ok (.ifCond .eq 47, 3) := by decide +kernel
theorem dL_law_131 : decode cL_law 131 = .ok (.goto 14, 3) := by decide +kernel
theorem dL_law_134 : decode cL_law 134 = .ok (.aload_n 2, 1) := by decide +kernel
theorem dL_law_135 : decode cL_law 135 = .ok (.iload 6, 2) := by decide +kernel
theorem dL_law_137 : decode cL_law 137 = .ok (.iconst 3, 1) := by decide +kernel
theorem dL_law_138 : decode cL_law 138 = .ok (.idiv, 1) := by decide +kernel
theorem dL_law_139 : decode cL_law 139 = .ok (.invokestatic 203, 3) := by decide +kernel
theorem dL_law_142 : decode cL_law 142 = .ok (.ifCond .eq 33, 3) := by decide +kernel
theorem dL_law_145 : decode cL_law 145 = .ok (.aload_n 1, 1) := by decide +kernel
theorem dL_law_146 : decode cL_law 146 = .ok (.aload_n 2, 1) := by decide +kernel
theorem dL_law_147 : decode cL_law 147 = .ok (.iload 6, 2) := by decide +kernel
theorem dL_law_149 : decode cL_law 149 = .ok (.bipush 7, 2) := by decide +kernel
theorem dL_law_151 : decode cL_law 151 = .ok (.idiv, 1) := by decide +kernel
theorem dL_law_152 : decode cL_law 152 = .ok (.invokestatic 206, 3) := by decide +kernel
theorem dL_law_155 : decode cL_law 155 = .ok (.ifCond .eq 20, 3) := by decide +kernel
theorem dL_law_158 : decode cL_law 158 = .ok (.aload_n 1, 1) := by decide +kernel
theorem dL_law_159 : decode cL_law 159 = .ok (.aload_n 2, 1) := by decide +kernel
theorem dL_law_160 : decode cL_law 160 = .ok (.iload 6, 2) := by decide +kernel
theorem dL_law_162 : decode cL_law 162 = .ok (.bipush 11, 2) := by decide +kernel
theorem dL_law_164 : decode cL_law 164 = .ok (.idiv, 1) := by decide +kernel
theorem dL_law_165 : decode cL_law 165 = .ok (.invokestatic 209, 3) := by decide +kernel
theorem dL_law_168 : decode cL_law 168 = .ok (.ifCond .eq 7, 3) := by decide +kernel
theorem dL_law_171 : decode cL_law 171 = .ok (.iconst 1, 1) := by decide +kernel
theorem dL_law_172 : decode cL_law 172 = .ok (.goto 4, 3) := by decide +kernel
theorem dL_law_175 : decode cL_law 175 = .ok (.iconst 0, 1) := by decide +kernel
theorem dL_law_176 : decode cL_law 176 = .ok (.istore 4, 2) := by decide +kernel
theorem dL_law_178 : decode cL_law 178 = .ok (.iinc 5 1, 3) := by decide +kernel
theorem dL_law_181 : decode cL_law 181 = .ok (.goto (-147), 3) := by decide +kernel
theorem dL_law_184 : decode cL_law 184 = .ok (.iload 4, 2) := by decide +kernel
theorem dL_law_186 : decode cL_law 186 = .ok (.ireturn, 1) := by decide +kernel
theorem dL_surveys_0 : decode cL_surveys 0 = .ok (.aload_n 0, 1) := by decide +kernel
theorem dL_surveys_1 : decode cL_surveys 1 = .ok (.iconst 2, 1) := by decide +kernel
theorem dL_surveys_2 : decode cL_surveys 2 = .ok (.bipush 6, 2) := by decide +kernel
theorem dL_surveys_4 : decode cL_surveys 4 = .ok (.iconst 0, 1) := by decide +kernel
theorem dL_surveys_5 : decode cL_surveys 5 = .ok (.iconst 0, 1) := by decide +kernel
theorem dL_surveys_6 : decode cL_surveys 6 = .ok (.invokestatic 162, 3) := by decide +kernel
theorem dL_surveys_9 : decode cL_surveys 9 = .ok (.istore_n 3, 1) := by decide +kernel
theorem dL_surveys_10 : decode cL_surveys 10 = .ok (.aload_n 0, 1) := by decide +kernel
theorem dL_surveys_11 : decode cL_surveys 11 = .ok (.iconst 2, 1) := by decide +kernel
theorem dL_surveys_12 : decode cL_surveys 12 = .ok (.bipush 7, 2) := by decide +kernel
theorem dL_surveys_14 : decode cL_surveys 14 = .ok (.iconst 0, 1) := by decide +kernel
theorem dL_surveys_15 : decode cL_surveys 15 = .ok (.iconst 0, 1) := by decide +kernel
theorem dL_surveys_16 : decode cL_surveys 16 = .ok (.invokestatic 162, 3) := by decide +kernel
theorem dL_surveys_19 : decode cL_surveys 19 = .ok (.istore 4, 2) := by decide +kernel
theorem dL_surveys_21 : decode cL_surveys 21 = .ok (.aload_n 0, 1) := by decide +kernel
theorem dL_surveys_22 : decode cL_surveys 22 = .ok (.iconst 2, 1) := by decide +kernel
theorem dL_surveys_23 : decode cL_surveys 23 = .ok (.iconst 5, 1) := by decide +kernel
theorem dL_surveys_24 : decode cL_surveys 24 = .ok (.iconst 0, 1) := by decide +kernel
theorem dL_surveys_25 : decode cL_surveys 25 = .ok (.iconst 0, 1) := by decide +kernel
theorem dL_surveys_26 : decode cL_surveys 26 = .ok (.invokestatic 162, 3) := by decide +kernel
theorem dL_surveys_29 : decode cL_surveys 29 = .ok (.istore 5, 2) := by decide +kernel
theorem dL_surveys_31 : decode cL_surveys 31 = .ok (.aload_n 0, 1) := by decide +kernel
theorem dL_surveys_32 : decode cL_surveys 32 = .ok (.iconst 2, 1) := by decide +kernel
theorem dL_surveys_33 : decode cL_surveys 33 = .ok (.iconst 0, 1) := by decide +kernel
theorem dL_surveys_34 : decode cL_surveys 34 = .ok (.iconst 0, 1) := by decide +kernel
theorem dL_surveys_35 : decode cL_surveys 35 = .ok (.iconst 0, 1) := by decide +kernel
theorem dL_surveys_36 : decode cL_surveys 36 = .ok (.invokestatic 162, 3) := by decide +kernel
theorem dL_surveys_39 : decode cL_surveys 39 = .ok (.istore 6, 2) := by decide +kernel
theorem dL_surveys_41 : decode cL_surveys 41 = .ok (.aload_n 0, 1) := by decide +kernel
theorem dL_surveys_42 : decode cL_surveys 42 = .ok (.invokevirtual 183, 3) := by decide +kernel
theorem dL_surveys_45 : decode cL_surveys 45 = .ok (.istore 7, 2) := by decide +kernel
theorem dL_surveys_47 : decode cL_surveys 47 = .ok (.aload_n 1, 1) := by decide +kernel
theorem dL_surveys_48 : decode cL_surveys 48 = .ok (.invokevirtual 183, 3) := by decide +kernel
theorem dL_surveys_51 : decode cL_surveys 51 = .ok (.iload 7, 2) := by decide +kernel
theorem dL_surveys_53 : decode cL_surveys 53 = .ok (.if_icmp .ne 108, 3) := by decide +kernel
theorem dL_surveys_56 : decode cL_surveys 56 = .ok (.iload 7, 2) := by decide +kernel
theorem dL_surveys_58 : decode cL_surveys 58 = .ok (.ifCond .lt 103, 3) := by decide +kernel
theorem dL_surveys_61 : decode cL_surveys 61 = .ok (.iload 7, 2) := by decide +kernel
theorem dL_surveys_63 : decode cL_surveys 63 = .ok (.iload 5, 2) := by decide +kernel
theorem dL_surveys_65 : decode cL_surveys 65 = .ok (.if_icmp .gt 96, 3) := by decide +kernel
theorem dL_surveys_68 : decode cL_surveys 68 = .ok (.aload_n 0, 1) := by decide +kernel
theorem dL_surveys_69 : decode cL_surveys 69 = .ok (.iconst 2, 1) := by decide +kernel
theorem dL_surveys_70 : decode cL_surveys 70 = .ok (.bipush 6, 2) := by decide +kernel
theorem dL_surveys_72 : decode cL_surveys 72 = .ok (.iconst 0, 1) := by decide +kernel
theorem dL_surveys_73 : decode cL_surveys 73 = .ok (.iconst 0, 1) := by decide +kernel
theorem dL_surveys_74 : decode cL_surveys 74 = .ok (.invokestatic 162, 3) := by decide +kernel
theorem dL_surveys_77 : decode cL_surveys 77 = .ok (.iload_n 3, 1) := by decide +kernel
theorem dL_surveys_78 : decode cL_surveys 78 = .ok (.iload 7, 2) := by decide +kernel
theorem dL_surveys_80 : decode cL_surveys 80 = .ok (.isub, 1) := by decide +kernel
theorem dL_surveys_81 : decode cL_surveys 81 = .ok (.if_icmp .ne 80, 3) := by decide +kernel
theorem dL_surveys_84 : decode cL_surveys 84 = .ok (.aload_n 0, 1) := by decide +kernel
theorem dL_surveys_85 : decode cL_surveys 85 = .ok (.iconst 2, 1) := by decide +kernel
theorem dL_surveys_86 : decode cL_surveys 86 = .ok (.bipush 7, 2) := by decide +kernel
theorem dL_surveys_88 : decode cL_surveys 88 = .ok (.iconst 0, 1) := by decide +kernel
theorem dL_surveys_89 : decode cL_surveys 89 = .ok (.iconst 0, 1) := by decide +kernel
theorem dL_surveys_90 : decode cL_surveys 90 = .ok (.invokestatic 162, 3) := by decide +kernel
theorem dL_surveys_93 : decode cL_surveys 93 = .ok (.iload 4, 2) := by decide +kernel
theorem dL_surveys_95 : decode cL_surveys 95 = .ok (.iload 7, 2) := by decide +kernel
theorem dL_surveys_97 : decode cL_surveys 97 = .ok (.iadd, 1) := by decide +kernel
theorem dL_surveys_98 : decode cL_surveys 98 = .ok (.if_icmp .ne 63, 3) := by decide +kernel
theorem dL_surveys_101 : decode cL_surveys 101 = .ok (.aload_n 0, 1) := by decide +kernel
theorem dL_surveys_102 : decode cL_surveys 102 = .ok (.iconst 2, 1) := by decide +kernel
theorem dL_surveys_103 : decode cL_surveys 103 = .ok (.iconst 0, 1) := by decide +kernel
theorem dL_surveys_104 : decode cL_surveys 104 = .ok (.iconst 0, 1) := by decide +kernel
theorem dL_surveys_105 : decode cL_surveys 105 = .ok (.iconst 0, 1) := by decide +kernel
theorem dL_surveys_106 : decode cL_surveys 106 = .ok (.invokestatic 162, 3) := by decide +kernel
theorem dL_surveys_109 : decode cL_surveys 109 = .ok (.iload 6, 2) := by decide +kernel
theorem dL_surveys_111 : decode cL_surveys 111 = .ok (.if_icmp .ne 50, 3) := by decide +kernel
theorem dL_surveys_114 : decode cL_surveys 114 = .ok (.aload_n 0, 1) := by decide +kernel
theorem dL_surveys_115 : decode cL_surveys 115 = .ok (.bipush 13, 2) := by decide +kernel
theorem dL_surveys_117 : decode cL_surveys 117 = .ok (.iconst 0, 1) := by decide +kernel
theorem dL_surveys_118 : decode cL_surveys 118 = .ok (.iconst 0, 1) := by decide +kernel
theorem dL_surveys_119 : decode cL_surveys 119 = .ok (.iconst 0, 1) := by decide +kernel
theorem dL_surveys_120 : decode cL_surveys 120 = .ok (.invokestatic 162, 3) := by decide +kernel
theorem dL_surveys_123 : decode cL_surveys 123 = .ok (.invokestatic 212, 3) := by decide +kernel
theorem dL_surveys_126 : decode cL_surveys 126 = .ok (.ifCond .ne 35, 3) := by decide +kernel
theorem dL_surveys_129 : decode cL_surveys 129 = .ok (.aload_n 1, 1) := by decide +kernel
theorem dL_surveys_130 : decode cL_surveys 130 = .ok (.bipush 13, 2) := by decide +kernel
theorem dL_surveys_132 : decode cL_surveys 132 = .ok (.iconst 0, 1) := by decide +kernel
theorem dL_surveys_133 : decode cL_surveys 133 = .ok (.iconst 0, 1) := by decide +kernel
theorem dL_surveys_134 : decode cL_surveys 134 = .ok (.iconst 0, 1) := by decide +kernel
theorem dL_surveys_135 : decode cL_surveys 135 = .ok (.invokestatic 162, 3) := by decide +kernel
theorem dL_surveys_138 : decode cL_surveys 138 = .ok (.invokestatic 212, 3) := by decide +kernel
theorem dL_surveys_141 : decode cL_surveys 141 = .ok (.ifCond .ne 20, 3) := by decide +kernel
theorem dL_surveys_144 : decode cL_surveys 144 = .ok (.aload_n 0, 1) := by decide +kernel
theorem dL_surveys_145 : decode cL_surveys 145 = .ok (.iconst 2, 1) := by decide +kernel
theorem dL_surveys_146 : decode cL_surveys 146 = .ok (.bipush 6, 2) := by decide +kernel
theorem dL_surveys_148 : decode cL_surveys 148 = .ok (.iconst 0, 1) := by decide +kernel
theorem dL_surveys_149 : decode cL_surveys 149 = .ok (.iconst 0, 1) := by decide +kernel
theorem dL_surveys_150 : decode cL_surveys 150 = .ok (.invokestatic 162, 3) := by decide +kernel
theorem dL_surveys_153 : decode cL_surveys 153 = .ok (.iload_n 3, 1) := by decide +kernel
theorem dL_surveys_154 : decode cL_surveys 154 = .ok (.if_icmp .ne 7, 3) := by decide +kernel
theorem dL_surveys_157 : decode cL_surveys 157 = .ok (.iconst 1, 1) := by decide +kernel
theorem dL_surveys_158 : decode cL_surveys 158 = .ok (.goto 4, 3) := by decide +kernel
theorem dL_surveys_161 : decode cL_surveys 161 = .ok (.iconst 0, 1) := by decide +kernel
theorem dL_surveys_162 : decode cL_surveys 162 = .ok (.istore 8, 2) := by decide +kernel
theorem dL_surveys_164 : decode cL_surveys 164 = .ok (.iload_n 2, 1) := by decide +kernel
theorem dL_surveys_165 : decode cL_surveys 165 = .ok (.iconst 3, 1) := by decide +kernel
theorem dL_surveys_166 : decode cL_surveys 166 = .ok (.irem, 1) := by decide +kernel
theorem dL_surveys_167 : decode cL_surveys 167 = .ok (.istore 9, 2) := by decide +kernel
theorem dL_surveys_169 : decode cL_surveys 169 = .ok (.iload_n 2, 1) := by decide +kernel
theorem dL_surveys_170 : decode cL_surveys 170 = .ok (.iconst 3, 1) := by decide +kernel
theorem dL_surveys_171 : decode cL_surveys 171 = .ok (.idiv, 1) := by decide +kernel
theorem dL_surveys_172 : decode cL_surveys 172 = .ok (.iconst 3, 1) := by decide +kernel
theorem dL_surveys_173 : decode cL_surveys 173 = .ok (.irem, 1) := by decide +kernel
theorem dL_surveys_174 : decode cL_surveys 174 = .ok (.ifCond .le 21, 3) := by decide +kernel
theorem dL_surveys_177 : decode cL_surveys 177 = .ok (.aload_n 0, 1) := by decide +kernel
theorem dL_surveys_178 : decode cL_surveys 178 = .ok (.bipush 7, 2) := by decide +kernel
theorem dL_surveys_180 : decode cL_surveys 180 = .ok (.iload 9, 2) := by decide +kernel
theorem dL_surveys_182 : decode cL_surveys 182 = .ok (.iload_n 2, 1) := by decide +kernel
theorem dL_surveys_183 : decode cL_surveys 183 = .ok (.bipush 9, 2) := by decide +kernel
theorem dL_surveys_185 : decode cL_surveys 185 = .ok (.idiv, 1) := by decide +kernel
theorem dL_surveys_186 : decode cL_surveys 186 = .ok (.iconst 2, 1) := by decide +kernel
theorem dL_surveys_187 : decode cL_surveys 187 = .ok (.irem, 1) := by decide +kernel
theorem dL_surveys_188 : decode cL_surveys 188 = .ok (.iconst 0, 1) := by decide +kernel
theorem dL_surveys_189 : decode cL_surveys 189 = .ok (.invokestatic 162, 3) := by decide +kernel
theorem dL_surveys_192 : decode cL_surveys 192 = .ok (.goto 13, 3) := by decide +kernel
theorem dL_surveys_195 : decode cL_surveys 195 = .ok (.iconst 1, 1) := by decide +kernel
theorem dL_surveys_196 : decode cL_surveys 196 = .ok (.iload_n 2, 1) := by decide +kernel
theorem dL_surveys_197 : decode cL_surveys 197 = .ok (.bipush 18, 2) := by decide +kernel
theorem dL_surveys_199 : decode cL_surveys 199 = .ok (.idiv, 1) := by decide +kernel
theorem dL_surveys_200 : decode cL_surveys 200 = .ok (.sipush 999, 3) := by decide +kernel
theorem dL_surveys_203 : decode cL_surveys 203 = .ok (.irem, 1) := by decide +kernel
theorem dL_surveys_204 : decode cL_surveys 204 = .ok (.iadd, 1) := by decide +kernel
theorem dL_surveys_205 : decode cL_surveys 205 = .ok (.istore 10, 2) := by decide +kernel
theorem dL_surveys_207 : decode cL_surveys 207 = .ok (.aload_n 0, 1) := by decide +kernel
theorem dL_surveys_208 : decode cL_surveys 208 = .ok (.iconst 5, 1) := by decide +kernel
theorem dL_surveys_209 : decode cL_surveys 209 = .ok (.iload 9, 2) := by decide +kernel
theorem dL_surveys_211 : decode cL_surveys 211 = .ok (.iconst 0, 1) := by decide +kernel
theorem dL_surveys_212 : decode cL_surveys 212 = .ok (.iconst 0, 1) := by decide +kernel
theorem dL_surveys_213 : decode cL_surveys 213 = .ok (.invokestatic 162, 3) := by decide +kernel
theorem dL_surveys_216 : decode cL_surveys 216 = .ok (.istore 11, 2) := by decide +kernel
theorem dL_surveys_218 : decode cL_surveys 218 = .ok (.iconst 0, 1) := by decide +kernel
theorem dL_surveys_219 : decode cL_surveys 219 = .ok (.istore 12, 2) := by decide +kernel
theorem dL_surveys_221 : decode cL_surveys 221 = .ok (.iconst 0, 1) := by decide +kernel
theorem dL_surveys_222 : decode cL_surveys 222 = .ok (.istore 13, 2) := by decide +kernel
theorem dL_surveys_224 : decode cL_surveys 224 = .ok (.iload 13, 2) := by decide +kernel
theorem dL_surveys_226 : decode cL_surveys 226 = .ok (.iload 6, 2) := by decide +kernel
theorem dL_surveys_228 : decode cL_surveys 228 = .ok (.if_icmp .ge 63, 3) := by decide +kernel
theorem dL_surveys_231 : decode cL_surveys 231 = .ok (.iload 12, 2) := by decide +kernel
theorem dL_surveys_233 : decode cL_surveys 233 = .ok (.aload_n 0, 1) := by decide +kernel
theorem dL_surveys_234 : decode cL_surveys 234 = .ok (.iconst 3, 1) := by decide +kernel
theorem dL_surveys_235 : decode cL_surveys 235 = .ok (.iload 13, 2) := by decide +kernel
theorem dL_surveys_237 : decode cL_surveys 237 = .ok (.iconst 0, 1) := by decide +kernel
theorem dL_surveys_238 : decode cL_surveys 238 = .ok (.iconst 0, 1) := by decide +kernel
theorem dL_surveys_239 : decode cL_surveys 239 = .ok (.invokestatic 162, 3) := by decide +kernel
theorem dL_surveys_242 : decode cL_surveys 242 = .ok (.iload 9, 2) := by decide +kernel
theorem dL_surveys_244 : decode cL_surveys 244 = .ok (.if_icmp .ne 37, 3) := by decide +kernel
theorem dL_surveys_247 : decode cL_surveys 247 = .ok (.aload_n 0, 1) := by decide +kernel
theorem dL_surveys_248 : decode cL_surveys 248 = .ok (.iconst 3, 1) := by decide +kernel
theorem dL_surveys_249 : decode cL_surveys 249 = .ok (.iload 13, 2) := by decide +kernel
theorem dL_surveys_251 : decode cL_surveys 251 = .ok (.bipush 7, 2) := by decide +kernel
theorem dL_surveys_253 : decode cL_surveys 253 = .ok (.iconst 0, 1) := by decide +kernel
theorem dL_surveys_254 : decode cL_surveys 254 = .ok (.invokestatic 162, 3) := by decide +kernel
theorem dL_surveys_257 : decode cL_surveys 257 = .ok (.iload 10, 2) := by decide +kernel
theorem dL_surveys_259 : decode cL_surveys 259 = .ok (.if_icmp .gt 22, 3) := by decide +kernel
theorem dL_surveys_262 : decode cL_surveys 262 = .ok (.iload 10, 2) := by decide +kernel
theorem dL_surveys_264 : decode cL_surveys 264 = .ok (.aload_n 0, 1) := by decide +kernel
theorem dL_surveys_265 : decode cL_surveys 265 = .ok (.iconst 3, 1) := by decide +kernel
theorem dL_surveys_266 : decode cL_surveys 266 = .ok (.iload 13, 2) := by decide +kernel
theorem dL_surveys_268 : decode cL_surveys 268 = .ok (.bipush 8, 2) := by decide +kernel
theorem dL_surveys_270 : decode cL_surveys 270 = .ok (.iconst 0, 1) := by decide +kernel
theorem dL_surveys_271 : decode cL_surveys 271 = .ok (.invokestatic 162, 3) := by decide +kernel
theorem dL_surveys_274 : decode cL_surveys 274 = .ok (.if_icmp .gt 7, 3) := by decide +kernel
theorem dL_surveys_277 : decode cL_surveys 277 = .ok (.iconst 1, 1) := by decide +kernel
theorem dL_surveys_278 : decode cL_surveys 278 = .ok (.goto 4, 3) := by decide +kernel
theorem dL_surveys_281 : decode cL_surveys 281 = .ok (.iconst 0, 1) := by decide +kernel
theorem dL_surveys_282 : decode cL_surveys 282 = .ok (.iadd, 1) := by decide +kernel
theorem dL_surveys_283 : decode cL_surveys 283 = .ok (.istore 12, 2) := by decide +kernel
theorem dL_surveys_285 : decode cL_surveys 285 = .ok (.iinc 13 1, 3) := by decide +kernel
theorem dL_surveys_288 : decode cL_surveys 288 = .ok (.goto (-64), 3) := by decide +kernel
theorem dL_surveys_291 : decode cL_surveys 291 = .ok (.aload_n 0, 1) := by decide +kernel
theorem dL_surveys_292 : decode cL_surveys 292 = .ok (.iconst 2, 1) := by decide +kernel
theorem dL_surveys_293 : decode cL_surveys 293 = .ok (.bipush 8, 2) := by decide +kernel
theorem dL_surveys_295 : decode cL_surveys 295 = .ok (.iconst 0, 1) := by decide +kernel
theorem dL_surveys_296 : decode cL_surveys 296 = .ok (.iconst 0, 1) := by decide +kernel
theorem dL_surveys_297 : decode cL_surveys 297 = .ok (.invokestatic 162, 3) := by decide +kernel
theorem dL_surveys_300 : decode cL_surveys 300 = .ok (.istore 13, 2) := by decide +kernel
theorem dL_surveys_302 : decode cL_surveys 302 = .ok (.aload_n 0, 1) := by decide +kernel
theorem dL_surveys_303 : decode cL_surveys 303 = .ok (.iconst 2, 1) := by decide +kernel
theorem dL_surveys_304 : decode cL_surveys 304 = .ok (.bipush 9, 2) := by decide +kernel
theorem dL_surveys_306 : decode cL_surveys 306 = .ok (.iconst 0, 1) := by decide +kernel
theorem dL_surveys_307 : decode cL_surveys 307 = .ok (.iconst 0, 1) := by decide +kernel
theorem dL_surveys_308 : decode cL_surveys 308 = .ok (.invokestatic 162, 3) := by decide +kernel
theorem dL_surveys_311 : decode cL_surveys 311 = .ok (.istore 14, 2) := by decide +kernel
theorem dL_surveys_313 : decode cL_surveys 313 = .ok (.aload_n 0, 1) := by decide +kernel
theorem dL_surveys_314 : decode cL_surveys 314 = .ok (.iconst 5, 1) := by decide +kernel
theorem dL_surveys_315 : decode cL_surveys 315 = .ok (.iload 9, 2) := by decide +kernel
theorem dL_surveys_317 : decode cL_surveys 317 = .ok (.iconst 1, 1) := by decide +kernel
theorem dL_surveys_318 : decode cL_surveys 318 = .ok (.iconst 0, 1) := by decide +kernel
theorem dL_surveys_319 : decode cL_surveys 319 = .ok (.invokestatic 162, 3) := by decide +kernel
theorem dL_surveys_322 : decode cL_surveys 322 = .ok (.istore 15, 2) := by decide +kernel
theorem dL_surveys_324 : decode cL_surveys 324 = .ok (.iload 8, 2) := by decide +kernel
theorem dL_surveys_326 : decode cL_surveys 326 = .ok (.ifCond .eq 134, 3) := by decide +kernel
theorem dL_surveys_329 : decode cL_surveys 329 = .ok (.aload_n 0, 1) := by decide +kernel
theorem dL_surveys_330 : decode cL_surveys 330 = .ok (.bipush 11, 2) := by decide +kernel
theorem dL_surveys_332 : decode cL_surveys 332 = .ok (.iload 9, 2) := by decide +kernel
theorem dL_surveys_334 : decode cL_surveys 334 = .ok (.iload 10, 2) := by decide +kernel
theorem dL_surveys_336 : decode cL_surveys 336 = .ok (.iconst 0, 1) := by decide +kernel
theorem dL_surveys_337 : decode cL_surveys 337 = .ok (.invokestatic 162, 3) := by decide +kernel
theorem dL_surveys_340 : decode cL_surveys 340 = .ok (.iload 12, 2) := by decide +kernel
theorem dL_surveys_342 : decode cL_surveys 342 = .ok (.if_icmp .ne 118, 3) := by decide +kernel
theorem dL_surveys_345 : decode cL_surveys 345 = .ok (.aload_n 1, 1) := by decide +kernel
theorem dL_surveys_346 : decode cL_surveys 346 = .ok (.bipush 11, 2) := by decide +kernel
theorem dL_surveys_348 : decode cL_surveys 348 = .ok (.iload 9, 2) := by decide +kernel
theorem dL_surveys_350 : decode cL_surveys 350 = .ok (.iload 10, 2) := by decide +kernel
theorem dL_surveys_352 : decode cL_surveys 352 = .ok (.iconst 0, 1) := by decide +kernel
theorem dL_surveys_353 : decode cL_surveys 353 = .ok (.invokestatic 162, 3) := by decide +kernel
theorem dL_surveys_356 : decode cL_surveys 356 = .ok (.iload 12, 2) := by decide +kernel
theorem dL_surveys_358 : decode cL_surveys 358 = .ok (.if_icmp .ne 102, 3) := by decide +kernel
theorem dL_surveys_361 : decode cL_surveys 361 = .ok (.aload_n 0, 1) := by decide +kernel
theorem dL_surveys_362 : decode cL_surveys 362 = .ok (.iconst 2, 1) := by decide +kernel
theorem dL_surveys_363 : decode cL_surveys 363 = .ok (.bipush 8, 2) := by decide +kernel
theorem dL_surveys_365 : decode cL_surveys 365 = .ok (.iconst 0, 1) := by decide +kernel
theorem dL_surveys_366 : decode cL_surveys 366 = .ok (.iconst 0, 1) := by decide +kernel
theorem dL_surveys_367 : decode cL_surveys 367 = .ok (.invokestatic 162, 3) := by decide +kernel
theorem dL_surveys_370 : decode cL_surveys 370 = .ok (.iload 13, 2) := by decide +kernel
theorem dL_surveys_372 : decode cL_surveys 372 = .ok (.iload 12, 2) := by decide +kernel
theorem dL_surveys_374 : decode cL_surveys 374 = .ok (.iadd, 1) := by decide +kernel
theorem dL_surveys_375 : decode cL_surveys 375 = .ok (.if_icmp .ne 85, 3) := by decide +kernel
theorem dL_surveys_378 : decode cL_surveys 378 = .ok (.aload_n 0, 1) := by decide +kernel
theorem dL_surveys_379 : decode cL_surveys 379 = .ok (.iconst 2, 1) := by decide +kernel
theorem dL_surveys_380 : decode cL_surveys 380 = .ok (.bipush 9, 2) := by decide +kernel
theorem dL_surveys_382 : decode cL_surveys 382 = .ok (.iconst 0, 1) := by decide +kernel
theorem dL_surveys_383 : decode cL_surveys 383 = .ok (.iconst 0, 1) := by decide +kernel
theorem dL_surveys_384 : decode cL_surveys 384 = .ok (.invokestatic 162, 3) := by decide +kernel
theorem dL_surveys_387 : decode cL_surveys 387 = .ok (.iload 14, 2) := by decide +kernel
theorem dL_surveys_389 : decode cL_surveys 389 = .ok (.iload 11, 2) := by decide +kernel
theorem dL_surveys_391 : decode cL_surveys 391 = .ok (.iadd, 1) := by decide +kernel
theorem dL_surveys_392 : decode cL_surveys 392 = .ok (.iload 12, 2) := by decide +kernel
theorem dL_surveys_394 : decode cL_surveys 394 = .ok (.isub, 1) := by decide +kernel
theorem dL_surveys_395 : decode cL_surveys 395 = .ok (.if_icmp .ne 65, 3) := by decide +kernel
theorem dL_surveys_398 : decode cL_surveys 398 = .ok (.aload_n 0, 1) := by decide +kernel
theorem dL_surveys_399 : decode cL_surveys 399 = .ok (.iconst 5, 1) := by decide +kernel
theorem dL_surveys_400 : decode cL_surveys 400 = .ok (.iload 9, 2) := by decide +kernel
theorem dL_surveys_402 : decode cL_surveys 402 = .ok (.iconst 0, 1) := by decide +kernel
theorem dL_surveys_403 : decode cL_surveys 403 = .ok (.iconst 0, 1) := by decide +kernel
theorem dL_surveys_404 : decode cL_surveys 404 = .ok (.invokestatic 162, 3) := by decide +kernel
theorem dL_surveys_407 : decode cL_surveys 407 = .ok (.ifCond .ne 53, 3) := by decide +kernel
theorem dL_surveys_410 : decode cL_surveys 410 = .ok (.aload_n 0, 1) := by decide +kernel
theorem dL_surveys_411 : decode cL_surveys 411 = .ok (.iconst 5, 1) := by decide +kernel
theorem dL_surveys_412 : decode cL_surveys 412 = .ok (.iload 9, 2) := by decide +kernel
theorem dL_surveys_414 : decode cL_surveys 414 = .ok (.iconst 1, 1) := by decide +kernel
theorem dL_surveys_415 : decode cL_surveys 415 = .ok (.iconst 0, 1) := by decide +kernel
theorem dL_surveys_416 : decode cL_surveys 416 = .ok (.invokestatic 162, 3) := by decide +kernel
theorem dL_surveys_419 : decode cL_surveys 419 = .ok (.iload 10, 2) := by decide +kernel
theorem dL_surveys_421 : decode cL_surveys 421 = .ok (.if_icmp .ne 39, 3) := by decide +kernel
theorem dL_surveys_424 : decode cL_surveys 424 = .ok (.aload_n 0, 1) := by decide +kernel
theorem dL_surveys_425 : decode cL_surveys 425 = .ok (.iconst 2, 1) := by decide +kernel
theorem dL_surveys_426 : decode cL_surveys 426 = .ok (.iconst 0, 1) := by decide +kernel
theorem dL_surveys_427 : decode cL_surveys 427 = .ok (.iconst 0, 1) := by decide +kernel
theorem dL_surveys_428 : decode cL_surveys 428 = .ok (.iconst 0, 1) := by decide +kernel
theorem dL_surveys_429 : decode cL_surveys 429 = .ok (.invokestatic 162, 3) := by decide +kernel
theorem dL_surveys_432 : decode cL_surveys 432 = .ok (.iload 6, 2) := by decide +kernel
theorem dL_surveys_434 : decode cL_surveys 434 = .ok (.iload 11, 2) := by decide +kernel
theorem dL_surveys_436 : decode cL_surveys 436 = .ok (.isub, 1) := by decide +kernel
theorem dL_surveys_437 : decode cL_surveys 437 = .ok (.if_icmp .ne 23, 3) := by decide +kernel
theorem dL_surveys_440 : decode cL_surveys 440 = .ok (.aload_n 0, 1) := by decide +kernel
theorem dL_surveys_441 : decode cL_surveys 441 = .ok (.bipush 7, 2) := by decide +kernel
theorem dL_surveys_443 : decode cL_surveys 443 = .ok (.iload 9, 2) := by decide +kernel
theorem dL_surveys_445 : decode cL_surveys 445 = .ok (.iconst 1, 1) := by decide +kernel
theorem dL_surveys_446 : decode cL_surveys 446 = .ok (.iconst 1, 1) := by decide +kernel
theorem dL_surveys_447 : decode cL_surveys 447 = .ok (.invokestatic 162, 3) := by decide +kernel
theorem dL_surveys_450 : decode cL_surveys 450 = .ok (.sipush 999, 3) := by decide +kernel
theorem dL_surveys_453 : decode cL_surveys 453 = .ok (.if_icmp .ne 7, 3) := by decide +kernel
theorem dL_surveys_456 : decode cL_surveys 456 = .ok (.iconst 1, 1) := by decide +kernel
theorem dL_surveys_457 : decode cL_surveys 457 = .ok (.goto 4, 3) := by decide +kernel
theorem dL_surveys_460 : decode cL_surveys 460 = .ok (.iconst 0, 1) := by decide +kernel
theorem dL_surveys_461 : decode cL_surveys 461 = .ok (.istore 8, 2) := by decide +kernel
theorem dL_surveys_463 : decode cL_surveys 463 = .ok (.iload 8, 2) := by decide +kernel
theorem dL_surveys_465 : decode cL_surveys 465 = .ok (.ifCond .eq 78, 3) := by decide +kernel
theorem dL_surveys_468 : decode cL_surveys 468 = .ok (.aload_n 0, 1) := by decide +kernel
theorem dL_surveys_469 : decode cL_surveys 469 = .ok (.bipush 13, 2) := by decide +kernel
theorem dL_surveys_471 : decode cL_surveys 471 = .ok (.iconst 0, 1) := by decide +kernel
theorem dL_surveys_472 : decode cL_surveys 472 = .ok (.iconst 0, 1) := by decide +kernel
theorem dL_surveys_473 : decode cL_surveys 473 = .ok (.iconst 0, 1) := by decide +kernel
theorem dL_surveys_474 : decode cL_surveys 474 = .ok (.invokestatic 162, 3) := by decide +kernel
theorem dL_surveys_477 : decode cL_surveys 477 = .ok (.invokestatic 212, 3) := by decide +kernel
theorem dL_surveys_480 : decode cL_surveys 480 = .ok (.ifCond .ne 63, 3) := by decide +kernel
theorem dL_surveys_483 : decode cL_surveys 483 = .ok (.aload_n 1, 1) := by decide +kernel
theorem dL_surveys_484 : decode cL_surveys 484 = .ok (.bipush 13, 2) := by decide +kernel
theorem dL_surveys_486 : decode cL_surveys 486 = .ok (.iconst 0, 1) := by decide +kernel
theorem dL_surveys_487 : decode cL_surveys 487 = .ok (.iconst 0, 1) := by decide +kernel
theorem dL_surveys_488 : decode cL_surveys 488 = .ok (.iconst 0, 1) := by decide +kernel
theorem dL_surveys_489 : decode cL_surveys 489 = .ok (.invokestatic 162, 3) := by decide +kernel
theorem dL_surveys_492 : decode cL_surveys 492 = .ok (.invokestatic 212, 3) := by decide +kernel
theorem dL_surveys_495 : decode cL_surveys 495 = .ok (.ifCond .ne 48, 3) := by decide +kernel
theorem dL_surveys_498 : decode cL_surveys 498 = .ok (.aload_n 0, 1) := by decide +kernel
theorem dL_surveys_499 : decode cL_surveys 499 = .ok (.iconst 5, 1) := by decide +kernel
theorem dL_surveys_500 : decode cL_surveys 500 = .ok (.iload 9, 2) := by decide +kernel
theorem dL_surveys_502 : decode cL_surveys 502 = .ok (.iconst 0, 1) := by decide +kernel
theorem dL_surveys_503 : decode cL_surveys 503 = .ok (.iconst 0, 1) := by decide +kernel
theorem dL_surveys_504 : decode cL_surveys 504 = .ok (.invokestatic 162, 3) := by decide +kernel
theorem dL_surveys_507 : decode cL_surveys 507 = .ok (.iload 11, 2) := by decide +kernel
theorem dL_surveys_509 : decode cL_surveys 509 = .ok (.if_icmp .ne 34, 3) := by decide +kernel
theorem dL_surveys_512 : decode cL_surveys 512 = .ok (.aload_n 0, 1) := by decide +kernel
theorem dL_surveys_513 : decode cL_surveys 513 = .ok (.iconst 5, 1) := by decide +kernel
theorem dL_surveys_514 : decode cL_surveys 514 = .ok (.iload 9, 2) := by decide +kernel
theorem dL_surveys_516 : decode cL_surveys 516 = .ok (.iconst 1, 1) := by decide +kernel
theorem dL_surveys_517 : decode cL_surveys 517 = .ok (.iconst 0, 1) := by decide +kernel
theorem dL_surveys_518 : decode cL_surveys 518 = .ok (.invokestatic 162, 3) := by decide +kernel
theorem dL_surveys_521 : decode cL_surveys 521 = .ok (.iload 15, 2) := by decide +kernel
theorem dL_surveys_523 : decode cL_surveys 523 = .ok (.if_icmp .ne 20, 3) := by decide +kernel
theorem dL_surveys_526 : decode cL_surveys 526 = .ok (.aload_n 0, 1) := by decide +kernel
theorem dL_surveys_527 : decode cL_surveys 527 = .ok (.iconst 2, 1) := by decide +kernel
theorem dL_surveys_528 : decode cL_surveys 528 = .ok (.bipush 6, 2) := by decide +kernel
theorem dL_surveys_530 : decode cL_surveys 530 = .ok (.iconst 0, 1) := by decide +kernel
theorem dL_surveys_531 : decode cL_surveys 531 = .ok (.iconst 0, 1) := by decide +kernel
theorem dL_surveys_532 : decode cL_surveys 532 = .ok (.invokestatic 162, 3) := by decide +kernel
theorem dL_surveys_535 : decode cL_surveys 535 = .ok (.iload_n 3, 1) := by decide +kernel
theorem dL_surveys_536 : decode cL_surveys 536 = .ok (.if_icmp .ne 7, 3) := by decide +kernel
theorem dL_surveys_539 : decode cL_surveys 539 = .ok (.iconst 1, 1) := by decide +kernel
theorem dL_surveys_540 : decode cL_surveys 540 = .ok (.goto 4, 3) := by decide +kernel
theorem dL_surveys_543 : decode cL_surveys 543 = .ok (.iconst 0, 1) := by decide +kernel
theorem dL_surveys_544 : decode cL_surveys 544 = .ok (.ireturn, 1) := by decide +kernel
theorem dL_drops_0 : decode cL_drops 0 = .ok (.aload_n 0, 1) := by decide +kernel
theorem dL_drops_1 : decode cL_drops 1 = .ok (.iconst 2, 1) := by decide +kernel
theorem dL_drops_2 : decode cL_drops 2 = .ok (.iconst 0, 1) := by decide +kernel
theorem dL_drops_3 : decode cL_drops 3 = .ok (.iconst 0, 1) := by decide +kernel
theorem dL_drops_4 : decode cL_drops 4 = .ok (.iconst 0, 1) := by decide +kernel
theorem dL_drops_5 : decode cL_drops 5 = .ok (.invokestatic 162, 3) := by decide +kernel
theorem dL_drops_8 : decode cL_drops 8 = .ok (.istore_n 3, 1) := by decide +kernel
theorem dL_drops_9 : decode cL_drops 9 = .ok (.iload_n 3, 1) := by decide +kernel
theorem dL_drops_10 : decode cL_drops 10 = .ok (.ifCond .ne 5, 3) := by decide +kernel
theorem dL_drops_13 : decode cL_drops 13 = .ok (.iconst 1, 1) := by decide +kernel
theorem dL_drops_14 : decode cL_drops 14 = .ok (.ireturn, 1) := by decide +kernel
theorem dL_drops_15 : decode cL_drops 15 = .ok (.iload_n 2, 1) := by decide +kernel
theorem dL_drops_16 : decode cL_drops 16 = .ok (.iload_n 3, 1) := by decide +kernel
theorem dL_drops_17 : decode cL_drops 17 = .ok (.irem, 1) := by decide +kernel
theorem dL_drops_18 : decode cL_drops 18 = .ok (.istore 4, 2) := by decide +kernel
theorem dL_drops_20 : decode cL_drops 20 = .ok (.aload_n 0, 1) := by decide +kernel
theorem dL_drops_21 : decode cL_drops 21 = .ok (.iconst 3, 1) := by decide +kernel
theorem dL_drops_22 : decode cL_drops 22 = .ok (.iload 4, 2) := by decide +kernel
theorem dL_drops_24 : decode cL_drops 24 = .ok (.iconst 0, 1) := by decide +kernel
theorem dL_drops_25 : decode cL_drops 25 = .ok (.iconst 0, 1) := by decide +kernel
theorem dL_drops_26 : decode cL_drops 26 = .ok (.invokestatic 162, 3) := by decide +kernel
theorem dL_drops_29 : decode cL_drops 29 = .ok (.istore 5, 2) := by decide +kernel
theorem dL_drops_31 : decode cL_drops 31 = .ok (.aload_n 0, 1) := by decide +kernel
theorem dL_drops_32 : decode cL_drops 32 = .ok (.iconst 3, 1) := by decide +kernel
theorem dL_drops_33 : decode cL_drops 33 = .ok (.iload 4, 2) := by decide +kernel
theorem dL_drops_35 : decode cL_drops 35 = .ok (.iconst 1, 1) := by decide +kernel
theorem dL_drops_36 : decode cL_drops 36 = .ok (.iconst 0, 1) := by decide +kernel
theorem dL_drops_37 : decode cL_drops 37 = .ok (.invokestatic 162, 3) := by decide +kernel
theorem dL_drops_40 : decode cL_drops 40 = .ok (.istore 6, 2) := by decide +kernel
theorem dL_drops_42 : decode cL_drops 42 = .ok (.aload_n 0, 1) := by decide +kernel
theorem dL_drops_43 : decode cL_drops 43 = .ok (.bipush 16, 2) := by decide +kernel
theorem dL_drops_45 : decode cL_drops 45 = .ok (.iload 4, 2) := by decide +kernel
theorem dL_drops_47 : decode cL_drops 47 = .ok (.iconst 0, 1) := by decide +kernel
theorem dL_drops_48 : decode cL_drops 48 = .ok (.iconst 0, 1) := by decide +kernel
theorem dL_drops_49 : decode cL_drops 49 = .ok (.invokestatic 162, 3) := by decide +kernel
theorem dL_drops_52 : decode cL_drops 52 = .ok (.istore 7, 2) := by decide +kernel
theorem dL_drops_54 : decode cL_drops 54 = .ok (.aload_n 0, 1) := by decide +kernel
theorem dL_drops_55 : decode cL_drops 55 = .ok (.bipush 16, 2) := by decide +kernel
theorem dL_drops_57 : decode cL_drops 57 = .ok (.iload 4, 2) := by decide +kernel
theorem dL_drops_59 : decode cL_drops 59 = .ok (.iconst 1, 1) := by decide +kernel
theorem dL_drops_60 : decode cL_drops 60 = .ok (.iconst 0, 1) := by decide +kernel
theorem dL_drops_61 : decode cL_drops 61 = .ok (.invokestatic 162, 3) := by decide +kernel
theorem dL_drops_64 : decode cL_drops 64 = .ok (.istore 8, 2) := by decide +kernel
theorem dL_drops_66 : decode cL_drops 66 = .ok (.aload_n 0, 1) := by decide +kernel
theorem dL_drops_67 : decode cL_drops 67 = .ok (.bipush 16, 2) := by decide +kernel
theorem dL_drops_69 : decode cL_drops 69 = .ok (.iload 4, 2) := by decide +kernel
theorem dL_drops_71 : decode cL_drops 71 = .ok (.iconst 2, 1) := by decide +kernel
theorem dL_drops_72 : decode cL_drops 72 = .ok (.iconst 0, 1) := by decide +kernel
theorem dL_drops_73 : decode cL_drops 73 = .ok (.invokestatic 162, 3) := by decide +kernel
theorem dL_drops_76 : decode cL_drops 76 = .ok (.istore 9, 2) := by decide +kernel
theorem dL_drops_78 : decode cL_drops 78 = .ok (.aload_n 0, 1) := by decide +kernel
theorem dL_drops_79 : decode cL_drops 79 = .ok (.iconst 3, 1) := by decide +kernel
theorem dL_drops_80 : decode cL_drops 80 = .ok (.iload 4, 2) := by decide +kernel
theorem dL_drops_82 : decode cL_drops 82 = .ok (.bipush 9, 2) := by decide +kernel
theorem dL_drops_84 : decode cL_drops 84 = .ok (.iconst 0, 1) := by decide +kernel
theorem dL_drops_85 : decode cL_drops 85 = .ok (.invokestatic 162, 3) := by decide +kernel
theorem dL_drops_88 : decode cL_drops 88 = .ok (.istore 10, 2) := by decide +kernel
theorem dL_drops_90 : decode cL_drops 90 = .ok (.aload_n 0, 1) := by decide +kernel
theorem dL_drops_91 : decode cL_drops 91 = .ok (.bipush 7, 2) := by decide +kernel
theorem dL_drops_93 : decode cL_drops 93 = .ok (.iload 5, 2) := by decide +kernel
theorem dL_drops_95 : decode cL_drops 95 = .ok (.iconst 2, 1) := by decide +kernel
theorem dL_drops_96 : decode cL_drops 96 = .ok (.iconst 1, 1) := by decide +kernel
theorem dL_drops_97 : decode cL_drops 97 = .ok (.invokestatic 162, 3) := by decide +kernel
theorem dL_drops_100 : decode cL_drops 100 = .ok (.istore 11, 2) := by decide +kernel
theorem dL_drops_102 : decode cL_drops 102 = .ok (.iload 9, 2) := by decide +kernel
theorem dL_drops_104 : decode cL_drops 104 = .ok (.iload 11, 2) := by decide +kernel
theorem dL_drops_106 : decode cL_drops 106 = .ok (.if_icmp .gt 145, 3) := by decide +kernel
theorem dL_drops_109 : decode cL_drops 109 = .ok (.iload 11, 2) := by decide +kernel
theorem dL_drops_111 : decode cL_drops 111 = .ok (.iload 9, 2) := by decide +kernel
theorem dL_drops_113 : decode cL_drops 113 = .ok (.iload 10, 2) := by decide +kernel
theorem dL_drops_115 : decode cL_drops 115 = .ok (.iadd, 1) := by decide +kernel
theorem dL_drops_116 : decode cL_drops 116 = .ok (.if_icmp .gt 135, 3) := by decide +kernel
theorem dL_drops_119 : decode cL_drops 119 = .ok (.aload_n 0, 1) := by decide +kernel
theorem dL_drops_120 : decode cL_drops 120 = .ok (.bipush 9, 2) := by decide +kernel
theorem dL_drops_122 : decode cL_drops 122 = .ok (.iload 4, 2) := by decide +kernel
theorem dL_drops_124 : decode cL_drops 124 = .ok (.iconst 0, 1) := by decide +kernel
theorem dL_drops_125 : decode cL_drops 125 = .ok (.iconst 0, 1) := by decide +kernel
theorem dL_drops_126 : decode cL_drops 126 = .ok (.invokestatic 162, 3) := by decide +kernel
theorem dL_drops_129 : decode cL_drops 129 = .ok (.iload_n 3, 1) := by decide +kernel
theorem dL_drops_130 : decode cL_drops 130 = .ok (.iconst 1, 1) := by decide +kernel
theorem dL_drops_131 : decode cL_drops 131 = .ok (.isub, 1) := by decide +kernel
theorem dL_drops_132 : decode cL_drops 132 = .ok (.if_icmp .ne 119, 3) := by decide +kernel
theorem dL_drops_135 : decode cL_drops 135 = .ok (.aload_n 1, 1) := by decide +kernel
theorem dL_drops_136 : decode cL_drops 136 = .ok (.bipush 9, 2) := by decide +kernel
theorem dL_drops_138 : decode cL_drops 138 = .ok (.iload 4, 2) := by decide +kernel
theorem dL_drops_140 : decode cL_drops 140 = .ok (.iconst 0, 1) := by decide +kernel
theorem dL_drops_141 : decode cL_drops 141 = .ok (.iconst 0, 1) := by decide +kernel
theorem dL_drops_142 : decode cL_drops 142 = .ok (.invokestatic 162, 3) := by decide +kernel
theorem dL_drops_145 : decode cL_drops 145 = .ok (.iload_n 3, 1) := by decide +kernel
theorem dL_drops_146 : decode cL_drops 146 = .ok (.iconst 1, 1) := by decide +kernel
theorem dL_drops_147 : decode cL_drops 147 = .ok (.isub, 1) := by decide +kernel
theorem dL_drops_148 : decode cL_drops 148 = .ok (.if_icmp .ne 103, 3) := by decide +kernel
theorem dL_drops_151 : decode cL_drops 151 = .ok (.aload_n 0, 1) := by decide +kernel
theorem dL_drops_152 : decode cL_drops 152 = .ok (.bipush 7, 2) := by decide +kernel
theorem dL_drops_154 : decode cL_drops 154 = .ok (.iload 5, 2) := by decide +kernel
theorem dL_drops_156 : decode cL_drops 156 = .ok (.iconst 0, 1) := by decide +kernel
theorem dL_drops_157 : decode cL_drops 157 = .ok (.iload_n 2, 1) := by decide +kernel
theorem dL_drops_158 : decode cL_drops 158 = .ok (.iconst 2, 1) := by decide +kernel
theorem dL_drops_159 : decode cL_drops 159 = .ok (.irem, 1) := by decide +kernel
theorem dL_drops_160 : decode cL_drops 160 = .ok (.invokestatic 162, 3) := by decide +kernel
theorem dL_drops_163 : decode cL_drops 163 = .ok (.iload 7, 2) := by decide +kernel
theorem dL_drops_165 : decode cL_drops 165 = .ok (.if_icmp .ne 86, 3) := by decide +kernel
theorem dL_drops_168 : decode cL_drops 168 = .ok (.aload_n 0, 1) := by decide +kernel
theorem dL_drops_169 : decode cL_drops 169 = .ok (.bipush 7, 2) := by decide +kernel
theorem dL_drops_171 : decode cL_drops 171 = .ok (.iload 5, 2) := by decide +kernel
theorem dL_drops_173 : decode cL_drops 173 = .ok (.iconst 1, 1) := by decide +kernel
theorem dL_drops_174 : decode cL_drops 174 = .ok (.iload_n 2, 1) := by decide +kernel
theorem dL_drops_175 : decode cL_drops 175 = .ok (.iconst 2, 1) := by decide +kernel
theorem dL_drops_176 : decode cL_drops 176 = .ok (.irem, 1) := by decide +kernel
theorem dL_drops_177 : decode cL_drops 177 = .ok (.invokestatic 162, 3) := by decide +kernel
theorem dL_drops_180 : decode cL_drops 180 = .ok (.iload 8, 2) := by decide +kernel
theorem dL_drops_182 : decode cL_drops 182 = .ok (.if_icmp .ne 69, 3) := by decide +kernel
theorem dL_drops_185 : decode cL_drops 185 = .ok (.aload_n 0, 1) := by decide +kernel
theorem dL_drops_186 : decode cL_drops 186 = .ok (.bipush 7, 2) := by decide +kernel
theorem dL_drops_188 : decode cL_drops 188 = .ok (.iload 5, 2) := by decide +kernel
theorem dL_drops_190 : decode cL_drops 190 = .ok (.iconst 2, 1) := by decide +kernel
theorem dL_drops_191 : decode cL_drops 191 = .ok (.iload_n 2, 1) := by decide +kernel
theorem dL_drops_192 : decode cL_drops 192 = .ok (.iconst 2, 1) := by decide +kernel
theorem dL_drops_193 : decode cL_drops 193 = .ok (.irem, 1) := by decide +kernel
theorem dL_drops_194 : decode cL_drops 194 = .ok (.invokestatic 162, 3) := by decide +kernel
theorem dL_drops_197 : decode cL_drops 197 = .ok (.iload 9, 2) := by decide +kernel
theorem dL_drops_199 : decode cL_drops 199 = .ok (.if_icmp .ne 52, 3) := by decide +kernel
theorem dL_drops_202 : decode cL_drops 202 = .ok (.aload_n 0, 1) := by decide +kernel
theorem dL_drops_203 : decode cL_drops 203 = .ok (.bipush 13, 2) := by decide +kernel
theorem dL_drops_205 : decode cL_drops 205 = .ok (.iconst 0, 1) := by decide +kernel
theorem dL_drops_206 : decode cL_drops 206 = .ok (.iconst 0, 1) := by decide +kernel
theorem dL_drops_207 : decode cL_drops 207 = .ok (.iconst 0, 1) := by decide +kernel
theorem dL_drops_208 : decode cL_drops 208 = .ok (.invokestatic 162, 3) := by decide +kernel
theorem dL_drops_211 : decode cL_drops 211 = .ok (.invokestatic 212, 3) := by decide +kernel
theorem dL_drops_214 : decode cL_drops 214 = .ok (.ifCond .ne 37, 3) := by decide +kernel
theorem dL_drops_217 : decode cL_drops 217 = .ok (.aload_n 1, 1) := by decide +kernel
theorem dL_drops_218 : decode cL_drops 218 = .ok (.bipush 13, 2) := by decide +kernel
theorem dL_drops_220 : decode cL_drops 220 = .ok (.iconst 0, 1) := by decide +kernel
theorem dL_drops_221 : decode cL_drops 221 = .ok (.iconst 0, 1) := by decide +kernel
theorem dL_drops_222 : decode cL_drops 222 = .ok (.iconst 0, 1) := by decide +kernel
theorem dL_drops_223 : decode cL_drops 223 = .ok (.invokestatic 162, 3) := by decide +kernel
theorem dL_drops_226 : decode cL_drops 226 = .ok (.invokestatic 212, 3) := by decide +kernel
theorem dL_drops_229 : decode cL_drops 229 = .ok (.ifCond .ne 22, 3) := by decide +kernel
theorem dL_drops_232 : decode cL_drops 232 = .ok (.aload_n 0, 1) := by decide +kernel
theorem dL_drops_233 : decode cL_drops 233 = .ok (.iconst 3, 1) := by decide +kernel
theorem dL_drops_234 : decode cL_drops 234 = .ok (.iload 4, 2) := by decide +kernel
theorem dL_drops_236 : decode cL_drops 236 = .ok (.bipush 9, 2) := by decide +kernel
theorem dL_drops_238 : decode cL_drops 238 = .ok (.iconst 0, 1) := by decide +kernel
theorem dL_drops_239 : decode cL_drops 239 = .ok (.invokestatic 162, 3) := by decide +kernel
theorem dL_drops_242 : decode cL_drops 242 = .ok (.iload 10, 2) := by decide +kernel
theorem dL_drops_244 : decode cL_drops 244 = .ok (.if_icmp .ne 7, 3) := by decide +kernel
theorem dL_drops_247 : decode cL_drops 247 = .ok (.iconst 1, 1) := by decide +kernel
theorem dL_drops_248 : decode cL_drops 248 = .ok (.goto 4, 3) := by decide +kernel
theorem dL_drops_251 : decode cL_drops 251 = .ok (.iconst 0, 1) := by decide +kernel
theorem dL_drops_252 : decode cL_drops 252 = .ok (.istore 12, 2) := by decide +kernel
theorem dL_drops_254 : decode cL_drops 254 = .ok (.aload_n 0, 1) := by decide +kernel
theorem dL_drops_255 : decode cL_drops 255 = .ok (.bipush 17, 2) := by decide +kernel
theorem dL_drops_257 : decode cL_drops 257 = .ok (.iload 6, 2) := by decide +kernel
theorem dL_drops_259 : decode cL_drops 259 = .ok (.iload 5, 2) := by decide +kernel
theorem dL_drops_261 : decode cL_drops 261 = .ok (.iconst 0, 1) := by decide +kernel
theorem dL_drops_262 : decode cL_drops 262 = .ok (.invokestatic 162, 3) := by decide +kernel
theorem dL_drops_265 : decode cL_drops 265 = .ok (.istore 13, 2) := by decide +kernel
theorem dL_drops_267 : decode cL_drops 267 = .ok (.aload_n 0, 1) := by decide +kernel
theorem dL_drops_268 : decode cL_drops 268 = .ok (.iconst 4, 1) := by decide +kernel
theorem dL_drops_269 : decode cL_drops 269 = .ok (.iload 6, 2) := by decide +kernel
theorem dL_drops_271 : decode cL_drops 271 = .ok (.iconst 0, 1) := by decide +kernel
theorem dL_drops_272 : decode cL_drops 272 = .ok (.iconst 0, 1) := by decide +kernel
theorem dL_drops_273 : decode cL_drops 273 = .ok (.invokestatic 162, 3) := by decide +kernel
theorem dL_drops_276 : decode cL_drops 276 = .ok (.istore 14, 2) := by decide +kernel
theorem dL_drops_278 : decode cL_drops 278 = .ok (.iload 13, 2) := by decide +kernel
theorem dL_drops_280 : decode cL_drops 280 = .ok (.iconst (-1), 1) := by decide +kernel
theorem dL_drops_281 : decode cL_drops 281 = .ok (.if_icmp .ne 13, 3) := by decide +kernel
theorem dL_drops_284 : decode cL_drops 284 = .ok (.iload_n 2, 1) := by decide +kernel
theorem dL_drops_285 : decode cL_drops 285 = .ok (.bipush 16, 2) := by decide +kernel
theorem dL_drops_287 : decode cL_drops 287 = .ok (.idiv, 1) := by decide +kernel
theorem dL_drops_288 : decode cL_drops 288 = .ok (.bipush 10, 2) := by decide +kernel
theorem dL_drops_290 : decode cL_drops 290 = .ok (.irem, 1) := by decide +kernel
theorem dL_drops_291 : decode cL_drops 291 = .ok (.goto 26, 3) := by decide +kernel
theorem dL_drops_294 : decode cL_drops 294 = .ok (.iload_n 2, 1) := by decide +kernel
theorem dL_drops_295 : decode cL_drops 295 = .ok (.bipush 16, 2) := by decide +kernel
theorem dL_drops_297 : decode cL_drops 297 = .ok (.idiv, 1) := by decide +kernel
theorem dL_drops_298 : decode cL_drops 298 = .ok (.iconst 2, 1) := by decide +kernel
theorem dL_drops_299 : decode cL_drops 299 = .ok (.irem, 1) := by decide +kernel
theorem dL_drops_300 : decode cL_drops 300 = .ok (.ifCond .ne 8, 3) := by decide +kernel
theorem dL_drops_303 : decode cL_drops 303 = .ok (.iload 13, 2) := by decide +kernel
theorem dL_drops_305 : decode cL_drops 305 = .ok (.goto 12, 3) := by decide +kernel
theorem dL_drops_308 : decode cL_drops 308 = .ok (.iload_n 2, 1) := by decide +kernel
theorem dL_drops_309 : decode cL_drops 309 = .ok (.bipush 32, 2) := by decide +kernel
theorem dL_drops_311 : decode cL_drops 311 = .ok (.idiv, 1) := by decide +kernel
theorem dL_drops_312 : decode cL_drops 312 = .ok (.iload 13, 2) := by decide +kernel
theorem dL_drops_314 : decode cL_drops 314 = .ok (.iconst 1, 1) := by decide +kernel
theorem dL_drops_315 : decode cL_drops 315 = .ok (.iadd, 1) := by decide +kernel
theorem dL_drops_316 : decode cL_drops 316 = .ok (.irem, 1) := by decide +kernel
theorem dL_drops_317 : decode cL_drops 317 = .ok (.istore 15, 2) := by decide +kernel
theorem dL_drops_319 : decode cL_drops 319 = .ok (.iload 12, 2) := by decide +kernel
theorem dL_drops_321 : decode cL_drops 321 = .ok (.ifCond .eq 39, 3) := by decide +kernel
theorem dL_drops_324 : decode cL_drops 324 = .ok (.aload_n 0, 1) := by decide +kernel
theorem dL_drops_325 : decode cL_drops 325 = .ok (.bipush 10, 2) := by decide +kernel
theorem dL_drops_327 : decode cL_drops 327 = .ok (.iload 6, 2) := by decide +kernel
theorem dL_drops_329 : decode cL_drops 329 = .ok (.iload 15, 2) := by decide +kernel
theorem dL_drops_331 : decode cL_drops 331 = .ok (.iconst 0, 1) := by decide +kernel
theorem dL_drops_332 : decode cL_drops 332 = .ok (.invokestatic 162, 3) := by decide +kernel
theorem dL_drops_335 : decode cL_drops 335 = .ok (.iload 14, 2) := by decide +kernel
theorem dL_drops_337 : decode cL_drops 337 = .ok (.if_icmp .ne 23, 3) := by decide +kernel
theorem dL_drops_340 : decode cL_drops 340 = .ok (.aload_n 1, 1) := by decide +kernel
theorem dL_drops_341 : decode cL_drops 341 = .ok (.bipush 10, 2) := by decide +kernel
theorem dL_drops_343 : decode cL_drops 343 = .ok (.iload 6, 2) := by decide +kernel
theorem dL_drops_345 : decode cL_drops 345 = .ok (.iload 15, 2) := by decide +kernel
theorem dL_drops_347 : decode cL_drops 347 = .ok (.iconst 0, 1) := by decide +kernel
theorem dL_drops_348 : decode cL_drops 348 = .ok (.invokestatic 162, 3) := by decide +kernel
theorem dL_drops_351 : decode cL_drops 351 = .ok (.iload 14, 2) := by decide +kernel
theorem dL_drops_353 : decode cL_drops 353 = .ok (.if_icmp .ne 7, 3) := by decide +kernel
theorem dL_drops_356 : decode cL_drops 356 = .ok (.iconst 1, 1) := by decide +kernel
theorem dL_drops_357 : decode cL_drops 357 = .ok (.goto 4, 3) := by decide +kernel
theorem dL_drops_360 : decode cL_drops 360 = .ok (.iconst 0, 1) := by decide +kernel
theorem dL_drops_361 : decode cL_drops 361 = .ok (.istore 12, 2) := by decide +kernel
theorem dL_drops_363 : decode cL_drops 363 = .ok (.aload_n 0, 1) := by decide +kernel
theorem dL_drops_364 : decode cL_drops 364 = .ok (.bipush 7, 2) := by decide +kernel
theorem dL_drops_366 : decode cL_drops 366 = .ok (.iload 5, 2) := by decide +kernel
theorem dL_drops_368 : decode cL_drops 368 = .ok (.iconst 0, 1) := by decide +kernel
theorem dL_drops_369 : decode cL_drops 369 = .ok (.iconst 1, 1) := by decide +kernel
theorem dL_drops_370 : decode cL_drops 370 = .ok (.invokestatic 162, 3) := by decide +kernel
theorem dL_drops_373 : decode cL_drops 373 = .ok (.istore 16, 2) := by decide +kernel
theorem dL_drops_375 : decode cL_drops 375 = .ok (.iconst 0, 1) := by decide +kernel
theorem dL_drops_376 : decode cL_drops 376 = .ok (.istore 17, 2) := by decide +kernel
theorem dL_drops_378 : decode cL_drops 378 = .ok (.iconst 0, 1) := by decide +kernel
theorem dL_drops_379 : decode cL_drops 379 = .ok (.istore 18, 2) := by decide +kernel
theorem dL_drops_381 : decode cL_drops 381 = .ok (.iload 18, 2) := by decide +kernel
theorem dL_drops_383 : decode cL_drops 383 = .ok (.iload_n 3, 1) := by decide +kernel
theorem dL_drops_384 : decode cL_drops 384 = .ok (.if_icmp .ge 84, 3) := by decide +kernel
theorem dL_drops_387 : decode cL_drops 387 = .ok (.iload 12, 2) := by decide +kernel
theorem dL_drops_389 : decode cL_drops 389 = .ok (.ifCond .eq 79, 3) := by decide +kernel
theorem dL_drops_392 : decode cL_drops 392 = .ok (.iload 17, 2) := by decide +kernel
theorem dL_drops_394 : decode cL_drops 394 = .ok (.ifCond .ne 61, 3) := by decide +kernel
theorem dL_drops_397 : decode cL_drops 397 = .ok (.aload_n 0, 1) := by decide +kernel
theorem dL_drops_398 : decode cL_drops 398 = .ok (.iconst 3, 1) := by decide +kernel
theorem dL_drops_399 : decode cL_drops 399 = .ok (.iload 18, 2) := by decide +kernel
theorem dL_drops_401 : decode cL_drops 401 = .ok (.iconst 0, 1) := by decide +kernel
theorem dL_drops_402 : decode cL_drops 402 = .ok (.iconst 0, 1) := by decide +kernel
theorem dL_drops_403 : decode cL_drops 403 = .ok (.invokestatic 162, 3) := by decide +kernel
theorem dL_drops_406 : decode cL_drops 406 = .ok (.iload 5, 2) := by decide +kernel
theorem dL_drops_408 : decode cL_drops 408 = .ok (.if_icmp .ne 51, 3) := by decide +kernel
theorem dL_drops_411 : decode cL_drops 411 = .ok (.aload_n 0, 1) := by decide +kernel
theorem dL_drops_412 : decode cL_drops 412 = .ok (.iconst 3, 1) := by decide +kernel
theorem dL_drops_413 : decode cL_drops 413 = .ok (.iload 18, 2) := by decide +kernel
theorem dL_drops_415 : decode cL_drops 415 = .ok (.iconst 1, 1) := by decide +kernel
theorem dL_drops_416 : decode cL_drops 416 = .ok (.iconst 0, 1) := by decide +kernel
theorem dL_drops_417 : decode cL_drops 417 = .ok (.invokestatic 162, 3) := by decide +kernel
theorem dL_drops_420 : decode cL_drops 420 = .ok (.iload 6, 2) := by decide +kernel
theorem dL_drops_422 : decode cL_drops 422 = .ok (.if_icmp .ne 37, 3) := by decide +kernel
theorem dL_drops_425 : decode cL_drops 425 = .ok (.aload_n 0, 1) := by decide +kernel
theorem dL_drops_426 : decode cL_drops 426 = .ok (.iconst 3, 1) := by decide +kernel
theorem dL_drops_427 : decode cL_drops 427 = .ok (.iload 18, 2) := by decide +kernel
theorem dL_drops_429 : decode cL_drops 429 = .ok (.bipush 7, 2) := by decide +kernel
theorem dL_drops_431 : decode cL_drops 431 = .ok (.iconst 0, 1) := by decide +kernel
theorem dL_drops_432 : decode cL_drops 432 = .ok (.invokestatic 162, 3) := by decide +kernel
theorem dL_drops_435 : decode cL_drops 435 = .ok (.iload 16, 2) := by decide +kernel
theorem dL_drops_437 : decode cL_drops 437 = .ok (.if_icmp .gt 22, 3) := by decide +kernel
theorem dL_drops_440 : decode cL_drops 440 = .ok (.iload 16, 2) := by decide +kernel
theorem dL_drops_442 : decode cL_drops 442 = .ok (.aload_n 0, 1) := by decide +kernel
theorem dL_drops_443 : decode cL_drops 443 = .ok (.iconst 3, 1) := by decide +kernel
theorem dL_drops_444 : decode cL_drops 444 = .ok (.iload 18, 2) := by decide +kernel
theorem dL_drops_446 : decode cL_drops 446 = .ok (.bipush 8, 2) := by decide +kernel
theorem dL_drops_448 : decode cL_drops 448 = .ok (.iconst 0, 1) := by decide +kernel
theorem dL_drops_449 : decode cL_drops 449 = .ok (.invokestatic 162, 3) := by decide +kernel
theorem dL_drops_452 : decode cL_drops 452 = .ok (.if_icmp .gt 7, 3) := by decide +kernel
theorem dL_drops_455 : decode cL_drops 455 = .ok (.iconst 1, 1) := by decide +kernel
theorem dL_drops_456 : decode cL_drops 456 = .ok (.goto 4, 3) := by decide +kernel
theorem dL_drops_459 : decode cL_drops 459 = .ok (.iconst 0, 1) := by decide +kernel
theorem dL_drops_460 : decode cL_drops 460 = .ok (.istore 17, 2) := by decide +kernel
theorem dL_drops_462 : decode cL_drops 462 = .ok (.iinc 18 1, 3) := by decide +kernel
theorem dL_drops_465 : decode cL_drops 465 = .ok (.goto (-84), 3) := by decide +kernel
theorem dL_drops_468 : decode cL_drops 468 = .ok (.iload 12, 2) := by decide +kernel
theorem dL_drops_470 : decode cL_drops 470 = .ok (.ifCond .eq 74, 3) := by decide +kernel
theorem dL_drops_473 : decode cL_drops 473 = .ok (.iload 17, 2) := by decide +kernel
theorem dL_drops_475 : decode cL_drops 475 = .ok (.iload 13, 2) := by decide +kernel
theorem dL_drops_477 : decode cL_drops 477 = .ok (.iconst (-1), 1) := by decide +kernel
theorem dL_drops_478 : decode cL_drops 478 = .ok (.if_icmp .eq 14, 3) := by decide +kernel
theorem dL_drops_481 : decode cL_drops 481 = .ok (.iload 15, 2) := by decide +kernel
theorem dL_drops_483 : decode cL_drops 483 = .ok (.iload 13, 2) := by decide +kernel
theorem dL_drops_485 : decode cL_drops 485 = .ok (.if_icmp .ne 7, 3) := by decide +kernel
theorem dL_drops_488 : decode cL_drops 488 = .ok (.iconst 1, 1) := by decide +kernel
theorem dL_drops_489 : decode cL_drops 489 = .ok (.goto 4, 3) := by decide +kernel
theorem dL_drops_492 : decode cL_drops 492 = .ok (.iconst 0, 1) := by decide +kernel
theorem dL_drops_493 : decode cL_drops 493 = .ok (.if_icmp .ne 51, 3) := by decide +kernel
theorem dL_drops_496 : decode cL_drops 496 = .ok (.aload_n 0, 1) := by decide +kernel
theorem dL_drops_497 : decode cL_drops 497 = .ok (.bipush 13, 2) := by decide +kernel
theorem dL_drops_499 : decode cL_drops 499 = .ok (.iconst 0, 1) := by decide +kernel
theorem dL_drops_500 : decode cL_drops 500 = .ok (.iconst 0, 1) := by decide +kernel
theorem dL_drops_501 : decode cL_drops 501 = .ok (.iconst 0, 1) := by decide +kernel
theorem dL_drops_502 : decode cL_drops 502 = .ok (.invokestatic 162, 3) := by decide +kernel
theorem dL_drops_505 : decode cL_drops 505 = .ok (.invokestatic 212, 3) := by decide +kernel
theorem dL_drops_508 : decode cL_drops 508 = .ok (.ifCond .ne 36, 3) := by decide +kernel
theorem dL_drops_511 : decode cL_drops 511 = .ok (.aload_n 1, 1) := by decide +kernel
theorem dL_drops_512 : decode cL_drops 512 = .ok (.bipush 13, 2) := by decide +kernel
theorem dL_drops_514 : decode cL_drops 514 = .ok (.iconst 0, 1) := by decide +kernel
theorem dL_drops_515 : decode cL_drops 515 = .ok (.iconst 0, 1) := by decide +kernel
theorem dL_drops_516 : decode cL_drops 516 = .ok (.iconst 0, 1) := by decide +kernel
theorem dL_drops_517 : decode cL_drops 517 = .ok (.invokestatic 162, 3) := by decide +kernel
theorem dL_drops_520 : decode cL_drops 520 = .ok (.invokestatic 212, 3) := by decide +kernel
theorem dL_drops_523 : decode cL_drops 523 = .ok (.ifCond .ne 21, 3) := by decide +kernel
theorem dL_drops_526 : decode cL_drops 526 = .ok (.aload_n 0, 1) := by decide +kernel
theorem dL_drops_527 : decode cL_drops 527 = .ok (.iconst 4, 1) := by decide +kernel
theorem dL_drops_528 : decode cL_drops 528 = .ok (.iload 6, 2) := by decide +kernel
theorem dL_drops_530 : decode cL_drops 530 = .ok (.iconst 0, 1) := by decide +kernel
theorem dL_drops_531 : decode cL_drops 531 = .ok (.iconst 0, 1) := by decide +kernel
theorem dL_drops_532 : decode cL_drops 532 = .ok (.invokestatic 162, 3) := by decide +kernel
theorem dL_drops_535 : decode cL_drops 535 = .ok (.iload 14, 2) := by decide +kernel
theorem dL_drops_537 : decode cL_drops 537 = .ok (.if_icmp .ne 7, 3) := by decide +kernel
theorem dL_drops_540 : decode cL_drops 540 = .ok (.iconst 1, 1) := by decide +kernel
theorem dL_drops_541 : decode cL_drops 541 = .ok (.goto 4, 3) := by decide +kernel
theorem dL_drops_544 : decode cL_drops 544 = .ok (.iconst 0, 1) := by decide +kernel
theorem dL_drops_545 : decode cL_drops 545 = .ok (.ireturn, 1) := by decide +kernel
end
section
/-! The abstract heap: what lies at an address; the judgement qX of a walk over it; one row an instruction. Kinds of arrays: 0 int, 1 boolean, 2 Parish, 3 long, 4 an int array that nobody writes (statics, the script). -/
abbrev qE : Type := (Nat × vp_A) ⊕ (Nat × List Value)
abbrev qH : Type := Nat → Option qE
abbrev qU (σ : qH) (a : Nat) (e : qE) : qH := fun b => if b = a then some e else σ b
/-- the ground: classes and slots, array classes, the heap at the law's entry, the static arrays' addresses, the arrays that nobody writes -/
abbrev qG : Type := va_G × (Nat → ClassId) × Heap × (Nat → Nat) × (Nat → Option (Nat × (Nat → Int32)))
abbrev qz (G : qG) : Nat → Prop := fun q => G.2.2.1.size ≤ q
def qtr (G : qG) (e : qE) : va_E := match e with
  | .inl (k, a) => .inl (G.2.1 k, a)
  | .inr o => .inr o
def qro (e : qE) : Bool := match e with
  | .inl (k, _) => k == 4
  | .inr _ => false
abbrev qtys (G : qG) : List (ClassId × FieldType) := [(G.2.1 0, .int), (G.2.1 1, .boolean), (G.2.1 2, .object RX2), (G.2.1 3, .long)]
/-- the heap H holds the abstract heap, its size is n (where that is told), what was there at the law's entry stands -/
def qW (G : qG) (σ : qH) (n : Option Nat) (H : Heap) : Prop :=
  (∀ m : Nat, n = some m → H.size = m) ∧ G.2.2.1.size ≤ H.size ∧ (∀ q : Nat, q < G.2.2.1.size → H[q]? = G.2.2.1[q]?) ∧
  (∃ ws : va_W, va_P G.1 vwCl ws H ∧ va_D (qz G) ws ∧ ∀ (a : Nat) (e : qE), σ a = some e → qro e = false → ∃ k : Nat, ws[k]? = some (a, qtr G e)) ∧
  (∀ (a : Nat) (x : vp_A), σ a = some (.inl (4, x)) → ∃ (m : Nat) (f : Nat → Int32), x = (m, .inl f) ∧ a < G.2.2.1.size ∧ G.2.2.2.2 a = some (m, f))
abbrev qst : List (String × Nat) := [("SHADOW", 0), ("POOL", 1), ("WORD", 2), ("DROP", 3), ("TRUST", 4), ("EVENING", 5), ("SURVEY", 6)]
def lw_face : List Cond := lw_tbl.filter (fun w => w.onTables && w.keepsFace)
abbrev qnest : List (String × Nat × MethodName × String) := [("SteepleWords", 36, ⟨RX5, "<init>", "()V"⟩, RX6), ("SteepleWords", 43, ⟨RX0, "<init>", "()V"⟩, RX6)]
abbrev qtexts : List (Nat × String) := [(303, "an argument is out of its range"), (58, "the text is full"), (74, "the text is not a parish"), (322, "no such measure"), (317, "no such teller"), (311, "no such steeple"), (217, "there are 16 measures"), (248, "no state is remembered"), (324, "no such save slot"), (299, "nothing is saved in this slot")]
abbrev qI : String := "java/lang/IndexOutOfBoundsException"
abbrev qA : String := "java/lang/IllegalArgumentException"
abbrev qSt : String := "java/lang/IllegalStateException"
abbrev qnc : List (String × String) := [(qI, qA), (qI, qSt), (qA, qI), (qA, qSt), (qSt, qI), (qSt, qA)]
/-- what the tables and the first heap say -/
def qT (G : qG) (U : State) : Prop :=
  va_K G.1 vwCl (qtys G) U ∧
  (∀ x ∈ qst, va_Z "SteepleWords$Text" x.1 "[I" (.ref (G.2.2.2.1 x.2)) (qz G) U G.2.2.1) ∧
  (∀ (a m : Nat) (f : Nat → Int32), G.2.2.2.2 a = some (m, f) → va_X a m f U G.2.2.1) ∧
  (∀ w ∈ lw_face, va_Nw w U) ∧ (∀ x ∈ qnest, va_Nw (.methodLinkNest x.1 x.2.1 x.2.2.1 x.2.2.2) U) ∧
  (∀ x ∈ qtexts, ∃ sa : Nat, vk_R RX6 x.1 x.2 sa U) ∧ va_AO RX2 U ∧ (∀ x ∈ qnc, va_Nc x.1 x.2 U) ∧
  vx_Zq Bundle.tN "UNASSIGNED_STACK" Bundle.steD (qz G) U G.2.2.1 ∧ vx_Zq Bundle.tN "SUPPRESSED_SENTINEL" Bundle.listD (qz G) U G.2.2.1
theorem qT_warm {G : qG} {s U : State} (hW : s.WarmedH U.vm) (h : qT G s) : qT G U := by
  obtain ⟨h1, h2, h3, h4, h5, h6, h9, h10, h7, h8⟩ := h
  refine ⟨va_K.moved hW.alike h1, fun x hx => va_Z.moved hW.alike (h2 x hx), fun a m f h => va_X.moved hW.alike (h3 a m f h), fun w hw => ?_, fun x hx => va_Nw.warmM hW (h5 x hx), fun x hx => ?_, va_AO.moved hW.alike h9, fun x hx => va_Nc.moved hW.alike (h10 x hx), vx_Zq.moved hW.alike h7, vx_Zq.moved hW.alike h8⟩
  · have hg := (List.mem_filter.mp hw).2
    simp only [Bool.and_eq_true] at hg
    exact va_tabs hg.1 (rfl : (s.setVm U.vm).vm = U.vm) (Cond.before_shiftedFace (State.Shifted.of_warmed hW) w hg.2 (h4 w hw))
  · obtain ⟨sa, hs⟩ := h6 x hx
    exact ⟨sa, vk_R.warm hW hs⟩
theorem qT_blind {G : qG} {a : Array Value} {U : State} {g : JFrame} {mk : MethodId} (h : qT G U) : qT G (U.calling g mk a) := qT_warm (State.WarmedH.refl U) h
def lw_good : List Cond := lw_tbl.filter goodWord
theorem lg_in {w : Cond} (k : Nat) (h : lw_tbl[k]? = some w) (g : goodWord w = true) : w ∈ lw_good := List.mem_filter.mpr ⟨List.mem_of_getElem? h, g⟩
theorem lg_good {ws : List Cond} (h : ∀ w ∈ ws, w ∈ lw_good) : GoodIn lw_good ws := fun w hw => ⟨h w hw, good_of_word (List.mem_filter.mp (h w hw)).2⟩
/-- a result: returned, or thrown -/
abbrev qR : Type := (Option Value × qH × Option Nat) ⊕ (String × qH)
def qQ (G : qG) (r : qR) : Array Value → State → Outcome → State → Prop := fun _ st oc t => match r with
  | .inl (v, σ, n) => oc = .returned v ∧ qW G σ n t.heap ∧ st.heap.size ≤ t.heap.size
  | .inr _ => False
def qC (G : qG) (r : qR) : String → State → State → Prop := fun E st t => match r with
  | .inl _ => False
  | .inr (E', σ) => E = E' ∧ qW G σ none t.heap ∧ st.heap.size ≤ t.heap.size
abbrev qws (y : MethodName) (cc : ByteArray) (nL : Nat) (rt : Option FieldType) : List Cond := Cond.code y cc nL rt :: lw_good
/-- a method's contract: called with these values over this heap it comes to this result -/
def qM (l : Launch) (G : qG) (y : MethodName) (cc : ByteArray) (nL : Nat) (rt : Option FieldType) (rm : Room) (as : List Value) (σ : qH) (n : Option Nat) (r : qR) : Prop :=
  vx_Met l y (qws y cc nL rt) rm (va_Pc as (fun U => qW G σ n U.heap ∧ qT G U)) (qQ G r) (qC G r) rm.cells rm.slots (qz G)
/-- the walk: at pc with these locals, this stack, over this heap -/
def qX (l : Launch) (G : qG) (own nm : String) (cc : ByteArray) (nL : Nat) (rt : Option FieldType) (tab : List ExceptionTableEntry) (R : Room) (mc ms : Nat) (r : qR) (k j : Nat) (σ : qH) (n : Option Nat) (pc : Nat) (ls : List (Nat × Value)) (st : List Value) : Prop :=
  ∀ (p : Program) (e : Env) (s : State) (m : MethodId) (args : Array Value) (below : List Frame) (meth : Method) (c : Code),
    p.tables.exec = Jvm.exec → c.code = cc → c.maxLocals = nL → meth.sig.returnType = rt → meth.name = nm → s.vm.findClass own = some m.cls → (∀ w ∈ lw_good, w.before args s = true) → meth.locks = false → c.exceptionTable.toList = tab → qT G s → l.stackTraces = false →
    (∃ (σ0 : qH) (n0 : Option Nat), qW G σ0 n0 s.heap) →
    ∀ (H : Heap) (locs : List Loc) (arr : Array Slot), va_S (qz G) s.heap H locs → qW G σ n H → lv_has arr nL ls →
      W p l e R s m args below meth c H locs k j (vx_MQ below (qQ G r) (qC G r) args s mc ms (qz G)) (F0 m pc arr st)
def irm (x y : Int32) : Int32 := x - x / y * y
def lrm (x y : Int64) : Int64 := x - x / y * y
def lus (x : Int64) (y : Int32) : Int64 := (x.toUInt64 >>> (y.toInt64.toUInt64 &&& Int64.toUInt64 63)).toInt64
section QX
variable {l : Launch} {G : qG} {own nm : String} {cc : ByteArray} {nL : Nat} {rt : Option FieldType} {tab : List ExceptionTableEntry} {R : Room} {mc ms : Nat} {r : qR} {k j : Nat} {σ : qH} {n : Option Nat} {pc : Nat} {ls : List (Nat × Value)} {st : List Value}
/-- lifting a row of the kit that only moves pc and stack -/
theorem q_lift {pc2 : Nat} {st2 : List Value} (h : ∀ (p : Program) (e : Env) (s : State) (m : MethodId) (args : Array Value) (below : List Frame) (meth : Method) (c : Code), p.tables.exec = Jvm.exec → c.code = cc → s.vm.findClass own = some m.cls → (∀ w ∈ lw_good, w.before args s = true) →
      ∀ (H : Heap) (locs : List Loc) (arr : Array Slot) (Q : State → Prop), lv_has arr nL ls → W p l e R s m args below meth c H locs k j Q (F0 m pc2 arr st2) → W p l e R s m args below meth c H locs k j Q (F0 m pc arr st))
    (kk : qX l G own nm cc nL rt tab R mc ms r k j σ n pc2 ls st2) : qX l G own nm cc nL rt tab R mc ms r k j σ n pc ls st := by
  intro p e s m args below meth c hx hb hml hr hn hown hts hlk htb hT hst hW0 H locs arr hS hW hl
  exact h p e s m args below meth c hx hb hown hts H locs arr _ hl (kk p e s m args below meth c hx hb hml hr hn hown hts hlk htb hT hst hW0 H locs arr hS hW hl)
/-- .. and one that moves the locals -/
theorem q_liftL {pc2 : Nat} {st2 : List Value} {ls2 : List (Nat × Value)} (h : ∀ (p : Program) (e : Env) (s : State) (m : MethodId) (args : Array Value) (below : List Frame) (meth : Method) (c : Code), p.tables.exec = Jvm.exec → c.code = cc →
      ∀ (H : Heap) (locs : List Loc) (arr : Array Slot) (Q : State → Prop), lv_has arr nL ls → (∀ arr2 : Array Slot, lv_has arr2 nL ls2 → W p l e R s m args below meth c H locs k j Q (F0 m pc2 arr2 st2)) → W p l e R s m args below meth c H locs k j Q (F0 m pc arr st))
    (kk : qX l G own nm cc nL rt tab R mc ms r k j σ n pc2 ls2 st2) : qX l G own nm cc nL rt tab R mc ms r k j σ n pc ls st := by
  intro p e s m args below meth c hx hb hml hr hn hown hts hlk htb hT hst hW0 H locs arr hS hW hl
  exact h p e s m args below meth c hx hb H locs arr _ hl (fun arr2 hl2 => kk p e s m args below meth c hx hb hml hr hn hown hts hlk htb hT hst hW0 H locs arr2 hS hW hl2)
/-- two ways -/
theorem q_lift2 {pc2 pc3 : Nat} {st2 : List Value} {P : Prop} (h : ∀ (p : Program) (e : Env) (s : State) (m : MethodId) (args : Array Value) (below : List Frame) (meth : Method) (c : Code), p.tables.exec = Jvm.exec → c.code = cc →
      ∀ (H : Heap) (locs : List Loc) (arr : Array Slot) (Q : State → Prop), (P → W p l e R s m args below meth c H locs k j Q (F0 m pc2 arr st2)) → (¬ P → W p l e R s m args below meth c H locs k j Q (F0 m pc3 arr st2)) → W p l e R s m args below meth c H locs k j Q (F0 m pc arr st))
    (k1 : P → qX l G own nm cc nL rt tab R mc ms r k j σ n pc2 ls st2) (k2 : ¬ P → qX l G own nm cc nL rt tab R mc ms r k j σ n pc3 ls st2) : qX l G own nm cc nL rt tab R mc ms r k j σ n pc ls st := by
  intro p e s m args below meth c hx hb hml hr hn hown hts hlk htb hT hst hW0 H locs arr hS hW hl
  exact h p e s m args below meth c hx hb H locs arr _ (fun hP => k1 hP p e s m args below meth c hx hb hml hr hn hown hts hlk htb hT hst hW0 H locs arr hS hW hl) (fun hP => k2 hP p e s m args below meth c hx hb hml hr hn hown hts hlk htb hT hst hW0 H locs arr hS hW hl)
theorem x_iconst {i : Int} (pc2 : Nat) (v : Int32) (d : decode cc pc = .ok (.iconst i, 1)) (hp : pc + 1 = pc2) (hv : Int32.ofInt i = v) (kk : qX l G own nm cc nL rt tab R mc ms r k j σ n pc2 ls (.int v :: st)) : qX l G own nm cc nL rt tab R mc ms r k j σ n pc ls st := by
  subst hp; exact q_lift (fun p e s m args below meth c hx hb _ _ H locs arr Q hl kk => lv_iconst hx hb d hv kk) kk
theorem x_bipush {i : Int} (pc2 : Nat) (v : Int32) (d : decode cc pc = .ok (.bipush i, 2)) (hp : pc + 2 = pc2) (hv : (Int8.ofInt i).toInt32 = v) (kk : qX l G own nm cc nL rt tab R mc ms r k j σ n pc2 ls (.int v :: st)) : qX l G own nm cc nL rt tab R mc ms r k j σ n pc ls st := by
  subst hp; exact q_lift (fun p e s m args below meth c hx hb _ _ H locs arr Q hl kk => lv_bipush hx hb d hv kk) kk
theorem x_sipush {i : Int} (pc2 : Nat) (v : Int32) (d : decode cc pc = .ok (.sipush i, 3)) (hp : pc + 3 = pc2) (hv : (Int16.ofInt i).toInt32 = v) (kk : qX l G own nm cc nL rt tab R mc ms r k j σ n pc2 ls (.int v :: st)) : qX l G own nm cc nL rt tab R mc ms r k j σ n pc ls st := by
  subst hp; exact q_lift (fun p e s m args below meth c hx hb _ _ H locs arr Q hl kk => lv_sipush hx hb d hv kk) kk
theorem x_lconst {i : Fin 2} (pc2 : Nat) (v : Int64) (d : decode cc pc = .ok (.lconst i, 1)) (hp : pc + 1 = pc2) (hv : Int64.ofNat (i : Nat) = v) (kk : qX l G own nm cc nL rt tab R mc ms r k j σ n pc2 ls (.long v :: st)) : qX l G own nm cc nL rt tab R mc ms r k j σ n pc ls st := by
  subst hp; exact q_lift (fun p e s m args below meth c hx hb _ _ H locs arr Q hl kk => lv_lconst hx hb d hv kk) kk
theorem x_iload_n {q : Fin 4} {v : Int32} (pc2 : Nat) (w : Nat) (d : decode cc pc = .ok (.iload_n q, 1)) (hp : pc + 1 = pc2) (hw : ls[w]? = some ((q : Nat), .int v)) (kk : qX l G own nm cc nL rt tab R mc ms r k j σ n pc2 ls (.int v :: st)) : qX l G own nm cc nL rt tab R mc ms r k j σ n pc ls st := by
  subst hp; exact q_lift (fun p e s m args below meth c hx hb _ _ H locs arr Q hl kk => lv_iload_n hx hb d rfl (lv_at hl w hw) kk) kk
theorem x_iload {q : Nat} {v : Int32} (pc2 : Nat) (w : Nat) (d : decode cc pc = .ok (.iload q, 2)) (hp : pc + 2 = pc2) (hw : ls[w]? = some (q, .int v)) (kk : qX l G own nm cc nL rt tab R mc ms r k j σ n pc2 ls (.int v :: st)) : qX l G own nm cc nL rt tab R mc ms r k j σ n pc ls st := by
  subst hp; exact q_lift (fun p e s m args below meth c hx hb _ _ H locs arr Q hl kk => lv_iload hx hb d (lv_at hl w hw) kk) kk
theorem x_istore_n {q0 : Fin 4} {v : Int32} (pc2 i : Nat) (ls2 : List (Nat × Value)) (d : decode cc pc = .ok (.istore_n q0, 1)) (hp : pc + 1 = pc2) (hi : (q0 : Nat) = i) (hn : i < nL) (hls : (i, Value.int v) :: ls.filter (fun q => !(q.1 == i) && !(q.1 + 1 == i && q.2.category == 2)) = ls2) (kk : qX l G own nm cc nL rt tab R mc ms r k j σ n pc2 ls2 st) : qX l G own nm cc nL rt tab R mc ms r k j σ n pc ls (.int v :: st) := by
  subst hp; exact q_liftL (fun p e s m args below meth c hx hb H locs arr Q hl kk => lv_istore_n hx hb d hi hl hn hls kk) kk
theorem x_istore {v : Int32} (pc2 i : Nat) (ls2 : List (Nat × Value)) (d : decode cc pc = .ok (.istore i, 2)) (hp : pc + 2 = pc2) (hn : i < nL) (hls : (i, Value.int v) :: ls.filter (fun q => !(q.1 == i) && !(q.1 + 1 == i && q.2.category == 2)) = ls2) (kk : qX l G own nm cc nL rt tab R mc ms r k j σ n pc2 ls2 st) : qX l G own nm cc nL rt tab R mc ms r k j σ n pc ls (.int v :: st) := by
  subst hp; exact q_liftL (fun p e s m args below meth c hx hb H locs arr Q hl kk => lv_istore hx hb d hl hn hls kk) kk
theorem x_lload_n {q : Fin 4} {v : Int64} (pc2 : Nat) (w : Nat) (d : decode cc pc = .ok (.lload_n q, 1)) (hp : pc + 1 = pc2) (hw : ls[w]? = some ((q : Nat), .long v)) (kk : qX l G own nm cc nL rt tab R mc ms r k j σ n pc2 ls (.long v :: st)) : qX l G own nm cc nL rt tab R mc ms r k j σ n pc ls st := by
  subst hp; exact q_lift (fun p e s m args below meth c hx hb _ _ H locs arr Q hl kk => lv_lload_n hx hb d rfl (lv_at hl w hw) kk) kk
theorem x_lload {q : Nat} {v : Int64} (pc2 : Nat) (w : Nat) (d : decode cc pc = .ok (.lload q, 2)) (hp : pc + 2 = pc2) (hw : ls[w]? = some (q, .long v)) (kk : qX l G own nm cc nL rt tab R mc ms r k j σ n pc2 ls (.long v :: st)) : qX l G own nm cc nL rt tab R mc ms r k j σ n pc ls st := by
  subst hp; exact q_lift (fun p e s m args below meth c hx hb _ _ H locs arr Q hl kk => lv_lload hx hb d (lv_at hl w hw) kk) kk
theorem x_lstore_n {q0 : Fin 4} {v : Int64} (pc2 i : Nat) (ls2 : List (Nat × Value)) (d : decode cc pc = .ok (.lstore_n q0, 1)) (hp : pc + 1 = pc2) (hi : (q0 : Nat) = i) (hn : i + 1 < nL) (hls : (i, Value.long v) :: ls.filter (fun q => !(q.1 == i) && (!(q.1 == i + 1) && !(q.1 + 1 == i && q.2.category == 2))) = ls2) (kk : qX l G own nm cc nL rt tab R mc ms r k j σ n pc2 ls2 st) : qX l G own nm cc nL rt tab R mc ms r k j σ n pc ls (.long v :: st) := by
  subst hp; exact q_liftL (fun p e s m args below meth c hx hb H locs arr Q hl kk => lv_lstore_n hx hb d hi hl hn hls kk) kk
theorem x_lstore {v : Int64} (pc2 i : Nat) (ls2 : List (Nat × Value)) (d : decode cc pc = .ok (.lstore i, 2)) (hp : pc + 2 = pc2) (hn : i + 1 < nL) (hls : (i, Value.long v) :: ls.filter (fun q => !(q.1 == i) && (!(q.1 == i + 1) && !(q.1 + 1 == i && q.2.category == 2))) = ls2) (kk : qX l G own nm cc nL rt tab R mc ms r k j σ n pc2 ls2 st) : qX l G own nm cc nL rt tab R mc ms r k j σ n pc ls (.long v :: st) := by
  subst hp; exact q_liftL (fun p e s m args below meth c hx hb H locs arr Q hl kk => lv_lstore hx hb d hl hn hls kk) kk
theorem x_aload_n {q : Fin 4} {v : Nat} (pc2 : Nat) (w : Nat) (d : decode cc pc = .ok (.aload_n q, 1)) (hp : pc + 1 = pc2) (hw : ls[w]? = some ((q : Nat), .ref v)) (kk : qX l G own nm cc nL rt tab R mc ms r k j σ n pc2 ls (.ref v :: st)) : qX l G own nm cc nL rt tab R mc ms r k j σ n pc ls st := by
  subst hp; exact q_lift (fun p e s m args below meth c hx hb _ _ H locs arr Q hl kk => lv_aload_n hx hb d rfl (lv_at hl w hw) kk) kk
theorem x_aload {q : Nat} {v : Nat} (pc2 : Nat) (w : Nat) (d : decode cc pc = .ok (.aload q, 2)) (hp : pc + 2 = pc2) (hw : ls[w]? = some (q, .ref v)) (kk : qX l G own nm cc nL rt tab R mc ms r k j σ n pc2 ls (.ref v :: st)) : qX l G own nm cc nL rt tab R mc ms r k j σ n pc ls st := by
  subst hp; exact q_lift (fun p e s m args below meth c hx hb _ _ H locs arr Q hl kk => lv_aload hx hb d (lv_at hl w hw) kk) kk
theorem x_astore_n {q0 : Fin 4} {v : Nat} (pc2 i : Nat) (ls2 : List (Nat × Value)) (d : decode cc pc = .ok (.astore_n q0, 1)) (hp : pc + 1 = pc2) (hi : (q0 : Nat) = i) (hn : i < nL) (hls : (i, Value.ref v) :: ls.filter (fun q => !(q.1 == i) && !(q.1 + 1 == i && q.2.category == 2)) = ls2) (kk : qX l G own nm cc nL rt tab R mc ms r k j σ n pc2 ls2 st) : qX l G own nm cc nL rt tab R mc ms r k j σ n pc ls (.ref v :: st) := by
  subst hp; exact q_liftL (fun p e s m args below meth c hx hb H locs arr Q hl kk => lv_astore_n hx hb d hi hl hn hls kk) kk
theorem x_astore {v : Nat} (pc2 i : Nat) (ls2 : List (Nat × Value)) (d : decode cc pc = .ok (.astore i, 2)) (hp : pc + 2 = pc2) (hn : i < nL) (hls : (i, Value.ref v) :: ls.filter (fun q => !(q.1 == i) && !(q.1 + 1 == i && q.2.category == 2)) = ls2) (kk : qX l G own nm cc nL rt tab R mc ms r k j σ n pc2 ls2 st) : qX l G own nm cc nL rt tab R mc ms r k j σ n pc ls (.ref v :: st) := by
  subst hp; exact q_liftL (fun p e s m args below meth c hx hb H locs arr Q hl kk => lv_astore hx hb d hl hn hls kk) kk
theorem x_iinc {q : Int} {x : Int32} (pc2 i w : Nat) (v : Int32) (ls2 : List (Nat × Value)) (d : decode cc pc = .ok (.iinc i q, 3)) (hp : pc + 3 = pc2) (hw : ls[w]? = some (i, .int x)) (hv : x + Int32.ofInt q = v) (hn : i < nL) (hls : (i, Value.int v) :: ls.filter (fun q => !(q.1 == i) && !(q.1 + 1 == i && q.2.category == 2)) = ls2) (kk : qX l G own nm cc nL rt tab R mc ms r k j σ n pc2 ls2 st) : qX l G own nm cc nL rt tab R mc ms r k j σ n pc ls st := by
  subst hp; exact q_liftL (fun p e s m args below meth c hx hb H locs arr Q hl kk => lv_iinc hx hb d hl hw hv hn hls kk) kk
theorem x_iadd {x y : Int32} (pc2 : Nat) (d : decode cc pc = .ok (.iadd, 1)) (hp : pc + 1 = pc2) (kk : qX l G own nm cc nL rt tab R mc ms r k j σ n pc2 ls (.int (x + y) :: st)) : qX l G own nm cc nL rt tab R mc ms r k j σ n pc ls (.int y :: .int x :: st) := by
  subst hp; exact q_lift (fun p e s m args below meth c hx hb _ _ H locs arr Q hl kk => lv_iadd hx hb d kk) kk
theorem x_isub {x y : Int32} (pc2 : Nat) (d : decode cc pc = .ok (.isub, 1)) (hp : pc + 1 = pc2) (kk : qX l G own nm cc nL rt tab R mc ms r k j σ n pc2 ls (.int (x - y) :: st)) : qX l G own nm cc nL rt tab R mc ms r k j σ n pc ls (.int y :: .int x :: st) := by
  subst hp; exact q_lift (fun p e s m args below meth c hx hb _ _ H locs arr Q hl kk => lv_isub hx hb d kk) kk
theorem x_imul {x y : Int32} (pc2 : Nat) (d : decode cc pc = .ok (.imul, 1)) (hp : pc + 1 = pc2) (kk : qX l G own nm cc nL rt tab R mc ms r k j σ n pc2 ls (.int (x * y) :: st)) : qX l G own nm cc nL rt tab R mc ms r k j σ n pc ls (.int y :: .int x :: st) := by
  subst hp; exact q_lift (fun p e s m args below meth c hx hb _ _ H locs arr Q hl kk => lv_imul hx hb d kk) kk
theorem x_iand {x y : Int32} (pc2 : Nat) (d : decode cc pc = .ok (.iand, 1)) (hp : pc + 1 = pc2) (kk : qX l G own nm cc nL rt tab R mc ms r k j σ n pc2 ls (.int (x &&& y) :: st)) : qX l G own nm cc nL rt tab R mc ms r k j σ n pc ls (.int y :: .int x :: st) := by
  subst hp; exact q_lift (fun p e s m args below meth c hx hb _ _ H locs arr Q hl kk => lv_iand hx hb d kk) kk
theorem x_ior {x y : Int32} (pc2 : Nat) (d : decode cc pc = .ok (.ior, 1)) (hp : pc + 1 = pc2) (kk : qX l G own nm cc nL rt tab R mc ms r k j σ n pc2 ls (.int (x ||| y) :: st)) : qX l G own nm cc nL rt tab R mc ms r k j σ n pc ls (.int y :: .int x :: st) := by
  subst hp; exact q_lift (fun p e s m args below meth c hx hb _ _ H locs arr Q hl kk => lv_ior hx hb d kk) kk
theorem x_ixor {x y : Int32} (pc2 : Nat) (d : decode cc pc = .ok (.ixor, 1)) (hp : pc + 1 = pc2) (kk : qX l G own nm cc nL rt tab R mc ms r k j σ n pc2 ls (.int (x ^^^ y) :: st)) : qX l G own nm cc nL rt tab R mc ms r k j σ n pc ls (.int y :: .int x :: st) := by
  subst hp; exact q_lift (fun p e s m args below meth c hx hb _ _ H locs arr Q hl kk => lv_ixor hx hb d kk) kk
theorem x_ladd {x y : Int64} (pc2 : Nat) (d : decode cc pc = .ok (.ladd, 1)) (hp : pc + 1 = pc2) (kk : qX l G own nm cc nL rt tab R mc ms r k j σ n pc2 ls (.long (x + y) :: st)) : qX l G own nm cc nL rt tab R mc ms r k j σ n pc ls (.long y :: .long x :: st) := by
  subst hp; exact q_lift (fun p e s m args below meth c hx hb _ _ H locs arr Q hl kk => lv_ladd hx hb d kk) kk
theorem x_lsub {x y : Int64} (pc2 : Nat) (d : decode cc pc = .ok (.lsub, 1)) (hp : pc + 1 = pc2) (kk : qX l G own nm cc nL rt tab R mc ms r k j σ n pc2 ls (.long (x - y) :: st)) : qX l G own nm cc nL rt tab R mc ms r k j σ n pc ls (.long y :: .long x :: st) := by
  subst hp; exact q_lift (fun p e s m args below meth c hx hb _ _ H locs arr Q hl kk => lv_lsub hx hb d kk) kk
theorem x_lmul {x y : Int64} (pc2 : Nat) (d : decode cc pc = .ok (.lmul, 1)) (hp : pc + 1 = pc2) (kk : qX l G own nm cc nL rt tab R mc ms r k j σ n pc2 ls (.long (x * y) :: st)) : qX l G own nm cc nL rt tab R mc ms r k j σ n pc ls (.long y :: .long x :: st) := by
  subst hp; exact q_lift (fun p e s m args below meth c hx hb _ _ H locs arr Q hl kk => lv_lmul hx hb d kk) kk
theorem x_land {x y : Int64} (pc2 : Nat) (d : decode cc pc = .ok (.land, 1)) (hp : pc + 1 = pc2) (kk : qX l G own nm cc nL rt tab R mc ms r k j σ n pc2 ls (.long (x &&& y) :: st)) : qX l G own nm cc nL rt tab R mc ms r k j σ n pc ls (.long y :: .long x :: st) := by
  subst hp; exact q_lift (fun p e s m args below meth c hx hb _ _ H locs arr Q hl kk => lv_land hx hb d kk) kk
theorem x_lor {x y : Int64} (pc2 : Nat) (d : decode cc pc = .ok (.lor, 1)) (hp : pc + 1 = pc2) (kk : qX l G own nm cc nL rt tab R mc ms r k j σ n pc2 ls (.long (x ||| y) :: st)) : qX l G own nm cc nL rt tab R mc ms r k j σ n pc ls (.long y :: .long x :: st) := by
  subst hp; exact q_lift (fun p e s m args below meth c hx hb _ _ H locs arr Q hl kk => lv_lor hx hb d kk) kk
theorem x_lxor {x y : Int64} (pc2 : Nat) (d : decode cc pc = .ok (.lxor, 1)) (hp : pc + 1 = pc2) (kk : qX l G own nm cc nL rt tab R mc ms r k j σ n pc2 ls (.long (x ^^^ y) :: st)) : qX l G own nm cc nL rt tab R mc ms r k j σ n pc ls (.long y :: .long x :: st) := by
  subst hp; exact q_lift (fun p e s m args below meth c hx hb _ _ H locs arr Q hl kk => lv_lxor hx hb d kk) kk
theorem x_idiv {x y : Int32} (pc2 : Nat) (hne : ¬ y = 0) (d : decode cc pc = .ok (.idiv, 1)) (hp : pc + 1 = pc2) (kk : qX l G own nm cc nL rt tab R mc ms r k j σ n pc2 ls (.int (x / y) :: st)) : qX l G own nm cc nL rt tab R mc ms r k j σ n pc ls (.int y :: .int x :: st) := by
  subst hp; exact q_lift (fun p e s m args below meth c hx hb _ _ H locs arr Q hl kk => lv_idiv hx hb d hne kk) kk
theorem x_irem {x y : Int32} (pc2 : Nat) (hne : ¬ y = 0) (d : decode cc pc = .ok (.irem, 1)) (hp : pc + 1 = pc2) (kk : qX l G own nm cc nL rt tab R mc ms r k j σ n pc2 ls (.int (irm x y) :: st)) : qX l G own nm cc nL rt tab R mc ms r k j σ n pc ls (.int y :: .int x :: st) := by
  subst hp; exact q_lift (fun p e s m args below meth c hx hb _ _ H locs arr Q hl kk => lv_irem hx hb d hne kk) kk
theorem x_ldiv {x y : Int64} (pc2 : Nat) (hne : ¬ y = 0) (d : decode cc pc = .ok (.ldiv, 1)) (hp : pc + 1 = pc2) (kk : qX l G own nm cc nL rt tab R mc ms r k j σ n pc2 ls (.long (x / y) :: st)) : qX l G own nm cc nL rt tab R mc ms r k j σ n pc ls (.long y :: .long x :: st) := by
  subst hp; exact q_lift (fun p e s m args below meth c hx hb _ _ H locs arr Q hl kk => lv_ldiv hx hb d hne kk) kk
theorem x_lrem {x y : Int64} (pc2 : Nat) (hne : ¬ y = 0) (d : decode cc pc = .ok (.lrem, 1)) (hp : pc + 1 = pc2) (kk : qX l G own nm cc nL rt tab R mc ms r k j σ n pc2 ls (.long (lrm x y) :: st)) : qX l G own nm cc nL rt tab R mc ms r k j σ n pc ls (.long y :: .long x :: st) := by
  subst hp; exact q_lift (fun p e s m args below meth c hx hb _ _ H locs arr Q hl kk => lv_lrem hx hb d hne kk) kk
theorem x_ineg {x : Int32} (pc2 : Nat) (d : decode cc pc = .ok (.ineg, 1)) (hp : pc + 1 = pc2) (kk : qX l G own nm cc nL rt tab R mc ms r k j σ n pc2 ls (.int (-x) :: st)) : qX l G own nm cc nL rt tab R mc ms r k j σ n pc ls (.int x :: st) := by
  subst hp; exact q_lift (fun p e s m args below meth c hx hb _ _ H locs arr Q hl kk => lv_ineg hx hb d kk) kk
theorem x_i2l {x : Int32} (pc2 : Nat) (d : decode cc pc = .ok (.i2l, 1)) (hp : pc + 1 = pc2) (kk : qX l G own nm cc nL rt tab R mc ms r k j σ n pc2 ls (.long x.toInt64 :: st)) : qX l G own nm cc nL rt tab R mc ms r k j σ n pc ls (.int x :: st) := by
  subst hp; exact q_lift (fun p e s m args below meth c hx hb _ _ H locs arr Q hl kk => lv_i2l hx hb d rfl kk) kk
theorem x_l2i {x : Int64} (pc2 : Nat) (d : decode cc pc = .ok (.l2i, 1)) (hp : pc + 1 = pc2) (kk : qX l G own nm cc nL rt tab R mc ms r k j σ n pc2 ls (.int x.toInt32 :: st)) : qX l G own nm cc nL rt tab R mc ms r k j σ n pc ls (.long x :: st) := by
  subst hp; exact q_lift (fun p e s m args below meth c hx hb _ _ H locs arr Q hl kk => lv_l2i hx hb d rfl kk) kk
theorem x_lushr {x : Int64} {y : Int32} (pc2 : Nat) (d : decode cc pc = .ok (.lushr, 1)) (hp : pc + 1 = pc2) (kk : qX l G own nm cc nL rt tab R mc ms r k j σ n pc2 ls (.long (lus x y) :: st)) : qX l G own nm cc nL rt tab R mc ms r k j σ n pc ls (.int y :: .long x :: st) := by
  subst hp; exact q_lift (fun p e s m args below meth c hx hb _ _ H locs arr Q hl kk => lv_lushr hx hb d rfl kk) kk
theorem x_lshl {x : Int64} {y : Int32} (pc2 : Nat) (d : decode cc pc = .ok (.lshl, 1)) (hp : pc + 1 = pc2) (kk : qX l G own nm cc nL rt tab R mc ms r k j σ n pc2 ls (.long (x <<< (y.toInt64 &&& 63)) :: st)) : qX l G own nm cc nL rt tab R mc ms r k j σ n pc ls (.int y :: .long x :: st) := by
  subst hp; exact q_lift (fun p e s m args below meth c hx hb _ _ H locs arr Q hl kk => lv_lshl hx hb d rfl kk) kk
theorem x_lcmp {x y : Int64} (pc2 : Nat) (d : decode cc pc = .ok (.lcmp, 1)) (hp : pc + 1 = pc2) (kk : qX l G own nm cc nL rt tab R mc ms r k j σ n pc2 ls (.int (lg_cmp x y) :: st)) : qX l G own nm cc nL rt tab R mc ms r k j σ n pc ls (.long y :: .long x :: st) := by
  subst hp; exact q_lift (fun p e s m args below meth c hx hb _ _ H locs arr Q hl kk => W.lcmp hx hb d kk) kk
theorem x_dup {va : Value} (pc2 : Nat) (hva : va.category = 1) (d : decode cc pc = .ok (.dup, 1)) (hp : pc + 1 = pc2) (kk : qX l G own nm cc nL rt tab R mc ms r k j σ n pc2 ls (va :: va :: st)) : qX l G own nm cc nL rt tab R mc ms r k j σ n pc ls (va :: st) := by
  subst hp; exact q_lift (fun p e s m args below meth c hx hb _ _ H locs arr Q hl kk => lv_dup hx hb d hva kk) kk
theorem x_pop {va : Value} (pc2 : Nat) (hva : va.category = 1) (d : decode cc pc = .ok (.pop, 1)) (hp : pc + 1 = pc2) (kk : qX l G own nm cc nL rt tab R mc ms r k j σ n pc2 ls (st)) : qX l G own nm cc nL rt tab R mc ms r k j σ n pc ls (va :: st) := by
  subst hp; exact q_lift (fun p e s m args below meth c hx hb _ _ H locs arr Q hl kk => lv_pop hx hb d hva kk) kk
theorem x_dup_x1 {va vb : Value} (pc2 : Nat) (hva : va.category = 1) (hvb : vb.category = 1) (d : decode cc pc = .ok (.dup_x1, 1)) (hp : pc + 1 = pc2) (kk : qX l G own nm cc nL rt tab R mc ms r k j σ n pc2 ls (va :: vb :: va :: st)) : qX l G own nm cc nL rt tab R mc ms r k j σ n pc ls (va :: vb :: st) := by
  subst hp; exact q_lift (fun p e s m args below meth c hx hb _ _ H locs arr Q hl kk => lv_dup_x1 hx hb d hva hvb kk) kk
theorem x_dup2 {va vb : Value} (pc2 : Nat) (hva : va.category = 1) (hvb : vb.category = 1) (d : decode cc pc = .ok (.dup2, 1)) (hp : pc + 1 = pc2) (kk : qX l G own nm cc nL rt tab R mc ms r k j σ n pc2 ls (va :: vb :: va :: vb :: st)) : qX l G own nm cc nL rt tab R mc ms r k j σ n pc ls (va :: vb :: st) := by
  subst hp; exact q_lift (fun p e s m args below meth c hx hb _ _ H locs arr Q hl kk => lv_dup2_11 hx hb d hva hvb kk) kk
theorem x_ldc {i : Nat} (pc2 : Nat) (v : Int32) (hw : Cond.constant own i v ∈ lw_good) (d : decode cc pc = .ok (.ldc i, 2)) (hp : pc + 2 = pc2) (kk : qX l G own nm cc nL rt tab R mc ms r k j σ n pc2 ls (.int v :: st)) : qX l G own nm cc nL rt tab R mc ms r k j σ n pc ls st := by
  subst hp; exact q_lift (fun p e s m args below meth c hx hb ho ht H locs arr Q hl kk => lv_ldc hx hb ho (ht _ hw) d kk) kk
theorem x_ldcw {i : Nat} (pc2 : Nat) (v : Int32) (hw : Cond.constant own i v ∈ lw_good) (d : decode cc pc = .ok (.ldc_w i, 3)) (hp : pc + 3 = pc2) (kk : qX l G own nm cc nL rt tab R mc ms r k j σ n pc2 ls (.int v :: st)) : qX l G own nm cc nL rt tab R mc ms r k j σ n pc ls st := by
  subst hp; exact q_lift (fun p e s m args below meth c hx hb ho ht H locs arr Q hl kk => lv_ldcw hx hb ho (ht _ hw) d kk) kk
theorem x_ldc2 {i : Nat} (pc2 : Nat) (v : Int64) (hw : Cond.constantLong own i v ∈ lw_good) (d : decode cc pc = .ok (.ldc2_w i, 3)) (hp : pc + 3 = pc2) (kk : qX l G own nm cc nL rt tab R mc ms r k j σ n pc2 ls (.long v :: st)) : qX l G own nm cc nL rt tab R mc ms r k j σ n pc ls st := by
  subst hp; exact q_lift (fun p e s m args below meth c hx hb ho ht H locs arr Q hl kk => lv_ldc2 hx hb ho (ht _ hw) d kk) kk
theorem x_goto {off : Int} (pc2 : Nat) (d : decode cc pc = .ok (.goto off, 3)) (hp : (pc : Int) + off = (pc2 : Int)) (kk : qX l G own nm cc nL rt tab R mc ms r k j σ n pc2 ls st) : qX l G own nm cc nL rt tab R mc ms r k j σ n pc ls st := q_lift (fun p e s m args below meth c hx hb _ _ H locs arr Q hl kk => lv_goto hx hb d hp kk) kk
theorem x_if_eq {off : Int} {x : Int32} (pc2 pc3 : Nat) (d : decode cc pc = .ok (.ifCond .eq off, 3)) (ht : (pc : Int) + off = (pc2 : Int)) (hp : pc + 3 = pc3) (k1 : x = 0 → qX l G own nm cc nL rt tab R mc ms r k j σ n pc2 ls st) (k2 : ¬ x = 0 → qX l G own nm cc nL rt tab R mc ms r k j σ n pc3 ls st) : qX l G own nm cc nL rt tab R mc ms r k j σ n pc ls (.int x :: st) := by
  subst hp; exact q_lift2 (fun p e s m args below meth c hx hb H locs arr Q h1 h2 => lv_if_eq hx hb d ht h1 h2) k1 k2
theorem x_if_lt {off : Int} {x : Int32} (pc2 pc3 : Nat) (d : decode cc pc = .ok (.ifCond .lt off, 3)) (ht : (pc : Int) + off = (pc2 : Int)) (hp : pc + 3 = pc3) (k1 : x < 0 → qX l G own nm cc nL rt tab R mc ms r k j σ n pc2 ls st) (k2 : ¬ x < 0 → qX l G own nm cc nL rt tab R mc ms r k j σ n pc3 ls st) : qX l G own nm cc nL rt tab R mc ms r k j σ n pc ls (.int x :: st) := by
  subst hp; exact q_lift2 (fun p e s m args below meth c hx hb H locs arr Q h1 h2 => lv_if_lt hx hb d ht h1 h2) k1 k2
theorem x_if_ge {off : Int} {x : Int32} (pc2 pc3 : Nat) (d : decode cc pc = .ok (.ifCond .ge off, 3)) (ht : (pc : Int) + off = (pc2 : Int)) (hp : pc + 3 = pc3) (k1 : 0 ≤ x → qX l G own nm cc nL rt tab R mc ms r k j σ n pc2 ls st) (k2 : ¬ 0 ≤ x → qX l G own nm cc nL rt tab R mc ms r k j σ n pc3 ls st) : qX l G own nm cc nL rt tab R mc ms r k j σ n pc ls (.int x :: st) := by
  subst hp; exact q_lift2 (fun p e s m args below meth c hx hb H locs arr Q h1 h2 => lv_if_ge hx hb d ht h1 h2) k1 k2
theorem x_if_gt {off : Int} {x : Int32} (pc2 pc3 : Nat) (d : decode cc pc = .ok (.ifCond .gt off, 3)) (ht : (pc : Int) + off = (pc2 : Int)) (hp : pc + 3 = pc3) (k1 : 0 < x → qX l G own nm cc nL rt tab R mc ms r k j σ n pc2 ls st) (k2 : ¬ 0 < x → qX l G own nm cc nL rt tab R mc ms r k j σ n pc3 ls st) : qX l G own nm cc nL rt tab R mc ms r k j σ n pc ls (.int x :: st) := by
  subst hp; exact q_lift2 (fun p e s m args below meth c hx hb H locs arr Q h1 h2 => lv_if_gt hx hb d ht h1 h2) k1 k2
theorem x_if_le {off : Int} {x : Int32} (pc2 pc3 : Nat) (d : decode cc pc = .ok (.ifCond .le off, 3)) (ht : (pc : Int) + off = (pc2 : Int)) (hp : pc + 3 = pc3) (k1 : x ≤ 0 → qX l G own nm cc nL rt tab R mc ms r k j σ n pc2 ls st) (k2 : ¬ x ≤ 0 → qX l G own nm cc nL rt tab R mc ms r k j σ n pc3 ls st) : qX l G own nm cc nL rt tab R mc ms r k j σ n pc ls (.int x :: st) := by
  subst hp; exact q_lift2 (fun p e s m args below meth c hx hb H locs arr Q h1 h2 => lv_if_le hx hb d ht h1 h2) k1 k2
theorem x_if_ne {off : Int} {x : Int32} (pc2 pc3 : Nat) (d : decode cc pc = .ok (.ifCond .ne off, 3)) (ht : (pc : Int) + off = (pc2 : Int)) (hp : pc + 3 = pc3) (k1 : ¬ x = 0 → qX l G own nm cc nL rt tab R mc ms r k j σ n pc2 ls st) (k2 : x = 0 → qX l G own nm cc nL rt tab R mc ms r k j σ n pc3 ls st) : qX l G own nm cc nL rt tab R mc ms r k j σ n pc ls (.int x :: st) := by
  subst hp; exact q_lift2 (P := ¬ x = 0) (fun p e s m args below meth c hx hb H locs arr Q h1 h2 => lv_if_ne hx hb d ht h1 (fun h => h2 (fun z => z h))) k1 (fun h => k2 (Decidable.not_not.mp h))
theorem x_icmp_eq {off : Int} {x y : Int32} (pc2 pc3 : Nat) (d : decode cc pc = .ok (.if_icmp .eq off, 3)) (ht : (pc : Int) + off = (pc2 : Int)) (hp : pc + 3 = pc3) (k1 : x = y → qX l G own nm cc nL rt tab R mc ms r k j σ n pc2 ls st) (k2 : ¬ x = y → qX l G own nm cc nL rt tab R mc ms r k j σ n pc3 ls st) : qX l G own nm cc nL rt tab R mc ms r k j σ n pc ls (.int y :: .int x :: st) := by
  subst hp; exact q_lift2 (fun p e s m args below meth c hx hb H locs arr Q h1 h2 => lv_icmp_eq hx hb d ht h1 h2) k1 k2
theorem x_icmp_lt {off : Int} {x y : Int32} (pc2 pc3 : Nat) (d : decode cc pc = .ok (.if_icmp .lt off, 3)) (ht : (pc : Int) + off = (pc2 : Int)) (hp : pc + 3 = pc3) (k1 : x < y → qX l G own nm cc nL rt tab R mc ms r k j σ n pc2 ls st) (k2 : ¬ x < y → qX l G own nm cc nL rt tab R mc ms r k j σ n pc3 ls st) : qX l G own nm cc nL rt tab R mc ms r k j σ n pc ls (.int y :: .int x :: st) := by
  subst hp; exact q_lift2 (fun p e s m args below meth c hx hb H locs arr Q h1 h2 => lv_icmp_lt hx hb d ht h1 h2) k1 k2
theorem x_icmp_ge {off : Int} {x y : Int32} (pc2 pc3 : Nat) (d : decode cc pc = .ok (.if_icmp .ge off, 3)) (ht : (pc : Int) + off = (pc2 : Int)) (hp : pc + 3 = pc3) (k1 : y ≤ x → qX l G own nm cc nL rt tab R mc ms r k j σ n pc2 ls st) (k2 : ¬ y ≤ x → qX l G own nm cc nL rt tab R mc ms r k j σ n pc3 ls st) : qX l G own nm cc nL rt tab R mc ms r k j σ n pc ls (.int y :: .int x :: st) := by
  subst hp; exact q_lift2 (fun p e s m args below meth c hx hb H locs arr Q h1 h2 => lv_icmp_ge hx hb d ht h1 h2) k1 k2
theorem x_icmp_gt {off : Int} {x y : Int32} (pc2 pc3 : Nat) (d : decode cc pc = .ok (.if_icmp .gt off, 3)) (ht : (pc : Int) + off = (pc2 : Int)) (hp : pc + 3 = pc3) (k1 : y < x → qX l G own nm cc nL rt tab R mc ms r k j σ n pc2 ls st) (k2 : ¬ y < x → qX l G own nm cc nL rt tab R mc ms r k j σ n pc3 ls st) : qX l G own nm cc nL rt tab R mc ms r k j σ n pc ls (.int y :: .int x :: st) := by
  subst hp; exact q_lift2 (fun p e s m args below meth c hx hb H locs arr Q h1 h2 => lv_icmp_gt hx hb d ht h1 h2) k1 k2
theorem x_icmp_le {off : Int} {x y : Int32} (pc2 pc3 : Nat) (d : decode cc pc = .ok (.if_icmp .le off, 3)) (ht : (pc : Int) + off = (pc2 : Int)) (hp : pc + 3 = pc3) (k1 : x ≤ y → qX l G own nm cc nL rt tab R mc ms r k j σ n pc2 ls st) (k2 : ¬ x ≤ y → qX l G own nm cc nL rt tab R mc ms r k j σ n pc3 ls st) : qX l G own nm cc nL rt tab R mc ms r k j σ n pc ls (.int y :: .int x :: st) := by
  subst hp; exact q_lift2 (fun p e s m args below meth c hx hb H locs arr Q h1 h2 => lv_icmp_le hx hb d ht h1 h2) k1 k2
theorem x_icmp_ne {off : Int} {x y : Int32} (pc2 pc3 : Nat) (d : decode cc pc = .ok (.if_icmp .ne off, 3)) (ht : (pc : Int) + off = (pc2 : Int)) (hp : pc + 3 = pc3) (k1 : ¬ x = y → qX l G own nm cc nL rt tab R mc ms r k j σ n pc2 ls st) (k2 : x = y → qX l G own nm cc nL rt tab R mc ms r k j σ n pc3 ls st) : qX l G own nm cc nL rt tab R mc ms r k j σ n pc ls (.int y :: .int x :: st) := by
  subst hp; exact q_lift2 (P := ¬ x = y) (fun p e s m args below meth c hx hb H locs arr Q h1 h2 => lv_icmp_ne hx hb d ht h1 (fun h => h2 (fun z => z h))) k1 (fun h => k2 (Decidable.not_not.mp h))
theorem x_sub (ls2 : List (Nat × Value)) (ks : List Nat) (h : lv_pick ls ks = ls2) (kk : qX l G own nm cc nL rt tab R mc ms r k j σ n pc ls2 st) : qX l G own nm cc nL rt tab R mc ms r k j σ n pc ls st := fun p e s m args below meth c hx hb hml hr hn hown hts hlk htb hT hst hW0 H locs arr hS hW hl => kk p e s m args below meth c hx hb hml hr hn hown hts hlk htb hT hst hW0 H locs arr hS hW (lv_sub hl ks h)
theorem x_lookup {dflt : Int} {ps : Array (Int × Int)} {len : Nat} {x : Int32} (off : Int) (pc2 : Nat) (d : decode cc pc = .ok (.lookupswitch dflt ps, len)) (hs : (ps.toList.zip (ps.toList.drop 1)).all (fun (a, next) => a.1 < next.1) = true) (ho : Op.lookupswitch.offset ps.toList dflt x.toInt = off) (ht : (pc : Int) + off = (pc2 : Int)) (kk : qX l G own nm cc nL rt tab R mc ms r k j σ n pc2 ls st) : qX l G own nm cc nL rt tab R mc ms r k j σ n pc ls (.int x :: st) := q_lift (fun p e s m args below meth c hx hb _ _ H locs arr Q hl kk => lv_lookup hx hb d hs ho ht kk) kk
theorem x_tableOut {dflt lo hi : Int} {offs : Array Int} {len : Nat} {x : Int32} (pc2 : Nat) (d : decode cc pc = .ok (.tableswitch dflt lo hi offs, len)) (h : x.toInt < lo ∨ hi < x.toInt) (ht : (pc : Int) + dflt = (pc2 : Int)) (kk : qX l G own nm cc nL rt tab R mc ms r k j σ n pc2 ls st) : qX l G own nm cc nL rt tab R mc ms r k j σ n pc ls (.int x :: st) := q_lift (fun p e s m args below meth c hx hb _ _ H locs arr Q hl kk => lv_tableOut hx hb d h ht kk) kk
theorem x_tableIn {dflt lo hi : Int} {offs : Array Int} {len : Nat} {x : Int32} (off : Int) (pc2 : Nat) (d : decode cc pc = .ok (.tableswitch dflt lo hi offs, len)) (h1 : ¬ x.toInt < lo) (h2 : ¬ hi < x.toInt) (ho : offs[(x.toInt - lo).toNat]? = some off) (ht : (pc : Int) + off = (pc2 : Int)) (kk : qX l G own nm cc nL rt tab R mc ms r k j σ n pc2 ls st) : qX l G own nm cc nL rt tab R mc ms r k j σ n pc ls (.int x :: st) := q_lift (fun p e s m args below meth c hx hb _ _ H locs arr Q hl kk => lv_tableIn hx hb d h1 h2 ho ht kk) kk
theorem x_wide (k2 j2 : Nat) (h1 : k ≤ k2) (h2 : j ≤ j2) (kk : qX l G own nm cc nL rt tab R mc ms r k2 j2 σ n pc ls st) : qX l G own nm cc nL rt tab R mc ms r k j σ n pc ls st := fun p e s m args below meth c hx hb hml hr hn hown hts hlk htb hT hst hW0 H locs arr hS hW hl => W.widen h1 h2 (kk p e s m args below meth c hx hb hml hr hn hown hts hlk htb hT hst hW0 H locs arr hS hW hl)
end QX
end
section
/-! What a method's function over the abstract heap may do; each has a row of the walk. -/
abbrev qin (j : Int32) (n : Nat) : Prop := ¬ (j < 0 ∨ n ≤ j.toNatClampNeg)
def gI (σ : qH) (a ci i : Nat) : Option Int32 := match σ a with
  | some (.inr (c, fs)) => if c = ci then (match fs[i]? with | some (.int v) => some v | _ => none) else none
  | _ => none
def gR (σ : qH) (a ci i : Nat) : Option Nat := match σ a with
  | some (.inr (c, fs)) => if c = ci then (match fs[i]? with | some (.ref v) => some v | _ => none) else none
  | _ => none
def gP (σ : qH) (a ci i : Nat) (v : Value) : Option qH := match σ a with
  | some (.inr (c, fs)) => if c = ci ∧ i < fs.length then some (qU σ a (.inr (ci, fs.set i v))) else none
  | _ => none
def aI (σ : qH) (a : Nat) (j : Int32) : Option Int32 := match σ a with
  | some (.inl (k, (n, .inl f))) => if (k = 0 ∨ k = 4) ∧ qin j n then some (f j.toNatClampNeg) else none
  | _ => none
def aZ (σ : qH) (a : Nat) (j : Int32) : Option Int32 := match σ a with
  | some (.inl (k, (n, .inl f))) => if k = 1 ∧ qin j n then some (f j.toNatClampNeg) else none
  | _ => none
def aJ (σ : qH) (a : Nat) (j : Int32) : Option Int64 := match σ a with
  | some (.inl (k, (n, .inr (.inl f)))) => if k = 3 ∧ qin j n then some (f j.toNatClampNeg) else none
  | _ => none
def aQ (σ : qH) (a : Nat) (j : Int32) : Option Nat := match σ a with
  | some (.inl (k, (n, .inr (.inr (.inr (.inr f)))))) => if k = 2 ∧ qin j n then f j.toNatClampNeg else none
  | _ => none
def aL (σ : qH) (a : Nat) : Option Int32 := match σ a with
  | some (.inl (k, (n, _))) => if k < 5 then some (Int32.ofNat n) else none
  | _ => none
def sI (σ : qH) (a : Nat) (j x : Int32) : Option qH := match σ a with
  | some (.inl (k, (n, .inl f))) => if k = 0 ∧ qin j n then some (qU σ a (.inl (0, (n, .inl (upd f j.toNatClampNeg x))))) else none
  | _ => none
def sZ (σ : qH) (a : Nat) (j x : Int32) : Option qH := match σ a with
  | some (.inl (k, (n, .inl f))) => if k = 1 ∧ qin j n then some (qU σ a (.inl (1, (n, .inl (upd f j.toNatClampNeg (vp_nar .boolean x)))))) else none
  | _ => none
def sJ (σ : qH) (a : Nat) (j : Int32) (x : Int64) : Option qH := match σ a with
  | some (.inl (k, (n, .inr (.inl f)))) => if k = 3 ∧ qin j n then some (qU σ a (.inl (3, (n, .inr (.inl (vp_updL f j.toNatClampNeg x)))))) else none
  | _ => none
def sQ (σ : qH) (a : Nat) (j : Int32) (v : Nat) : Option qH := match σ a, σ v with
  | some (.inl (k, (n, .inr (.inr (.inr (.inr f)))))), some (.inr (c, _)) => if (k = 2 ∧ c = 2) ∧ qin j n then some (qU σ a (.inl (2, (n, .inr (.inr (.inr (.inr (va_up f j.toNatClampNeg (some v))))))))) else none
  | _, _ => none
/-- System.arraycopy of ints -/
def sC (σ : qH) (a : Nat) (sp : Int32) (b : Nat) (dp n : Int32) : Option qH := match σ a, σ b with
  | some (.inl (k0, (n0, .inl f))), some (.inl (k1, (n1, .inl g))) => if (k0 = 0 ∧ k1 = 0) ∧ (¬ sp < 0 ∧ ¬ dp < 0 ∧ ¬ n < 0) ∧ sp.toNatClampNeg + n.toNatClampNeg ≤ n0 ∧ dp.toNatClampNeg + n.toNatClampNeg ≤ n1 then some (qU σ b (.inl (0, (n1, .inl (va_cpy f g sp.toNatClampNeg dp.toNatClampNeg n.toNatClampNeg))))) else none
  | _, _ => none
def b1 {α β : Type} (o : Option α) (f : α → Option β) : Option β := match o with
  | some a => f a
  | none => none
/-- a step that may throw -/
def bx {α β : Type} (o : Option (α ⊕ String)) (f : α → Option (β ⊕ String)) : Option (β ⊕ String) := match o with
  | some (.inl a) => f a
  | some (.inr e) => some (.inr e)
  | none => none
def qfuel : Nat := 100000
theorem b1_inv {α β : Type} {o : Option α} {f : α → Option β} {r : β} (h : b1 o f = some r) : ∃ a, o = some a ∧ f a = some r := by
  cases o with
  | none => cases h
  | some a => exact ⟨a, rfl, h⟩
theorem bx_inv {α β : Type} {o : Option (α ⊕ String)} {f : α → Option (β ⊕ String)} {r : β ⊕ String} (h : bx o f = some r) : (∃ a, o = some (.inl a) ∧ f a = some r) ∨ (∃ e, o = some (.inr e) ∧ r = .inr e) := by
  match o, h with
  | some (.inl a), h => exact Or.inl ⟨a, rfl, h⟩
  | some (.inr e), h => exact Or.inr ⟨e, rfl, (Option.some.inj h).symm⟩
theorem ite_inv {α : Type} {c : Prop} [Decidable c] {x y : Option α} {r : α} (h : (if c then x else y) = some r) : (c ∧ x = some r) ∨ (¬ c ∧ y = some r) := by
  by_cases hc : c
  · rw [if_pos hc] at h; exact Or.inl ⟨hc, h⟩
  · rw [if_neg hc] at h; exact Or.inr ⟨hc, h⟩
theorem ite_none {α : Type} {c : Prop} [Decidable c] {x : Option α} {r : α} (h : (if c then x else none) = some r) : c ∧ x = some r := by
  by_cases hc : c
  · rw [if_pos hc] at h; exact ⟨hc, h⟩
  · rw [if_neg hc] at h; cases h
theorem gI_inv {σ : qH} {a ci i : Nat} {v : Int32} (h : gI σ a ci i = some v) : ∃ fs, σ a = some (.inr (ci, fs)) ∧ fs[i]? = some (.int v) := by
  unfold gI at h
  split at h
  · rename_i c fs e
    obtain ⟨hk1, h9⟩ := ite_none h
    subst hk1
    split at h9
    · rename_i w e2
      cases h9
      exact ⟨fs, e, e2⟩
    · cases h9
  · cases h
theorem gR_inv {σ : qH} {a ci i : Nat} {v : Nat} (h : gR σ a ci i = some v) : ∃ fs, σ a = some (.inr (ci, fs)) ∧ fs[i]? = some (.ref v) := by
  unfold gR at h
  split at h
  · rename_i c fs e
    obtain ⟨hk1, h9⟩ := ite_none h
    subst hk1
    split at h9
    · rename_i w e2
      cases h9
      exact ⟨fs, e, e2⟩
    · cases h9
  · cases h
theorem gP_inv {σ σ' : qH} {a ci i : Nat} {v : Value} (h : gP σ a ci i v = some σ') : ∃ fs, σ a = some (.inr (ci, fs)) ∧ i < fs.length ∧ σ' = qU σ a (.inr (ci, fs.set i v)) := by
  unfold gP at h
  split at h
  · rename_i c fs e
    obtain ⟨⟨hk1, hl⟩, h9⟩ := ite_none h
    subst hk1
    exact ⟨fs, e, hl, (Option.some.inj h9).symm⟩
  · cases h
theorem aI_inv {σ : qH} {a : Nat} {j v : Int32} (h : aI σ a j = some v) : ∃ (k n : Nat) (f : Nat → Int32), σ a = some (.inl (k, (n, .inl f))) ∧ (k = 0 ∨ k = 4) ∧ qin j n ∧ v = f j.toNatClampNeg := by
  unfold aI at h
  split at h
  · rename_i k n f e
    obtain ⟨⟨h1, h2⟩, h9⟩ := ite_none h
    exact ⟨k, n, f, e, h1, h2, (Option.some.inj h9).symm⟩
  · cases h
theorem aZ_inv {σ : qH} {a : Nat} {j v : Int32} (h : aZ σ a j = some v) : ∃ (n : Nat) (f : Nat → Int32), σ a = some (.inl (1, (n, .inl f))) ∧ qin j n ∧ v = f j.toNatClampNeg := by
  unfold aZ at h
  split at h
  · rename_i k n f e
    obtain ⟨⟨hk1, h2⟩, h9⟩ := ite_none h
    subst hk1
    exact ⟨n, f, e, h2, (Option.some.inj h9).symm⟩
  · cases h
theorem aJ_inv {σ : qH} {a : Nat} {j : Int32} {v : Int64} (h : aJ σ a j = some v) : ∃ (n : Nat) (f : Nat → Int64), σ a = some (.inl (3, (n, .inr (.inl f)))) ∧ qin j n ∧ v = f j.toNatClampNeg := by
  unfold aJ at h
  split at h
  · rename_i k n f e
    obtain ⟨⟨hk1, h2⟩, h9⟩ := ite_none h
    subst hk1
    exact ⟨n, f, e, h2, (Option.some.inj h9).symm⟩
  · cases h
theorem aQ_inv {σ : qH} {a : Nat} {j : Int32} {v : Nat} (h : aQ σ a j = some v) : ∃ (n : Nat) (f : Nat → Option Nat), σ a = some (.inl (2, (n, .inr (.inr (.inr (.inr f)))))) ∧ qin j n ∧ f j.toNatClampNeg = some v := by
  unfold aQ at h
  split at h
  · rename_i k n f e
    obtain ⟨⟨hk1, h2⟩, h9⟩ := ite_none h
    subst hk1
    exact ⟨n, f, e, h2, h9⟩
  · cases h
theorem aL_inv {σ : qH} {a : Nat} {v : Int32} (h : aL σ a = some v) : ∃ (k : Nat) (x : vp_A), σ a = some (.inl (k, x)) ∧ k < 5 ∧ v = Int32.ofNat x.1 := by
  unfold aL at h
  split at h
  · rename_i k n y e
    obtain ⟨h1, h9⟩ := ite_none h
    exact ⟨k, (n, y), e, h1, (Option.some.inj h9).symm⟩
  · cases h
theorem sI_inv {σ σ' : qH} {a : Nat} {j x : Int32} (h : sI σ a j x = some σ') : ∃ (n : Nat) (f : Nat → Int32), σ a = some (.inl (0, (n, .inl f))) ∧ qin j n ∧ σ' = qU σ a (.inl (0, (n, .inl (upd f j.toNatClampNeg x)))) := by
  unfold sI at h
  split at h
  · rename_i k n f e
    obtain ⟨⟨hk1, h2⟩, h9⟩ := ite_none h
    subst hk1
    exact ⟨n, f, e, h2, (Option.some.inj h9).symm⟩
  · cases h
theorem sZ_inv {σ σ' : qH} {a : Nat} {j x : Int32} (h : sZ σ a j x = some σ') : ∃ (n : Nat) (f : Nat → Int32), σ a = some (.inl (1, (n, .inl f))) ∧ qin j n ∧ σ' = qU σ a (.inl (1, (n, .inl (upd f j.toNatClampNeg (vp_nar .boolean x))))) := by
  unfold sZ at h
  split at h
  · rename_i k n f e
    obtain ⟨⟨hk1, h2⟩, h9⟩ := ite_none h
    subst hk1
    exact ⟨n, f, e, h2, (Option.some.inj h9).symm⟩
  · cases h
theorem sJ_inv {σ σ' : qH} {a : Nat} {j : Int32} {x : Int64} (h : sJ σ a j x = some σ') : ∃ (n : Nat) (f : Nat → Int64), σ a = some (.inl (3, (n, .inr (.inl f)))) ∧ qin j n ∧ σ' = qU σ a (.inl (3, (n, .inr (.inl (vp_updL f j.toNatClampNeg x))))) := by
  unfold sJ at h
  split at h
  · rename_i k n f e
    obtain ⟨⟨hk1, h2⟩, h9⟩ := ite_none h
    subst hk1
    exact ⟨n, f, e, h2, (Option.some.inj h9).symm⟩
  · cases h
theorem sQ_inv {σ σ' : qH} {a v : Nat} {j : Int32} (h : sQ σ a j v = some σ') : ∃ (n : Nat) (f : Nat → Option Nat) (vs : List Value), σ a = some (.inl (2, (n, .inr (.inr (.inr (.inr f)))))) ∧ σ v = some (.inr (2, vs)) ∧ qin j n ∧ σ' = qU σ a (.inl (2, (n, .inr (.inr (.inr (.inr (va_up f j.toNatClampNeg (some v)))))))) := by
  unfold sQ at h
  split at h
  · rename_i k n f c vs e e2
    obtain ⟨⟨⟨hk1, hk2⟩, h2⟩, h9⟩ := ite_none h
    subst hk1
    subst hk2
    exact ⟨n, f, vs, e, e2, h2, (Option.some.inj h9).symm⟩
  · cases h
theorem sC_inv {σ σ' : qH} {a b : Nat} {sp dp n : Int32} (h : sC σ a sp b dp n = some σ') : ∃ (n0 n1 : Nat) (f g : Nat → Int32), σ a = some (.inl (0, (n0, .inl f))) ∧ σ b = some (.inl (0, (n1, .inl g))) ∧ (¬ sp < 0 ∧ ¬ dp < 0 ∧ ¬ n < 0) ∧ sp.toNatClampNeg + n.toNatClampNeg ≤ n0 ∧ dp.toNatClampNeg + n.toNatClampNeg ≤ n1 ∧ σ' = qU σ b (.inl (0, (n1, .inl (va_cpy f g sp.toNatClampNeg dp.toNatClampNeg n.toNatClampNeg)))) := by
  unfold sC at h
  split at h
  · rename_i k0 n0 f k1 n1 g e e2
    obtain ⟨⟨⟨hk1, hk2⟩, h2, h3, h4⟩, h9⟩ := ite_none h
    subst hk1
    subst hk2
    exact ⟨n0, n1, f, g, e, e2, h2, h3, h4, (Option.some.inj h9).symm⟩
  · cases h
/-- a cell of the abstract heap changes -/
theorem qW_put {G : qG} {σ : qH} {n : Option Nat} {H H1 : Heap} {a : Nat} {e0 e : qE} (hW : qW G σ n H) (ha : σ a = some e0) (h0 : qro e0 = false) (h1 : qro e = false) (he : va_at G.1 vwCl (a, qtr G e) H1) (z : H1.size = H.size) (oq : ∀ q : Nat, q ≠ a → H1[q]? = H[q]?) : qW G (qU σ a e) n H1 ∧ qz G a := by
  obtain ⟨w1, w2, w3, ⟨ws, hP, hD, hc⟩, w5⟩ := hW
  obtain ⟨k, hk⟩ := hc a e0 ha h0
  have hz : qz G a := hD.2 k _ hk
  have hl := (List.getElem?_eq_some_iff.mp hk).1
  refine ⟨⟨by rw [z]; exact w1, by rw [z]; exact w2, fun q hq => ?_, ⟨ws.set k (a, qtr G e), hP.set hD hk he oq, hD.set hk, fun b e2 hb hr => ?_⟩, fun b x hb => ?_⟩, hz⟩
  · rw [oq q (fun h => by subst h; exact absurd hz (Nat.not_le.mpr hq))]
    exact w3 q hq
  · by_cases hba : b = a
    · subst hba
      simp only [qU, if_pos] at hb
      cases hb
      exact ⟨k, by rw [List.getElem?_set_self hl]⟩
    · simp only [qU, if_neg hba] at hb
      obtain ⟨k2, hk2⟩ := hc b e2 hb hr
      refine ⟨k2, ?_⟩
      rw [List.getElem?_set_ne (fun h => hba ?_)]
      · exact hk2
      · subst h
        rw [hk] at hk2
        exact (congrArg Prod.fst (Option.some.inj hk2)).symm
  · by_cases hba : b = a
    · subst hba
      simp only [qU, if_pos] at hb
      cases hb
      simp [qro] at h1
    · simp only [qU, if_neg hba] at hb
      exact w5 b x hb
theorem qW_at {G : qG} {σ : qH} {n : Option Nat} {H : Heap} (hW : qW G σ n H) {a : Nat} {e : qE} (ha : σ a = some e) (h0 : qro e = false) : va_P G.1 vwCl [(a, qtr G e)] H := by
  obtain ⟨w1, w2, w3, ⟨ws, hP, hD, hc⟩, w5⟩ := hW
  obtain ⟨k, hk⟩ := hc a e ha h0
  intro i q hq
  have hi : i < 1 := (List.getElem?_eq_some_iff.mp hq).1
  have : i = 0 := by omega
  subst this
  cases hq
  exact hP k _ hk
/-- a new cell -/
theorem qW_new {G : qG} {σ : qH} {n : Nat} {H H1 : Heap} {e : qE} (hW : qW G σ (some n) H) (h1 : qro e = false) (he : va_at G.1 vwCl (n, qtr G e) H1) (z : H1.size = n + 1) (oq : ∀ q : Nat, q < n → H1[q]? = H[q]?) : qW G (qU σ n e) (some (n + 1)) H1 := by
  obtain ⟨w1, w2, w3, ⟨ws, hP, hD, hc⟩, w5⟩ := hW
  have w1 := w1 n rfl
  have hk : ∀ (k : Nat) (x : Nat × va_E), ws[k]? = some x → H1[x.1]? = H[x.1]? := fun k x hx => oq x.1 (by have := (hP k x hx).lt; omega)
  refine ⟨fun m hm => by cases hm; exact z, by omega, fun q hq => by rw [oq q (by omega)]; exact w3 q hq, ⟨ws ++ [(n, qtr G e)], (hP.kept hk).app (fun k x hx => ?_), hD.push hP w1.symm (by show G.2.2.1.size ≤ n; omega), fun b e2 hb hr => ?_⟩, fun b x hb => ?_⟩
  · have hz : k < 1 := (List.getElem?_eq_some_iff.mp hx).1
    rw [show k = 0 by omega] at hx
    cases hx
    exact he
  · by_cases hba : b = n
    · subst hba
      simp only [qU, if_pos] at hb
      cases hb
      exact ⟨ws.length, by simp⟩
    · simp only [qU, if_neg hba] at hb
      obtain ⟨k2, hk2⟩ := hc b e2 hb hr
      exact ⟨k2, by rw [List.getElem?_append_left (List.getElem?_eq_some_iff.mp hk2).1]; exact hk2⟩
  · by_cases hba : b = n
    · subst hba
      simp only [qU, if_pos] at hb
      cases hb
      simp [qro] at h1
    · simp only [qU, if_neg hba] at hb
      exact w5 b x hb
theorem qW_any {G : qG} {σ : qH} {n : Option Nat} {H : Heap} (h : qW G σ n H) : qW G σ none H := ⟨fun m hm => (by cases hm), h.2⟩
end
section
section QY
variable {l : Launch} {G : qG} {own nm : String} {cc : ByteArray} {nL : Nat} {rt : Option FieldType} {tab : List ExceptionTableEntry} {R : Room} {mc ms : Nat} {r : qR} {k j : Nat} {σ σ' : qH} {n : Option Nat} {pc : Nat} {ls : List (Nat × Value)} {st : List Value}
theorem x_get {a ci index N : Nat} {C : String} {T : u_T} {v : Value} {fs : List Value} (pc2 i : Nat) (hin : ∀ w ∈ u_ws C T N, w ∈ lw_good) (hc : vwCl[ci]? = some (C, T, N)) (hi : i < N) (hw : Cond.fieldLink own index (T i).1 (T i).2.1 (T i).2.2.1 ∈ lw_good) (h1 : σ a = some (.inr (ci, fs))) (h2 : fs[i]? = some v)
    (d : decode cc pc = .ok (.getfield index, 3)) (hp : pc + 3 = pc2) (kk : qX l G own nm cc nL rt tab R mc ms r k j σ n pc2 ls (v :: st)) : qX l G own nm cc nL rt tab R mc ms r k j σ n pc ls (.ref a :: st) := by
  subst hp
  intro p e s m args below meth c hx hb hml hr hn hown hts hlk htb hT hst hW0 H locs arr hS hW hl
  exact va_get (D := G.1) (cl := vwCl) (tys := qtys G) hx hb hts hin hown hT.1 (qW_at hW h1 rfl) 0 rfl hc i hi (hts _ hw) (fun _ h => h) h2 d (kk p e s m args below meth c hx hb hml hr hn hown hts hlk htb hT hst hW0 H locs arr hS hW hl)
theorem x_getI {a ci index N : Nat} {C : String} {T : u_T} {v : Int32} (pc2 i : Nat) (hin : ∀ w ∈ u_ws C T N, w ∈ lw_good) (hc : vwCl[ci]? = some (C, T, N)) (hi : i < N) (hw : Cond.fieldLink own index (T i).1 (T i).2.1 (T i).2.2.1 ∈ lw_good) (h : gI σ a ci i = some v)
    (d : decode cc pc = .ok (.getfield index, 3)) (hp : pc + 3 = pc2) (kk : qX l G own nm cc nL rt tab R mc ms r k j σ n pc2 ls (.int v :: st)) : qX l G own nm cc nL rt tab R mc ms r k j σ n pc ls (.ref a :: st) := by
  obtain ⟨fs, h1, h2⟩ := gI_inv h
  exact x_get pc2 i hin hc hi hw h1 h2 d hp kk
theorem x_getR {a ci index N : Nat} {C : String} {T : u_T} {v : Nat} (pc2 i : Nat) (hin : ∀ w ∈ u_ws C T N, w ∈ lw_good) (hc : vwCl[ci]? = some (C, T, N)) (hi : i < N) (hw : Cond.fieldLink own index (T i).1 (T i).2.1 (T i).2.2.1 ∈ lw_good) (h : gR σ a ci i = some v)
    (d : decode cc pc = .ok (.getfield index, 3)) (hp : pc + 3 = pc2) (kk : qX l G own nm cc nL rt tab R mc ms r k j σ n pc2 ls (.ref v :: st)) : qX l G own nm cc nL rt tab R mc ms r k j σ n pc ls (.ref a :: st) := by
  obtain ⟨fs, h1, h2⟩ := gR_inv h
  exact x_get pc2 i hin hc hi hw h1 h2 d hp kk
/-- a field is written: outside the constructor no final one -/
theorem x_put {a ci index N : Nat} {C : String} {T : u_T} {v : Value} {ty : FieldType} (pc2 i : Nat) (hin : ∀ w ∈ u_ws C T N, w ∈ lw_good) (ty0 : Nat → FieldType) (hty : ∀ k, k < N → parseFieldDescriptor (T k).2.2.1 = some (ty0 k)) (hnm : ∀ a, a < N → ∀ b, b < N → a ≠ b → (T a).2.1 ≠ (T b).2.1) (hc : vwCl[ci]? = some (C, T, N)) (hi : i < N) (hw : Cond.fieldLink own index (T i).1 (T i).2.1 (T i).2.2.1 ∈ lw_good) (hfin : (T i).2.2.2 = false) (hd : parseFieldDescriptor (T i).2.2.1 = some ty) (hnw : narrow ty v = v) (hfit : fits ty v = true) (h : gP σ a ci i v = some σ')
    (d : decode cc pc = .ok (.putfield index, 3)) (hp : pc + 3 = pc2) (kk : qX l G own nm cc nL rt tab R mc ms r k j σ' n pc2 ls st) : qX l G own nm cc nL rt tab R mc ms r k j σ n pc ls (v :: .ref a :: st) := by
  subst hp
  obtain ⟨fs, h1, hl0, rfl⟩ := gP_inv h
  intro p e s m args below meth c hx hb hml hr hn hown hts hlk htb hT hst hW0 H locs arr hS hW hl
  have hap := va_apart (own := own) hts hin ty0 hty hnm hT.1 hc
  obtain ⟨rr, h1b, cell, q1, q2, q3, q4⟩ := (qW_at hW h1 rfl) 0 _ rfl
  have hr2 : rr = (C, T, N) := Option.some.inj (h1b.symm.trans hc)
  subst hr2
  obtain ⟨hS2, hfc, kC, hkC, hkind⟩ := hT.1.1 ci _ hc
  obtain ⟨cf, kf, fi, f, hif, hsl⟩ := hS2 i hi
  have hlay := hts _ (hin _ (u_in_lay hi))
  unfold u_lay at hlay
  rw [if_neg (by rw [hfin]; decide)] at hlay
  have hst2 := (u_facts hfc hkC (u_lays hts hin hi) hif).1
  have h6 := u_store hfc hkC hkind hlay hif hd hnw hfit
  refine W.putK hx hb (f := f) ⟨hown, hts _ hw, ⟨_, _, _, hif⟩, hst2⟩ (by rw [q2]; exact h6) q1 q3 (by rw [hsl]; exact k2_hasslot (q4 i hi)) rfl rfl d fun H' e1 e2 e3 => ?_
  rw [hsl] at e1 ⊢
  obtain ⟨g1, g2⟩ := qW_put (e := .inr (ci, fs.set i v)) hW h1 rfl rfl ⟨_, hc, t_OB.to (V := updV (vp_V fs) i v) ⟨_, e1, q2, q3, t_set q4 hap hi v⟩ (fun j _ => vp_updV_set hl0 v j)⟩ e2 e3
  exact kk p e s m args below meth c hx hb hml hr hn hown hts hlk htb hT hst hW0 H' _ arr (hS.put e2 e3 g2) g1 hl
/-- a final field, in its class's constructor -/
theorem x_putF {a ci index N : Nat} {C : String} {T : u_T} {v : Value} {ty : FieldType} (pc2 i : Nat) (hin : ∀ w ∈ u_ws C T N, w ∈ lw_good) (ty0 : Nat → FieldType) (hty : ∀ k, k < N → parseFieldDescriptor (T k).2.2.1 = some (ty0 k)) (hnm : ∀ a, a < N → ∀ b, b < N → a ≠ b → (T a).2.1 ≠ (T b).2.1) (hc : vwCl[ci]? = some (C, T, N)) (hi : i < N) (hw : Cond.fieldLink own index (T i).1 (T i).2.1 (T i).2.2.1 ∈ lw_good) (hfin : (T i).2.2.2 = true) (hnm2 : nm = "<init>") (hdecl : (T i).1 = own) (hd : parseFieldDescriptor (T i).2.2.1 = some ty) (hnw : narrow ty v = v) (hfit : fits ty v = true) (h : gP σ a ci i v = some σ')
    (d : decode cc pc = .ok (.putfield index, 3)) (hp : pc + 3 = pc2) (kk : qX l G own nm cc nL rt tab R mc ms r k j σ' n pc2 ls st) : qX l G own nm cc nL rt tab R mc ms r k j σ n pc ls (v :: .ref a :: st) := by
  subst hp
  obtain ⟨fs, h1, hl0, rfl⟩ := gP_inv h
  intro p e s m args below meth c hx hb hml hr hn hown hts hlk htb hT hst hW0 H locs arr hS hW hl
  have hap := va_apart (own := own) hts hin ty0 hty hnm hT.1 hc
  obtain ⟨rr, h1b, cell, q1, q2, q3, q4⟩ := (qW_at hW h1 rfl) 0 _ rfl
  have hr2 : rr = (C, T, N) := Option.some.inj (h1b.symm.trans hc)
  subst hr2
  obtain ⟨hS2, hfc, kC, hkC, hkind⟩ := hT.1.1 ci _ hc
  obtain ⟨cf, kf, fi, f, hif, hsl⟩ := hS2 i hi
  have hlay := hts _ (hin _ (u_in_lay hi))
  unfold u_lay at hlay
  rw [if_pos hfin] at hlay
  have hst2 := (u_facts hfc hkC (u_lays hts hin hi) hif).1
  have hcf : m.cls = cf := by
    obtain ⟨_, _, c', _, _, _, -, -, hf', -, -, -, hown2, -⟩ := Cond.laysFinal_spec hlay
    have e1 : c' = cf := by have := hif.symm.trans hf'; simp at this; exact this.1.symm
    rw [hdecl] at hown2
    rw [← e1]; exact Option.some.inj (hown.symm.trans hown2)
  have h6 := u_fits hfc hkC hkind (Or.inr hlay) hif hd hnw hfit
  refine W.putFinK hx hb hown (hts _ hw) hif hst2 hcf (hn.trans hnm2) (by rw [q2]; exact h6) q1 q3 (by rw [hsl]; exact k2_hasslot (q4 i hi)) rfl rfl d fun H' e1 e2 e3 => ?_
  rw [hsl] at e1 ⊢
  obtain ⟨g1, g2⟩ := qW_put (e := .inr (ci, fs.set i v)) hW h1 rfl rfl ⟨_, hc, t_OB.to (V := updV (vp_V fs) i v) ⟨_, e1, q2, q3, t_set q4 hap hi v⟩ (fun j _ => vp_updV_set hl0 v j)⟩ e2 e3
  exact kk p e s m args below meth c hx hb hml hr hn hown hts hlk htb hT hst hW0 H' _ arr (hS.put e2 e3 g2) g1 hl
theorem x_aI {a : Nat} {q v : Int32} (pc2 : Nat) (h : aI σ a q = some v) (d : decode cc pc = .ok (.iaload, 1)) (hp : pc + 1 = pc2) (kk : qX l G own nm cc nL rt tab R mc ms r k j σ n pc2 ls (.int v :: st)) : qX l G own nm cc nL rt tab R mc ms r k j σ n pc ls (.int q :: .ref a :: st) := by
  subst hp
  obtain ⟨k0, n0, f, h1, h2, h3, rfl⟩ := aI_inv h
  intro p e s m args below meth c hx hb hml hr hn hown hts hlk htb hT hst hW0 H locs arr hS hW hl
  rcases h2 with rfl | rfl
  · exact va_iald (D := G.1) (cl := vwCl) (tys := qtys G) hx hb hT.1 (qW_at hW h1 rfl) 0 0 rfl rfl h3 d (kk p e s m args below meth c hx hb hml hr hn hown hts hlk htb hT hst hW0 H locs arr hS hW hl)
  · obtain ⟨m0, f0, e0, e1, e2⟩ := hW.2.2.2.2 a _ h1
    cases e0
    exact va_sld (A := qz G) (H0 := G.2.2.1) hx hb (hT.2.2.1 a _ _ e2) e1 (Nat.not_le.mpr e1) ⟨hW.2.1, fun q z4 z5 => hW.2.2.1 q z4, hS.2.2⟩ h3 d (kk p e s m args below meth c hx hb hml hr hn hown hts hlk htb hT hst hW0 H locs arr hS hW hl)
theorem x_aZ {a : Nat} {q v : Int32} (pc2 : Nat) (h : aZ σ a q = some v) (d : decode cc pc = .ok (.baload, 1)) (hp : pc + 1 = pc2) (kk : qX l G own nm cc nL rt tab R mc ms r k j σ n pc2 ls (.int v :: st)) : qX l G own nm cc nL rt tab R mc ms r k j σ n pc ls (.int q :: .ref a :: st) := by
  subst hp
  obtain ⟨n0, f, h1, h3, rfl⟩ := aZ_inv h
  intro p e s m args below meth c hx hb hml hr hn hown hts hlk htb hT hst hW0 H locs arr hS hW hl
  exact va_zald (D := G.1) (cl := vwCl) (tys := qtys G) hx hb hT.1 (qW_at hW h1 rfl) 0 1 rfl rfl h3 d (kk p e s m args below meth c hx hb hml hr hn hown hts hlk htb hT hst hW0 H locs arr hS hW hl)
theorem x_aJ {a : Nat} {q : Int32} {v : Int64} (pc2 : Nat) (h : aJ σ a q = some v) (d : decode cc pc = .ok (.laload, 1)) (hp : pc + 1 = pc2) (kk : qX l G own nm cc nL rt tab R mc ms r k j σ n pc2 ls (.long v :: st)) : qX l G own nm cc nL rt tab R mc ms r k j σ n pc ls (.int q :: .ref a :: st) := by
  subst hp
  obtain ⟨n0, f, h1, h3, rfl⟩ := aJ_inv h
  intro p e s m args below meth c hx hb hml hr hn hown hts hlk htb hT hst hW0 H locs arr hS hW hl
  exact va_lald (D := G.1) (cl := vwCl) (tys := qtys G) hx hb hT.1 (qW_at hW h1 rfl) 0 3 rfl rfl h3 d (kk p e s m args below meth c hx hb hml hr hn hown hts hlk htb hT hst hW0 H locs arr hS hW hl)
theorem x_aQ {a : Nat} {q : Int32} {v : Nat} (pc2 : Nat) (h : aQ σ a q = some v) (d : decode cc pc = .ok (.aaload, 1)) (hp : pc + 1 = pc2) (kk : qX l G own nm cc nL rt tab R mc ms r k j σ n pc2 ls (.ref v :: st)) : qX l G own nm cc nL rt tab R mc ms r k j σ n pc ls (.int q :: .ref a :: st) := by
  subst hp
  obtain ⟨n0, f, h1, h3, h4⟩ := aQ_inv h
  intro p e s m args below meth c hx hb hml hr hn hown hts hlk htb hT hst hW0 H locs arr hS hW hl
  refine va_aldq (D := G.1) (cl := vwCl) (tys := qtys G) hx hb hT.1 (qW_at hW h1 rfl) 0 2 rfl rfl h3 d ?_
  rw [h4]
  exact kk p e s m args below meth c hx hb hml hr hn hown hts hlk htb hT hst hW0 H locs arr hS hW hl
theorem x_aL {a : Nat} {v : Int32} (pc2 : Nat) (h : aL σ a = some v) (d : decode cc pc = .ok (.arraylength, 1)) (hp : pc + 1 = pc2) (kk : qX l G own nm cc nL rt tab R mc ms r k j σ n pc2 ls (.int v :: st)) : qX l G own nm cc nL rt tab R mc ms r k j σ n pc ls (.ref a :: st) := by
  subst hp
  obtain ⟨k0, x, h1, h2, rfl⟩ := aL_inv h
  intro p e s m args below meth c hx hb hml hr hn hown hts hlk htb hT hst hW0 H locs arr hS hW hl
  have K := kk p e s m args below meth c hx hb hml hr hn hown hts hlk htb hT hst hW0 H locs arr hS hW hl
  rcases (show k0 = 0 ∨ k0 = 1 ∨ k0 = 2 ∨ k0 = 3 ∨ k0 = 4 by omega) with rfl | rfl | rfl | rfl | rfl
  · exact va_alen (D := G.1) (cl := vwCl) (tys := qtys G) hx hb hT.1 (qW_at hW h1 rfl) 0 0 rfl rfl rfl d K
  · exact va_alen (D := G.1) (cl := vwCl) (tys := qtys G) hx hb hT.1 (qW_at hW h1 rfl) 0 1 rfl rfl rfl d K
  · exact va_alen (D := G.1) (cl := vwCl) (tys := qtys G) hx hb hT.1 (qW_at hW h1 rfl) 0 2 rfl rfl rfl d K
  · exact va_alen (D := G.1) (cl := vwCl) (tys := qtys G) hx hb hT.1 (qW_at hW h1 rfl) 0 3 rfl rfl rfl d K
  · obtain ⟨m0, f0, e0, e1, e2⟩ := hW.2.2.2.2 a _ h1
    subst e0
    exact va_slen (A := qz G) (H0 := G.2.2.1) hx hb (hT.2.2.1 a _ _ e2) e1 (Nat.not_le.mpr e1) ⟨hW.2.1, fun q z4 z5 => hW.2.2.1 q z4, hS.2.2⟩ d K
theorem x_sI {a : Nat} {q v : Int32} (pc2 : Nat) (h : sI σ a q v = some σ') (d : decode cc pc = .ok (.iastore, 1)) (hp : pc + 1 = pc2) (kk : qX l G own nm cc nL rt tab R mc ms r k j σ' n pc2 ls st) : qX l G own nm cc nL rt tab R mc ms r k j σ n pc ls (.int v :: .int q :: .ref a :: st) := by
  subst hp
  obtain ⟨n0, f, h1, h3, rfl⟩ := sI_inv h
  intro p e s m args below meth c hx hb hml hr hn hown hts hlk htb hT hst hW0 H locs arr hS hW hl
  have hP := qW_at hW h1 rfl
  refine W.iast hx hb (hP 0 _ rfl) ((hT.1.2 0 _ rfl).1 n0 (fun j => .int (f j))) (fun q => by cases q) (by show ¬ (q < 0 ∨ (arrV _ _ _).slots.size ≤ _); rw [arrV_size]; exact h3) rfl rfl d fun H1 e1 z oq => ?_
  obtain ⟨g1, g2⟩ := qW_put (e := .inl (0, (n0, .inl (upd f q.toNatClampNeg v)))) hW h1 rfl rfl (by
    show H1[a]? = some (vp_cell _ _)
    rw [e1]
    show some ((vp_cell _ _).setSlot _ _) = _
    rw [vp_cell_i, vp_cell_i, arrV_store]
    congr 2
    funext i
    by_cases hi : i = q.toNatClampNeg
    · subst hi
      simp [updV, upd]
    · simp [updV, upd, hi]) z oq
  exact kk p e s m args below meth c hx hb hml hr hn hown hts hlk htb hT hst hW0 H1 _ arr (hS.put z oq g2) g1 hl
theorem x_sZ {a : Nat} {q v : Int32} (pc2 : Nat) (h : sZ σ a q v = some σ') (d : decode cc pc = .ok (.bastore, 1)) (hp : pc + 1 = pc2) (kk : qX l G own nm cc nL rt tab R mc ms r k j σ' n pc2 ls st) : qX l G own nm cc nL rt tab R mc ms r k j σ n pc ls (.int v :: .int q :: .ref a :: st) := by
  subst hp
  obtain ⟨n0, f, h1, h3, rfl⟩ := sZ_inv h
  intro p e s m args below meth c hx hb hml hr hn hown hts hlk htb hT hst hW0 H locs arr hS hW hl
  have hP := qW_at hW h1 rfl
  refine W.zast hx hb (hP 0 _ rfl) ((hT.1.2 1 _ rfl).1 n0 (fun j => .int (f j))) (fun q => by cases q) (by show ¬ (q < 0 ∨ (arrV _ _ _).slots.size ≤ _); rw [arrV_size]; exact h3) rfl rfl d fun H1 e1 z oq => ?_
  obtain ⟨g1, g2⟩ := qW_put (e := .inl (1, (n0, .inl (upd f q.toNatClampNeg (vp_nar .boolean v))))) hW h1 rfl rfl (by
    show H1[a]? = some (vp_cell _ _)
    rw [e1]
    show some ((vp_cell _ _).setSlot _ _) = _
    rw [vp_cell_i, vp_cell_i, arrV_store]
    congr 2
    funext i
    by_cases hi : i = q.toNatClampNeg
    · subst hi
      simp [updV, upd, vp_nar]
      try rfl
    · simp [updV, upd, hi]) z oq
  exact kk p e s m args below meth c hx hb hml hr hn hown hts hlk htb hT hst hW0 H1 _ arr (hS.put z oq g2) g1 hl
theorem x_sJ {a : Nat} {q : Int32} {v : Int64} (pc2 : Nat) (h : sJ σ a q v = some σ') (d : decode cc pc = .ok (.lastore, 1)) (hp : pc + 1 = pc2) (kk : qX l G own nm cc nL rt tab R mc ms r k j σ' n pc2 ls st) : qX l G own nm cc nL rt tab R mc ms r k j σ n pc ls (.long v :: .int q :: .ref a :: st) := by
  subst hp
  obtain ⟨n0, f, h1, h3, rfl⟩ := sJ_inv h
  intro p e s m args below meth c hx hb hml hr hn hown hts hlk htb hT hst hW0 H locs arr hS hW hl
  have hP := qW_at hW h1 rfl
  refine W.last hx hb (hP 0 _ rfl) ((hT.1.2 3 _ rfl).1 n0 (fun j => .long (f j))) (fun q => by cases q) (by show ¬ (q < 0 ∨ (arrV _ _ _).slots.size ≤ _); rw [arrV_size]; exact h3) rfl rfl d fun H1 e1 z oq => ?_
  obtain ⟨g1, g2⟩ := qW_put (e := .inl (3, (n0, .inr (.inl (vp_updL f q.toNatClampNeg v))))) hW h1 rfl rfl (by
    show H1[a]? = some (vp_cell _ _)
    rw [e1]
    show some ((vp_cell _ _).setSlot _ _) = _
    rw [vp_cell_l, vp_cell_l, arrV_store]
    congr 2
    funext i
    by_cases hi : i = q.toNatClampNeg
    · subst hi
      simp [updV, vp_updL]
    · simp [updV, vp_updL, hi]) z oq
  exact kk p e s m args below meth c hx hb hml hr hn hown hts hlk htb hT hst hW0 H1 _ arr (hS.put z oq g2) g1 hl
theorem x_sQ {a v : Nat} {q : Int32} (pc2 : Nat) (h : sQ σ a q v = some σ') (d : decode cc pc = .ok (.aastore, 1)) (hp : pc + 1 = pc2) (kk : qX l G own nm cc nL rt tab R mc ms r k j σ' n pc2 ls st) : qX l G own nm cc nL rt tab R mc ms r k j σ n pc ls (.ref v :: .int q :: .ref a :: st) := by
  subst hp
  obtain ⟨n0, f, vs, h1, h1v, h3, rfl⟩ := sQ_inv h
  intro p e s m args below meth c hx hb hml hr hn hown hts hlk htb hT hst hW0 H locs arr hS hW hl
  have hP := qW_at hW h1 rfl
  have hPv := qW_at hW h1v rfl
  have hlt : q.toNatClampNeg < n0 := Nat.not_le.mp fun z => h3 (Or.inr z)
  have h0 : ¬ q < 0 := fun z => h3 (Or.inl z)
  obtain ⟨r', hr', cellV, g1, g2, g3, -⟩ := hPv 0 _ rfl
  have hcls := (hT.1.1 2 (RX2, TX2, 11) rfl).2
  obtain ⟨kA, comp, k1, k2, k3, -⟩ := (hT.1.2 2 _ rfl).2
  have hcomp : comp = G.1.1 2 := Option.some.inj (k3.symm.trans hcls.1)
  subst hcomp
  obtain ⟨kC, hkC, -⟩ := hcls.2
  refine W.aast hx hb (hP 0 _ rfl) (fun q h => by cases h) (fun h => by cases h) k1 k2 rfl hkC ⟨h0, by show _ < (arrV _ _ _).slots.size; rw [arrV_size]; exact hlt⟩ g1 (fun q h => by rw [g3] at h; cases h) (by rw [g2]; exact hkC) (by rw [g2]; exact va_assign hcls) rfl rfl d fun H1 e1 z oq => ?_
  obtain ⟨y1, y2⟩ := qW_put (e := .inl (2, (n0, .inr (.inr (.inr (.inr (va_up f q.toNatClampNeg (some v)))))))) hW h1 rfl rfl (by
    show H1[a]? = some (vp_cell _ _)
    rw [e1]
    show some ((vp_cell _ _).setSlot _ _) = _
    rw [vp_cell_q, vp_cell_q, arrV_store]
    congr 2
    funext i
    by_cases hi : i = q.toNatClampNeg
    · subst hi
      simp [updV, va_up, va_rf]
    · simp [updV, va_up, hi]) z oq
  exact kk p e s m args below meth c hx hb hml hr hn hown hts hlk htb hT hst hW0 H1 _ arr (hS.put z oq y2) y1 hl
end QY
end
section
section QZ
variable {l : Launch} {G : qG} {own nm : String} {cc : ByteArray} {nL : Nat} {rt : Option FieldType} {tab : List ExceptionTableEntry} {R : Room} {mc ms : Nat} {r : qR} {k j : Nat} {σ σ' : qH} {n : Option Nat} {pc : Nat} {ls : List (Nat × Value)} {st : List Value}
theorem qS_end {G : qG} {σ : qH} {n : Option Nat} {s : State} {H : Heap} {locs : List Loc} (hS : va_S (qz G) s.heap H locs) {t : State} (ht : t.heap = H) (hW : qW G σ n H) : qW G σ n t.heap ∧ s.heap.size ≤ t.heap.size := ⟨by rw [ht]; exact hW, by rw [ht]; exact hS.1⟩
/-- the ends -/
theorem x_iret {v : Int32} (hr0 : rt = some .int) (hr2 : r = .inl (some (.int v), σ, n)) (hk : k ≤ mc) (hj : j ≤ ms) (d : decode cc pc = .ok (.ireturn, 1)) : qX l G own nm cc nL rt tab R mc ms r k j σ n pc ls [.int v] := by
  subst hr2; subst hr0
  intro p e s m args below meth c hx hb hml hr hn hown hts hlk htb hT hst hW0 H locs arr hS hW hl
  refine W.widen hk hj (vx_ret (W.iret hx hb hr (fun t ht _ => ⟨rfl, qS_end hS ht hW⟩) hS.2.2 d hlk))
theorem x_zret {v : Int32} {ty : FieldType} (hr0 : rt = some ty) (hv : narrow ty (.int v) = .int v) (hr2 : r = .inl (some (.int v), σ, n)) (hk : k ≤ mc) (hj : j ≤ ms) (d : decode cc pc = .ok (.ireturn, 1)) : qX l G own nm cc nL rt tab R mc ms r k j σ n pc ls [.int v] := by
  subst hr2; subst hr0
  intro p e s m args below meth c hx hb hml hr hn hown hts hlk htb hT hst hW0 H locs arr hS hW hl
  refine W.widen hk hj (vx_ret (W.zret hx hb hr hv (fun t ht _ => ⟨rfl, qS_end hS ht hW⟩) hS.2.2 d hlk))
theorem x_lret {v : Int64} (hr0 : rt = some .long) (hr2 : r = .inl (some (.long v), σ, n)) (hk : k ≤ mc) (hj : j ≤ ms) (d : decode cc pc = .ok (.lreturn, 1)) : qX l G own nm cc nL rt tab R mc ms r k j σ n pc ls [.long v] := by
  subst hr2; subst hr0
  intro p e s m args below meth c hx hb hml hr hn hown hts hlk htb hT hst hW0 H locs arr hS hW hl
  refine W.widen hk hj (vx_ret (W.lret hx hb hr (fun t ht _ => ⟨rfl, qS_end hS ht hW⟩) hS.2.2 d hlk))
theorem x_vret (hr0 : rt = none) (hr2 : r = .inl (none, σ, n)) (hk : k ≤ mc) (hj : j ≤ ms) (d : decode cc pc = .ok (.return_, 1)) : qX l G own nm cc nL rt tab R mc ms r k j σ n pc ls [] := by
  subst hr2; subst hr0
  intro p e s m args below meth c hx hb hml hr hn hown hts hlk htb hT hst hW0 H locs arr hS hW hl
  refine W.widen hk hj (vx_ret (W.vret hx hb hr (fun t ht _ => ⟨rfl, qS_end hS ht hW⟩) hS.2.2 d hlk))
theorem q_ofW {y : MethodName} {ws ws' : List Cond} {rm : Room} {Pc : Array Value → State → Prop} {Qc : Array Value → State → Outcome → State → Prop} {XC : String → State → State → Prop} {free : Addr → Prop} {cc : ByteArray} {maxL : Nat} {ret : Option FieldType}
    (hy : plainFor y = true) (hw : ws = Cond.code y cc maxL ret :: ws')
    (body : ∀ p e s m args below meth c s₁, BodyLoose p l y (headSpec ws rm) cc maxL ret e s m args below meth c s₁ → c.maxLocals = maxL → (∀ x ∈ c.exceptionTable.toList, False) → Pc args s →
      W p l e (headSpec ws rm).room s m args below meth c s.heap [] 0 0 (vx_MQ below Qc XC args s mc ms free) (entryFrame m args maxL)) : vx_Met l y ws rm Pc Qc XC mc ms free := by
  refine MetFree.of_bodySF (code := cc) (maxLocals := maxL) (ret := ret) hy ?_ ?_
  · intro args s m h hn
    obtain ⟨meth, c, h1, h2, h3, h4, h5, h6, -, -⟩ := Cond.code_spec hn (atoms_spec (ws := ws) h _ (by rw [hw]; exact List.mem_cons_self))
    exact ⟨meth, c, h1, h2, h3, h4, h5, h6⟩
  · intro p e s m args below meth c s₁ B hml hP _
    have hh0 : s₁.heap = s.heap := by rw [B.state]; rfl
    have ht : ∀ x ∈ c.exceptionTable.toList, False := by
      obtain ⟨meth9, c9, h1, h2, -, -, -, -, h7, -⟩ := Cond.code_spec B.named (atoms_spec (ws := ws) B.pre _ (by rw [hw]; exact List.mem_cons_self))
      cases Option.some.inj (h1.symm.trans B.method)
      cases Option.some.inj (h2.symm.trans (Stand.of_body B).code)
      intro x hx
      rw [Array.isEmpty_iff.mp h7] at hx
      cases hx
    obtain ⟨t, a1, o, b1, b2, b3⟩ := body p e s m args below meth c s₁ B hml ht hP s₁ hh0 (Stand.of_body B)
    exact ⟨t, o, a1, b1, b2, b3⟩
/-- a method's body, out of its walk -/
theorem q_body {y : MethodName} {as : List Value} {ls : List (Nat × Value)} (hst : l.stackTraces = false) (hy : plainFor y = true) (hyo : y.cls = own) (hyn : y.name = nm) (hl : (lg_sl as).length ≤ nL) (hls : lv_args 0 as = ls) (hmc : R.cells = mc) (hms : R.slots = ms)
    (kk : qX l G own nm cc nL rt [] R mc ms r 0 0 σ n 0 ls []) : qM l G y cc nL rt R as σ n r := by
  subst hyo; subst hyn; subst hls; subst hmc; subst hms
  refine q_ofW (cc := cc) (maxL := nL) (ret := rt) hy rfl ?_
  intro p e s m args below meth c s₁ B hml htb hv
  obtain ⟨rfl, hW, hT⟩ := hv
  have hts := atoms_spec (ws := qws y cc nL rt) B.pre
  rw [lg_entry_eq]
  exact kk p e s m _ below meth c B.exec B.bytes hml B.returns (name_of_methodNamed B.named B.method).1 (findClass_of_methodNamed B.named) (fun w hw => hts w (List.mem_cons_of_mem _ hw)) B.notSynchronized (List.eq_nil_iff_forall_not_mem.mpr fun x hx => htb x hx) hT hst ⟨σ, n, hW⟩ s.heap [] _ va_S.rf hW (lv_entry as hl)
/-- what a call of a method needs of the tables -/
def qY (y : MethodName) (cc : ByteArray) (nL : Nat) (rt : Option FieldType) (na : Nat) : Prop :=
  Cond.code y cc nL rt ∈ lw_good ∧ Cond.initialized y.cls ∈ lw_good ∧ (y.cls ≠ "java/lang/invoke/MethodHandle" ∧ y.cls ≠ "java/lang/invoke/VarHandle" ∧ (parseMethodDescriptor y.desc).map (fun d => d.parameters.length) = some na)
theorem qY_call {y : MethodName} {cc : ByteArray} {nL na index : Nat} {rt : Option FieldType} {own : String} {R rm : Room} {s : State} {args : Array Value} (h : qY y cc nL rt na) (hts : ∀ w ∈ lw_good, w.before args s = true) (hl : Cond.methodLink own index y ∈ lw_good) (hR : rm.frames + 1 ≤ R.frames ∧ 8 + (nL + 11) + rm.locals ≤ R.locals) :
    CallB R s args own index y cc nL rt (qws y cc nL rt) rm rm.cells rm.slots na :=
  callB_of (Ts := lw_good) na hts (lg_good fun w hw => by rcases List.mem_cons.mp hw with e | e; · rw [e]; exact h.1
                                                          · exact e) rfl rfl rfl (hts _ h.2.1) (hts _ hl) h.2.2 hR
theorem q_blind {as : List Value} : FrameBlind (va_Pc as (fun U => qW G σ n U.heap ∧ qT G U)) := fun _ _ _ _ h => ⟨h.1, h.2.1, qT_blind h.2.2⟩
/-- behind a call that returned -/
theorem q_back {p : Program} {e : Env} {s : State} {m : MethodId} {args : Array Value} {below : List Frame} {meth : Method} {c : Code} {H : Heap} {locs : List Loc} {arr : Array Slot} {st0 rest st2 : List Value} {v : Option Value} {n' : Option Nat} {a : Array Value} {mcc msc : Nat}
    (hx : p.tables.exec = Jvm.exec) (hb : c.code = cc) (hml : c.maxLocals = nL) (hr : meth.sig.returnType = rt) (hn : meth.name = nm) (hown : s.vm.findClass own = some m.cls) (hts : ∀ w ∈ lw_good, w.before args s = true) (hlk : meth.locks = false) (htb : c.exceptionTable.toList = tab) (hT : qT G s) (hst : l.stackTraces = false)
    (hW0 : ∃ (σ0 : qH) (n0 : Option Nat), qW G σ0 n0 s.heap) (hS : va_S (qz G) s.heap H locs) (hW : qW G σ n H) (hl : lv_has arr nL ls)
    (hrun : vx_Run p l e R s m args below meth c H locs k j mcc msc (F0 m pc arr st0) rest (qQ G (.inl (v, σ', n')) a) (qC G (.inl (v, σ', n'))) (qz G)) (hst2 : v.toList ++ rest = st2)
    (kk : qX l G own nm cc nL rt tab R mc ms r (k + mcc) (j + msc) σ' n' (pc + 3) ls st2) :
    W p l e R s m args below meth c H locs k j (vx_MQ below (qQ G r) (qC G r) args s mc ms (qz G)) (F0 m pc arr st0) := by
  subst hst2
  intro T hT2 X
  rcases hrun T hT2 X with ⟨v2, st₀, t, T', L, h0, X', hL, e1, e2, ⟨hv, hw2, hsz⟩, stp⟩ | ⟨q, st₀, t, T', L, E, ce, h0, X', hL, e1, e2, hf, -⟩
  · cases hv
    rw [h0] at hsz
    have hS2 : va_S (qz G) s.heap T'.heap (locs ++ L) := by
      obtain ⟨σ0, n0, w0⟩ := hW0
      refine ⟨Nat.le_trans hS.1 (by rw [e1]; exact hsz), fun q h1 h2 => ?_, fun q hq => ?_⟩
      · have h3 : q < G.2.2.1.size := Nat.not_le.mp h2
        rw [e1, hw2.2.2.1 q h3, w0.2.2.1 q h3]
      · rcases List.mem_append.mp hq with h | h
        · exact hS.2.2 q h
        · exact hL q h
    obtain ⟨t2, a1, b1⟩ := kk p e s m args below meth c hx hb hml hr hn hown hts hlk htb hT hst hW0 T'.heap (locs ++ L) arr hS2 (by rw [e1]; exact hw2) hl T' rfl X'
    exact ⟨t2, stp t2 a1, b1⟩
  · exact absurd hf id
/-- .. that threw, where this method has no handler -/
theorem q_thrown {p : Program} {e : Env} {s : State} {m : MethodId} {args : Array Value} {below : List Frame} {meth : Method} {c : Code} {H : Heap} {locs : List Loc} {arr : Array Slot} {st0 rest : List Value} {E : String} {a : Array Value} {mcc msc : Nat}
    (hlk : meth.locks = false) (htb : c.exceptionTable.toList = [])
    (hW0 : ∃ (σ0 : qH) (n0 : Option Nat), qW G σ0 n0 s.heap) (hS : va_S (qz G) s.heap H locs) (hr2 : r = .inr (E, σ')) (hk : k + mcc ≤ mc) (hj : j + msc ≤ ms)
    (hrun : vx_Run p l e R s m args below meth c H locs k j mcc msc (F0 m pc arr st0) rest (qQ G (.inr (E, σ')) a) (qC G (.inr (E, σ'))) (qz G)) :
    W p l e R s m args below meth c H locs k j (vx_MQ below (qQ G r) (qC G r) args s mc ms (qz G)) (F0 m pc arr st0) := by
  subst hr2
  intro T hT2 X
  rcases hrun T hT2 X with ⟨v2, st₀, t, T', L, h0, X', hL, e1, e2, hf, stp⟩ | ⟨q, st₀, t, T', L, E2, ce, h0, X', hL, e1, e2, ⟨hE, hw2, hsz⟩, hce, hcv, hcl, stp⟩
  · exact absurd hf id
  · subst hE
    rw [h0] at hsz
    have hL2 : ∀ z ∈ locs ++ L, qz G z.base := fun q hq => by
      rcases List.mem_append.mp hq with h | h
      · exact hS.2.2 q h
      · exact hL q h
    obtain ⟨t2, a1, b1⟩ := vx_out (l := l) (p := p) (e := e) (R := R) (s := s) (m := m) (args := args) (below := below) (meth := meth) (c := c) (H := T'.heap) (locs := locs ++ L) (cells := k + mcc) (slots := j + msc) (mc := mc) (ms := ms) (free := qz G) (Qc := qQ G (.inr (E2, σ'))) (XC := qC G (.inr (E2, σ'))) (ls := arr) (rest := rest) (pc := pc) (E := E2) (ce := ce) (q := q) (by rw [htb]; exact fun x hx => nomatch hx) hlk (by rw [e1]; exact hce) hcv hcl (fun t3 ht3 _ => ⟨rfl, by rw [ht3, e1]; exact hw2, by rw [ht3, e1]; exact Nat.le_trans hS.1 hsz⟩) hL2 hk hj T' rfl X'
    exact ⟨t2, stp.trans a1, b1⟩
theorem x_callV {y : MethodName} {bytes : ByteArray} {maxL index ci na : Nat} {ret : Option FieldType} {rm : Room} {As rest st2 : List Value} {b : Nat} {v : Option Value} {n' : Option Nat} {fs : List Value} {C : String} {T : u_T} {N : Nat} (pc2 k2 j2 : Nat)
    (hM : qM l G y bytes maxL ret rm (.ref b :: As) σ n (.inl (v, σ', n'))) (hY : qY y bytes maxL ret na) (w1 : Cond.methodLink own index y ∈ lw_good) (w2 : Cond.instanceMethod y ∈ lw_good) (w3 : Cond.selects C y y ∈ lw_good) (hcell : σ b = some (.inr (ci, fs))) (hc : vwCl[ci]? = some (C, T, N)) (hs : st = As.reverse ++ .ref b :: rest) (hna : As.length = na)
    (hR : rm.frames + 1 ≤ R.frames ∧ 8 + (maxL + 11) + rm.locals ≤ R.locals) (hcat : (rest.map fun v => v.category).sum ≤ 8) (hk : k + rm.cells ≤ R.cells ∧ j + rm.slots ≤ R.slots) (d : decode cc pc = .ok (.invokevirtual index, 3)) (hp : pc + 3 = pc2) (hst2 : v.toList ++ rest = st2)
    (hk2 : k + rm.cells = k2) (hj2 : j + rm.slots = j2) (kk : qX l G own nm cc nL rt tab R mc ms r k2 j2 σ' n' pc2 ls st2) : qX l G own nm cc nL rt tab R mc ms r k j σ n pc ls st := by
  subst hp; subst hs; subst hk2; subst hj2
  intro p e s m args below meth c hx hb hml hr hn hown hts hlk htb hT hst hW0 H locs arr hS hW hl
  exact q_back hx hb hml hr hn hown hts hlk htb hT hst hW0 hS hW hl (vx_runV (Ts := lw_good) ⟨hx, hb, hml, hown, hts⟩ hM ⟨qY_call hY hts w1 hR, hts _ w2, hts _ w3⟩ ⟨q_blind, va_recv (q := (C, T, N)) hT.1 (qW_at hW hcell rfl) hc (q0 := 0) rfl, fun U hU hWU => ⟨rfl, by rw [hU]; exact hW, qT_warm hWU hT⟩⟩ rfl hna hl.1 rfl (lv_room hcat) d hk) hst2 kk
theorem x_callVX {y : MethodName} {bytes : ByteArray} {maxL index ci na : Nat} {ret : Option FieldType} {rm : Room} {As rest : List Value} {b : Nat} {E : String} {fs : List Value} {C : String} {T : u_T} {N : Nat}
    (hM : qM l G y bytes maxL ret rm (.ref b :: As) σ n (.inr (E, σ'))) (hY : qY y bytes maxL ret na) (w1 : Cond.methodLink own index y ∈ lw_good) (w2 : Cond.instanceMethod y ∈ lw_good) (w3 : Cond.selects C y y ∈ lw_good) (hcell : σ b = some (.inr (ci, fs))) (hc : vwCl[ci]? = some (C, T, N)) (hs : st = As.reverse ++ .ref b :: rest) (hna : As.length = na)
    (hR : rm.frames + 1 ≤ R.frames ∧ 8 + (maxL + 11) + rm.locals ≤ R.locals) (hcat : (rest.map fun v => v.category).sum ≤ 8) (hk : k + rm.cells ≤ R.cells ∧ j + rm.slots ≤ R.slots) (d : decode cc pc = .ok (.invokevirtual index, 3))
    (ht : tab = []) (hr2 : r = .inr (E, σ')) (hk2 : k + rm.cells ≤ mc) (hj2 : j + rm.slots ≤ ms) : qX l G own nm cc nL rt tab R mc ms r k j σ n pc ls st := by
  subst hs
  intro p e s m args below meth c hx hb hml hr hn hown hts hlk htb hT hst hW0 H locs arr hS hW hl
  exact q_thrown hlk (htb.trans ht) hW0 hS hr2 hk2 hj2 (vx_runV (Ts := lw_good) ⟨hx, hb, hml, hown, hts⟩ hM ⟨qY_call hY hts w1 hR, hts _ w2, hts _ w3⟩ ⟨q_blind, va_recv (q := (C, T, N)) hT.1 (qW_at hW hcell rfl) hc (q0 := 0) rfl, fun U hU hWU => ⟨rfl, by rw [hU]; exact hW, qT_warm hWU hT⟩⟩ rfl hna hl.1 rfl (lv_room hcat) d hk)
theorem x_callS {y : MethodName} {bytes : ByteArray} {maxL index na : Nat} {ret : Option FieldType} {rm : Room} {As rest st2 : List Value} {v : Option Value} {n' : Option Nat} (pc2 k2 j2 : Nat)
    (hM : qM l G y bytes maxL ret rm As σ n (.inl (v, σ', n'))) (hY : qY y bytes maxL ret na) (w1 : Cond.methodLink own index y ∈ lw_good) (w2 : Cond.static y ∈ lw_good) (hs : st = As.reverse ++ rest) (hna : As.length = na)
    (hR : rm.frames + 1 ≤ R.frames ∧ 8 + (maxL + 11) + rm.locals ≤ R.locals) (hcat : (rest.map fun v => v.category).sum ≤ 8) (hk : k + rm.cells ≤ R.cells ∧ j + rm.slots ≤ R.slots) (d : decode cc pc = .ok (.invokestatic index, 3)) (hp : pc + 3 = pc2) (hst2 : v.toList ++ rest = st2)
    (hk2 : k + rm.cells = k2) (hj2 : j + rm.slots = j2) (kk : qX l G own nm cc nL rt tab R mc ms r k2 j2 σ' n' pc2 ls st2) : qX l G own nm cc nL rt tab R mc ms r k j σ n pc ls st := by
  subst hp; subst hs; subst hk2; subst hj2
  intro p e s m args below meth c hx hb hml hr hn hown hts hlk htb hT hst hW0 H locs arr hS hW hl
  exact q_back hx hb hml hr hn hown hts hlk htb hT hst hW0 hS hW hl (vx_runS (Ts := lw_good) ⟨hx, hb, hml, hown, hts⟩ hM ⟨qY_call hY hts w1 hR, hts _ w2⟩ ⟨q_blind, fun U hU hWU => ⟨rfl, by rw [hU]; exact hW, qT_warm hWU hT⟩⟩ rfl hna hl.1 rfl (lv_room hcat) d hk) hst2 kk
theorem x_callSX {y : MethodName} {bytes : ByteArray} {maxL index na : Nat} {ret : Option FieldType} {rm : Room} {As rest : List Value} {E : String}
    (hM : qM l G y bytes maxL ret rm As σ n (.inr (E, σ'))) (hY : qY y bytes maxL ret na) (w1 : Cond.methodLink own index y ∈ lw_good) (w2 : Cond.static y ∈ lw_good) (hs : st = As.reverse ++ rest) (hna : As.length = na)
    (hR : rm.frames + 1 ≤ R.frames ∧ 8 + (maxL + 11) + rm.locals ≤ R.locals) (hcat : (rest.map fun v => v.category).sum ≤ 8) (hk : k + rm.cells ≤ R.cells ∧ j + rm.slots ≤ R.slots) (d : decode cc pc = .ok (.invokestatic index, 3))
    (ht : tab = []) (hr2 : r = .inr (E, σ')) (hk2 : k + rm.cells ≤ mc) (hj2 : j + rm.slots ≤ ms) : qX l G own nm cc nL rt tab R mc ms r k j σ n pc ls st := by
  subst hs
  intro p e s m args below meth c hx hb hml hr hn hown hts hlk htb hT hst hW0 H locs arr hS hW hl
  exact q_thrown hlk (htb.trans ht) hW0 hS hr2 hk2 hj2 (vx_runS (Ts := lw_good) ⟨hx, hb, hml, hown, hts⟩ hM ⟨qY_call hY hts w1 hR, hts _ w2⟩ ⟨q_blind, fun U hU hWU => ⟨rfl, by rw [hU]; exact hW, qT_warm hWU hT⟩⟩ rfl hna hl.1 rfl (lv_room hcat) d hk)
end QZ
end
section
section QV
variable {l : Launch} {G : qG} {own nm : String} {cc : ByteArray} {nL : Nat} {rt : Option FieldType} {tab : List ExceptionTableEntry} {R : Room} {mc ms : Nat} {r : qR} {k j : Nat} {σ σ' : qH} {n : Option Nat} {pc : Nat} {ls : List (Nat × Value)} {st : List Value}
theorem x_getstatic {index : Nat} (pc2 : Nat) (x : String × Nat) (hx9 : x ∈ qst) (hw : Cond.fieldLink own index "SteepleWords$Text" x.1 "[I" ∈ lw_good) (d : decode cc pc = .ok (.getstatic index, 3)) (hp : pc + 3 = pc2) (kk : qX l G own nm cc nL rt tab R mc ms r k j σ n pc2 ls (.ref (G.2.2.2.1 x.2) :: st)) : qX l G own nm cc nL rt tab R mc ms r k j σ n pc ls st := by
  subst hp
  intro p e s m args below meth c hx hb hml hr hn hown hts hlk htb hT hst hW0 H locs arr hS hW hl
  have hZ : va_Z "SteepleWords$Text" x.1 "[I" (.ref (G.2.2.2.1 x.2)) (qz G) s s.heap := by
    obtain ⟨σ0, n0, w0⟩ := hW0
    exact va_Z.kept (hT.2.1 x hx9) (fun a h1 h2 => w0.2.2.1 a h1)
  exact va_gets hx hb hZ hS hown (hts _ hw) (fun _ h => h) d (kk p e s m args below meth c hx hb hml hr hn hown hts hlk htb hT hst hW0 H locs arr hS hW hl)
theorem x_copy {index : Nat} {a b : Nat} {sp dp len : Int32} (pc2 : Nat) (hk0 : k = 0) (w1 : Cond.methodLink own index arraycopyName ∈ lw_good) (w2 : Cond.native arraycopyName ∈ lw_good) (w3 : Cond.static arraycopyName ∈ lw_good) (w4 : Cond.initialized "java/lang/System" ∈ lw_good) (h : sC σ a sp b dp len = some σ')
    (hf : 1 ≤ R.frames) (hlo : (st.map fun v => v.category).sum + (nativeFrameWords "java/lang/System" "arraycopy" 5 + 11) ≤ R.locals) (d : decode cc pc = .ok (.invokestatic index, 3)) (hp : pc + 3 = pc2) (kk : qX l G own nm cc nL rt tab R mc ms r k j σ' n pc2 ls st) : qX l G own nm cc nL rt tab R mc ms r k j σ n pc ls (.int len :: .int dp :: .ref b :: .int sp :: .ref a :: st) := by
  subst hp; subst hk0
  obtain ⟨n0, n1, f, g, h1, h2, ⟨h3, h4, h5⟩, h6, h7, rfl⟩ := sC_inv h
  intro p e s m args below meth c hx hb hml hr hn hown hts hlk htb hT hst hW0 H locs arr hS hW hl
  obtain ⟨w1', w2', w3', ⟨ws, hP, hD, hc⟩, w5'⟩ := id hW
  obtain ⟨k0, hk0⟩ := hc a _ h1 rfl
  obtain ⟨k1, hk1⟩ := hc b _ h2 rfl
  have hl1 := (List.getElem?_eq_some_iff.mp hk1).1
  have hS0 : va_S (qz G) H H locs := ⟨Nat.le_refl _, fun _ _ _ => rfl, hS.2.2⟩
  refine va_copyi (D := G.1) (cl := vwCl) (tys := qtys G) hx hb (hml.trans hl.1.symm) hown (hts _ w1) (hts _ w2) (hts _ w3) (hts _ w4) hT.1 hP hD hS0 k0 k1 0 0 hk0 hk1 rfl rfl rfl h3 h4 h5 h6 h7 (fun _ _ => rfl) hf hlo d fun H1 locs1 hP1 hD1 hS1 => ?_
  intro T hT2 X
  have hz : H1.size = H.size := by
    have q1 := X.heapSize
    have q2 := hS.1
    have q3 := hS1.1
    rw [hT2] at q1
    omega
  refine kk p e s m args below meth c hx hb hml hr hn hown hts hlk htb hT hst hW0 H1 locs1 arr ⟨Nat.le_trans hS.1 hS1.1, fun q q1 q2 => (hS1.2.1 q (Nat.lt_of_lt_of_le q1 hS.1) q2).trans (hS.2.1 q q1 q2), hS1.2.2⟩ ⟨by rw [hz]; exact w1', by rw [hz]; exact w2', fun q hq => ?_, ⟨_, hP1, hD1, fun b2 e2 hb2 hr2 => ?_⟩, fun b2 x hb2 => ?_⟩ hl T hT2 X
  · rw [hS1.2.1 q (Nat.lt_of_lt_of_le hq w2') (Nat.not_le.mpr hq)]
    exact w3' q hq
  · by_cases hba : b2 = b
    · subst hba
      simp only [qU, if_pos] at hb2
      cases hb2
      exact ⟨k1, by rw [List.getElem?_set_self hl1]; rfl⟩
    · simp only [qU, if_neg hba] at hb2
      obtain ⟨k2, hk2⟩ := hc b2 e2 hb2 hr2
      refine ⟨k2, ?_⟩
      rw [List.getElem?_set_ne (fun z => hba ?_)]
      · exact hk2
      · subst z
        rw [hk1] at hk2
        exact (congrArg Prod.fst (Option.some.inj hk2)).symm
  · by_cases hba : b2 = b
    · subst hba
      simp only [qU, if_pos] at hb2
      cases hb2
    · simp only [qU, if_neg hba] at hb2
      exact w5' b2 x hb2
theorem x_new {C : String} {T : u_T} {N ci index n0 : Nat} {fs : List Value} (pc2 : Nat) (hin : ∀ w ∈ u_ws C T N, w ∈ lw_good) (ty : Nat → FieldType) (hty : ∀ k, k < N → parseFieldDescriptor (T k).2.2.1 = some (ty k)) (w1 : Cond.classLink own index C ∈ lw_good) (w2 : Cond.instantiable C N ∈ lw_good) (w3 : Cond.initialized C ∈ lw_good) (hc : vwCl[ci]? = some (C, T, N)) (hfs : ∀ j, j < N → defaultValue (ty j) = vp_V fs j)
    (hk : k + 1 ≤ R.cells) (hj : j + N ≤ R.slots) (d : decode cc pc = .ok (.new index, 3)) (hp : pc + 3 = pc2) (kk : qX l G own nm cc nL rt tab R mc ms r (k + 1) (j + N) (qU σ n0 (.inr (ci, fs))) (some (n0 + 1)) pc2 ls (.ref n0 :: st)) : qX l G own nm cc nL rt tab R mc ms r k j σ (some n0) pc ls st := by
  subst hp
  intro p e s m args below meth c hx hb hml hr hn hown hts hlk htb hT hst hW0 H locs arr hS hW hl
  have hKn := hT.1.1 ci _ hc
  have hz := hW.1 n0 rfl
  refine W.newcK hx hb hown (hts _ w1) (hts _ w2) (hts _ w3) rfl d hk hj hKn.2.1 hz fun H1 kC hkC e1 z1 o1 => ?_
  exact kk p e s m args below meth c hx hb hml hr hn hown hts hlk htb hT hst hW0 H1 locs arr ⟨by rw [z1]; have := hS.1; omega, fun q q1 q2 => (o1 q (by rw [← hz]; exact Nat.lt_of_lt_of_le q1 hS.1)).trans (hS.2.1 q q1 q2), hS.2.2⟩ (qW_new hW rfl ⟨_, hc, (u_born ty hts hin hKn hkC e1 hty).to hfs⟩ z1 o1) hl
theorem x_newI {n0 N : Nat} {len : Int32} (pc2 : Nat) (w1 : Cond.arrayClass .int ∈ lw_good) (hn0 : ¬ len < 0) (hN : len.toNatClampNeg = N) (hb : N * componentBytes .int ≤ 536870912) (hk : k + 1 ≤ R.cells) (hj : j + N ≤ R.slots) (d : decode cc pc = .ok (.newarray .int, 2)) (hp : pc + 2 = pc2)
    (kk : qX l G own nm cc nL rt tab R mc ms r (k + 1) (j + N) (qU σ n0 (.inl (0, (N, .inl (fun _ => 0))))) (some (n0 + 1)) pc2 ls (.ref n0 :: st)) : qX l G own nm cc nL rt tab R mc ms r k j σ (some n0) pc ls (.int len :: st) := by
  subst hp
  intro p e s m args below meth c hx hb2 hml hr hn hown hts hlk htb hT hst hW0 H locs arr hS hW hl
  have hz := hW.1 n0 rfl
  refine va_newaK hx hb2 (atype := .int) (hts _ w1) rfl d rfl hn0 hN hb hk hj hz fun H1 cA e1 z1 o1 hAr hNm => ?_
  have hcA : cA = G.2.1 0 := Option.some.inj (hNm.symm.trans (hT.1.2 0 _ rfl).2)
  subst hcA
  exact kk p e s m args below meth c hx hb2 hml hr hn hown hts hlk htb hT hst hW0 H1 locs arr ⟨by rw [z1]; have := hS.1; omega, fun q q1 q2 => (o1 q (by rw [← hz]; exact Nat.lt_of_lt_of_le q1 hS.1)).trans (hS.2.1 q q1 q2), hS.2.2⟩ (qW_new hW rfl e1 z1 o1) hl
theorem x_newZ {n0 N : Nat} {len : Int32} (pc2 : Nat) (w1 : Cond.arrayClass .boolean ∈ lw_good) (hn0 : ¬ len < 0) (hN : len.toNatClampNeg = N) (hb : N * componentBytes .boolean ≤ 536870912) (hk : k + 1 ≤ R.cells) (hj : j + N ≤ R.slots) (d : decode cc pc = .ok (.newarray .boolean, 2)) (hp : pc + 2 = pc2)
    (kk : qX l G own nm cc nL rt tab R mc ms r (k + 1) (j + N) (qU σ n0 (.inl (1, (N, .inl (fun _ => 0))))) (some (n0 + 1)) pc2 ls (.ref n0 :: st)) : qX l G own nm cc nL rt tab R mc ms r k j σ (some n0) pc ls (.int len :: st) := by
  subst hp
  intro p e s m args below meth c hx hb2 hml hr hn hown hts hlk htb hT hst hW0 H locs arr hS hW hl
  have hz := hW.1 n0 rfl
  refine va_newaK hx hb2 (atype := .boolean) (hts _ w1) rfl d rfl hn0 hN hb hk hj hz fun H1 cA e1 z1 o1 hAr hNm => ?_
  have hcA : cA = G.2.1 1 := Option.some.inj (hNm.symm.trans (hT.1.2 1 _ rfl).2)
  subst hcA
  exact kk p e s m args below meth c hx hb2 hml hr hn hown hts hlk htb hT hst hW0 H1 locs arr ⟨by rw [z1]; have := hS.1; omega, fun q q1 q2 => (o1 q (by rw [← hz]; exact Nat.lt_of_lt_of_le q1 hS.1)).trans (hS.2.1 q q1 q2), hS.2.2⟩ (qW_new hW rfl e1 z1 o1) hl
theorem x_newJ {n0 N : Nat} {len : Int32} (pc2 : Nat) (w1 : Cond.arrayClass .long ∈ lw_good) (hn0 : ¬ len < 0) (hN : len.toNatClampNeg = N) (hb : N * componentBytes .long ≤ 536870912) (hk : k + 1 ≤ R.cells) (hj : j + N ≤ R.slots) (d : decode cc pc = .ok (.newarray .long, 2)) (hp : pc + 2 = pc2)
    (kk : qX l G own nm cc nL rt tab R mc ms r (k + 1) (j + N) (qU σ n0 (.inl (3, (N, .inr (.inl (fun _ => 0)))))) (some (n0 + 1)) pc2 ls (.ref n0 :: st)) : qX l G own nm cc nL rt tab R mc ms r k j σ (some n0) pc ls (.int len :: st) := by
  subst hp
  intro p e s m args below meth c hx hb2 hml hr hn hown hts hlk htb hT hst hW0 H locs arr hS hW hl
  have hz := hW.1 n0 rfl
  refine va_newaK hx hb2 (atype := .long) (hts _ w1) rfl d rfl hn0 hN hb hk hj hz fun H1 cA e1 z1 o1 hAr hNm => ?_
  have hcA : cA = G.2.1 3 := Option.some.inj (hNm.symm.trans (hT.1.2 3 _ rfl).2)
  subst hcA
  exact kk p e s m args below meth c hx hb2 hml hr hn hown hts hlk htb hT hst hW0 H1 locs arr ⟨by rw [z1]; have := hS.1; omega, fun q q1 q2 => (o1 q (by rw [← hz]; exact Nat.lt_of_lt_of_le q1 hS.1)).trans (hS.2.1 q q1 q2), hS.2.2⟩ (qW_new hW rfl e1 z1 o1) hl
theorem x_newQ {index n0 N : Nat} {len : Int32} (pc2 : Nat) (w1 : Cond.classLink own index RX2 ∈ lw_good) (hn0 : ¬ len < 0) (hN : len.toNatClampNeg = N) (hb : N * 4 ≤ 536870912) (hk : k + 1 ≤ R.cells) (hj : j + N ≤ R.slots) (d : decode cc pc = .ok (.anewarray index, 3)) (hp : pc + 3 = pc2)
    (kk : qX l G own nm cc nL rt tab R mc ms r (k + 1) (j + N) (qU σ n0 (.inl (2, (N, .inr (.inr (.inr (.inr (fun _ => none)))))))) (some (n0 + 1)) pc2 ls (.ref n0 :: st)) : qX l G own nm cc nL rt tab R mc ms r k j σ (some n0) pc ls (.int len :: st) := by
  subst hp
  intro p e s m args below meth c hx hb2 hml hr hn hown hts hlk htb hT hst hW0 H locs arr hS hW hl
  have hz := hW.1 n0 rfl
  subst hN
  refine W.anew hx hb2 hown (hts _ w1) (va_AO.use hT.2.2.2.2.2.2.1) rfl d rfl hn0 hb hk hj fun cA kA comp f1 f2 f3 f4 => ?_
  have hcA : cA = G.2.1 2 := by
    obtain ⟨kA2, comp2, g1, g2, g3, g4⟩ := (hT.1.2 2 _ rfl).2
    exact Option.some.inj (f1.symm.trans g4)
  subst hcA
  generalize hH1 : H.push ({ cls := G.2.1 2, slots := Array.replicate len.toNatClampNeg .null, vm := .none } : Cell) = H1
  have z1 : H1.size = H.size + 1 := by rw [← hH1, Array.size_push]
  have e1 : H1[H.size]? = some (arrV (G.2.1 2) len.toNatClampNeg (fun _ => .null)) := by rw [← hH1, Array.getElem?_push_size, ← arrV_new]
  have o1 : ∀ q : Nat, q < H.size → H1[q]? = H[q]? := fun q hq => by rw [← hH1, Array.getElem?_push, if_neg (Nat.ne_of_lt hq)]
  rw [hz] at e1 z1 o1 ⊢
  exact kk p e s m args below meth c hx hb2 hml hr hn hown hts hlk htb hT hst hW0 H1 locs arr ⟨by rw [z1]; have := hS.1; omega, fun q q1 q2 => (o1 q (by rw [← hz]; exact Nat.lt_of_lt_of_le q1 hS.1)).trans (hS.2.1 q q1 q2), hS.2.2⟩ (qW_new hW rfl e1 z1 o1) hl
theorem x_objInit {index a : Nat} (pc2 : Nat) (w1 : Cond.methodLink own index objectInit ∈ lw_good) (w2 : Cond.instanceMethod objectInit ∈ lw_good) (w3 : Cond.code objectInit ⟨#[0xb1]⟩ 1 none ∈ lw_good) (hf : 1 ≤ R.frames) (hlo : 2 * 0 + (st.map fun v => v.category).sum + 12 ≤ R.locals) (d : decode cc pc = .ok (.invokespecial index, 3)) (hp : pc + 3 = pc2)
    (kk : qX l G own nm cc nL rt tab R mc ms r k j σ n pc2 ls st) : qX l G own nm cc nL rt tab R mc ms r k j σ n pc ls (.ref a :: st) := by
  subst hp
  intro p e s m args below meth c hx hb hml hr hn hown hts hlk htb hT hst hW0 H locs arr hS hW hl
  exact W.objInit hx hb hown (hts _ w1) (hts _ w2) (hts _ w3) rfl (by rw [hml]; exact hl.1) rfl d hf hlo (kk p e s m args below meth c hx hb hml hr hn hown hts hlk htb hT hst hW0 H locs arr hS hW hl)
/-- throw new E("text") -/
theorem x_throwS {cls text : String} {names : List String} {ik is ic : Nat} (hcls : Bundle.fit cls = true) (hnames : ∀ n ∈ names, Bundle.fit n = true) (how : own = RX6)
    (w1 : Cond.classLink own ik cls ∈ lw_good) (w2 : Cond.initialized cls ∈ lw_good) (w3 : (is, text) ∈ qtexts) (hat : ∀ w ∈ vx_atS own ic cls names, w ∈ lw_good ∨ w ∈ lw_face)
    (hgood : ∀ w ∈ Cond.classLink own ik cls :: Cond.initialized cls :: vx_atS own ic cls names, vx_ot w = true) (ht : tab = [])
    (d0 : decode cc pc = .ok (.new ik, 3)) (d3 : decode cc (pc + 3) = .ok (.dup, 1)) (d4 : decode cc (pc + 4) = .ok (.ldc is, 2)) (d6 : decode cc (pc + 6) = .ok (.invokespecial ic, 3)) (d9 : decode cc (pc + 9) = .ok (.athrow, 1))
    (hRf : names.length + 3 < R.frames) (hRl : (st.map fun v => v.category).sum + (13 * (names.length + 1) + 43) ≤ R.locals) (hRc : k + 1 ≤ R.cells) (hRs : j + 6 ≤ R.slots) (hr2 : r = .inr (cls, σ)) (hk2 : k + 1 ≤ mc) (hj2 : j + 6 ≤ ms) : qX l G own nm cc nL rt tab R mc ms r k j σ n pc ls st := by
  subst hr2
  intro p e s m args below meth c hx hb hml hr hn hown hts hlk htb hT hst hW0 H locs arr hS hW hl
  obtain ⟨h1, h2, h3, h4, h5, h6, h9, h10, h7, h8⟩ := id hT
  obtain ⟨sa, hsa⟩ := h6 _ w3
  have hk : ∀ a : Nat, a < G.2.2.1.size → ¬ qz G a → s.heap[a]? = G.2.2.1[a]? := by
    obtain ⟨σ0, n0, w0⟩ := hW0
    exact fun a q1 q2 => w0.2.2.1 a q1
  refine vx_throwS (A := qz G) hx hb hst hown hcls hnames (hts _ w1) (hts _ w2) (by rw [how]; exact hsa) (fun w hw => ?_) hgood (vx_Zq.kept h7 hk) (vx_Zq.kept h8 hk) hS (by rw [hml]; exact hl.1) d0 d3 d4 d6 d9 (by rw [htb, ht]; exact fun x hx => nomatch hx) hRf hRl hRc hRs hlk (fun t hA hz hq => ⟨rfl, ⟨fun m hm => (by cases hm), Nat.le_trans hW.2.1 hz, fun q h => (hq q (Nat.lt_of_lt_of_le h hW.2.1)).trans (hW.2.2.1 q h), ?_, hW.2.2.2.2⟩, Nat.le_trans hS.1 hz⟩) hS.2.2 hk2 hj2
  · rcases hat w hw with h | h
    · exact hts w h
    · have hg := (List.mem_filter.mp h).2
      simp only [Bool.and_eq_true] at hg
      exact va_Nw.use hg.1 (h4 w h)
  · obtain ⟨ws, hP, hD, hc⟩ := hW.2.2.2.1
    exact ⟨ws, hP.kept (fun k q hk => hq q.1 (hP k q hk).lt), hD, hc⟩
theorem x_throwSW {cls text : String} {names : List String} {ik is ic : Nat} (hcls : Bundle.fit cls = true) (hnames : ∀ n ∈ names, Bundle.fit n = true) (how : own = RX6)
    (w1 : Cond.classLink own ik cls ∈ lw_good) (w2 : Cond.initialized cls ∈ lw_good) (w3 : (is, text) ∈ qtexts) (hat : ∀ w ∈ vx_atS own ic cls names, w ∈ lw_good ∨ w ∈ lw_face)
    (hgood : ∀ w ∈ Cond.classLink own ik cls :: Cond.initialized cls :: vx_atS own ic cls names, vx_ot w = true) (ht : tab = [])
    (d0 : decode cc pc = .ok (.new ik, 3)) (d3 : decode cc (pc + 3) = .ok (.dup, 1)) (d4 : decode cc (pc + 4) = .ok (.ldc_w is, 3)) (d7 : decode cc (pc + 7) = .ok (.invokespecial ic, 3)) (d10 : decode cc (pc + 10) = .ok (.athrow, 1))
    (hRf : names.length + 3 < R.frames) (hRl : (st.map fun v => v.category).sum + (13 * (names.length + 1) + 43) ≤ R.locals) (hRc : k + 1 ≤ R.cells) (hRs : j + 6 ≤ R.slots) (hr2 : r = .inr (cls, σ)) (hk2 : k + 1 ≤ mc) (hj2 : j + 6 ≤ ms) : qX l G own nm cc nL rt tab R mc ms r k j σ n pc ls st := by
  subst hr2
  intro p e s m args below meth c hx hb hml hr hn hown hts hlk htb hT hst hW0 H locs arr hS hW hl
  obtain ⟨h1, h2, h3, h4, h5, h6, h9, h10, h7, h8⟩ := id hT
  obtain ⟨sa, hsa⟩ := h6 _ w3
  have hk : ∀ a : Nat, a < G.2.2.1.size → ¬ qz G a → s.heap[a]? = G.2.2.1[a]? := by
    obtain ⟨σ0, n0, w0⟩ := hW0
    exact fun a q1 q2 => w0.2.2.1 a q1
  refine vx_throwSW (A := qz G) hx hb hst hown hcls hnames (hts _ w1) (hts _ w2) (by rw [how]; exact hsa) (fun w hw => ?_) hgood (vx_Zq.kept h7 hk) (vx_Zq.kept h8 hk) hS (by rw [hml]; exact hl.1) d0 d3 d4 d7 d10 (by rw [htb, ht]; exact fun x hx => nomatch hx) hRf hRl hRc hRs hlk (fun t hA hz hq => ⟨rfl, ⟨fun m hm => (by cases hm), Nat.le_trans hW.2.1 hz, fun q h => (hq q (Nat.lt_of_lt_of_le h hW.2.1)).trans (hW.2.2.1 q h), ?_, hW.2.2.2.2⟩, Nat.le_trans hS.1 hz⟩) hS.2.2 hk2 hj2
  · rcases hat w hw with h | h
    · exact hts w h
    · have hg := (List.mem_filter.mp h).2
      simp only [Bool.and_eq_true] at hg
      exact va_Nw.use hg.1 (h4 w h)
  · obtain ⟨ws, hP, hD, hc⟩ := hW.2.2.2.1
    exact ⟨ws, hP.kept (fun k q hk => hq q.1 (hP k q hk).lt), hD, hc⟩
theorem q_met {y : MethodName} {as : List Value} {rm : Room} {x : Option Value × qH × Option Nat} (h : qM l G y cc nL rt rm as σ n (.inl x)) : Met l y (qws y cc nL rt) rm (va_Pc as (fun U => qW G σ n U.heap ∧ qT G U)) (qQ G (.inl x)) rm.cells rm.slots (qz G) := by
  intro p e ha hc hk s m args below hf happ hP hK
  obtain ⟨i, o, h1, h2, h3, h4⟩ := h p e ha hc hk s m args below hf happ hP hK
  refine ⟨i, o, h1, h2, h3, ?_⟩
  rcases h4 with h4 | ⟨q, -, E, ce, L, hx, -⟩
  · exact h4
  · exact absurd hx id
theorem q_backM {p : Program} {e : Env} {s : State} {m : MethodId} {args : Array Value} {below : List Frame} {meth : Method} {c : Code} {H : Heap} {locs : List Loc} {g : JFrame} {rest : List Value} {x : Option Value × qH × Option Nat} {a : Array Value} {mcc msc : Nat}
    (h : va_Run p l e R s m args below meth c H locs k j mcc msc g rest (qQ G (.inl x) a) (qz G)) : vx_Run p l e R s m args below meth c H locs k j mcc msc g rest (qQ G (.inl x) a) (qC G (.inl x)) (qz G) := by
  intro T hT X
  obtain ⟨v, st₀, t, T', L, h1, h2, h3, h4, h5, h6, h7⟩ := h T hT X
  exact Or.inl ⟨v, st₀, t, T', L, h1, h2, h3, h4, h5, h6, h7⟩
theorem x_callI {y : MethodName} {bytes : ByteArray} {maxL index na : Nat} {rm : Room} {As rest : List Value} {b : Nat} {n' : Option Nat} (pc2 k2 j2 : Nat)
    (hM : qM l G y bytes maxL none rm (.ref b :: As) σ n (.inl (none, σ', n'))) (hY : qY y bytes maxL none na) (hyi : y.name = "<init>") (w1 : Cond.methodLink own index y ∈ lw_good) (w2 : Cond.instanceMethod y ∈ lw_good) (hs : st = As.reverse ++ .ref b :: rest) (hna : As.length = na)
    (hR : rm.frames + 1 ≤ R.frames ∧ 8 + (maxL + 11) + rm.locals ≤ R.locals) (hcat : (rest.map fun v => v.category).sum ≤ 8) (hk : k + rm.cells ≤ R.cells ∧ j + rm.slots ≤ R.slots) (d : decode cc pc = .ok (.invokespecial index, 3)) (hp : pc + 3 = pc2)
    (hk2 : k + rm.cells = k2) (hj2 : j + rm.slots = j2) (kk : qX l G own nm cc nL rt tab R mc ms r k2 j2 σ' n' pc2 ls rest) : qX l G own nm cc nL rt tab R mc ms r k j σ n pc ls st := by
  subst hp; subst hs; subst hk2; subst hj2
  intro p e s m args below meth c hx hb hml hr hn hown hts hlk htb hT hst hW0 H locs arr hS hW hl
  exact q_back hx hb hml hr hn hown hts hlk htb hT hst hW0 hS hW hl (q_backM (va_runI (Ts := lw_good) ⟨hx, hb, hml, hown, hts⟩ (q_met hM) ⟨qY_call hY hts w1 hR, hyi, hts _ w2⟩ ⟨q_blind, fun U hU hWU => ⟨rfl, by rw [hU]; exact hW, qT_warm hWU hT⟩⟩ rfl hna hl.1 rfl (lv_room hcat) d hk)) rfl kk
theorem x_callIN {y : MethodName} {host : String} {bytes : ByteArray} {maxL index na : Nat} {rm : Room} {As rest : List Value} {b : Nat} {n' : Option Nat} (pc2 k2 j2 : Nat)
    (hM : qM l G y bytes maxL none rm (.ref b :: As) σ n (.inl (none, σ', n'))) (hY : qY y bytes maxL none na) (hyi : y.name = "<init>") (w1 : (own, index, y, host) ∈ qnest) (w2 : Cond.instanceMethod y ∈ lw_good) (hs : st = As.reverse ++ .ref b :: rest) (hna : As.length = na)
    (hR : rm.frames + 1 ≤ R.frames ∧ 8 + (maxL + 11) + rm.locals ≤ R.locals) (hcat : (rest.map fun v => v.category).sum ≤ 8) (hk : k + rm.cells ≤ R.cells ∧ j + rm.slots ≤ R.slots) (d : decode cc pc = .ok (.invokespecial index, 3)) (hp : pc + 3 = pc2)
    (hk2 : k + rm.cells = k2) (hj2 : j + rm.slots = j2) (kk : qX l G own nm cc nL rt tab R mc ms r k2 j2 σ' n' pc2 ls rest) : qX l G own nm cc nL rt tab R mc ms r k j σ n pc ls st := by
  subst hp; subst hs; subst hk2; subst hj2
  intro p e s m args below meth c hx hb hml hr hn hown hts hlk htb hT hst hW0 H locs arr hS hW hl
  exact q_back hx hb hml hr hn hown hts hlk htb hT hst hW0 hS hW hl (q_backM (va_runIN (Ts := lw_good) ⟨hx, hb, hml, hown, hts⟩ (q_met hM) ⟨va_cnB (ws := qws y bytes maxL none) na hts (lg_good (List.forall_mem_cons.mpr ⟨hY.1, fun _ h => h⟩)) rfl rfl rfl (hT.2.2.2.2.1 _ w1) (hts _ hY.2.1) hY.2.2 hR, hyi, hts _ w2⟩ ⟨q_blind, fun U hU hWU => ⟨rfl, by rw [hU]; exact hW, qT_warm hWU hT⟩⟩ rfl hna hl.1 rfl (lv_room hcat) d hk)) rfl kk
theorem x_anyn (kk : qX l G own nm cc nL rt tab R mc ms r k j σ none pc ls st) : qX l G own nm cc nL rt tab R mc ms r k j σ n pc ls st := fun p e s m args below meth c hx hb hml hr hn hown hts hlk htb hT hst hW0 H locs arr hS hW hl => kk p e s m args below meth c hx hb hml hr hn hown hts hlk htb hT hst hW0 H locs arr hS (qW_any hW) hl
/-- methods with handlers -/
abbrev qwsW (y : MethodName) (cc : ByteArray) (nL : Nat) (rt : Option FieldType) (hh : List (Nat × Nat × Nat × Nat)) : List Cond := Cond.codeWith y cc nL rt hh :: lw_good
def qMW (l : Launch) (G : qG) (y : MethodName) (cc : ByteArray) (nL : Nat) (rt : Option FieldType) (hh : List (Nat × Nat × Nat × Nat)) (rm : Room) (as : List Value) (σ : qH) (n : Option Nat) (r : qR) : Prop :=
  vx_Met l y (qwsW y cc nL rt hh) rm (va_Pc as (fun U => qW G σ n U.heap ∧ qT G U)) (qQ G r) (qC G r) rm.cells rm.slots (qz G)
theorem q_bodyW {y : MethodName} {as : List Value} {ls : List (Nat × Value)} {hh : List (Nat × Nat × Nat × Nat)} (hst : l.stackTraces = false) (hy : plainName y.cls = true) (hyo : y.cls = own) (hyn : y.name = nm) (hl : (lg_sl as).length ≤ nL) (hls : lv_args 0 as = ls) (hmc : R.cells = mc) (hms : R.slots = ms) (ht : tableOf hh = tab)
    (kk : qX l G own nm cc nL rt tab R mc ms r 0 0 σ n 0 ls []) : qMW l G y cc nL rt hh R as σ n r := by
  subst hyo; subst hyn; subst hls; subst hmc; subst hms; subst ht
  refine vx_ofWH (cc := cc) (maxL := nL) (ret := rt) (hh := hh) hy rfl ?_
  intro p e s m args below meth c s₁ B hml hv
  obtain ⟨rfl, hW, hT⟩ := hv
  have hts := atoms_spec (ws := qwsW y cc nL rt hh) B.pre
  rw [lg_entry_eq]
  exact kk p e s m _ below meth c B.exec B.bytes hml B.returns (name_of_methodNamed B.named B.method).1 (findClass_of_methodNamed B.named) (fun w hw => hts w (List.mem_cons_of_mem _ hw)) B.notSynchronized (vx_table (x := y) B (hts _ List.mem_cons_self)) hT hst ⟨σ, n, hW⟩ s.heap [] _ va_S.rf hW (lv_entry as hl)
def qYW (y : MethodName) (cc : ByteArray) (nL : Nat) (rt : Option FieldType) (hh : List (Nat × Nat × Nat × Nat)) (na : Nat) : Prop :=
  Cond.codeWith y cc nL rt hh ∈ lw_good ∧ Cond.initialized y.cls ∈ lw_good ∧ (y.cls ≠ "java/lang/invoke/MethodHandle" ∧ y.cls ≠ "java/lang/invoke/VarHandle" ∧ (parseMethodDescriptor y.desc).map (fun d => d.parameters.length) = some na)
theorem x_callSW {y : MethodName} {bytes : ByteArray} {maxL index na : Nat} {ret : Option FieldType} {hh : List (Nat × Nat × Nat × Nat)} {rm : Room} {As rest st2 : List Value} {v : Option Value} {n' : Option Nat} (pc2 k2 j2 : Nat)
    (hM : qMW l G y bytes maxL ret hh rm As σ n (.inl (v, σ', n'))) (hY : qYW y bytes maxL ret hh na) (w1 : Cond.methodLink own index y ∈ lw_good) (w2 : Cond.static y ∈ lw_good) (hs : st = As.reverse ++ rest) (hna : As.length = na)
    (hR : rm.frames + 1 ≤ R.frames ∧ 8 + (maxL + 11) + rm.locals ≤ R.locals) (hcat : (rest.map fun v => v.category).sum ≤ 8) (hk : k + rm.cells ≤ R.cells ∧ j + rm.slots ≤ R.slots) (d : decode cc pc = .ok (.invokestatic index, 3)) (hp : pc + 3 = pc2) (hst2 : v.toList ++ rest = st2)
    (hk2 : k + rm.cells = k2) (hj2 : j + rm.slots = j2) (kk : qX l G own nm cc nL rt tab R mc ms r k2 j2 σ' n' pc2 ls st2) : qX l G own nm cc nL rt tab R mc ms r k j σ n pc ls st := by
  subst hp; subst hs; subst hk2; subst hj2
  intro p e s m args below meth c hx hb hml hr hn hown hts hlk htb hT hst hW0 H locs arr hS hW hl
  exact q_back hx hb hml hr hn hown hts hlk htb hT hst hW0 hS hW hl (vx_runSX (Ts := lw_good) ⟨hx, hb, hml, hown, hts⟩ hM ⟨⟨rfl, rfl, hR.1, hR.2, pay_in hts (lg_good (List.forall_mem_cons.mpr ⟨hY.1, fun _ h => h⟩)), List.mem_cons_self⟩, hts _ hY.1, hts _ hY.2.1, ⟨hY.2.2.1, hY.2.2.2.1⟩, fun sig h => by
    have h2 := hY.2.2.2.2
    rw [h] at h2
    exact (Option.some.inj h2).symm, hts _ w1, hts _ w2⟩ ⟨q_blind, fun U hU hWU => ⟨rfl, by rw [hU]; exact hW, qT_warm hWU hT⟩⟩ rfl hna hl.1 rfl (lv_room hcat) d hk) hst2 kk
/-- a call that throws, caught by the row x of this method's table -/
theorem x_callVC {y : MethodName} {bytes : ByteArray} {maxL index ci na : Nat} {ret : Option FieldType} {rm : Room} {As rest : List Value} {b : Nat} {E name : String} {fs : List Value} {C : String} {T : u_T} {N : Nat} (k2 j2 : Nat) (pre : List ExceptionTableEntry) (x : ExceptionTableEntry) (suf : List ExceptionTableEntry)
    (hM : qM l G y bytes maxL ret rm (.ref b :: As) σ n (.inr (E, σ'))) (hY : qY y bytes maxL ret na) (w1 : Cond.methodLink own index y ∈ lw_good) (w2 : Cond.instanceMethod y ∈ lw_good) (w3 : Cond.selects C y y ∈ lw_good) (hcell : σ b = some (.inr (ci, fs))) (hc : vwCl[ci]? = some (C, T, N)) (hs : st = As.reverse ++ .ref b :: rest) (hna : As.length = na)
    (hR : rm.frames + 1 ≤ R.frames ∧ 8 + (maxL + 11) + rm.locals ≤ R.locals) (hcat : (rest.map fun v => v.category).sum ≤ 8) (hk : k + rm.cells ≤ R.cells ∧ j + rm.slots ≤ R.slots) (d : decode cc pc = .ok (.invokevirtual index, 3))
    (hsplit : tab = pre ++ x :: suf) (hpass : ∀ z ∈ pre, z.catchType ≠ 0 ∧ ∃ nm : String, Cond.classLink own z.catchType nm ∈ lw_good ∧ (E, nm) ∈ qnc) (hcov : covers x pc = true) (h0 : x.catchType ≠ 0) (w4 : Cond.classLink own x.catchType name ∈ lw_good) (w5 : Cond.castable E name ∈ lw_face)
    (hk2 : k + rm.cells = k2) (hj2 : j + rm.slots = j2) (kk : ∀ q : Nat, qX l G own nm cc nL rt tab R mc ms r k2 j2 σ' none x.handlerPc ls [.ref q]) : qX l G own nm cc nL rt tab R mc ms r k j σ n pc ls st := by
  subst hs; subst hk2; subst hj2
  intro p e s m args below meth c hx hb hml hr hn hown hts hlk htb hT hst hW0 H locs arr hS hW hl
  have hrun := vx_runV (Ts := lw_good) (p := p) (l := l) (e := e) (R := R) (s := s) (m := m) (args := args) (below := below) (meth := meth) (c := c) (H := H) (locs := locs) (cells := k) (slots := j) (g := F0 m pc arr (As.reverse ++ .ref b :: rest)) (rest := rest) ⟨hx, hb, hml, hown, hts⟩ hM ⟨qY_call hY hts w1 hR, hts _ w2, hts _ w3⟩ ⟨q_blind, va_recv (q := (C, T, N)) hT.1 (qW_at hW hcell rfl) hc (q0 := 0) rfl, fun U hU hWU => ⟨rfl, by rw [hU]; exact hW, qT_warm hWU hT⟩⟩ rfl hna hl.1 rfl (lv_room hcat) d hk
  intro T1 hT2 X
  rcases hrun T1 hT2 X with ⟨v2, st₀, t, T', L, h0, X', hL, e1, e2, hf, stp⟩ | ⟨q, st₀, t, T', L, E2, ce, h0', X', hL, e1, e2, ⟨hE, hw2, hsz⟩, hce, hcv, hcl, stp⟩
  · exact absurd hf id
  · subst hE
    rw [h0'] at hsz
    have hS2 : va_S (qz G) s.heap T'.heap (locs ++ L) := by
      obtain ⟨σ0, n0, w0⟩ := hW0
      refine ⟨Nat.le_trans hS.1 (by rw [e1]; exact hsz), fun q h1 h2 => ?_, fun q hq => ?_⟩
      · have h3 : q < G.2.2.1.size := Nat.not_le.mp h2
        rw [e1, hw2.2.2.1 q h3, w0.2.2.1 q h3]
      · rcases List.mem_append.mp hq with h | h
        · exact hS.2.2 q h
        · exact hL q h
    have hg := (List.mem_filter.mp w5).2
    simp only [Bool.and_eq_true] at hg
    obtain ⟨t2, a1, b1⟩ := vx_catch (p := p) (l := l) (e := e) (R := R) (s := s) (m := m) (args := args) (below := below) (meth := meth) (c := c) (H := T'.heap) (locs := locs ++ L) (cells := k + rm.cells) (slots := j + rm.slots) (pc := pc) (ls := arr) (rest := rest) (q := q) (ce := ce) hown pre x suf (by rw [htb]; exact hsplit) (fun z hz => by
      obtain ⟨z1, nm2, z2, z3⟩ := hpass z hz
      exact Or.inr ⟨z1, nm2, hts _ z2, hT.2.2.2.2.2.2.2.1 _ z3⟩) hcov h0 (hts _ w4) (va_Nw.use hg.1 (hT.2.2.2.1 _ w5)) (by rw [e1]; exact hce) hcv hcl (kk q p e s m args below meth c hx hb hml hr hn hown hts hlk htb hT hst hW0 T'.heap (locs ++ L) arr hS2 (by rw [e1]; exact hw2) hl) T' rfl X'
    exact ⟨t2, stp.trans a1, b1⟩
end QV
end
section
def gC (σ : qH) (a ci : Nat) : Option Unit := match σ a with
  | some (.inr (c, _)) => if c = ci then some () else none
  | _ => none
theorem gC_inv {σ : qH} {a ci : Nat} {u : Unit} (h : gC σ a ci = some u) : ∃ fs : List Value, σ a = some (.inr (ci, fs)) := by
  unfold gC at h
  split at h
  · rename_i c fs e
    obtain ⟨hk, -⟩ := ite_none h
    subst hk
    exact ⟨fs, e⟩
  · cases h
theorem ite_else {α : Type} {c : Prop} [Decidable c] {y : Option α} {r : α} (h : (if c then none else y) = some r) : ¬ c ∧ y = some r := by
  by_cases hc : c
  · rw [if_pos hc] at h; cases h
  · rw [if_neg hc] at h; exact ⟨hc, h⟩
def b2 {A B β : Type} (o : Option (A × B)) (f : A → B → Option β) : Option β := match o with
  | some (a, b) => f a b
  | none => none
def b3 {A B C β : Type} (o : Option (A × B × C)) (f : A → B → C → Option β) : Option β := match o with
  | some (a, b, c) => f a b c
  | none => none
def b4 {A B C D β : Type} (o : Option (A × B × C × D)) (f : A → B → C → D → Option β) : Option β := match o with
  | some (a, b, c, d) => f a b c d
  | none => none
theorem b2_inv {A B β : Type} {o : Option (A × B)} {f : A → B → Option β} {r : β} (h : b2 o f = some r) : ∃ a b, o = some (a, b) ∧ f a b = some r := by
  match o, h with
  | some (a, b), h => exact ⟨a, b, rfl, h⟩
theorem b3_inv {A B C β : Type} {o : Option (A × B × C)} {f : A → B → C → Option β} {r : β} (h : b3 o f = some r) : ∃ a b c, o = some (a, b, c) ∧ f a b c = some r := by
  match o, h with
  | some (a, b, c), h => exact ⟨a, b, c, rfl, h⟩
theorem b4_inv {A B C D β : Type} {o : Option (A × B × C × D)} {f : A → B → C → D → Option β} {r : β} (h : b4 o f = some r) : ∃ a b c d, o = some (a, b, c, d) ∧ f a b c d = some r := by
  match o, h with
  | some (a, b, c, d), h => exact ⟨a, b, c, d, rfl, h⟩
theorem so2 {A B : Type} {a a' : A} {b b' : B} (h : some (a, b) = some (a', b')) : a = a' ∧ b = b' := by cases h; exact ⟨rfl, rfl⟩
theorem so3 {A B C : Type} {a a' : A} {b b' : B} {c c' : C} (h : some (a, b, c) = some (a', b', c')) : a = a' ∧ b = b' ∧ c = c' := by cases h; exact ⟨rfl, rfl, rfl⟩
theorem so4 {A B C D : Type} {a a' : A} {b b' : B} {c c' : C} {d d' : D} (h : some (a, b, c, d) = some (a', b', c', d')) : a = a' ∧ b = b' ∧ c = c' ∧ d = d' := by cases h; exact ⟨rfl, rfl, rfl, rfl⟩
theorem i32_ne {x c : Int32} {z : Int} (h : ¬ x = c) (hc : c.toInt = z) : x.toInt ≠ z := fun e => h (Int32.toInt_inj.mp (e.trans hc.symm))
abbrev rI (σ : qH) (n : Option Nat) (o : Int32 ⊕ String) : qR := match o with
  | .inl v => .inl (some (.int v), σ, n)
  | .inr e => .inr (e, σ)
abbrev rIw (_ : qH) (n : Option Nat) (o : (Int32 × qH) ⊕ (String × qH)) : qR := match o with
  | .inl v => .inl (some (.int v.1), v.2, n)
  | .inr e => .inr (e.1, e.2)
/-- .. from one that writes -/
def bxw {α β : Type} (o : Option (α ⊕ String)) (σ : qH) (f : α → Option (β ⊕ (String × qH))) : Option (β ⊕ (String × qH)) := match o with
  | some (.inl a) => f a
  | some (.inr e) => some (.inr (e, σ))
  | none => none
theorem bxw_inv {α β : Type} {o : Option (α ⊕ String)} {σ : qH} {f : α → Option (β ⊕ (String × qH))} {r : β ⊕ (String × qH)} (h : bxw o σ f = some r) : (∃ a, o = some (.inl a) ∧ f a = some r) ∨ (∃ e, o = some (.inr e) ∧ r = .inr (e, σ)) := by
  match o, h with
  | some (.inl a), h => exact Or.inl ⟨a, rfl, h⟩
  | some (.inr e), h => exact Or.inr ⟨e, rfl, (Option.some.inj h).symm⟩
abbrev rU (σ : qH) (n : Option Nat) (o : Unit ⊕ String) : qR := match o with
  | .inl _ => .inl (none, σ, n)
  | .inr e => .inr (e, σ)
theorem lk_2 {d o1 o2 k1 k2 k : Int} (h1 : k ≠ k1) (h2 : k ≠ k2) : Op.lookupswitch.offset [(k1, o1), (k2, o2)] d k = d := by
  simp [Op.lookupswitch.offset, h1, h2, Ne.symm h1, Ne.symm h2]
theorem lk_3 {d o1 o2 o3 k1 k2 k3 k : Int} (h1 : k ≠ k1) (h2 : k ≠ k2) (h3 : k ≠ k3) : Op.lookupswitch.offset [(k1, o1), (k2, o2), (k3, o3)] d k = d := by
  simp [Op.lookupswitch.offset, h1, h2, h3, Ne.symm h1, Ne.symm h2, Ne.symm h3]
set_option maxRecDepth 100000 in
theorem wd_objcode : Cond.code objectInit ⟨#[0xb1]⟩ 1 none ∈ lw_good := by decide +kernel
section QE
variable {l : Launch} {G : qG} {own nm : String} {cc : ByteArray} {nL : Nat} {rt : Option FieldType} {tab : List ExceptionTableEntry} {R : Room} {mc ms : Nat} {r : qR} {k j : Nat} {σ σ' : qH} {n : Option Nat} {pc : Nat} {ls : List (Nat × Value)} {st : List Value}
theorem x_newE {C : String} {T : u_T} {N ci index : Nat} {fs : List Value} (pc2 n0 n1 k2 j2 : Nat) (hin : ∀ w ∈ u_ws C T N, w ∈ lw_good) (ty : Nat → FieldType) (hty : ∀ k, k < N → parseFieldDescriptor (T k).2.2.1 = some (ty k)) (w1 : Cond.classLink own index C ∈ lw_good) (w2 : Cond.instantiable C N ∈ lw_good) (w3 : Cond.initialized C ∈ lw_good) (hc : vwCl[ci]? = some (C, T, N)) (hfs : ∀ j, j < N → defaultValue (ty j) = vp_V fs j)
    (hk : k + 1 ≤ R.cells) (hj : j + N ≤ R.slots) (d : decode cc pc = .ok (.new index, 3)) (hp : pc + 3 = pc2) (hn : n = some n0) (hn1 : n0 + 1 = n1) (hk2 : k + 1 = k2) (hj2 : j + N = j2) (hs : some (qU σ n0 (.inr (ci, fs))) = some σ') (kk : qX l G own nm cc nL rt tab R mc ms r k2 j2 σ' (some n1) pc2 ls (.ref n0 :: st)) : qX l G own nm cc nL rt tab R mc ms r k j σ n pc ls st := by
  subst hn; subst hn1; subst hk2; subst hj2; cases hs
  exact x_new pc2 hin ty hty w1 w2 w3 hc hfs hk hj d hp kk
theorem x_newIE {N : Nat} {len : Int32} (pc2 n0 n1 k2 j2 : Nat) (w1 : Cond.arrayClass .int ∈ lw_good) (hn0 : ¬ len < 0) (hN : len.toNatClampNeg = N) (hb : N * componentBytes .int ≤ 536870912) (hk : k + 1 ≤ R.cells) (hj : j + N ≤ R.slots) (d : decode cc pc = .ok (.newarray .int, 2)) (hp : pc + 2 = pc2) (hn : n = some n0) (hn1 : n0 + 1 = n1) (hk2 : k + 1 = k2) (hj2 : j + N = j2)
    (hs : some (qU σ n0 (.inl (0, (N, .inl (fun _ => 0))))) = some σ') (kk : qX l G own nm cc nL rt tab R mc ms r k2 j2 σ' (some n1) pc2 ls (.ref n0 :: st)) : qX l G own nm cc nL rt tab R mc ms r k j σ n pc ls (.int len :: st) := by
  subst hn; subst hn1; subst hk2; subst hj2; cases hs
  exact x_newI pc2 w1 hn0 hN hb hk hj d hp kk
theorem x_newZE {N : Nat} {len : Int32} (pc2 n0 n1 k2 j2 : Nat) (w1 : Cond.arrayClass .boolean ∈ lw_good) (hn0 : ¬ len < 0) (hN : len.toNatClampNeg = N) (hb : N * componentBytes .boolean ≤ 536870912) (hk : k + 1 ≤ R.cells) (hj : j + N ≤ R.slots) (d : decode cc pc = .ok (.newarray .boolean, 2)) (hp : pc + 2 = pc2) (hn : n = some n0) (hn1 : n0 + 1 = n1) (hk2 : k + 1 = k2) (hj2 : j + N = j2)
    (hs : some (qU σ n0 (.inl (1, (N, .inl (fun _ => 0))))) = some σ') (kk : qX l G own nm cc nL rt tab R mc ms r k2 j2 σ' (some n1) pc2 ls (.ref n0 :: st)) : qX l G own nm cc nL rt tab R mc ms r k j σ n pc ls (.int len :: st) := by
  subst hn; subst hn1; subst hk2; subst hj2; cases hs
  exact x_newZ pc2 w1 hn0 hN hb hk hj d hp kk
theorem x_newJE {N : Nat} {len : Int32} (pc2 n0 n1 k2 j2 : Nat) (w1 : Cond.arrayClass .long ∈ lw_good) (hn0 : ¬ len < 0) (hN : len.toNatClampNeg = N) (hb : N * componentBytes .long ≤ 536870912) (hk : k + 1 ≤ R.cells) (hj : j + N ≤ R.slots) (d : decode cc pc = .ok (.newarray .long, 2)) (hp : pc + 2 = pc2) (hn : n = some n0) (hn1 : n0 + 1 = n1) (hk2 : k + 1 = k2) (hj2 : j + N = j2)
    (hs : some (qU σ n0 (.inl (3, (N, .inr (.inl (fun _ => 0)))))) = some σ') (kk : qX l G own nm cc nL rt tab R mc ms r k2 j2 σ' (some n1) pc2 ls (.ref n0 :: st)) : qX l G own nm cc nL rt tab R mc ms r k j σ n pc ls (.int len :: st) := by
  subst hn; subst hn1; subst hk2; subst hj2; cases hs
  exact x_newJ pc2 w1 hn0 hN hb hk hj d hp kk
theorem x_newQE {index N : Nat} {len : Int32} (pc2 n0 n1 k2 j2 : Nat) (w1 : Cond.classLink own index RX2 ∈ lw_good) (hn0 : ¬ len < 0) (hN : len.toNatClampNeg = N) (hb : N * 4 ≤ 536870912) (hk : k + 1 ≤ R.cells) (hj : j + N ≤ R.slots) (d : decode cc pc = .ok (.anewarray index, 3)) (hp : pc + 3 = pc2) (hn : n = some n0) (hn1 : n0 + 1 = n1) (hk2 : k + 1 = k2) (hj2 : j + N = j2)
    (hs : some (qU σ n0 (.inl (2, (N, .inr (.inr (.inr (.inr (fun _ => none)))))))) = some σ') (kk : qX l G own nm cc nL rt tab R mc ms r k2 j2 σ' (some n1) pc2 ls (.ref n0 :: st)) : qX l G own nm cc nL rt tab R mc ms r k j σ n pc ls (.int len :: st) := by
  subst hn; subst hn1; subst hk2; subst hj2; cases hs
  exact x_newQ pc2 w1 hn0 hN hb hk hj d hp kk
end QE
def bc {α β ε : Type} (o : Option (α ⊕ ε)) (f : α → Option β) (g : ε → Option β) : Option β := match o with
  | some (.inl a) => f a
  | some (.inr e) => g e
  | none => none
theorem bc_inv {α β ε : Type} {o : Option (α ⊕ ε)} {f : α → Option β} {g : ε → Option β} {r : β} (h : bc o f g = some r) : (∃ a, o = some (.inl a) ∧ f a = some r) ∨ (∃ e, o = some (.inr e) ∧ g e = some r) := by
  match o, h with
  | some (.inl a), h => exact Or.inl ⟨a, rfl, h⟩
  | some (.inr e), h => exact Or.inr ⟨e, rfl, h⟩
def bc2 {β : Type} (o : Option ((Int32 × qH) ⊕ (String × qH))) (f : Int32 → qH → Option β) (g : String → qH → Option β) : Option β := match o with
  | some (.inl (a, s)) => f a s
  | some (.inr (e, s)) => g e s
  | none => none
theorem bc2_inv {β : Type} {o : Option ((Int32 × qH) ⊕ (String × qH))} {f : Int32 → qH → Option β} {g : String → qH → Option β} {r : β} (h : bc2 o f g = some r) : (∃ a s, o = some (.inl (a, s)) ∧ f a s = some r) ∨ (∃ e s, o = some (.inr (e, s)) ∧ g e s = some r) := by
  match o, h with
  | some (.inl (a, s)), h => exact Or.inl ⟨a, s, rfl, h⟩
  | some (.inr (e, s)), h => exact Or.inr ⟨e, s, rfl, h⟩
theorem cst_I : Cond.castable qI qI ∈ lw_face := by decide +kernel
theorem cst_A : Cond.castable qA qA ∈ lw_face := by decide +kernel
theorem cst_S : Cond.castable qSt qSt ∈ lw_face := by decide +kernel

def b7 {A B C D E F G β : Type} (o : Option (A × B × C × D × E × F × G)) (f : A → B → C → D → E → F → G → Option β) : Option β := match o with
  | some (a, b, c, d, e, g, h) => f a b c d e g h
  | none => none
theorem b7_inv {A B C D E F G β : Type} {o : Option (A × B × C × D × E × F × G)} {f : A → B → C → D → E → F → G → Option β} {r : β} (h : b7 o f = some r) : ∃ a b c d e g i, o = some (a, b, c, d, e, g, i) ∧ f a b c d e g i = some r := by
  match o, h with
  | some (a, b, c, d, e, g, i), h => exact ⟨a, b, c, d, e, g, i, rfl, h⟩
theorem so7 {A B C D E F G : Type} {a a' : A} {b b' : B} {c c' : C} {d d' : D} {e e' : E} {f f' : F} {g g' : G} (h : some (a, b, c, d, e, f, g) = some (a', b', c', d', e', f', g')) : a = a' ∧ b = b' ∧ c = c' ∧ d = d' ∧ e = e' ∧ f = f' ∧ g = g' := by cases h; exact ⟨rfl, rfl, rfl, rfl, rfl, rfl, rfl⟩
theorem b7_s {A B C D E F G β : Type} {a : A} {b : B} {c : C} {d : D} {e : E} {g : F} {h : G} {f : A → B → C → D → E → F → G → Option β} : b7 (some (a, b, c, d, e, g, h)) f = f a b c d e g h := rfl
set_option maxRecDepth 100000 in
theorem inX0 : ∀ w ∈ u_ws RX0 TX0 4, w ∈ lw_good := by
  have h0 : Cond.laysFinal RX0 "SteepleWords$Ballot" "changes" "[I" ∈ lw_good := lg_in 141 (by decide +kernel) rfl
  have h1 : Cond.lays RX0 "SteepleWords$Ballot" "lowest" "I" ∈ lw_good := lg_in 143 (by decide +kernel) rfl
  have h2 : Cond.lays RX0 "SteepleWords$Ballot" "highest" "I" ∈ lw_good := lg_in 145 (by decide +kernel) rfl
  have h3 : Cond.lays RX0 "SteepleWords$Ballot" "most" "I" ∈ lw_good := lg_in 147 (by decide +kernel) rfl
  have e : u_ws RX0 TX0 4 = [Cond.laysFinal RX0 "SteepleWords$Ballot" "changes" "[I", Cond.lays RX0 "SteepleWords$Ballot" "lowest" "I", Cond.lays RX0 "SteepleWords$Ballot" "highest" "I", Cond.lays RX0 "SteepleWords$Ballot" "most" "I"] := rfl
  rw [e]
  exact List.forall_mem_cons.mpr ⟨h0, List.forall_mem_cons.mpr ⟨h1, List.forall_mem_cons.mpr ⟨h2, List.forall_mem_cons.mpr ⟨h3, fun _ h => absurd h List.not_mem_nil⟩⟩⟩⟩
theorem tX0_0 : parseFieldDescriptor (TX0 0).2.2.1 = some (.array .int) := by decide +kernel
theorem tX0_1 : parseFieldDescriptor (TX0 1).2.2.1 = some (.int) := by decide +kernel
theorem tX0_2 : parseFieldDescriptor (TX0 2).2.2.1 = some (.int) := by decide +kernel
theorem tX0_3 : parseFieldDescriptor (TX0 3).2.2.1 = some (.int) := by decide +kernel
theorem dfX0 : ∀ j, j < 4 → defaultValue (tyX0 j) = vp_V [.null, .int 0, .int 0, .int 0] j := fun j hj => by rcases (show j = 0 ∨ j = 1 ∨ j = 2 ∨ j = 3 by omega) with rfl | rfl | rfl | rfl <;> rfl
set_option maxRecDepth 100000 in
theorem inX1 : ∀ w ∈ u_ws RX1 TX1 3, w ∈ lw_good := by
  have h0 : Cond.laysFinal RX1 "SteepleWords$History" "states" "[LSteepleWords$Parish;" ∈ lw_good := lg_in 101 (by decide +kernel) rfl
  have h1 : Cond.lays RX1 "SteepleWords$History" "next" "I" ∈ lw_good := lg_in 103 (by decide +kernel) rfl
  have h2 : Cond.lays RX1 "SteepleWords$History" "count" "I" ∈ lw_good := lg_in 105 (by decide +kernel) rfl
  have e : u_ws RX1 TX1 3 = [Cond.laysFinal RX1 "SteepleWords$History" "states" "[LSteepleWords$Parish;", Cond.lays RX1 "SteepleWords$History" "next" "I", Cond.lays RX1 "SteepleWords$History" "count" "I"] := rfl
  rw [e]
  exact List.forall_mem_cons.mpr ⟨h0, List.forall_mem_cons.mpr ⟨h1, List.forall_mem_cons.mpr ⟨h2, fun _ h => absurd h List.not_mem_nil⟩⟩⟩
theorem tX1_0 : parseFieldDescriptor (TX1 0).2.2.1 = some (.array (.object "SteepleWords$Parish")) := by decide +kernel
theorem tX1_1 : parseFieldDescriptor (TX1 1).2.2.1 = some (.int) := by decide +kernel
theorem tX1_2 : parseFieldDescriptor (TX1 2).2.2.1 = some (.int) := by decide +kernel
theorem dfX1 : ∀ j, j < 3 → defaultValue (tyX1 j) = vp_V [.null, .int 0, .int 0] j := fun j hj => by rcases (show j = 0 ∨ j = 1 ∨ j = 2 by omega) with rfl | rfl | rfl <;> rfl
set_option maxRecDepth 100000 in
theorem inX2 : ∀ w ∈ u_ws RX2 TX2 11, w ∈ lw_good := by
  have h0 : Cond.laysFinal RX2 "SteepleWords$Parish" "measures" "[I" ∈ lw_good := lg_in 65 (by decide +kernel) rfl
  have h1 : Cond.laysFinal RX2 "SteepleWords$Parish" "trusts" "[I" ∈ lw_good := lg_in 67 (by decide +kernel) rfl
  have h2 : Cond.laysFinal RX2 "SteepleWords$Parish" "rights" "[I" ∈ lw_good := lg_in 69 (by decide +kernel) rfl
  have h3 : Cond.laysFinal RX2 "SteepleWords$Parish" "wrongs" "[I" ∈ lw_good := lg_in 71 (by decide +kernel) rfl
  have h4 : Cond.laysFinal RX2 "SteepleWords$Parish" "surveyed" "[I" ∈ lw_good := lg_in 73 (by decide +kernel) rfl
  have h5 : Cond.laysFinal RX2 "SteepleWords$Parish" "settings" "[I" ∈ lw_good := lg_in 75 (by decide +kernel) rfl
  have h6 : Cond.lays RX2 "SteepleWords$Parish" "count" "I" ∈ lw_good := lg_in 77 (by decide +kernel) rfl
  have h7 : Cond.lays RX2 "SteepleWords$Parish" "came" "I" ∈ lw_good := lg_in 79 (by decide +kernel) rfl
  have h8 : Cond.lays RX2 "SteepleWords$Parish" "evenings" "I" ∈ lw_good := lg_in 81 (by decide +kernel) rfl
  have h9 : Cond.lays RX2 "SteepleWords$Parish" "surveys" "I" ∈ lw_good := lg_in 83 (by decide +kernel) rfl
  have h10 : Cond.lays RX2 "SteepleWords$Parish" "lost" "I" ∈ lw_good := lg_in 85 (by decide +kernel) rfl
  have e : u_ws RX2 TX2 11 = [Cond.laysFinal RX2 "SteepleWords$Parish" "measures" "[I", Cond.laysFinal RX2 "SteepleWords$Parish" "trusts" "[I", Cond.laysFinal RX2 "SteepleWords$Parish" "rights" "[I", Cond.laysFinal RX2 "SteepleWords$Parish" "wrongs" "[I", Cond.laysFinal RX2 "SteepleWords$Parish" "surveyed" "[I", Cond.laysFinal RX2 "SteepleWords$Parish" "settings" "[I", Cond.lays RX2 "SteepleWords$Parish" "count" "I", Cond.lays RX2 "SteepleWords$Parish" "came" "I", Cond.lays RX2 "SteepleWords$Parish" "evenings" "I", Cond.lays RX2 "SteepleWords$Parish" "surveys" "I", Cond.lays RX2 "SteepleWords$Parish" "lost" "I"] := rfl
  rw [e]
  exact List.forall_mem_cons.mpr ⟨h0, List.forall_mem_cons.mpr ⟨h1, List.forall_mem_cons.mpr ⟨h2, List.forall_mem_cons.mpr ⟨h3, List.forall_mem_cons.mpr ⟨h4, List.forall_mem_cons.mpr ⟨h5, List.forall_mem_cons.mpr ⟨h6, List.forall_mem_cons.mpr ⟨h7, List.forall_mem_cons.mpr ⟨h8, List.forall_mem_cons.mpr ⟨h9, List.forall_mem_cons.mpr ⟨h10, fun _ h => absurd h List.not_mem_nil⟩⟩⟩⟩⟩⟩⟩⟩⟩⟩⟩
theorem tX2_0 : parseFieldDescriptor (TX2 0).2.2.1 = some (.array .int) := by decide +kernel
theorem tX2_1 : parseFieldDescriptor (TX2 1).2.2.1 = some (.array .int) := by decide +kernel
theorem tX2_2 : parseFieldDescriptor (TX2 2).2.2.1 = some (.array .int) := by decide +kernel
theorem tX2_3 : parseFieldDescriptor (TX2 3).2.2.1 = some (.array .int) := by decide +kernel
theorem tX2_4 : parseFieldDescriptor (TX2 4).2.2.1 = some (.array .int) := by decide +kernel
theorem tX2_5 : parseFieldDescriptor (TX2 5).2.2.1 = some (.array .int) := by decide +kernel
theorem tX2_6 : parseFieldDescriptor (TX2 6).2.2.1 = some (.int) := by decide +kernel
theorem tX2_7 : parseFieldDescriptor (TX2 7).2.2.1 = some (.int) := by decide +kernel
theorem tX2_8 : parseFieldDescriptor (TX2 8).2.2.1 = some (.int) := by decide +kernel
theorem tX2_9 : parseFieldDescriptor (TX2 9).2.2.1 = some (.int) := by decide +kernel
theorem tX2_10 : parseFieldDescriptor (TX2 10).2.2.1 = some (.int) := by decide +kernel
theorem dfX2 : ∀ j, j < 11 → defaultValue (tyX2 j) = vp_V [.null, .null, .null, .null, .null, .null, .int 0, .int 0, .int 0, .int 0, .int 0] j := fun j hj => by rcases (show j = 0 ∨ j = 1 ∨ j = 2 ∨ j = 3 ∨ j = 4 ∨ j = 5 ∨ j = 6 ∨ j = 7 ∨ j = 8 ∨ j = 9 ∨ j = 10 by omega) with rfl | rfl | rfl | rfl | rfl | rfl | rfl | rfl | rfl | rfl | rfl <;> rfl
set_option maxRecDepth 100000 in
theorem inX5 : ∀ w ∈ u_ws RX5 TX5 5, w ∈ lw_good := by
  have h0 : Cond.laysFinal RX5 "SteepleWords$Text" "signs" "[I" ∈ lw_good := lg_in 120 (by decide +kernel) rfl
  have h1 : Cond.lays RX5 "SteepleWords$Text" "length" "I" ∈ lw_good := lg_in 122 (by decide +kernel) rfl
  have h2 : Cond.lays RX5 "SteepleWords$Text" "position" "I" ∈ lw_good := lg_in 124 (by decide +kernel) rfl
  have h3 : Cond.lays RX5 "SteepleWords$Text" "command" "I" ∈ lw_good := lg_in 126 (by decide +kernel) rfl
  have h4 : Cond.laysFinal RX5 "SteepleWords$Text" "numbers" "[I" ∈ lw_good := lg_in 128 (by decide +kernel) rfl
  have e : u_ws RX5 TX5 5 = [Cond.laysFinal RX5 "SteepleWords$Text" "signs" "[I", Cond.lays RX5 "SteepleWords$Text" "length" "I", Cond.lays RX5 "SteepleWords$Text" "position" "I", Cond.lays RX5 "SteepleWords$Text" "command" "I", Cond.laysFinal RX5 "SteepleWords$Text" "numbers" "[I"] := rfl
  rw [e]
  exact List.forall_mem_cons.mpr ⟨h0, List.forall_mem_cons.mpr ⟨h1, List.forall_mem_cons.mpr ⟨h2, List.forall_mem_cons.mpr ⟨h3, List.forall_mem_cons.mpr ⟨h4, fun _ h => absurd h List.not_mem_nil⟩⟩⟩⟩⟩
theorem tX5_0 : parseFieldDescriptor (TX5 0).2.2.1 = some (.array .int) := by decide +kernel
theorem tX5_1 : parseFieldDescriptor (TX5 1).2.2.1 = some (.int) := by decide +kernel
theorem tX5_2 : parseFieldDescriptor (TX5 2).2.2.1 = some (.int) := by decide +kernel
theorem tX5_3 : parseFieldDescriptor (TX5 3).2.2.1 = some (.int) := by decide +kernel
theorem tX5_4 : parseFieldDescriptor (TX5 4).2.2.1 = some (.array .int) := by decide +kernel
theorem dfX5 : ∀ j, j < 5 → defaultValue (tyX5 j) = vp_V [.null, .int 0, .int 0, .int 0, .null] j := fun j hj => by rcases (show j = 0 ∨ j = 1 ∨ j = 2 ∨ j = 3 ∨ j = 4 by omega) with rfl | rfl | rfl | rfl | rfl <;> rfl
set_option maxRecDepth 100000 in
theorem inX6 : ∀ w ∈ u_ws RX6 TX6 7, w ∈ lw_good := by
  have h0 : Cond.laysFinal RX6 "SteepleWords" "parish" "LSteepleWords$Parish;" ∈ lw_good := lg_in 157 (by decide +kernel) rfl
  have h1 : Cond.laysFinal RX6 "SteepleWords" "copy" "LSteepleWords$Parish;" ∈ lw_good := lg_in 159 (by decide +kernel) rfl
  have h2 : Cond.laysFinal RX6 "SteepleWords" "slots" "[LSteepleWords$Parish;" ∈ lw_good := lg_in 161 (by decide +kernel) rfl
  have h3 : Cond.laysFinal RX6 "SteepleWords" "saved" "[Z" ∈ lw_good := lg_in 163 (by decide +kernel) rfl
  have h4 : Cond.laysFinal RX6 "SteepleWords" "history" "LSteepleWords$History;" ∈ lw_good := lg_in 165 (by decide +kernel) rfl
  have h5 : Cond.laysFinal RX6 "SteepleWords" "text" "LSteepleWords$Text;" ∈ lw_good := lg_in 167 (by decide +kernel) rfl
  have h6 : Cond.laysFinal RX6 "SteepleWords" "ballot" "LSteepleWords$Ballot;" ∈ lw_good := lg_in 169 (by decide +kernel) rfl
  have e : u_ws RX6 TX6 7 = [Cond.laysFinal RX6 "SteepleWords" "parish" "LSteepleWords$Parish;", Cond.laysFinal RX6 "SteepleWords" "copy" "LSteepleWords$Parish;", Cond.laysFinal RX6 "SteepleWords" "slots" "[LSteepleWords$Parish;", Cond.laysFinal RX6 "SteepleWords" "saved" "[Z", Cond.laysFinal RX6 "SteepleWords" "history" "LSteepleWords$History;", Cond.laysFinal RX6 "SteepleWords" "text" "LSteepleWords$Text;", Cond.laysFinal RX6 "SteepleWords" "ballot" "LSteepleWords$Ballot;"] := rfl
  rw [e]
  exact List.forall_mem_cons.mpr ⟨h0, List.forall_mem_cons.mpr ⟨h1, List.forall_mem_cons.mpr ⟨h2, List.forall_mem_cons.mpr ⟨h3, List.forall_mem_cons.mpr ⟨h4, List.forall_mem_cons.mpr ⟨h5, List.forall_mem_cons.mpr ⟨h6, fun _ h => absurd h List.not_mem_nil⟩⟩⟩⟩⟩⟩⟩
theorem tX6_0 : parseFieldDescriptor (TX6 0).2.2.1 = some (.object "SteepleWords$Parish") := by decide +kernel
theorem tX6_1 : parseFieldDescriptor (TX6 1).2.2.1 = some (.object "SteepleWords$Parish") := by decide +kernel
theorem tX6_2 : parseFieldDescriptor (TX6 2).2.2.1 = some (.array (.object "SteepleWords$Parish")) := by decide +kernel
theorem tX6_3 : parseFieldDescriptor (TX6 3).2.2.1 = some (.array .boolean) := by decide +kernel
theorem tX6_4 : parseFieldDescriptor (TX6 4).2.2.1 = some (.object "SteepleWords$History") := by decide +kernel
theorem tX6_5 : parseFieldDescriptor (TX6 5).2.2.1 = some (.object "SteepleWords$Text") := by decide +kernel
theorem tX6_6 : parseFieldDescriptor (TX6 6).2.2.1 = some (.object "SteepleWords$Ballot") := by decide +kernel
theorem dfX6 : ∀ j, j < 7 → defaultValue (tyX6 j) = vp_V [.null, .null, .null, .null, .null, .null, .null] j := fun j hj => by rcases (show j = 0 ∨ j = 1 ∨ j = 2 ∨ j = 3 ∨ j = 4 ∨ j = 5 ∨ j = 6 by omega) with rfl | rfl | rfl | rfl | rfl | rfl | rfl <;> rfl
set_option maxRecDepth 100000 in
theorem wd_1 : Cond.selects RX5 yX5_signHere yX5_signHere ∈ lw_good := lg_in 1 rfl rfl
set_option maxRecDepth 100000 in
theorem wd_2 : Cond.selects RX5 yX5_readNumbers yX5_readNumbers ∈ lw_good := lg_in 2 rfl rfl
set_option maxRecDepth 100000 in
theorem wd_3 : Cond.selects RX5 yX5_readNumber yX5_readNumber ∈ lw_good := lg_in 3 rfl rfl
set_option maxRecDepth 100000 in
theorem wd_4 : Cond.selects RX6 yX6_doCommandOfText yX6_doCommandOfText ∈ lw_good := lg_in 4 rfl rfl
set_option maxRecDepth 100000 in
theorem wd_5 : Cond.selects RX2 yX2_matters yX2_matters ∈ lw_good := lg_in 5 rfl rfl
set_option maxRecDepth 100000 in
theorem wd_6 : Cond.selects RX2 yX2_shameLighter yX2_shameLighter ∈ lw_good := lg_in 6 rfl rfl
set_option maxRecDepth 100000 in
theorem wd_7 : Cond.selects RX2 yX2_judge yX2_judge ∈ lw_good := lg_in 7 rfl rfl
set_option maxRecDepth 100000 in
theorem wd_8 : Cond.selects RX2 yX2_removeMeasuresOf yX2_removeMeasuresOf ∈ lw_good := lg_in 8 rfl rfl
set_option maxRecDepth 100000 in
theorem wd_9 : Cond.selects RX2 yX2_quarrel yX2_quarrel ∈ lw_good := lg_in 9 rfl rfl
set_option maxRecDepth 100000 in
theorem wd_10 : Cond.selects RX6 yX6_needMeasure yX6_needMeasure ∈ lw_good := lg_in 10 rfl rfl
set_option maxRecDepth 100000 in
theorem wd_11 : Cond.selects RX0 yX0_noteChanges yX0_noteChanges ∈ lw_good := lg_in 11 rfl rfl
set_option maxRecDepth 100000 in
theorem wd_12 : Cond.selects RX0 yX0_tryLowest yX0_tryLowest ∈ lw_good := lg_in 12 rfl rfl
set_option maxRecDepth 100000 in
theorem wd_13 : Cond.selects RX2 yX2_isLouder yX2_isLouder ∈ lw_good := lg_in 13 rfl rfl
set_option maxRecDepth 100000 in
theorem wd_14 : Cond.selects RX2 yX2_feetFrom yX2_feetFrom ∈ lw_good := lg_in 14 rfl rfl
set_option maxRecDepth 100000 in
theorem wd_15 : Cond.selects RX2 yX2_isTruer yX2_isTruer ∈ lw_good := lg_in 15 rfl rfl
set_option maxRecDepth 100000 in
theorem wd_16 : Cond.initialized RL ∈ lw_good := lg_in 16 rfl rfl
set_option maxRecDepth 100000 in
theorem wd_17 : Cond.initialized RX6 ∈ lw_good := lg_in 17 rfl rfl
set_option maxRecDepth 100000 in
theorem wd_18 : Cond.initialized RX2 ∈ lw_good := lg_in 18 rfl rfl
set_option maxRecDepth 100000 in
theorem wd_19 : Cond.initialized RJ7 ∈ lw_good := lg_in 19 rfl rfl
set_option maxRecDepth 100000 in
theorem wd_20 : Cond.initialized RX1 ∈ lw_good := lg_in 20 rfl rfl
set_option maxRecDepth 100000 in
theorem wd_21 : Cond.initialized RX5 ∈ lw_good := lg_in 21 rfl rfl
set_option maxRecDepth 100000 in
theorem wd_22 : Cond.initialized RX0 ∈ lw_good := lg_in 22 rfl rfl
set_option maxRecDepth 100000 in
theorem wd_26 : Cond.initialized "java/lang/IllegalArgumentException" ∈ lw_good := lg_in 26 rfl rfl
set_option maxRecDepth 100000 in
theorem wd_27 : Cond.initialized "java/lang/IllegalStateException" ∈ lw_good := lg_in 27 rfl rfl
set_option maxRecDepth 100000 in
theorem wd_28 : Cond.initialized RJ9 ∈ lw_good := lg_in 28 rfl rfl
set_option maxRecDepth 100000 in
theorem wd_29 : Cond.initialized RJ10 ∈ lw_good := lg_in 29 rfl rfl
set_option maxRecDepth 100000 in
theorem wd_30 : Cond.initialized "java/lang/IndexOutOfBoundsException" ∈ lw_good := lg_in 30 rfl rfl
set_option maxRecDepth 100000 in
theorem wd_31 : Cond.initialized RX3 ∈ lw_good := lg_in 31 rfl rfl
set_option maxRecDepth 100000 in
theorem wd_32 : Cond.initialized RX4 ∈ lw_good := lg_in 32 rfl rfl
set_option maxRecDepth 100000 in
theorem wd_33 : Cond.classLink RL 8 RX6 ∈ lw_good := lg_in 33 rfl rfl
set_option maxRecDepth 100000 in
theorem wd_34 : Cond.instantiable RX6 7 ∈ lw_good := lg_in 34 rfl rfl
set_option maxRecDepth 100000 in
theorem wd_35 : Cond.methodLink RL 186 yX6_init ∈ lw_good := lg_in 35 rfl rfl
set_option maxRecDepth 100000 in
theorem wd_36 : Cond.instanceMethod yX6_init ∈ lw_good := lg_in 36 rfl rfl
set_option maxRecDepth 100000 in
theorem wd_37 : Cond.code yX6_init cX6_init 2 (none) ∈ lw_good := lg_in 37 rfl rfl
set_option maxRecDepth 100000 in
theorem wd_38 : Cond.methodLink RX6 1 objectInit ∈ lw_good := lg_in 38 rfl rfl
set_option maxRecDepth 100000 in
theorem wd_39 : Cond.instanceMethod objectInit ∈ lw_good := lg_in 39 rfl rfl
set_option maxRecDepth 100000 in
theorem wd_41 : Cond.classLink RX6 7 RX2 ∈ lw_good := lg_in 41 rfl rfl
set_option maxRecDepth 100000 in
theorem wd_42 : Cond.instantiable RX2 11 ∈ lw_good := lg_in 42 rfl rfl
set_option maxRecDepth 100000 in
theorem wd_43 : Cond.methodLink RX6 9 yX2_init ∈ lw_good := lg_in 43 rfl rfl
set_option maxRecDepth 100000 in
theorem wd_44 : Cond.instanceMethod yX2_init ∈ lw_good := lg_in 44 rfl rfl
set_option maxRecDepth 100000 in
theorem wd_45 : Cond.code yX2_init cX2_init 1 (none) ∈ lw_good := lg_in 45 rfl rfl
set_option maxRecDepth 100000 in
theorem wd_46 : Cond.methodLink RX2 3 objectInit ∈ lw_good := lg_in 46 rfl rfl
set_option maxRecDepth 100000 in
theorem wd_47 : Cond.methodLink RX2 30 yX2_makeNew ∈ lw_good := lg_in 47 rfl rfl
set_option maxRecDepth 100000 in
theorem wd_48 : Cond.instanceMethod yX2_makeNew ∈ lw_good := lg_in 48 rfl rfl
set_option maxRecDepth 100000 in
theorem wd_49 : Cond.selects RX2 yX2_makeNew yX2_makeNew ∈ lw_good := lg_in 49 rfl rfl
set_option maxRecDepth 100000 in
theorem wd_50 : Cond.code yX2_makeNew cX2_makeNew 1 (none) ∈ lw_good := lg_in 50 rfl rfl
set_option maxRecDepth 100000 in
theorem wd_51 : Cond.methodLink RX2 33 yJ7_fill_53178 ∈ lw_good := lg_in 51 rfl rfl
set_option maxRecDepth 100000 in
theorem wd_52 : Cond.static yJ7_fill_53178 ∈ lw_good := lg_in 52 rfl rfl
set_option maxRecDepth 100000 in
theorem wd_53 : Cond.code yJ7_fill_53178 cJ7_fill_53178 4 (none) ∈ lw_good := lg_in 53 rfl rfl
set_option maxRecDepth 100000 in
theorem wd_54 : Cond.fieldLink RX2 11 "SteepleWords$Parish" "measures" "[I" ∈ lw_good := lg_in 54 rfl rfl
set_option maxRecDepth 100000 in
theorem wd_55 : Cond.fieldLink RX2 15 "SteepleWords$Parish" "trusts" "[I" ∈ lw_good := lg_in 55 rfl rfl
set_option maxRecDepth 100000 in
theorem wd_56 : Cond.fieldLink RX2 18 "SteepleWords$Parish" "rights" "[I" ∈ lw_good := lg_in 56 rfl rfl
set_option maxRecDepth 100000 in
theorem wd_57 : Cond.fieldLink RX2 21 "SteepleWords$Parish" "wrongs" "[I" ∈ lw_good := lg_in 57 rfl rfl
set_option maxRecDepth 100000 in
theorem wd_58 : Cond.fieldLink RX2 24 "SteepleWords$Parish" "surveyed" "[I" ∈ lw_good := lg_in 58 rfl rfl
set_option maxRecDepth 100000 in
theorem wd_59 : Cond.fieldLink RX2 27 "SteepleWords$Parish" "settings" "[I" ∈ lw_good := lg_in 59 rfl rfl
set_option maxRecDepth 100000 in
theorem wd_60 : Cond.fieldLink RX2 39 "SteepleWords$Parish" "count" "I" ∈ lw_good := lg_in 60 rfl rfl
set_option maxRecDepth 100000 in
theorem wd_61 : Cond.fieldLink RX2 43 "SteepleWords$Parish" "came" "I" ∈ lw_good := lg_in 61 rfl rfl
set_option maxRecDepth 100000 in
theorem wd_62 : Cond.fieldLink RX2 46 "SteepleWords$Parish" "evenings" "I" ∈ lw_good := lg_in 62 rfl rfl
set_option maxRecDepth 100000 in
theorem wd_63 : Cond.fieldLink RX2 49 "SteepleWords$Parish" "surveys" "I" ∈ lw_good := lg_in 63 rfl rfl
set_option maxRecDepth 100000 in
theorem wd_64 : Cond.fieldLink RX2 52 "SteepleWords$Parish" "lost" "I" ∈ lw_good := lg_in 64 rfl rfl
set_option maxRecDepth 100000 in
theorem wd_88 : Cond.arrayClass .int ∈ lw_good := lg_in 88 rfl rfl
set_option maxRecDepth 100000 in
theorem wd_90 : Cond.classLink RX6 27 RX1 ∈ lw_good := lg_in 90 rfl rfl
set_option maxRecDepth 100000 in
theorem wd_91 : Cond.instantiable RX1 3 ∈ lw_good := lg_in 91 rfl rfl
set_option maxRecDepth 100000 in
theorem wd_92 : Cond.methodLink RX6 29 yX1_init ∈ lw_good := lg_in 92 rfl rfl
set_option maxRecDepth 100000 in
theorem wd_93 : Cond.instanceMethod yX1_init ∈ lw_good := lg_in 93 rfl rfl
set_option maxRecDepth 100000 in
theorem wd_94 : Cond.code yX1_init cX1_init 2 (none) ∈ lw_good := lg_in 94 rfl rfl
set_option maxRecDepth 100000 in
theorem wd_95 : Cond.methodLink RX1 1 objectInit ∈ lw_good := lg_in 95 rfl rfl
set_option maxRecDepth 100000 in
theorem wd_96 : Cond.classLink RX1 9 RX2 ∈ lw_good := lg_in 96 rfl rfl
set_option maxRecDepth 100000 in
theorem wd_97 : Cond.methodLink RX1 15 yX2_init ∈ lw_good := lg_in 97 rfl rfl
set_option maxRecDepth 100000 in
theorem wd_98 : Cond.fieldLink RX1 11 "SteepleWords$History" "states" "[LSteepleWords$Parish;" ∈ lw_good := lg_in 98 rfl rfl
set_option maxRecDepth 100000 in
theorem wd_99 : Cond.fieldLink RX1 20 "SteepleWords$History" "next" "I" ∈ lw_good := lg_in 99 rfl rfl
set_option maxRecDepth 100000 in
theorem wd_100 : Cond.fieldLink RX1 16 "SteepleWords$History" "count" "I" ∈ lw_good := lg_in 100 rfl rfl
set_option maxRecDepth 100000 in
theorem wd_108 : Cond.arrayClass .boolean ∈ lw_good := lg_in 108 rfl rfl
set_option maxRecDepth 100000 in
theorem wd_109 : Cond.classLink RX6 34 RX5 ∈ lw_good := lg_in 109 rfl rfl
set_option maxRecDepth 100000 in
theorem wd_110 : Cond.instantiable RX5 5 ∈ lw_good := lg_in 110 rfl rfl
set_option maxRecDepth 100000 in
theorem wd_112 : Cond.instanceMethod yX5_init ∈ lw_good := lg_in 112 rfl rfl
set_option maxRecDepth 100000 in
theorem wd_113 : Cond.code yX5_init cX5_init 1 (none) ∈ lw_good := lg_in 113 rfl rfl
set_option maxRecDepth 100000 in
theorem wd_114 : Cond.methodLink RX5 3 objectInit ∈ lw_good := lg_in 114 rfl rfl
set_option maxRecDepth 100000 in
theorem wd_115 : Cond.fieldLink RX5 11 "SteepleWords$Text" "signs" "[I" ∈ lw_good := lg_in 115 rfl rfl
set_option maxRecDepth 100000 in
theorem wd_116 : Cond.fieldLink RX5 18 "SteepleWords$Text" "length" "I" ∈ lw_good := lg_in 116 rfl rfl
set_option maxRecDepth 100000 in
theorem wd_117 : Cond.fieldLink RX5 29 "SteepleWords$Text" "position" "I" ∈ lw_good := lg_in 117 rfl rfl
set_option maxRecDepth 100000 in
theorem wd_118 : Cond.fieldLink RX5 22 "SteepleWords$Text" "command" "I" ∈ lw_good := lg_in 118 rfl rfl
set_option maxRecDepth 100000 in
theorem wd_119 : Cond.fieldLink RX5 15 "SteepleWords$Text" "numbers" "[I" ∈ lw_good := lg_in 119 rfl rfl
set_option maxRecDepth 100000 in
theorem wd_131 : Cond.classLink RX6 41 RX0 ∈ lw_good := lg_in 131 rfl rfl
set_option maxRecDepth 100000 in
theorem wd_132 : Cond.instantiable RX0 4 ∈ lw_good := lg_in 132 rfl rfl
set_option maxRecDepth 100000 in
theorem wd_134 : Cond.instanceMethod yX0_init ∈ lw_good := lg_in 134 rfl rfl
set_option maxRecDepth 100000 in
theorem wd_135 : Cond.code yX0_init cX0_init 1 (none) ∈ lw_good := lg_in 135 rfl rfl
set_option maxRecDepth 100000 in
theorem wd_136 : Cond.methodLink RX0 3 objectInit ∈ lw_good := lg_in 136 rfl rfl
set_option maxRecDepth 100000 in
theorem wd_137 : Cond.fieldLink RX0 11 "SteepleWords$Ballot" "changes" "[I" ∈ lw_good := lg_in 137 rfl rfl
set_option maxRecDepth 100000 in
theorem wd_138 : Cond.fieldLink RX0 17 "SteepleWords$Ballot" "lowest" "I" ∈ lw_good := lg_in 138 rfl rfl
set_option maxRecDepth 100000 in
theorem wd_139 : Cond.fieldLink RX0 24 "SteepleWords$Ballot" "highest" "I" ∈ lw_good := lg_in 139 rfl rfl
set_option maxRecDepth 100000 in
theorem wd_140 : Cond.fieldLink RX0 21 "SteepleWords$Ballot" "most" "I" ∈ lw_good := lg_in 140 rfl rfl
set_option maxRecDepth 100000 in
theorem wd_150 : Cond.fieldLink RX6 10 "SteepleWords" "parish" "LSteepleWords$Parish;" ∈ lw_good := lg_in 150 rfl rfl
set_option maxRecDepth 100000 in
theorem wd_151 : Cond.fieldLink RX6 16 "SteepleWords" "copy" "LSteepleWords$Parish;" ∈ lw_good := lg_in 151 rfl rfl
set_option maxRecDepth 100000 in
theorem wd_152 : Cond.fieldLink RX6 19 "SteepleWords" "slots" "[LSteepleWords$Parish;" ∈ lw_good := lg_in 152 rfl rfl
set_option maxRecDepth 100000 in
theorem wd_153 : Cond.fieldLink RX6 23 "SteepleWords" "saved" "[Z" ∈ lw_good := lg_in 153 rfl rfl
set_option maxRecDepth 100000 in
theorem wd_154 : Cond.fieldLink RX6 30 "SteepleWords" "history" "LSteepleWords$History;" ∈ lw_good := lg_in 154 rfl rfl
set_option maxRecDepth 100000 in
theorem wd_155 : Cond.fieldLink RX6 37 "SteepleWords" "text" "LSteepleWords$Text;" ∈ lw_good := lg_in 155 rfl rfl
set_option maxRecDepth 100000 in
theorem wd_156 : Cond.fieldLink RX6 44 "SteepleWords" "ballot" "LSteepleWords$Ballot;" ∈ lw_good := lg_in 156 rfl rfl
set_option maxRecDepth 100000 in
theorem wd_172 : Cond.methodLink RL 187 yL_cell ∈ lw_good := lg_in 172 rfl rfl
set_option maxRecDepth 100000 in
theorem wd_173 : Cond.static yL_cell ∈ lw_good := lg_in 173 rfl rfl
set_option maxRecDepth 100000 in
theorem wd_174 : Cond.code yL_cell cL_cell 2 (some .int) ∈ lw_good := lg_in 174 rfl rfl
set_option maxRecDepth 100000 in
theorem wd_175 : Cond.constant RL 160 (15520171) ∈ lw_good := lg_in 175 rfl rfl
set_option maxRecDepth 100000 in
theorem wd_176 : Cond.constant RL 161 (2147483647) ∈ lw_good := lg_in 176 rfl rfl
set_option maxRecDepth 100000 in
theorem wd_177 : Cond.methodLink RL 195 yL_refuses ∈ lw_good := lg_in 177 rfl rfl
set_option maxRecDepth 100000 in
theorem wd_178 : Cond.static yL_refuses ∈ lw_good := lg_in 178 rfl rfl
set_option maxRecDepth 100000 in
theorem wd_179 : Cond.code yL_refuses cL_refuses 8 (some .boolean) ∈ lw_good := lg_in 179 rfl rfl
set_option maxRecDepth 100000 in
theorem wd_180 : Cond.methodLink RL 162 yL_call ∈ lw_good := lg_in 180 rfl rfl
set_option maxRecDepth 100000 in
theorem wd_181 : Cond.static yL_call ∈ lw_good := lg_in 181 rfl rfl
set_option maxRecDepth 100000 in
theorem wd_182 : Cond.code yL_call cL_call 5 (some .int) ∈ lw_good := lg_in 182 rfl rfl
set_option maxRecDepth 100000 in
theorem wd_183 : Cond.methodLink RL 94 yL_tryAppend ∈ lw_good := lg_in 183 rfl rfl
set_option maxRecDepth 100000 in
theorem wd_184 : Cond.static yL_tryAppend ∈ lw_good := lg_in 184 rfl rfl
set_option maxRecDepth 100000 in
theorem wd_185 : Cond.codeWith yL_tryAppend cL_tryAppend 3 (some .int) [(0, 5, 6, 16), (0, 5, 10, 19)] ∈ lw_good := lg_in 185 rfl rfl
set_option maxRecDepth 100000 in
theorem wd_186 : Cond.classLink RL 16 "java/lang/IllegalArgumentException" ∈ lw_good := lg_in 186 rfl rfl
set_option maxRecDepth 100000 in
theorem wd_187 : Cond.classLink RL 19 "java/lang/IllegalStateException" ∈ lw_good := lg_in 187 rfl rfl
set_option maxRecDepth 100000 in
theorem wd_188 : Cond.methodLink RL 30 yX6_append ∈ lw_good := lg_in 188 rfl rfl
set_option maxRecDepth 100000 in
theorem wd_189 : Cond.instanceMethod yX6_append ∈ lw_good := lg_in 189 rfl rfl
set_option maxRecDepth 100000 in
theorem wd_190 : Cond.selects RX6 yX6_append yX6_append ∈ lw_good := lg_in 190 rfl rfl
set_option maxRecDepth 100000 in
theorem wd_191 : Cond.code yX6_append cX6_append 2 (some .int) ∈ lw_good := lg_in 191 rfl rfl
set_option maxRecDepth 100000 in
theorem wd_192 : Cond.methodLink RX6 48 yX6_need ∈ lw_good := lg_in 192 rfl rfl
set_option maxRecDepth 100000 in
theorem wd_193 : Cond.static yX6_need ∈ lw_good := lg_in 193 rfl rfl
set_option maxRecDepth 100000 in
theorem wd_194 : Cond.code yX6_need cX6_need 1 (none) ∈ lw_good := lg_in 194 rfl rfl
set_option maxRecDepth 100000 in
theorem wd_195 : Cond.classLink RX6 301 "java/lang/IllegalArgumentException" ∈ lw_good := lg_in 195 rfl rfl
set_option maxRecDepth 100000 in
theorem wd_263 : Cond.methodLink RX6 52 yX5_isFull ∈ lw_good := lg_in 263 rfl rfl
set_option maxRecDepth 100000 in
theorem wd_264 : Cond.instanceMethod yX5_isFull ∈ lw_good := lg_in 264 rfl rfl
set_option maxRecDepth 100000 in
theorem wd_265 : Cond.selects RX5 yX5_isFull yX5_isFull ∈ lw_good := lg_in 265 rfl rfl
set_option maxRecDepth 100000 in
theorem wd_266 : Cond.code yX5_isFull cX5_isFull 1 (some .boolean) ∈ lw_good := lg_in 266 rfl rfl
set_option maxRecDepth 100000 in
theorem wd_267 : Cond.classLink RX6 56 "java/lang/IllegalStateException" ∈ lw_good := lg_in 267 rfl rfl
set_option maxRecDepth 100000 in
theorem wd_283 : Cond.methodLink RX6 63 yX5_add ∈ lw_good := lg_in 283 rfl rfl
set_option maxRecDepth 100000 in
theorem wd_284 : Cond.instanceMethod yX5_add ∈ lw_good := lg_in 284 rfl rfl
set_option maxRecDepth 100000 in
theorem wd_285 : Cond.selects RX5 yX5_add yX5_add ∈ lw_good := lg_in 285 rfl rfl
set_option maxRecDepth 100000 in
theorem wd_286 : Cond.code yX5_add cX5_add 2 (some .int) ∈ lw_good := lg_in 286 rfl rfl
set_option maxRecDepth 100000 in
theorem wd_287 : Cond.constant RL 18 (-9999002) ∈ lw_good := lg_in 287 rfl rfl
set_option maxRecDepth 100000 in
theorem wd_288 : Cond.constant RL 21 (-9999003) ∈ lw_good := lg_in 288 rfl rfl
set_option maxRecDepth 100000 in
theorem wd_289 : Cond.methodLink RL 100 yL_tryLoad ∈ lw_good := lg_in 289 rfl rfl
set_option maxRecDepth 100000 in
theorem wd_290 : Cond.static yL_tryLoad ∈ lw_good := lg_in 290 rfl rfl
set_option maxRecDepth 100000 in
theorem wd_291 : Cond.codeWith yL_tryLoad cL_tryLoad 2 (some .int) [(0, 4, 5, 19)] ∈ lw_good := lg_in 291 rfl rfl
set_option maxRecDepth 100000 in
theorem wd_292 : Cond.methodLink RL 34 yX6_load ∈ lw_good := lg_in 292 rfl rfl
set_option maxRecDepth 100000 in
theorem wd_293 : Cond.instanceMethod yX6_load ∈ lw_good := lg_in 293 rfl rfl
set_option maxRecDepth 100000 in
theorem wd_294 : Cond.selects RX6 yX6_load yX6_load ∈ lw_good := lg_in 294 rfl rfl
set_option maxRecDepth 100000 in
theorem wd_295 : Cond.code yX6_load cX6_load 3 (some .int) ∈ lw_good := lg_in 295 rfl rfl
set_option maxRecDepth 100000 in
theorem wd_296 : Cond.methodLink RX6 71 yX5_findError ∈ lw_good := lg_in 296 rfl rfl
set_option maxRecDepth 100000 in
theorem wd_297 : Cond.instanceMethod yX5_findError ∈ lw_good := lg_in 297 rfl rfl
set_option maxRecDepth 100000 in
theorem wd_298 : Cond.selects RX5 yX5_findError yX5_findError ∈ lw_good := lg_in 298 rfl rfl
set_option maxRecDepth 100000 in
theorem wd_299 : Cond.code yX5_findError cX5_findError 2 (some .int) ∈ lw_good := lg_in 299 rfl rfl
set_option maxRecDepth 100000 in
theorem wd_300 : Cond.methodLink RX5 25 yX5_readHead ∈ lw_good := lg_in 300 rfl rfl
set_option maxRecDepth 100000 in
theorem wd_301 : Cond.instanceMethod yX5_readHead ∈ lw_good := lg_in 301 rfl rfl
set_option maxRecDepth 100000 in
theorem wd_302 : Cond.selects RX5 yX5_readHead yX5_readHead ∈ lw_good := lg_in 302 rfl rfl
set_option maxRecDepth 100000 in
theorem wd_303 : Cond.code yX5_readHead cX5_readHead 1 (some .boolean) ∈ lw_good := lg_in 303 rfl rfl
set_option maxRecDepth 100000 in
theorem wd_304 : Cond.methodLink RX5 35 yX5_signHere ∈ lw_good := lg_in 304 rfl rfl
set_option maxRecDepth 100000 in
theorem wd_306 : Cond.instanceMethod yX5_signHere ∈ lw_good := lg_in 306 rfl rfl
set_option maxRecDepth 100000 in
theorem wd_307 : Cond.code yX5_signHere cX5_signHere 1 (some .int) ∈ lw_good := lg_in 307 rfl rfl
set_option maxRecDepth 100000 in
theorem wd_308 : Cond.methodLink RX5 32 yX5_readCommand ∈ lw_good := lg_in 308 rfl rfl
set_option maxRecDepth 100000 in
theorem wd_309 : Cond.instanceMethod yX5_readCommand ∈ lw_good := lg_in 309 rfl rfl
set_option maxRecDepth 100000 in
theorem wd_310 : Cond.selects RX5 yX5_readCommand yX5_readCommand ∈ lw_good := lg_in 310 rfl rfl
set_option maxRecDepth 100000 in
theorem wd_311 : Cond.code yX5_readCommand cX5_readCommand 1 (some .boolean) ∈ lw_good := lg_in 311 rfl rfl
set_option maxRecDepth 100000 in
theorem wd_312 : Cond.fieldLink RX5 39 "SteepleWords$Text" "SHADOW" "[I" ∈ lw_good := lg_in 312 rfl rfl
set_option maxRecDepth 100000 in
theorem wd_314 : Cond.methodLink RX5 42 yX5_readNumbers ∈ lw_good := lg_in 314 rfl rfl
set_option maxRecDepth 100000 in
theorem wd_316 : Cond.instanceMethod yX5_readNumbers ∈ lw_good := lg_in 316 rfl rfl
set_option maxRecDepth 100000 in
theorem wd_317 : Cond.code yX5_readNumbers cX5_readNumbers 3 (some .boolean) ∈ lw_good := lg_in 317 rfl rfl
set_option maxRecDepth 100000 in
theorem wd_318 : Cond.methodLink RX5 64 yX5_readNumber ∈ lw_good := lg_in 318 rfl rfl
set_option maxRecDepth 100000 in
theorem wd_320 : Cond.instanceMethod yX5_readNumber ∈ lw_good := lg_in 320 rfl rfl
set_option maxRecDepth 100000 in
theorem wd_321 : Cond.code yX5_readNumber cX5_readNumber 7 (some .int) ∈ lw_good := lg_in 321 rfl rfl
set_option maxRecDepth 100000 in
theorem wd_322 : Cond.methodLink RX5 68 yX5_leadsInto ∈ lw_good := lg_in 322 rfl rfl
set_option maxRecDepth 100000 in
theorem wd_323 : Cond.static yX5_leadsInto ∈ lw_good := lg_in 323 rfl rfl
set_option maxRecDepth 100000 in
theorem wd_324 : Cond.code yX5_leadsInto cX5_leadsInto 7 (some .boolean) ∈ lw_good := lg_in 324 rfl rfl
set_option maxRecDepth 100000 in
theorem wd_325 : Cond.fieldLink RX5 46 "SteepleWords$Text" "POOL" "[I" ∈ lw_good := lg_in 325 rfl rfl
set_option maxRecDepth 100000 in
theorem wd_327 : Cond.fieldLink RX5 49 "SteepleWords$Text" "WORD" "[I" ∈ lw_good := lg_in 327 rfl rfl
set_option maxRecDepth 100000 in
theorem wd_329 : Cond.fieldLink RX5 52 "SteepleWords$Text" "DROP" "[I" ∈ lw_good := lg_in 329 rfl rfl
set_option maxRecDepth 100000 in
theorem wd_331 : Cond.fieldLink RX5 55 "SteepleWords$Text" "TRUST" "[I" ∈ lw_good := lg_in 331 rfl rfl
set_option maxRecDepth 100000 in
theorem wd_333 : Cond.fieldLink RX5 58 "SteepleWords$Text" "EVENING" "[I" ∈ lw_good := lg_in 333 rfl rfl
set_option maxRecDepth 100000 in
theorem wd_335 : Cond.fieldLink RX5 61 "SteepleWords$Text" "SURVEY" "[I" ∈ lw_good := lg_in 335 rfl rfl
set_option maxRecDepth 100000 in
theorem wd_338 : Cond.methodLink RX6 76 yX2_makeNew ∈ lw_good := lg_in 338 rfl rfl
set_option maxRecDepth 100000 in
theorem wd_339 : Cond.methodLink RX6 79 yX1_forget ∈ lw_good := lg_in 339 rfl rfl
set_option maxRecDepth 100000 in
theorem wd_340 : Cond.instanceMethod yX1_forget ∈ lw_good := lg_in 340 rfl rfl
set_option maxRecDepth 100000 in
theorem wd_341 : Cond.selects RX1 yX1_forget yX1_forget ∈ lw_good := lg_in 341 rfl rfl
set_option maxRecDepth 100000 in
theorem wd_342 : Cond.code yX1_forget cX1_forget 1 (none) ∈ lw_good := lg_in 342 rfl rfl
set_option maxRecDepth 100000 in
theorem wd_343 : Cond.methodLink RX6 82 yX5_readHead ∈ lw_good := lg_in 343 rfl rfl
set_option maxRecDepth 100000 in
theorem wd_344 : Cond.methodLink RX6 85 yX5_readCommand ∈ lw_good := lg_in 344 rfl rfl
set_option maxRecDepth 100000 in
theorem wd_345 : Cond.methodLink RX6 88 yX6_doCommandOfText ∈ lw_good := lg_in 345 rfl rfl
set_option maxRecDepth 100000 in
theorem wd_347 : Cond.instanceMethod yX6_doCommandOfText ∈ lw_good := lg_in 347 rfl rfl
set_option maxRecDepth 100000 in
theorem wd_348 : Cond.code yX6_doCommandOfText cX6_doCommandOfText 3 (some .boolean) ∈ lw_good := lg_in 348 rfl rfl
set_option maxRecDepth 100000 in
theorem wd_349 : Cond.methodLink RX6 91 yX5_number ∈ lw_good := lg_in 349 rfl rfl
set_option maxRecDepth 100000 in
theorem wd_350 : Cond.instanceMethod yX5_number ∈ lw_good := lg_in 350 rfl rfl
set_option maxRecDepth 100000 in
theorem wd_351 : Cond.selects RX5 yX5_number yX5_number ∈ lw_good := lg_in 351 rfl rfl
set_option maxRecDepth 100000 in
theorem wd_352 : Cond.code yX5_number cX5_number 2 (some .int) ∈ lw_good := lg_in 352 rfl rfl
set_option maxRecDepth 100000 in
theorem wd_353 : Cond.methodLink RX6 94 yX5_command ∈ lw_good := lg_in 353 rfl rfl
set_option maxRecDepth 100000 in
theorem wd_354 : Cond.instanceMethod yX5_command ∈ lw_good := lg_in 354 rfl rfl
set_option maxRecDepth 100000 in
theorem wd_355 : Cond.selects RX5 yX5_command yX5_command ∈ lw_good := lg_in 355 rfl rfl
set_option maxRecDepth 100000 in
theorem wd_356 : Cond.code yX5_command cX5_command 1 (some .int) ∈ lw_good := lg_in 356 rfl rfl
set_option maxRecDepth 100000 in
theorem wd_357 : Cond.methodLink RX6 97 yX2_tryMeasure ∈ lw_good := lg_in 357 rfl rfl
set_option maxRecDepth 100000 in
theorem wd_358 : Cond.instanceMethod yX2_tryMeasure ∈ lw_good := lg_in 358 rfl rfl
set_option maxRecDepth 100000 in
theorem wd_359 : Cond.selects RX2 yX2_tryMeasure yX2_tryMeasure ∈ lw_good := lg_in 359 rfl rfl
set_option maxRecDepth 100000 in
theorem wd_360 : Cond.code yX2_tryMeasure cX2_tryMeasure 8 (some .boolean) ∈ lw_good := lg_in 360 rfl rfl
set_option maxRecDepth 100000 in
theorem wd_361 : Cond.methodLink RX2 72 yX2_isSteeple ∈ lw_good := lg_in 361 rfl rfl
set_option maxRecDepth 100000 in
theorem wd_362 : Cond.static yX2_isSteeple ∈ lw_good := lg_in 362 rfl rfl
set_option maxRecDepth 100000 in
theorem wd_363 : Cond.code yX2_isSteeple cX2_isSteeple 1 (some .boolean) ∈ lw_good := lg_in 363 rfl rfl
set_option maxRecDepth 100000 in
theorem wd_364 : Cond.methodLink RX2 75 yX2_isTeller ∈ lw_good := lg_in 364 rfl rfl
set_option maxRecDepth 100000 in
theorem wd_365 : Cond.static yX2_isTeller ∈ lw_good := lg_in 365 rfl rfl
set_option maxRecDepth 100000 in
theorem wd_366 : Cond.code yX2_isTeller cX2_isTeller 1 (some .boolean) ∈ lw_good := lg_in 366 rfl rfl
set_option maxRecDepth 100000 in
theorem wd_367 : Cond.methodLink RX2 78 yX2_fits ∈ lw_good := lg_in 367 rfl rfl
set_option maxRecDepth 100000 in
theorem wd_368 : Cond.static yX2_fits ∈ lw_good := lg_in 368 rfl rfl
set_option maxRecDepth 100000 in
theorem wd_369 : Cond.code yX2_fits cX2_fits 5 (some .boolean) ∈ lw_good := lg_in 369 rfl rfl
set_option maxRecDepth 100000 in
theorem wd_370 : Cond.methodLink RX2 65 yX2_fitsFarSide ∈ lw_good := lg_in 370 rfl rfl
set_option maxRecDepth 100000 in
theorem wd_371 : Cond.static yX2_fitsFarSide ∈ lw_good := lg_in 371 rfl rfl
set_option maxRecDepth 100000 in
theorem wd_372 : Cond.code yX2_fitsFarSide cX2_fitsFarSide 2 (some .boolean) ∈ lw_good := lg_in 372 rfl rfl
set_option maxRecDepth 100000 in
theorem wd_373 : Cond.methodLink RX2 69 yX2_isHeight ∈ lw_good := lg_in 373 rfl rfl
set_option maxRecDepth 100000 in
theorem wd_374 : Cond.static yX2_isHeight ∈ lw_good := lg_in 374 rfl rfl
set_option maxRecDepth 100000 in
theorem wd_375 : Cond.code yX2_isHeight cX2_isHeight 1 (some .boolean) ∈ lw_good := lg_in 375 rfl rfl
set_option maxRecDepth 100000 in
theorem wd_376 : Cond.methodLink RX2 82 yX2_isFull ∈ lw_good := lg_in 376 rfl rfl
set_option maxRecDepth 100000 in
theorem wd_377 : Cond.instanceMethod yX2_isFull ∈ lw_good := lg_in 377 rfl rfl
set_option maxRecDepth 100000 in
theorem wd_378 : Cond.selects RX2 yX2_isFull yX2_isFull ∈ lw_good := lg_in 378 rfl rfl
set_option maxRecDepth 100000 in
theorem wd_379 : Cond.code yX2_isFull cX2_isFull 1 (some .boolean) ∈ lw_good := lg_in 379 rfl rfl
set_option maxRecDepth 100000 in
theorem wd_380 : Cond.methodLink RX2 86 yX2_addMeasure ∈ lw_good := lg_in 380 rfl rfl
set_option maxRecDepth 100000 in
theorem wd_381 : Cond.instanceMethod yX2_addMeasure ∈ lw_good := lg_in 381 rfl rfl
set_option maxRecDepth 100000 in
theorem wd_382 : Cond.selects RX2 yX2_addMeasure yX2_addMeasure ∈ lw_good := lg_in 382 rfl rfl
set_option maxRecDepth 100000 in
theorem wd_383 : Cond.code yX2_addMeasure cX2_addMeasure 9 (some .int) ∈ lw_good := lg_in 383 rfl rfl
set_option maxRecDepth 100000 in
theorem wd_384 : Cond.methodLink RX2 107 yX2_leastHeight ∈ lw_good := lg_in 384 rfl rfl
set_option maxRecDepth 100000 in
theorem wd_385 : Cond.static yX2_leastHeight ∈ lw_good := lg_in 385 rfl rfl
set_option maxRecDepth 100000 in
theorem wd_386 : Cond.code yX2_leastHeight cX2_leastHeight 3 (some .int) ∈ lw_good := lg_in 386 rfl rfl
set_option maxRecDepth 100000 in
theorem wd_387 : Cond.methodLink RX2 117 yJ9_floorDiv_7cf53 ∈ lw_good := lg_in 387 rfl rfl
set_option maxRecDepth 100000 in
theorem wd_388 : Cond.static yJ9_floorDiv_7cf53 ∈ lw_good := lg_in 388 rfl rfl
set_option maxRecDepth 100000 in
theorem wd_389 : Cond.code yJ9_floorDiv_7cf53 cJ9_floorDiv_7cf53 3 (some .int) ∈ lw_good := lg_in 389 rfl rfl
set_option maxRecDepth 100000 in
theorem wd_390 : Cond.methodLink RX2 111 yX2_withinFeet ∈ lw_good := lg_in 390 rfl rfl
set_option maxRecDepth 100000 in
theorem wd_391 : Cond.static yX2_withinFeet ∈ lw_good := lg_in 391 rfl rfl
set_option maxRecDepth 100000 in
theorem wd_392 : Cond.code yX2_withinFeet cX2_withinFeet 1 (some .int) ∈ lw_good := lg_in 392 rfl rfl
set_option maxRecDepth 100000 in
theorem wd_393 : Cond.methodLink RX2 122 yJ9_min_7cf53 ∈ lw_good := lg_in 393 rfl rfl
set_option maxRecDepth 100000 in
theorem wd_394 : Cond.static yJ9_min_7cf53 ∈ lw_good := lg_in 394 rfl rfl
set_option maxRecDepth 100000 in
theorem wd_395 : Cond.code yJ9_min_7cf53 cJ9_min_7cf53 2 (some .int) ∈ lw_good := lg_in 395 rfl rfl
set_option maxRecDepth 100000 in
theorem wd_396 : Cond.methodLink RX2 125 yJ9_max_7cf53 ∈ lw_good := lg_in 396 rfl rfl
set_option maxRecDepth 100000 in
theorem wd_397 : Cond.static yJ9_max_7cf53 ∈ lw_good := lg_in 397 rfl rfl
set_option maxRecDepth 100000 in
theorem wd_398 : Cond.code yJ9_max_7cf53 cJ9_max_7cf53 2 (some .int) ∈ lw_good := lg_in 398 rfl rfl
set_option maxRecDepth 100000 in
theorem wd_399 : Cond.methodLink RX2 114 yX2_greatestHeight ∈ lw_good := lg_in 399 rfl rfl
set_option maxRecDepth 100000 in
theorem wd_400 : Cond.static yX2_greatestHeight ∈ lw_good := lg_in 400 rfl rfl
set_option maxRecDepth 100000 in
theorem wd_401 : Cond.code yX2_greatestHeight cX2_greatestHeight 3 (some .int) ∈ lw_good := lg_in 401 rfl rfl
set_option maxRecDepth 100000 in
theorem wd_402 : Cond.methodLink RX6 101 yX2_tryDrop ∈ lw_good := lg_in 402 rfl rfl
set_option maxRecDepth 100000 in
theorem wd_403 : Cond.instanceMethod yX2_tryDrop ∈ lw_good := lg_in 403 rfl rfl
set_option maxRecDepth 100000 in
theorem wd_404 : Cond.selects RX2 yX2_tryDrop yX2_tryDrop ∈ lw_good := lg_in 404 rfl rfl
set_option maxRecDepth 100000 in
theorem wd_405 : Cond.code yX2_tryDrop cX2_tryDrop 2 (some .boolean) ∈ lw_good := lg_in 405 rfl rfl
set_option maxRecDepth 100000 in
theorem wd_406 : Cond.methodLink RX2 90 yX2_hasMeasure ∈ lw_good := lg_in 406 rfl rfl
set_option maxRecDepth 100000 in
theorem wd_407 : Cond.instanceMethod yX2_hasMeasure ∈ lw_good := lg_in 407 rfl rfl
set_option maxRecDepth 100000 in
theorem wd_408 : Cond.selects RX2 yX2_hasMeasure yX2_hasMeasure ∈ lw_good := lg_in 408 rfl rfl
set_option maxRecDepth 100000 in
theorem wd_409 : Cond.code yX2_hasMeasure cX2_hasMeasure 2 (some .boolean) ∈ lw_good := lg_in 409 rfl rfl
set_option maxRecDepth 100000 in
theorem wd_410 : Cond.methodLink RX2 93 yX2_removeMeasure ∈ lw_good := lg_in 410 rfl rfl
set_option maxRecDepth 100000 in
theorem wd_411 : Cond.instanceMethod yX2_removeMeasure ∈ lw_good := lg_in 411 rfl rfl
set_option maxRecDepth 100000 in
theorem wd_412 : Cond.selects RX2 yX2_removeMeasure yX2_removeMeasure ∈ lw_good := lg_in 412 rfl rfl
set_option maxRecDepth 100000 in
theorem wd_413 : Cond.code yX2_removeMeasure cX2_removeMeasure 3 (some .int) ∈ lw_good := lg_in 413 rfl rfl
set_option maxRecDepth 100000 in
theorem wd_414 : Cond.methodLink RX2 55 arraycopyName ∈ lw_good := lg_in 414 rfl rfl
set_option maxRecDepth 100000 in
theorem wd_415 : Cond.static arraycopyName ∈ lw_good := lg_in 415 rfl rfl
set_option maxRecDepth 100000 in
theorem wd_416 : Cond.native arraycopyName ∈ lw_good := lg_in 416 rfl rfl
set_option maxRecDepth 100000 in
theorem wd_417 : Cond.methodLink RX6 105 yX2_tryTrust ∈ lw_good := lg_in 417 rfl rfl
set_option maxRecDepth 100000 in
theorem wd_418 : Cond.instanceMethod yX2_tryTrust ∈ lw_good := lg_in 418 rfl rfl
set_option maxRecDepth 100000 in
theorem wd_419 : Cond.selects RX2 yX2_tryTrust yX2_tryTrust ∈ lw_good := lg_in 419 rfl rfl
set_option maxRecDepth 100000 in
theorem wd_420 : Cond.code yX2_tryTrust cX2_tryTrust 3 (some .boolean) ∈ lw_good := lg_in 420 rfl rfl
set_option maxRecDepth 100000 in
theorem wd_421 : Cond.methodLink RX2 97 yX2_isTrust ∈ lw_good := lg_in 421 rfl rfl
set_option maxRecDepth 100000 in
theorem wd_422 : Cond.static yX2_isTrust ∈ lw_good := lg_in 422 rfl rfl
set_option maxRecDepth 100000 in
theorem wd_423 : Cond.code yX2_isTrust cX2_isTrust 1 (some .boolean) ∈ lw_good := lg_in 423 rfl rfl
set_option maxRecDepth 100000 in
theorem wd_424 : Cond.methodLink RX2 100 yX2_changeTrust ∈ lw_good := lg_in 424 rfl rfl
set_option maxRecDepth 100000 in
theorem wd_425 : Cond.instanceMethod yX2_changeTrust ∈ lw_good := lg_in 425 rfl rfl
set_option maxRecDepth 100000 in
theorem wd_426 : Cond.selects RX2 yX2_changeTrust yX2_changeTrust ∈ lw_good := lg_in 426 rfl rfl
set_option maxRecDepth 100000 in
theorem wd_427 : Cond.code yX2_changeTrust cX2_changeTrust 4 (some .int) ∈ lw_good := lg_in 427 rfl rfl
set_option maxRecDepth 100000 in
theorem wd_428 : Cond.methodLink RX6 109 yX2_passEvening ∈ lw_good := lg_in 428 rfl rfl
set_option maxRecDepth 100000 in
theorem wd_429 : Cond.instanceMethod yX2_passEvening ∈ lw_good := lg_in 429 rfl rfl
set_option maxRecDepth 100000 in
theorem wd_430 : Cond.selects RX2 yX2_passEvening yX2_passEvening ∈ lw_good := lg_in 430 rfl rfl
set_option maxRecDepth 100000 in
theorem wd_431 : Cond.code yX2_passEvening cX2_passEvening 4 (some .int) ∈ lw_good := lg_in 431 rfl rfl
set_option maxRecDepth 100000 in
theorem wd_432 : Cond.methodLink RX2 128 yX2_matters ∈ lw_good := lg_in 432 rfl rfl
set_option maxRecDepth 100000 in
theorem wd_434 : Cond.instanceMethod yX2_matters ∈ lw_good := lg_in 434 rfl rfl
set_option maxRecDepth 100000 in
theorem wd_435 : Cond.code yX2_matters cX2_matters 3 (some .boolean) ∈ lw_good := lg_in 435 rfl rfl
set_option maxRecDepth 100000 in
theorem wd_436 : Cond.methodLink RX2 138 yX2_number ∈ lw_good := lg_in 436 rfl rfl
set_option maxRecDepth 100000 in
theorem wd_437 : Cond.instanceMethod yX2_number ∈ lw_good := lg_in 437 rfl rfl
set_option maxRecDepth 100000 in
theorem wd_438 : Cond.selects RX2 yX2_number yX2_number ∈ lw_good := lg_in 438 rfl rfl
set_option maxRecDepth 100000 in
theorem wd_439 : Cond.code yX2_number cX2_number 3 (some .int) ∈ lw_good := lg_in 439 rfl rfl
set_option maxRecDepth 100000 in
theorem wd_440 : Cond.methodLink RX2 155 yX2_feetApart ∈ lw_good := lg_in 440 rfl rfl
set_option maxRecDepth 100000 in
theorem wd_441 : Cond.instanceMethod yX2_feetApart ∈ lw_good := lg_in 441 rfl rfl
set_option maxRecDepth 100000 in
theorem wd_442 : Cond.selects RX2 yX2_feetApart yX2_feetApart ∈ lw_good := lg_in 442 rfl rfl
set_option maxRecDepth 100000 in
theorem wd_443 : Cond.code yX2_feetApart cX2_feetApart 5 (some .int) ∈ lw_good := lg_in 443 rfl rfl
set_option maxRecDepth 100000 in
theorem wd_444 : Cond.methodLink RX2 131 yX2_shameLighter ∈ lw_good := lg_in 444 rfl rfl
set_option maxRecDepth 100000 in
theorem wd_446 : Cond.instanceMethod yX2_shameLighter ∈ lw_good := lg_in 446 rfl rfl
set_option maxRecDepth 100000 in
theorem wd_447 : Cond.code yX2_shameLighter cX2_shameLighter 5 (none) ∈ lw_good := lg_in 447 rfl rfl
set_option maxRecDepth 100000 in
theorem wd_448 : Cond.methodLink RX2 135 yX2_weight ∈ lw_good := lg_in 448 rfl rfl
set_option maxRecDepth 100000 in
theorem wd_449 : Cond.instanceMethod yX2_weight ∈ lw_good := lg_in 449 rfl rfl
set_option maxRecDepth 100000 in
theorem wd_450 : Cond.selects RX2 yX2_weight yX2_weight ∈ lw_good := lg_in 450 rfl rfl
set_option maxRecDepth 100000 in
theorem wd_451 : Cond.code yX2_weight cX2_weight 2 (some .int) ∈ lw_good := lg_in 451 rfl rfl
set_option maxRecDepth 100000 in
theorem wd_452 : Cond.methodLink RX6 112 yX2_trySurvey ∈ lw_good := lg_in 452 rfl rfl
set_option maxRecDepth 100000 in
theorem wd_453 : Cond.instanceMethod yX2_trySurvey ∈ lw_good := lg_in 453 rfl rfl
set_option maxRecDepth 100000 in
theorem wd_454 : Cond.selects RX2 yX2_trySurvey yX2_trySurvey ∈ lw_good := lg_in 454 rfl rfl
set_option maxRecDepth 100000 in
theorem wd_455 : Cond.code yX2_trySurvey cX2_trySurvey 3 (some .boolean) ∈ lw_good := lg_in 455 rfl rfl
set_option maxRecDepth 100000 in
theorem wd_456 : Cond.methodLink RX2 104 yX2_surveySteeple ∈ lw_good := lg_in 456 rfl rfl
set_option maxRecDepth 100000 in
theorem wd_457 : Cond.instanceMethod yX2_surveySteeple ∈ lw_good := lg_in 457 rfl rfl
set_option maxRecDepth 100000 in
theorem wd_458 : Cond.selects RX2 yX2_surveySteeple yX2_surveySteeple ∈ lw_good := lg_in 458 rfl rfl
set_option maxRecDepth 100000 in
theorem wd_459 : Cond.code yX2_surveySteeple cX2_surveySteeple 6 (some .int) ∈ lw_good := lg_in 459 rfl rfl
set_option maxRecDepth 100000 in
theorem wd_460 : Cond.methodLink RX2 141 yX2_isOf ∈ lw_good := lg_in 460 rfl rfl
set_option maxRecDepth 100000 in
theorem wd_461 : Cond.instanceMethod yX2_isOf ∈ lw_good := lg_in 461 rfl rfl
set_option maxRecDepth 100000 in
theorem wd_462 : Cond.selects RX2 yX2_isOf yX2_isOf ∈ lw_good := lg_in 462 rfl rfl
set_option maxRecDepth 100000 in
theorem wd_463 : Cond.code yX2_isOf cX2_isOf 3 (some .boolean) ∈ lw_good := lg_in 463 rfl rfl
set_option maxRecDepth 100000 in
theorem wd_464 : Cond.methodLink RX2 144 yX2_tells ∈ lw_good := lg_in 464 rfl rfl
set_option maxRecDepth 100000 in
theorem wd_465 : Cond.instanceMethod yX2_tells ∈ lw_good := lg_in 465 rfl rfl
set_option maxRecDepth 100000 in
theorem wd_466 : Cond.selects RX2 yX2_tells yX2_tells ∈ lw_good := lg_in 466 rfl rfl
set_option maxRecDepth 100000 in
theorem wd_467 : Cond.code yX2_tells cX2_tells 3 (some .boolean) ∈ lw_good := lg_in 467 rfl rfl
set_option maxRecDepth 100000 in
theorem wd_468 : Cond.methodLink RX2 147 yX2_judge ∈ lw_good := lg_in 468 rfl rfl
set_option maxRecDepth 100000 in
theorem wd_470 : Cond.instanceMethod yX2_judge ∈ lw_good := lg_in 470 rfl rfl
set_option maxRecDepth 100000 in
theorem wd_471 : Cond.code yX2_judge cX2_judge 3 (none) ∈ lw_good := lg_in 471 rfl rfl
set_option maxRecDepth 100000 in
theorem wd_472 : Cond.methodLink RX2 151 yX2_removeMeasuresOf ∈ lw_good := lg_in 472 rfl rfl
set_option maxRecDepth 100000 in
theorem wd_474 : Cond.instanceMethod yX2_removeMeasuresOf ∈ lw_good := lg_in 474 rfl rfl
set_option maxRecDepth 100000 in
theorem wd_475 : Cond.code yX2_removeMeasuresOf cX2_removeMeasuresOf 3 (none) ∈ lw_good := lg_in 475 rfl rfl
set_option maxRecDepth 100000 in
theorem wd_476 : Cond.methodLink RL 104 yL_tryAbout ∈ lw_good := lg_in 476 rfl rfl
set_option maxRecDepth 100000 in
theorem wd_477 : Cond.static yL_tryAbout ∈ lw_good := lg_in 477 rfl rfl
set_option maxRecDepth 100000 in
theorem wd_478 : Cond.codeWith yL_tryAbout cL_tryAbout 3 (some .int) [(0, 5, 6, 16)] ∈ lw_good := lg_in 478 rfl rfl
set_option maxRecDepth 100000 in
theorem wd_479 : Cond.methodLink RL 38 yX6_about ∈ lw_good := lg_in 479 rfl rfl
set_option maxRecDepth 100000 in
theorem wd_480 : Cond.instanceMethod yX6_about ∈ lw_good := lg_in 480 rfl rfl
set_option maxRecDepth 100000 in
theorem wd_481 : Cond.selects RX6 yX6_about yX6_about ∈ lw_good := lg_in 481 rfl rfl
set_option maxRecDepth 100000 in
theorem wd_482 : Cond.code yX6_about cX6_about 2 (some .int) ∈ lw_good := lg_in 482 rfl rfl
set_option maxRecDepth 100000 in
theorem wd_483 : Cond.methodLink RX6 115 yX2_count ∈ lw_good := lg_in 483 rfl rfl
set_option maxRecDepth 100000 in
theorem wd_484 : Cond.instanceMethod yX2_count ∈ lw_good := lg_in 484 rfl rfl
set_option maxRecDepth 100000 in
theorem wd_485 : Cond.selects RX2 yX2_count yX2_count ∈ lw_good := lg_in 485 rfl rfl
set_option maxRecDepth 100000 in
theorem wd_486 : Cond.code yX2_count cX2_count 1 (some .int) ∈ lw_good := lg_in 486 rfl rfl
set_option maxRecDepth 100000 in
theorem wd_487 : Cond.methodLink RX6 118 yX2_came ∈ lw_good := lg_in 487 rfl rfl
set_option maxRecDepth 100000 in
theorem wd_488 : Cond.instanceMethod yX2_came ∈ lw_good := lg_in 488 rfl rfl
set_option maxRecDepth 100000 in
theorem wd_489 : Cond.selects RX2 yX2_came yX2_came ∈ lw_good := lg_in 489 rfl rfl
set_option maxRecDepth 100000 in
theorem wd_490 : Cond.code yX2_came cX2_came 1 (some .int) ∈ lw_good := lg_in 490 rfl rfl
set_option maxRecDepth 100000 in
theorem wd_491 : Cond.methodLink RX6 121 yX2_evenings ∈ lw_good := lg_in 491 rfl rfl
set_option maxRecDepth 100000 in
theorem wd_492 : Cond.instanceMethod yX2_evenings ∈ lw_good := lg_in 492 rfl rfl
set_option maxRecDepth 100000 in
theorem wd_493 : Cond.selects RX2 yX2_evenings yX2_evenings ∈ lw_good := lg_in 493 rfl rfl
set_option maxRecDepth 100000 in
theorem wd_494 : Cond.code yX2_evenings cX2_evenings 1 (some .int) ∈ lw_good := lg_in 494 rfl rfl
set_option maxRecDepth 100000 in
theorem wd_495 : Cond.methodLink RX6 124 yX2_surveys ∈ lw_good := lg_in 495 rfl rfl
set_option maxRecDepth 100000 in
theorem wd_496 : Cond.instanceMethod yX2_surveys ∈ lw_good := lg_in 496 rfl rfl
set_option maxRecDepth 100000 in
theorem wd_497 : Cond.selects RX2 yX2_surveys yX2_surveys ∈ lw_good := lg_in 497 rfl rfl
set_option maxRecDepth 100000 in
theorem wd_498 : Cond.code yX2_surveys cX2_surveys 1 (some .int) ∈ lw_good := lg_in 498 rfl rfl
set_option maxRecDepth 100000 in
theorem wd_499 : Cond.methodLink RX6 127 yX2_pairsThatQuarrel ∈ lw_good := lg_in 499 rfl rfl
set_option maxRecDepth 100000 in
theorem wd_500 : Cond.instanceMethod yX2_pairsThatQuarrel ∈ lw_good := lg_in 500 rfl rfl
set_option maxRecDepth 100000 in
theorem wd_501 : Cond.selects RX2 yX2_pairsThatQuarrel yX2_pairsThatQuarrel ∈ lw_good := lg_in 501 rfl rfl
set_option maxRecDepth 100000 in
theorem wd_502 : Cond.code yX2_pairsThatQuarrel cX2_pairsThatQuarrel 4 (some .int) ∈ lw_good := lg_in 502 rfl rfl
set_option maxRecDepth 100000 in
theorem wd_503 : Cond.methodLink RX2 158 yX2_quarrel ∈ lw_good := lg_in 503 rfl rfl
set_option maxRecDepth 100000 in
theorem wd_505 : Cond.instanceMethod yX2_quarrel ∈ lw_good := lg_in 505 rfl rfl
set_option maxRecDepth 100000 in
theorem wd_506 : Cond.code yX2_quarrel cX2_quarrel 3 (some .boolean) ∈ lw_good := lg_in 506 rfl rfl
set_option maxRecDepth 100000 in
theorem wd_507 : Cond.methodLink RX6 130 yX2_pairsThatMatter ∈ lw_good := lg_in 507 rfl rfl
set_option maxRecDepth 100000 in
theorem wd_508 : Cond.instanceMethod yX2_pairsThatMatter ∈ lw_good := lg_in 508 rfl rfl
set_option maxRecDepth 100000 in
theorem wd_509 : Cond.selects RX2 yX2_pairsThatMatter yX2_pairsThatMatter ∈ lw_good := lg_in 509 rfl rfl
set_option maxRecDepth 100000 in
theorem wd_510 : Cond.code yX2_pairsThatMatter cX2_pairsThatMatter 4 (some .int) ∈ lw_good := lg_in 510 rfl rfl
set_option maxRecDepth 100000 in
theorem wd_511 : Cond.methodLink RX6 133 yX2_trustOfAll ∈ lw_good := lg_in 511 rfl rfl
set_option maxRecDepth 100000 in
theorem wd_512 : Cond.instanceMethod yX2_trustOfAll ∈ lw_good := lg_in 512 rfl rfl
set_option maxRecDepth 100000 in
theorem wd_513 : Cond.selects RX2 yX2_trustOfAll yX2_trustOfAll ∈ lw_good := lg_in 513 rfl rfl
set_option maxRecDepth 100000 in
theorem wd_514 : Cond.code yX2_trustOfAll cX2_trustOfAll 1 (some .int) ∈ lw_good := lg_in 514 rfl rfl
set_option maxRecDepth 100000 in
theorem wd_515 : Cond.methodLink RX2 161 yX2_sum ∈ lw_good := lg_in 515 rfl rfl
set_option maxRecDepth 100000 in
theorem wd_516 : Cond.static yX2_sum ∈ lw_good := lg_in 516 rfl rfl
set_option maxRecDepth 100000 in
theorem wd_517 : Cond.code yX2_sum cX2_sum 6 (some .int) ∈ lw_good := lg_in 517 rfl rfl
set_option maxRecDepth 100000 in
theorem wd_518 : Cond.methodLink RX6 136 yX2_lost ∈ lw_good := lg_in 518 rfl rfl
set_option maxRecDepth 100000 in
theorem wd_519 : Cond.instanceMethod yX2_lost ∈ lw_good := lg_in 519 rfl rfl
set_option maxRecDepth 100000 in
theorem wd_520 : Cond.selects RX2 yX2_lost yX2_lost ∈ lw_good := lg_in 520 rfl rfl
set_option maxRecDepth 100000 in
theorem wd_521 : Cond.code yX2_lost cX2_lost 1 (some .int) ∈ lw_good := lg_in 521 rfl rfl
set_option maxRecDepth 100000 in
theorem wd_522 : Cond.methodLink RX6 139 yX2_rightOfAll ∈ lw_good := lg_in 522 rfl rfl
set_option maxRecDepth 100000 in
theorem wd_523 : Cond.instanceMethod yX2_rightOfAll ∈ lw_good := lg_in 523 rfl rfl
set_option maxRecDepth 100000 in
theorem wd_524 : Cond.selects RX2 yX2_rightOfAll yX2_rightOfAll ∈ lw_good := lg_in 524 rfl rfl
set_option maxRecDepth 100000 in
theorem wd_525 : Cond.code yX2_rightOfAll cX2_rightOfAll 1 (some .int) ∈ lw_good := lg_in 525 rfl rfl
set_option maxRecDepth 100000 in
theorem wd_526 : Cond.methodLink RX6 142 yX2_wrongOfAll ∈ lw_good := lg_in 526 rfl rfl
set_option maxRecDepth 100000 in
theorem wd_527 : Cond.instanceMethod yX2_wrongOfAll ∈ lw_good := lg_in 527 rfl rfl
set_option maxRecDepth 100000 in
theorem wd_528 : Cond.selects RX2 yX2_wrongOfAll yX2_wrongOfAll ∈ lw_good := lg_in 528 rfl rfl
set_option maxRecDepth 100000 in
theorem wd_529 : Cond.code yX2_wrongOfAll cX2_wrongOfAll 1 (some .int) ∈ lw_good := lg_in 529 rfl rfl
set_option maxRecDepth 100000 in
theorem wd_530 : Cond.methodLink RL 107 yL_tryOf ∈ lw_good := lg_in 530 rfl rfl
set_option maxRecDepth 100000 in
theorem wd_531 : Cond.static yL_tryOf ∈ lw_good := lg_in 531 rfl rfl
set_option maxRecDepth 100000 in
theorem wd_532 : Cond.codeWith yL_tryOf cL_tryOf 4 (some .int) [(0, 6, 7, 13), (0, 6, 11, 16)] ∈ lw_good := lg_in 532 rfl rfl
set_option maxRecDepth 100000 in
theorem wd_533 : Cond.classLink RL 13 "java/lang/IndexOutOfBoundsException" ∈ lw_good := lg_in 533 rfl rfl
set_option maxRecDepth 100000 in
theorem wd_534 : Cond.methodLink RL 41 yX6_measureOf ∈ lw_good := lg_in 534 rfl rfl
set_option maxRecDepth 100000 in
theorem wd_535 : Cond.instanceMethod yX6_measureOf ∈ lw_good := lg_in 535 rfl rfl
set_option maxRecDepth 100000 in
theorem wd_536 : Cond.selects RX6 yX6_measureOf yX6_measureOf ∈ lw_good := lg_in 536 rfl rfl
set_option maxRecDepth 100000 in
theorem wd_537 : Cond.code yX6_measureOf cX6_measureOf 3 (some .int) ∈ lw_good := lg_in 537 rfl rfl
set_option maxRecDepth 100000 in
theorem wd_538 : Cond.methodLink RX6 145 yX6_needMeasure ∈ lw_good := lg_in 538 rfl rfl
set_option maxRecDepth 100000 in
theorem wd_540 : Cond.instanceMethod yX6_needMeasure ∈ lw_good := lg_in 540 rfl rfl
set_option maxRecDepth 100000 in
theorem wd_541 : Cond.code yX6_needMeasure cX6_needMeasure 2 (none) ∈ lw_good := lg_in 541 rfl rfl
set_option maxRecDepth 100000 in
theorem wd_542 : Cond.methodLink RX6 319 yX2_hasMeasure ∈ lw_good := lg_in 542 rfl rfl
set_option maxRecDepth 100000 in
theorem wd_543 : Cond.classLink RX6 309 "java/lang/IndexOutOfBoundsException" ∈ lw_good := lg_in 543 rfl rfl
set_option maxRecDepth 100000 in
theorem wd_559 : Cond.methodLink RX6 149 yX2_weight ∈ lw_good := lg_in 559 rfl rfl
set_option maxRecDepth 100000 in
theorem wd_560 : Cond.methodLink RX6 152 yX2_quarrelsOfMeasure ∈ lw_good := lg_in 560 rfl rfl
set_option maxRecDepth 100000 in
theorem wd_561 : Cond.instanceMethod yX2_quarrelsOfMeasure ∈ lw_good := lg_in 561 rfl rfl
set_option maxRecDepth 100000 in
theorem wd_562 : Cond.selects RX2 yX2_quarrelsOfMeasure yX2_quarrelsOfMeasure ∈ lw_good := lg_in 562 rfl rfl
set_option maxRecDepth 100000 in
theorem wd_563 : Cond.code yX2_quarrelsOfMeasure cX2_quarrelsOfMeasure 4 (some .int) ∈ lw_good := lg_in 563 rfl rfl
set_option maxRecDepth 100000 in
theorem wd_564 : Cond.methodLink RX6 155 yX2_number ∈ lw_good := lg_in 564 rfl rfl
set_option maxRecDepth 100000 in
theorem wd_565 : Cond.constant RL 15 (-9999001) ∈ lw_good := lg_in 565 rfl rfl
set_option maxRecDepth 100000 in
theorem wd_566 : Cond.methodLink RL 111 yL_tryTeller ∈ lw_good := lg_in 566 rfl rfl
set_option maxRecDepth 100000 in
theorem wd_567 : Cond.static yL_tryTeller ∈ lw_good := lg_in 567 rfl rfl
set_option maxRecDepth 100000 in
theorem wd_568 : Cond.codeWith yL_tryTeller cL_tryTeller 4 (some .int) [(0, 6, 7, 13), (0, 6, 11, 16)] ∈ lw_good := lg_in 568 rfl rfl
set_option maxRecDepth 100000 in
theorem wd_569 : Cond.methodLink RL 45 yX6_tellerOf ∈ lw_good := lg_in 569 rfl rfl
set_option maxRecDepth 100000 in
theorem wd_570 : Cond.instanceMethod yX6_tellerOf ∈ lw_good := lg_in 570 rfl rfl
set_option maxRecDepth 100000 in
theorem wd_571 : Cond.selects RX6 yX6_tellerOf yX6_tellerOf ∈ lw_good := lg_in 571 rfl rfl
set_option maxRecDepth 100000 in
theorem wd_572 : Cond.code yX6_tellerOf cX6_tellerOf 3 (some .int) ∈ lw_good := lg_in 572 rfl rfl
set_option maxRecDepth 100000 in
theorem wd_573 : Cond.methodLink RX6 158 yX6_needTeller ∈ lw_good := lg_in 573 rfl rfl
set_option maxRecDepth 100000 in
theorem wd_574 : Cond.static yX6_needTeller ∈ lw_good := lg_in 574 rfl rfl
set_option maxRecDepth 100000 in
theorem wd_575 : Cond.code yX6_needTeller cX6_needTeller 1 (none) ∈ lw_good := lg_in 575 rfl rfl
set_option maxRecDepth 100000 in
theorem wd_576 : Cond.methodLink RX6 314 yX2_isTeller ∈ lw_good := lg_in 576 rfl rfl
set_option maxRecDepth 100000 in
theorem wd_578 : Cond.methodLink RX6 161 yX2_trustOf ∈ lw_good := lg_in 578 rfl rfl
set_option maxRecDepth 100000 in
theorem wd_579 : Cond.instanceMethod yX2_trustOf ∈ lw_good := lg_in 579 rfl rfl
set_option maxRecDepth 100000 in
theorem wd_580 : Cond.selects RX2 yX2_trustOf yX2_trustOf ∈ lw_good := lg_in 580 rfl rfl
set_option maxRecDepth 100000 in
theorem wd_581 : Cond.code yX2_trustOf cX2_trustOf 2 (some .int) ∈ lw_good := lg_in 581 rfl rfl
set_option maxRecDepth 100000 in
theorem wd_582 : Cond.methodLink RX6 164 yX2_measuresOfTeller ∈ lw_good := lg_in 582 rfl rfl
set_option maxRecDepth 100000 in
theorem wd_583 : Cond.instanceMethod yX2_measuresOfTeller ∈ lw_good := lg_in 583 rfl rfl
set_option maxRecDepth 100000 in
theorem wd_584 : Cond.selects RX2 yX2_measuresOfTeller yX2_measuresOfTeller ∈ lw_good := lg_in 584 rfl rfl
set_option maxRecDepth 100000 in
theorem wd_585 : Cond.code yX2_measuresOfTeller cX2_measuresOfTeller 4 (some .int) ∈ lw_good := lg_in 585 rfl rfl
set_option maxRecDepth 100000 in
theorem wd_586 : Cond.methodLink RX6 167 yX2_rightOf ∈ lw_good := lg_in 586 rfl rfl
set_option maxRecDepth 100000 in
theorem wd_587 : Cond.instanceMethod yX2_rightOf ∈ lw_good := lg_in 587 rfl rfl
set_option maxRecDepth 100000 in
theorem wd_588 : Cond.selects RX2 yX2_rightOf yX2_rightOf ∈ lw_good := lg_in 588 rfl rfl
set_option maxRecDepth 100000 in
theorem wd_589 : Cond.code yX2_rightOf cX2_rightOf 2 (some .int) ∈ lw_good := lg_in 589 rfl rfl
set_option maxRecDepth 100000 in
theorem wd_590 : Cond.methodLink RX6 170 yX2_wrongOf ∈ lw_good := lg_in 590 rfl rfl
set_option maxRecDepth 100000 in
theorem wd_591 : Cond.instanceMethod yX2_wrongOf ∈ lw_good := lg_in 591 rfl rfl
set_option maxRecDepth 100000 in
theorem wd_592 : Cond.selects RX2 yX2_wrongOf yX2_wrongOf ∈ lw_good := lg_in 592 rfl rfl
set_option maxRecDepth 100000 in
theorem wd_593 : Cond.code yX2_wrongOf cX2_wrongOf 2 (some .int) ∈ lw_good := lg_in 593 rfl rfl
set_option maxRecDepth 100000 in
theorem wd_594 : Cond.methodLink RX6 173 yX2_quarrelsOfTeller ∈ lw_good := lg_in 594 rfl rfl
set_option maxRecDepth 100000 in
theorem wd_595 : Cond.instanceMethod yX2_quarrelsOfTeller ∈ lw_good := lg_in 595 rfl rfl
set_option maxRecDepth 100000 in
theorem wd_596 : Cond.selects RX2 yX2_quarrelsOfTeller yX2_quarrelsOfTeller ∈ lw_good := lg_in 596 rfl rfl
set_option maxRecDepth 100000 in
theorem wd_597 : Cond.code yX2_quarrelsOfTeller cX2_quarrelsOfTeller 4 (some .int) ∈ lw_good := lg_in 597 rfl rfl
set_option maxRecDepth 100000 in
theorem wd_598 : Cond.methodLink RX2 165 yX2_quarrelsOfMeasure ∈ lw_good := lg_in 598 rfl rfl
set_option maxRecDepth 100000 in
theorem wd_599 : Cond.methodLink RL 114 yL_trySteeple ∈ lw_good := lg_in 599 rfl rfl
set_option maxRecDepth 100000 in
theorem wd_600 : Cond.static yL_trySteeple ∈ lw_good := lg_in 600 rfl rfl
set_option maxRecDepth 100000 in
theorem wd_601 : Cond.codeWith yL_trySteeple cL_trySteeple 4 (some .int) [(0, 6, 7, 13), (0, 6, 11, 16)] ∈ lw_good := lg_in 601 rfl rfl
set_option maxRecDepth 100000 in
theorem wd_602 : Cond.methodLink RL 48 yX6_steepleOf ∈ lw_good := lg_in 602 rfl rfl
set_option maxRecDepth 100000 in
theorem wd_603 : Cond.instanceMethod yX6_steepleOf ∈ lw_good := lg_in 603 rfl rfl
set_option maxRecDepth 100000 in
theorem wd_604 : Cond.selects RX6 yX6_steepleOf yX6_steepleOf ∈ lw_good := lg_in 604 rfl rfl
set_option maxRecDepth 100000 in
theorem wd_605 : Cond.code yX6_steepleOf cX6_steepleOf 3 (some .int) ∈ lw_good := lg_in 605 rfl rfl
set_option maxRecDepth 100000 in
theorem wd_606 : Cond.methodLink RX6 176 yX6_needSteeple ∈ lw_good := lg_in 606 rfl rfl
set_option maxRecDepth 100000 in
theorem wd_607 : Cond.static yX6_needSteeple ∈ lw_good := lg_in 607 rfl rfl
set_option maxRecDepth 100000 in
theorem wd_608 : Cond.code yX6_needSteeple cX6_needSteeple 1 (none) ∈ lw_good := lg_in 608 rfl rfl
set_option maxRecDepth 100000 in
theorem wd_609 : Cond.methodLink RX6 306 yX2_isSteeple ∈ lw_good := lg_in 609 rfl rfl
set_option maxRecDepth 100000 in
theorem wd_611 : Cond.methodLink RX6 179 yX2_measuresOfSteeple ∈ lw_good := lg_in 611 rfl rfl
set_option maxRecDepth 100000 in
theorem wd_612 : Cond.instanceMethod yX2_measuresOfSteeple ∈ lw_good := lg_in 612 rfl rfl
set_option maxRecDepth 100000 in
theorem wd_613 : Cond.selects RX2 yX2_measuresOfSteeple yX2_measuresOfSteeple ∈ lw_good := lg_in 613 rfl rfl
set_option maxRecDepth 100000 in
theorem wd_614 : Cond.code yX2_measuresOfSteeple cX2_measuresOfSteeple 4 (some .int) ∈ lw_good := lg_in 614 rfl rfl
set_option maxRecDepth 100000 in
theorem wd_615 : Cond.methodLink RX6 182 yX2_heightSurveyed ∈ lw_good := lg_in 615 rfl rfl
set_option maxRecDepth 100000 in
theorem wd_616 : Cond.instanceMethod yX2_heightSurveyed ∈ lw_good := lg_in 616 rfl rfl
set_option maxRecDepth 100000 in
theorem wd_617 : Cond.selects RX2 yX2_heightSurveyed yX2_heightSurveyed ∈ lw_good := lg_in 617 rfl rfl
set_option maxRecDepth 100000 in
theorem wd_618 : Cond.code yX2_heightSurveyed cX2_heightSurveyed 2 (some .int) ∈ lw_good := lg_in 618 rfl rfl
set_option maxRecDepth 100000 in
theorem wd_619 : Cond.methodLink RX6 185 yX2_weightOfSteeple ∈ lw_good := lg_in 619 rfl rfl
set_option maxRecDepth 100000 in
theorem wd_620 : Cond.instanceMethod yX2_weightOfSteeple ∈ lw_good := lg_in 620 rfl rfl
set_option maxRecDepth 100000 in
theorem wd_621 : Cond.selects RX2 yX2_weightOfSteeple yX2_weightOfSteeple ∈ lw_good := lg_in 621 rfl rfl
set_option maxRecDepth 100000 in
theorem wd_622 : Cond.code yX2_weightOfSteeple cX2_weightOfSteeple 4 (some .int) ∈ lw_good := lg_in 622 rfl rfl
set_option maxRecDepth 100000 in
theorem wd_623 : Cond.methodLink RL 117 yL_tryVote ∈ lw_good := lg_in 623 rfl rfl
set_option maxRecDepth 100000 in
theorem wd_624 : Cond.static yL_tryVote ∈ lw_good := lg_in 624 rfl rfl
set_option maxRecDepth 100000 in
theorem wd_625 : Cond.codeWith yL_tryVote cL_tryVote 4 (some .int) [(0, 6, 7, 13), (0, 6, 11, 16)] ∈ lw_good := lg_in 625 rfl rfl
set_option maxRecDepth 100000 in
theorem wd_626 : Cond.methodLink RL 51 yX6_vote ∈ lw_good := lg_in 626 rfl rfl
set_option maxRecDepth 100000 in
theorem wd_627 : Cond.instanceMethod yX6_vote ∈ lw_good := lg_in 627 rfl rfl
set_option maxRecDepth 100000 in
theorem wd_628 : Cond.selects RX6 yX6_vote yX6_vote ∈ lw_good := lg_in 628 rfl rfl
set_option maxRecDepth 100000 in
theorem wd_629 : Cond.code yX6_vote cX6_vote 3 (some .int) ∈ lw_good := lg_in 629 rfl rfl
set_option maxRecDepth 100000 in
theorem wd_630 : Cond.methodLink RX6 188 yX2_isHeight ∈ lw_good := lg_in 630 rfl rfl
set_option maxRecDepth 100000 in
theorem wd_631 : Cond.methodLink RX6 191 yX2_voteOf ∈ lw_good := lg_in 631 rfl rfl
set_option maxRecDepth 100000 in
theorem wd_632 : Cond.instanceMethod yX2_voteOf ∈ lw_good := lg_in 632 rfl rfl
set_option maxRecDepth 100000 in
theorem wd_633 : Cond.selects RX2 yX2_voteOf yX2_voteOf ∈ lw_good := lg_in 633 rfl rfl
set_option maxRecDepth 100000 in
theorem wd_634 : Cond.code yX2_voteOf cX2_voteOf 6 (some .int) ∈ lw_good := lg_in 634 rfl rfl
set_option maxRecDepth 100000 in
theorem wd_635 : Cond.methodLink RL 120 yL_tryBest ∈ lw_good := lg_in 635 rfl rfl
set_option maxRecDepth 100000 in
theorem wd_636 : Cond.static yL_tryBest ∈ lw_good := lg_in 636 rfl rfl
set_option maxRecDepth 100000 in
theorem wd_637 : Cond.codeWith yL_tryBest cL_tryBest 5 (some .int) [(0, 7, 8, 13), (0, 7, 13, 16)] ∈ lw_good := lg_in 637 rfl rfl
set_option maxRecDepth 100000 in
theorem wd_638 : Cond.methodLink RL 54 yX6_best ∈ lw_good := lg_in 638 rfl rfl
set_option maxRecDepth 100000 in
theorem wd_639 : Cond.instanceMethod yX6_best ∈ lw_good := lg_in 639 rfl rfl
set_option maxRecDepth 100000 in
theorem wd_640 : Cond.selects RX6 yX6_best yX6_best ∈ lw_good := lg_in 640 rfl rfl
set_option maxRecDepth 100000 in
theorem wd_641 : Cond.code yX6_best cX6_best 4 (some .int) ∈ lw_good := lg_in 641 rfl rfl
set_option maxRecDepth 100000 in
theorem wd_642 : Cond.methodLink RX6 195 yX0_countByHeights ∈ lw_good := lg_in 642 rfl rfl
set_option maxRecDepth 100000 in
theorem wd_643 : Cond.instanceMethod yX0_countByHeights ∈ lw_good := lg_in 643 rfl rfl
set_option maxRecDepth 100000 in
theorem wd_644 : Cond.selects RX0 yX0_countByHeights yX0_countByHeights ∈ lw_good := lg_in 644 rfl rfl
set_option maxRecDepth 100000 in
theorem wd_645 : Cond.code yX0_countByHeights cX0_countByHeights 5 (none) ∈ lw_good := lg_in 645 rfl rfl
set_option maxRecDepth 100000 in
theorem wd_646 : Cond.methodLink RX0 27 yX0_noteChanges ∈ lw_good := lg_in 646 rfl rfl
set_option maxRecDepth 100000 in
theorem wd_648 : Cond.instanceMethod yX0_noteChanges ∈ lw_good := lg_in 648 rfl rfl
set_option maxRecDepth 100000 in
theorem wd_649 : Cond.code yX0_noteChanges cX0_noteChanges 4 (none) ∈ lw_good := lg_in 649 rfl rfl
set_option maxRecDepth 100000 in
theorem wd_650 : Cond.methodLink RX0 31 yJ7_fill_53178 ∈ lw_good := lg_in 650 rfl rfl
set_option maxRecDepth 100000 in
theorem wd_651 : Cond.methodLink RX0 37 yX2_count ∈ lw_good := lg_in 651 rfl rfl
set_option maxRecDepth 100000 in
theorem wd_652 : Cond.methodLink RX0 41 yX2_isOf ∈ lw_good := lg_in 652 rfl rfl
set_option maxRecDepth 100000 in
theorem wd_653 : Cond.methodLink RX0 45 yX2_number ∈ lw_good := lg_in 653 rfl rfl
set_option maxRecDepth 100000 in
theorem wd_654 : Cond.methodLink RX0 49 yX2_weight ∈ lw_good := lg_in 654 rfl rfl
set_option maxRecDepth 100000 in
theorem wd_655 : Cond.methodLink RX6 199 yX0_countByEnds ∈ lw_good := lg_in 655 rfl rfl
set_option maxRecDepth 100000 in
theorem wd_656 : Cond.instanceMethod yX0_countByEnds ∈ lw_good := lg_in 656 rfl rfl
set_option maxRecDepth 100000 in
theorem wd_657 : Cond.selects RX0 yX0_countByEnds yX0_countByEnds ∈ lw_good := lg_in 657 rfl rfl
set_option maxRecDepth 100000 in
theorem wd_658 : Cond.code yX0_countByEnds cX0_countByEnds 6 (none) ∈ lw_good := lg_in 658 rfl rfl
set_option maxRecDepth 100000 in
theorem wd_659 : Cond.methodLink RX0 53 yX2_voteOf ∈ lw_good := lg_in 659 rfl rfl
set_option maxRecDepth 100000 in
theorem wd_660 : Cond.methodLink RX0 57 yX0_tryLowest ∈ lw_good := lg_in 660 rfl rfl
set_option maxRecDepth 100000 in
theorem wd_662 : Cond.instanceMethod yX0_tryLowest ∈ lw_good := lg_in 662 rfl rfl
set_option maxRecDepth 100000 in
theorem wd_663 : Cond.code yX0_tryLowest cX0_tryLowest 3 (none) ∈ lw_good := lg_in 663 rfl rfl
set_option maxRecDepth 100000 in
theorem wd_664 : Cond.methodLink RX6 203 yX0_told ∈ lw_good := lg_in 664 rfl rfl
set_option maxRecDepth 100000 in
theorem wd_665 : Cond.instanceMethod yX0_told ∈ lw_good := lg_in 665 rfl rfl
set_option maxRecDepth 100000 in
theorem wd_666 : Cond.selects RX0 yX0_told yX0_told ∈ lw_good := lg_in 666 rfl rfl
set_option maxRecDepth 100000 in
theorem wd_667 : Cond.code yX0_told cX0_told 2 (some .int) ∈ lw_good := lg_in 667 rfl rfl
set_option maxRecDepth 100000 in
theorem wd_668 : Cond.methodLink RL 124 yL_trySetting ∈ lw_good := lg_in 668 rfl rfl
set_option maxRecDepth 100000 in
theorem wd_669 : Cond.static yL_trySetting ∈ lw_good := lg_in 669 rfl rfl
set_option maxRecDepth 100000 in
theorem wd_670 : Cond.codeWith yL_trySetting cL_trySetting 3 (some .int) [(0, 5, 6, 16)] ∈ lw_good := lg_in 670 rfl rfl
set_option maxRecDepth 100000 in
theorem wd_671 : Cond.methodLink RL 58 yX6_setting ∈ lw_good := lg_in 671 rfl rfl
set_option maxRecDepth 100000 in
theorem wd_672 : Cond.instanceMethod yX6_setting ∈ lw_good := lg_in 672 rfl rfl
set_option maxRecDepth 100000 in
theorem wd_673 : Cond.selects RX6 yX6_setting yX6_setting ∈ lw_good := lg_in 673 rfl rfl
set_option maxRecDepth 100000 in
theorem wd_674 : Cond.code yX6_setting cX6_setting 2 (some .int) ∈ lw_good := lg_in 674 rfl rfl
set_option maxRecDepth 100000 in
theorem wd_675 : Cond.methodLink RX6 206 yX2_isSetting ∈ lw_good := lg_in 675 rfl rfl
set_option maxRecDepth 100000 in
theorem wd_676 : Cond.static yX2_isSetting ∈ lw_good := lg_in 676 rfl rfl
set_option maxRecDepth 100000 in
theorem wd_677 : Cond.code yX2_isSetting cX2_isSetting 1 (some .boolean) ∈ lw_good := lg_in 677 rfl rfl
set_option maxRecDepth 100000 in
theorem wd_678 : Cond.methodLink RX6 209 yX2_settingOf ∈ lw_good := lg_in 678 rfl rfl
set_option maxRecDepth 100000 in
theorem wd_679 : Cond.instanceMethod yX2_settingOf ∈ lw_good := lg_in 679 rfl rfl
set_option maxRecDepth 100000 in
theorem wd_680 : Cond.selects RX2 yX2_settingOf yX2_settingOf ∈ lw_good := lg_in 680 rfl rfl
set_option maxRecDepth 100000 in
theorem wd_681 : Cond.code yX2_settingOf cX2_settingOf 2 (some .int) ∈ lw_good := lg_in 681 rfl rfl
set_option maxRecDepth 100000 in
theorem wd_682 : Cond.methodLink RL 127 yL_tryDrop ∈ lw_good := lg_in 682 rfl rfl
set_option maxRecDepth 100000 in
theorem wd_683 : Cond.static yL_tryDrop ∈ lw_good := lg_in 683 rfl rfl
set_option maxRecDepth 100000 in
theorem wd_684 : Cond.codeWith yL_tryDrop cL_tryDrop 3 (some .int) [(0, 5, 6, 13)] ∈ lw_good := lg_in 684 rfl rfl
set_option maxRecDepth 100000 in
theorem wd_685 : Cond.methodLink RL 61 yX6_drop ∈ lw_good := lg_in 685 rfl rfl
set_option maxRecDepth 100000 in
theorem wd_686 : Cond.instanceMethod yX6_drop ∈ lw_good := lg_in 686 rfl rfl
set_option maxRecDepth 100000 in
theorem wd_687 : Cond.selects RX6 yX6_drop yX6_drop ∈ lw_good := lg_in 687 rfl rfl
set_option maxRecDepth 100000 in
theorem wd_688 : Cond.code yX6_drop cX6_drop 2 (some .int) ∈ lw_good := lg_in 688 rfl rfl
set_option maxRecDepth 100000 in
theorem wd_689 : Cond.methodLink RX6 219 yX1_remember ∈ lw_good := lg_in 689 rfl rfl
set_option maxRecDepth 100000 in
theorem wd_690 : Cond.instanceMethod yX1_remember ∈ lw_good := lg_in 690 rfl rfl
set_option maxRecDepth 100000 in
theorem wd_691 : Cond.selects RX1 yX1_remember yX1_remember ∈ lw_good := lg_in 691 rfl rfl
set_option maxRecDepth 100000 in
theorem wd_692 : Cond.code yX1_remember cX1_remember 2 (none) ∈ lw_good := lg_in 692 rfl rfl
set_option maxRecDepth 100000 in
theorem wd_693 : Cond.methodLink RX1 23 yX2_takeFrom ∈ lw_good := lg_in 693 rfl rfl
set_option maxRecDepth 100000 in
theorem wd_694 : Cond.instanceMethod yX2_takeFrom ∈ lw_good := lg_in 694 rfl rfl
set_option maxRecDepth 100000 in
theorem wd_695 : Cond.selects RX2 yX2_takeFrom yX2_takeFrom ∈ lw_good := lg_in 695 rfl rfl
set_option maxRecDepth 100000 in
theorem wd_696 : Cond.code yX2_takeFrom cX2_takeFrom 2 (none) ∈ lw_good := lg_in 696 rfl rfl
set_option maxRecDepth 100000 in
theorem wd_697 : Cond.methodLink RX1 27 yJ9_min_7cf53 ∈ lw_good := lg_in 697 rfl rfl
set_option maxRecDepth 100000 in
theorem wd_698 : Cond.methodLink RX6 227 yX2_removeMeasure ∈ lw_good := lg_in 698 rfl rfl
set_option maxRecDepth 100000 in
theorem wd_699 : Cond.methodLink RL 130 yL_tryTrust ∈ lw_good := lg_in 699 rfl rfl
set_option maxRecDepth 100000 in
theorem wd_700 : Cond.static yL_tryTrust ∈ lw_good := lg_in 700 rfl rfl
set_option maxRecDepth 100000 in
theorem wd_701 : Cond.codeWith yL_tryTrust cL_tryTrust 4 (some .int) [(0, 6, 7, 13), (0, 6, 11, 16)] ∈ lw_good := lg_in 701 rfl rfl
set_option maxRecDepth 100000 in
theorem wd_702 : Cond.methodLink RL 64 yX6_trust ∈ lw_good := lg_in 702 rfl rfl
set_option maxRecDepth 100000 in
theorem wd_703 : Cond.instanceMethod yX6_trust ∈ lw_good := lg_in 703 rfl rfl
set_option maxRecDepth 100000 in
theorem wd_704 : Cond.selects RX6 yX6_trust yX6_trust ∈ lw_good := lg_in 704 rfl rfl
set_option maxRecDepth 100000 in
theorem wd_705 : Cond.code yX6_trust cX6_trust 3 (some .int) ∈ lw_good := lg_in 705 rfl rfl
set_option maxRecDepth 100000 in
theorem wd_706 : Cond.methodLink RX6 230 yX2_isTrust ∈ lw_good := lg_in 706 rfl rfl
set_option maxRecDepth 100000 in
theorem wd_707 : Cond.methodLink RX6 233 yX2_changeTrust ∈ lw_good := lg_in 707 rfl rfl
set_option maxRecDepth 100000 in
theorem wd_708 : Cond.methodLink RL 133 yL_trySurvey ∈ lw_good := lg_in 708 rfl rfl
set_option maxRecDepth 100000 in
theorem wd_709 : Cond.static yL_trySurvey ∈ lw_good := lg_in 709 rfl rfl
set_option maxRecDepth 100000 in
theorem wd_710 : Cond.codeWith yL_trySurvey cL_trySurvey 4 (some .int) [(0, 6, 7, 13), (0, 6, 11, 16)] ∈ lw_good := lg_in 710 rfl rfl
set_option maxRecDepth 100000 in
theorem wd_711 : Cond.methodLink RL 67 yX6_survey ∈ lw_good := lg_in 711 rfl rfl
set_option maxRecDepth 100000 in
theorem wd_712 : Cond.instanceMethod yX6_survey ∈ lw_good := lg_in 712 rfl rfl
set_option maxRecDepth 100000 in
theorem wd_713 : Cond.selects RX6 yX6_survey yX6_survey ∈ lw_good := lg_in 713 rfl rfl
set_option maxRecDepth 100000 in
theorem wd_714 : Cond.code yX6_survey cX6_survey 3 (some .int) ∈ lw_good := lg_in 714 rfl rfl
set_option maxRecDepth 100000 in
theorem wd_715 : Cond.methodLink RX6 236 yX2_surveySteeple ∈ lw_good := lg_in 715 rfl rfl
set_option maxRecDepth 100000 in
theorem wd_716 : Cond.methodLink RL 136 yL_tryLay ∈ lw_good := lg_in 716 rfl rfl
set_option maxRecDepth 100000 in
theorem wd_717 : Cond.static yL_tryLay ∈ lw_good := lg_in 717 rfl rfl
set_option maxRecDepth 100000 in
theorem wd_718 : Cond.codeWith yL_tryLay cL_tryLay 4 (some .int) [(0, 6, 7, 16)] ∈ lw_good := lg_in 718 rfl rfl
set_option maxRecDepth 100000 in
theorem wd_719 : Cond.methodLink RL 70 yX6_set ∈ lw_good := lg_in 719 rfl rfl
set_option maxRecDepth 100000 in
theorem wd_720 : Cond.instanceMethod yX6_set ∈ lw_good := lg_in 720 rfl rfl
set_option maxRecDepth 100000 in
theorem wd_721 : Cond.selects RX6 yX6_set yX6_set ∈ lw_good := lg_in 721 rfl rfl
set_option maxRecDepth 100000 in
theorem wd_722 : Cond.code yX6_set cX6_set 3 (some .int) ∈ lw_good := lg_in 722 rfl rfl
set_option maxRecDepth 100000 in
theorem wd_723 : Cond.methodLink RX6 239 yX2_fitsSetting ∈ lw_good := lg_in 723 rfl rfl
set_option maxRecDepth 100000 in
theorem wd_724 : Cond.static yX2_fitsSetting ∈ lw_good := lg_in 724 rfl rfl
set_option maxRecDepth 100000 in
theorem wd_725 : Cond.code yX2_fitsSetting cX2_fitsSetting 2 (some .boolean) ∈ lw_good := lg_in 725 rfl rfl
set_option maxRecDepth 100000 in
theorem wd_726 : Cond.methodLink RX2 61 yX2_isSetting ∈ lw_good := lg_in 726 rfl rfl
set_option maxRecDepth 100000 in
theorem wd_727 : Cond.methodLink RX6 242 yX2_changeSetting ∈ lw_good := lg_in 727 rfl rfl
set_option maxRecDepth 100000 in
theorem wd_728 : Cond.instanceMethod yX2_changeSetting ∈ lw_good := lg_in 728 rfl rfl
set_option maxRecDepth 100000 in
theorem wd_729 : Cond.selects RX2 yX2_changeSetting yX2_changeSetting ∈ lw_good := lg_in 729 rfl rfl
set_option maxRecDepth 100000 in
theorem wd_730 : Cond.code yX2_changeSetting cX2_changeSetting 4 (some .int) ∈ lw_good := lg_in 730 rfl rfl
set_option maxRecDepth 100000 in
theorem wd_731 : Cond.methodLink RL 139 yL_tryUndo ∈ lw_good := lg_in 731 rfl rfl
set_option maxRecDepth 100000 in
theorem wd_732 : Cond.static yL_tryUndo ∈ lw_good := lg_in 732 rfl rfl
set_option maxRecDepth 100000 in
theorem wd_733 : Cond.codeWith yL_tryUndo cL_tryUndo 2 (some .int) [(0, 4, 5, 19)] ∈ lw_good := lg_in 733 rfl rfl
set_option maxRecDepth 100000 in
theorem wd_734 : Cond.methodLink RL 73 yX6_undo ∈ lw_good := lg_in 734 rfl rfl
set_option maxRecDepth 100000 in
theorem wd_735 : Cond.instanceMethod yX6_undo ∈ lw_good := lg_in 735 rfl rfl
set_option maxRecDepth 100000 in
theorem wd_736 : Cond.selects RX6 yX6_undo yX6_undo ∈ lw_good := lg_in 736 rfl rfl
set_option maxRecDepth 100000 in
theorem wd_737 : Cond.code yX6_undo cX6_undo 1 (some .int) ∈ lw_good := lg_in 737 rfl rfl
set_option maxRecDepth 100000 in
theorem wd_738 : Cond.methodLink RX6 245 yX1_isEmpty ∈ lw_good := lg_in 738 rfl rfl
set_option maxRecDepth 100000 in
theorem wd_739 : Cond.instanceMethod yX1_isEmpty ∈ lw_good := lg_in 739 rfl rfl
set_option maxRecDepth 100000 in
theorem wd_740 : Cond.selects RX1 yX1_isEmpty yX1_isEmpty ∈ lw_good := lg_in 740 rfl rfl
set_option maxRecDepth 100000 in
theorem wd_741 : Cond.code yX1_isEmpty cX1_isEmpty 1 (some .boolean) ∈ lw_good := lg_in 741 rfl rfl
set_option maxRecDepth 100000 in
theorem wd_743 : Cond.methodLink RX6 250 yX1_takeBack ∈ lw_good := lg_in 743 rfl rfl
set_option maxRecDepth 100000 in
theorem wd_744 : Cond.instanceMethod yX1_takeBack ∈ lw_good := lg_in 744 rfl rfl
set_option maxRecDepth 100000 in
theorem wd_745 : Cond.selects RX1 yX1_takeBack yX1_takeBack ∈ lw_good := lg_in 745 rfl rfl
set_option maxRecDepth 100000 in
theorem wd_746 : Cond.code yX1_takeBack cX1_takeBack 2 (some .int) ∈ lw_good := lg_in 746 rfl rfl
set_option maxRecDepth 100000 in
theorem wd_747 : Cond.methodLink RL 142 yL_tryApart ∈ lw_good := lg_in 747 rfl rfl
set_option maxRecDepth 100000 in
theorem wd_748 : Cond.static yL_tryApart ∈ lw_good := lg_in 748 rfl rfl
set_option maxRecDepth 100000 in
theorem wd_749 : Cond.codeWith yL_tryApart cL_tryApart 4 (some .int) [(0, 6, 7, 13)] ∈ lw_good := lg_in 749 rfl rfl
set_option maxRecDepth 100000 in
theorem wd_750 : Cond.methodLink RL 76 yX6_apart ∈ lw_good := lg_in 750 rfl rfl
set_option maxRecDepth 100000 in
theorem wd_751 : Cond.instanceMethod yX6_apart ∈ lw_good := lg_in 751 rfl rfl
set_option maxRecDepth 100000 in
theorem wd_752 : Cond.selects RX6 yX6_apart yX6_apart ∈ lw_good := lg_in 752 rfl rfl
set_option maxRecDepth 100000 in
theorem wd_753 : Cond.code yX6_apart cX6_apart 3 (some .int) ∈ lw_good := lg_in 753 rfl rfl
set_option maxRecDepth 100000 in
theorem wd_754 : Cond.methodLink RX6 254 yX2_feetApart ∈ lw_good := lg_in 754 rfl rfl
set_option maxRecDepth 100000 in
theorem wd_755 : Cond.methodLink RL 145 yL_tryAgainst ∈ lw_good := lg_in 755 rfl rfl
set_option maxRecDepth 100000 in
theorem wd_756 : Cond.static yL_tryAgainst ∈ lw_good := lg_in 756 rfl rfl
set_option maxRecDepth 100000 in
theorem wd_757 : Cond.codeWith yL_tryAgainst cL_tryAgainst 3 (some .int) [(0, 5, 6, 13)] ∈ lw_good := lg_in 757 rfl rfl
set_option maxRecDepth 100000 in
theorem wd_758 : Cond.methodLink RL 79 yX6_against ∈ lw_good := lg_in 758 rfl rfl
set_option maxRecDepth 100000 in
theorem wd_759 : Cond.instanceMethod yX6_against ∈ lw_good := lg_in 759 rfl rfl
set_option maxRecDepth 100000 in
theorem wd_760 : Cond.selects RX6 yX6_against yX6_against ∈ lw_good := lg_in 760 rfl rfl
set_option maxRecDepth 100000 in
theorem wd_761 : Cond.code yX6_against cX6_against 2 (some .int) ∈ lw_good := lg_in 761 rfl rfl
set_option maxRecDepth 100000 in
theorem wd_762 : Cond.methodLink RX6 257 yX0_lowest ∈ lw_good := lg_in 762 rfl rfl
set_option maxRecDepth 100000 in
theorem wd_763 : Cond.instanceMethod yX0_lowest ∈ lw_good := lg_in 763 rfl rfl
set_option maxRecDepth 100000 in
theorem wd_764 : Cond.selects RX0 yX0_lowest yX0_lowest ∈ lw_good := lg_in 764 rfl rfl
set_option maxRecDepth 100000 in
theorem wd_765 : Cond.code yX0_lowest cX0_lowest 1 (some .int) ∈ lw_good := lg_in 765 rfl rfl
set_option maxRecDepth 100000 in
theorem wd_766 : Cond.methodLink RX6 260 yX2_loudestAgainst ∈ lw_good := lg_in 766 rfl rfl
set_option maxRecDepth 100000 in
theorem wd_767 : Cond.instanceMethod yX2_loudestAgainst ∈ lw_good := lg_in 767 rfl rfl
set_option maxRecDepth 100000 in
theorem wd_768 : Cond.selects RX2 yX2_loudestAgainst yX2_loudestAgainst ∈ lw_good := lg_in 768 rfl rfl
set_option maxRecDepth 100000 in
theorem wd_769 : Cond.code yX2_loudestAgainst cX2_loudestAgainst 5 (some .int) ∈ lw_good := lg_in 769 rfl rfl
set_option maxRecDepth 100000 in
theorem wd_770 : Cond.methodLink RX2 171 yX2_isLouder ∈ lw_good := lg_in 770 rfl rfl
set_option maxRecDepth 100000 in
theorem wd_772 : Cond.instanceMethod yX2_isLouder ∈ lw_good := lg_in 772 rfl rfl
set_option maxRecDepth 100000 in
theorem wd_773 : Cond.code yX2_isLouder cX2_isLouder 5 (some .boolean) ∈ lw_good := lg_in 773 rfl rfl
set_option maxRecDepth 100000 in
theorem wd_774 : Cond.methodLink RX2 175 yX2_feetFrom ∈ lw_good := lg_in 774 rfl rfl
set_option maxRecDepth 100000 in
theorem wd_776 : Cond.instanceMethod yX2_feetFrom ∈ lw_good := lg_in 776 rfl rfl
set_option maxRecDepth 100000 in
theorem wd_777 : Cond.code yX2_feetFrom cX2_feetFrom 3 (some .int) ∈ lw_good := lg_in 777 rfl rfl
set_option maxRecDepth 100000 in
theorem wd_778 : Cond.methodLink RL 148 yL_tryWithout ∈ lw_good := lg_in 778 rfl rfl
set_option maxRecDepth 100000 in
theorem wd_779 : Cond.static yL_tryWithout ∈ lw_good := lg_in 779 rfl rfl
set_option maxRecDepth 100000 in
theorem wd_780 : Cond.codeWith yL_tryWithout cL_tryWithout 4 (some .int) [(0, 6, 7, 13), (0, 6, 11, 16)] ∈ lw_good := lg_in 780 rfl rfl
set_option maxRecDepth 100000 in
theorem wd_781 : Cond.methodLink RL 82 yX6_without ∈ lw_good := lg_in 781 rfl rfl
set_option maxRecDepth 100000 in
theorem wd_782 : Cond.instanceMethod yX6_without ∈ lw_good := lg_in 782 rfl rfl
set_option maxRecDepth 100000 in
theorem wd_783 : Cond.selects RX6 yX6_without yX6_without ∈ lw_good := lg_in 783 rfl rfl
set_option maxRecDepth 100000 in
theorem wd_784 : Cond.code yX6_without cX6_without 3 (some .int) ∈ lw_good := lg_in 784 rfl rfl
set_option maxRecDepth 100000 in
theorem wd_785 : Cond.methodLink RL 151 yL_trySwings ∈ lw_good := lg_in 785 rfl rfl
set_option maxRecDepth 100000 in
theorem wd_786 : Cond.static yL_trySwings ∈ lw_good := lg_in 786 rfl rfl
set_option maxRecDepth 100000 in
theorem wd_787 : Cond.codeWith yL_trySwings cL_trySwings 4 (some .int) [(0, 6, 7, 13)] ∈ lw_good := lg_in 787 rfl rfl
set_option maxRecDepth 100000 in
theorem wd_788 : Cond.methodLink RL 85 yX6_swings ∈ lw_good := lg_in 788 rfl rfl
set_option maxRecDepth 100000 in
theorem wd_789 : Cond.instanceMethod yX6_swings ∈ lw_good := lg_in 789 rfl rfl
set_option maxRecDepth 100000 in
theorem wd_790 : Cond.selects RX6 yX6_swings yX6_swings ∈ lw_good := lg_in 790 rfl rfl
set_option maxRecDepth 100000 in
theorem wd_791 : Cond.code yX6_swings cX6_swings 4 (some .int) ∈ lw_good := lg_in 791 rfl rfl
set_option maxRecDepth 100000 in
theorem wd_792 : Cond.methodLink RX6 263 yX2_takeFrom ∈ lw_good := lg_in 792 rfl rfl
set_option maxRecDepth 100000 in
theorem wd_793 : Cond.methodLink RX6 266 yX2_tellsHeight ∈ lw_good := lg_in 793 rfl rfl
set_option maxRecDepth 100000 in
theorem wd_794 : Cond.instanceMethod yX2_tellsHeight ∈ lw_good := lg_in 794 rfl rfl
set_option maxRecDepth 100000 in
theorem wd_795 : Cond.selects RX2 yX2_tellsHeight yX2_tellsHeight ∈ lw_good := lg_in 795 rfl rfl
set_option maxRecDepth 100000 in
theorem wd_796 : Cond.code yX2_tellsHeight cX2_tellsHeight 5 (some .boolean) ∈ lw_good := lg_in 796 rfl rfl
set_option maxRecDepth 100000 in
theorem wd_797 : Cond.methodLink RL 154 yL_tryKeep ∈ lw_good := lg_in 797 rfl rfl
set_option maxRecDepth 100000 in
theorem wd_798 : Cond.static yL_tryKeep ∈ lw_good := lg_in 798 rfl rfl
set_option maxRecDepth 100000 in
theorem wd_799 : Cond.codeWith yL_tryKeep cL_tryKeep 3 (some .int) [(0, 5, 6, 13)] ∈ lw_good := lg_in 799 rfl rfl
set_option maxRecDepth 100000 in
theorem wd_800 : Cond.methodLink RL 88 yX6_save ∈ lw_good := lg_in 800 rfl rfl
set_option maxRecDepth 100000 in
theorem wd_801 : Cond.instanceMethod yX6_save ∈ lw_good := lg_in 801 rfl rfl
set_option maxRecDepth 100000 in
theorem wd_802 : Cond.selects RX6 yX6_save yX6_save ∈ lw_good := lg_in 802 rfl rfl
set_option maxRecDepth 100000 in
theorem wd_803 : Cond.code yX6_save cX6_save 2 (some .int) ∈ lw_good := lg_in 803 rfl rfl
set_option maxRecDepth 100000 in
theorem wd_804 : Cond.methodLink RX6 296 yX6_needSlot ∈ lw_good := lg_in 804 rfl rfl
set_option maxRecDepth 100000 in
theorem wd_805 : Cond.static yX6_needSlot ∈ lw_good := lg_in 805 rfl rfl
set_option maxRecDepth 100000 in
theorem wd_806 : Cond.code yX6_needSlot cX6_needSlot 1 (none) ∈ lw_good := lg_in 806 rfl rfl
set_option maxRecDepth 100000 in
theorem wd_808 : Cond.methodLink RL 157 yL_tryBack ∈ lw_good := lg_in 808 rfl rfl
set_option maxRecDepth 100000 in
theorem wd_809 : Cond.static yL_tryBack ∈ lw_good := lg_in 809 rfl rfl
set_option maxRecDepth 100000 in
theorem wd_810 : Cond.codeWith yL_tryBack cL_tryBack 3 (some .int) [(0, 5, 6, 13), (0, 5, 10, 19)] ∈ lw_good := lg_in 810 rfl rfl
set_option maxRecDepth 100000 in
theorem wd_811 : Cond.methodLink RL 91 yX6_restore ∈ lw_good := lg_in 811 rfl rfl
set_option maxRecDepth 100000 in
theorem wd_812 : Cond.instanceMethod yX6_restore ∈ lw_good := lg_in 812 rfl rfl
set_option maxRecDepth 100000 in
theorem wd_813 : Cond.selects RX6 yX6_restore yX6_restore ∈ lw_good := lg_in 813 rfl rfl
set_option maxRecDepth 100000 in
theorem wd_814 : Cond.code yX6_restore cX6_restore 2 (some .int) ∈ lw_good := lg_in 814 rfl rfl
set_option maxRecDepth 100000 in
theorem wd_816 : Cond.methodLink RL 166 yL_told ∈ lw_good := lg_in 816 rfl rfl
set_option maxRecDepth 100000 in
theorem wd_817 : Cond.static yL_told ∈ lw_good := lg_in 817 rfl rfl
set_option maxRecDepth 100000 in
theorem wd_818 : Cond.codeWith yL_told cL_told 9 (some .int) [(0, 15, 16, 13), (0, 15, 21, 16), (0, 15, 26, 19)] ∈ lw_good := lg_in 818 rfl rfl
set_option maxRecDepth 100000 in
theorem wd_819 : Cond.methodLink RL 7 yX6_measure ∈ lw_good := lg_in 819 rfl rfl
set_option maxRecDepth 100000 in
theorem wd_820 : Cond.instanceMethod yX6_measure ∈ lw_good := lg_in 820 rfl rfl
set_option maxRecDepth 100000 in
theorem wd_821 : Cond.selects RX6 yX6_measure yX6_measure ∈ lw_good := lg_in 821 rfl rfl
set_option maxRecDepth 100000 in
theorem wd_822 : Cond.code yX6_measure cX6_measure 8 (some .int) ∈ lw_good := lg_in 822 rfl rfl
set_option maxRecDepth 100000 in
theorem wd_823 : Cond.methodLink RX6 212 yX2_fits ∈ lw_good := lg_in 823 rfl rfl
set_option maxRecDepth 100000 in
theorem wd_824 : Cond.methodLink RX6 216 yX2_isFull ∈ lw_good := lg_in 824 rfl rfl
set_option maxRecDepth 100000 in
theorem wd_826 : Cond.methodLink RX6 223 yX2_addMeasure ∈ lw_good := lg_in 826 rfl rfl
set_option maxRecDepth 100000 in
theorem wd_827 : Cond.methodLink RL 170 yL_doScript ∈ lw_good := lg_in 827 rfl rfl
set_option maxRecDepth 100000 in
theorem wd_828 : Cond.static yL_doScript ∈ lw_good := lg_in 828 rfl rfl
set_option maxRecDepth 100000 in
theorem wd_829 : Cond.codeWith yL_doScript cL_doScript 5 (some .int) [(0, 6, 7, 16)] ∈ lw_good := lg_in 829 rfl rfl
set_option maxRecDepth 100000 in
theorem wd_830 : Cond.methodLink RL 22 yX6_runScript ∈ lw_good := lg_in 830 rfl rfl
set_option maxRecDepth 100000 in
theorem wd_831 : Cond.instanceMethod yX6_runScript ∈ lw_good := lg_in 831 rfl rfl
set_option maxRecDepth 100000 in
theorem wd_832 : Cond.selects RX6 yX6_runScript yX6_runScript ∈ lw_good := lg_in 832 rfl rfl
set_option maxRecDepth 100000 in
theorem wd_833 : Cond.code yX6_runScript cX6_runScript 5 (some .int) ∈ lw_good := lg_in 833 rfl rfl
set_option maxRecDepth 100000 in
theorem wd_834 : Cond.methodLink RX6 275 yX3_limit ∈ lw_good := lg_in 834 rfl rfl
set_option maxRecDepth 100000 in
theorem wd_835 : Cond.static yX3_limit ∈ lw_good := lg_in 835 rfl rfl
set_option maxRecDepth 100000 in
theorem wd_836 : Cond.code yX3_limit cX3_limit 4 (some .long) ∈ lw_good := lg_in 836 rfl rfl
set_option maxRecDepth 100000 in
theorem wd_837 : Cond.constantLong RX3 11 (1000000) ∈ lw_good := lg_in 837 rfl rfl
set_option maxRecDepth 100000 in
theorem wd_838 : Cond.methodLink RX6 279 yX3_group ∈ lw_good := lg_in 838 rfl rfl
set_option maxRecDepth 100000 in
theorem wd_839 : Cond.static yX3_group ∈ lw_good := lg_in 839 rfl rfl
set_option maxRecDepth 100000 in
theorem wd_840 : Cond.code yX3_group cX3_group 6 (some .int) ∈ lw_good := lg_in 840 rfl rfl
set_option maxRecDepth 100000 in
theorem wd_841 : Cond.methodLink RX6 283 yX3_succeeds ∈ lw_good := lg_in 841 rfl rfl
set_option maxRecDepth 100000 in
theorem wd_842 : Cond.static yX3_succeeds ∈ lw_good := lg_in 842 rfl rfl
set_option maxRecDepth 100000 in
theorem wd_843 : Cond.code yX3_succeeds cX3_succeeds 6 (some .boolean) ∈ lw_good := lg_in 843 rfl rfl
set_option maxRecDepth 100000 in
theorem wd_844 : Cond.constant RX3 13 (100000) ∈ lw_good := lg_in 844 rfl rfl
set_option maxRecDepth 100000 in
theorem wd_845 : Cond.methodLink RX3 16 yX2_tryMeasure ∈ lw_good := lg_in 845 rfl rfl
set_option maxRecDepth 100000 in
theorem wd_846 : Cond.methodLink RX3 20 yX2_tryDrop ∈ lw_good := lg_in 846 rfl rfl
set_option maxRecDepth 100000 in
theorem wd_847 : Cond.methodLink RX3 24 yX2_tryTrust ∈ lw_good := lg_in 847 rfl rfl
set_option maxRecDepth 100000 in
theorem wd_848 : Cond.methodLink RX3 28 yX3_passEvenings ∈ lw_good := lg_in 848 rfl rfl
set_option maxRecDepth 100000 in
theorem wd_849 : Cond.static yX3_passEvenings ∈ lw_good := lg_in 849 rfl rfl
set_option maxRecDepth 100000 in
theorem wd_850 : Cond.code yX3_passEvenings cX3_passEvenings 3 (some .boolean) ∈ lw_good := lg_in 850 rfl rfl
set_option maxRecDepth 100000 in
theorem wd_851 : Cond.methodLink RX3 53 yX2_passEvening ∈ lw_good := lg_in 851 rfl rfl
set_option maxRecDepth 100000 in
theorem wd_852 : Cond.methodLink RX3 32 yX2_trySurvey ∈ lw_good := lg_in 852 rfl rfl
set_option maxRecDepth 100000 in
theorem wd_853 : Cond.methodLink RX3 35 yX3_lowestIsAtMost ∈ lw_good := lg_in 853 rfl rfl
set_option maxRecDepth 100000 in
theorem wd_854 : Cond.static yX3_lowestIsAtMost ∈ lw_good := lg_in 854 rfl rfl
set_option maxRecDepth 100000 in
theorem wd_855 : Cond.code yX3_lowestIsAtMost cX3_lowestIsAtMost 4 (some .boolean) ∈ lw_good := lg_in 855 rfl rfl
set_option maxRecDepth 100000 in
theorem wd_856 : Cond.methodLink RX3 56 yX2_isSteeple ∈ lw_good := lg_in 856 rfl rfl
set_option maxRecDepth 100000 in
theorem wd_857 : Cond.methodLink RX3 59 yX0_countByEnds ∈ lw_good := lg_in 857 rfl rfl
set_option maxRecDepth 100000 in
theorem wd_858 : Cond.methodLink RX3 65 yX0_lowest ∈ lw_good := lg_in 858 rfl rfl
set_option maxRecDepth 100000 in
theorem wd_859 : Cond.methodLink RX3 39 yX3_mostIsAtLeast ∈ lw_good := lg_in 859 rfl rfl
set_option maxRecDepth 100000 in
theorem wd_860 : Cond.static yX3_mostIsAtLeast ∈ lw_good := lg_in 860 rfl rfl
set_option maxRecDepth 100000 in
theorem wd_861 : Cond.code yX3_mostIsAtLeast cX3_mostIsAtLeast 4 (some .boolean) ∈ lw_good := lg_in 861 rfl rfl
set_option maxRecDepth 100000 in
theorem wd_862 : Cond.methodLink RX3 68 yX0_most ∈ lw_good := lg_in 862 rfl rfl
set_option maxRecDepth 100000 in
theorem wd_863 : Cond.instanceMethod yX0_most ∈ lw_good := lg_in 863 rfl rfl
set_option maxRecDepth 100000 in
theorem wd_864 : Cond.selects RX0 yX0_most yX0_most ∈ lw_good := lg_in 864 rfl rfl
set_option maxRecDepth 100000 in
theorem wd_865 : Cond.code yX0_most cX0_most 1 (some .int) ∈ lw_good := lg_in 865 rfl rfl
set_option maxRecDepth 100000 in
theorem wd_866 : Cond.methodLink RX3 42 yX2_isTeller ∈ lw_good := lg_in 866 rfl rfl
set_option maxRecDepth 100000 in
theorem wd_867 : Cond.methodLink RX3 45 yX2_trustOf ∈ lw_good := lg_in 867 rfl rfl
set_option maxRecDepth 100000 in
theorem wd_868 : Cond.methodLink RX3 49 yX2_pairsThatQuarrel ∈ lw_good := lg_in 868 rfl rfl
set_option maxRecDepth 100000 in
theorem wd_869 : Cond.constantLong RL 174 (1000000) ∈ lw_good := lg_in 869 rfl rfl
set_option maxRecDepth 100000 in
theorem wd_870 : Cond.methodLink RL 176 yL_doSimulate ∈ lw_good := lg_in 870 rfl rfl
set_option maxRecDepth 100000 in
theorem wd_871 : Cond.static yL_doSimulate ∈ lw_good := lg_in 871 rfl rfl
set_option maxRecDepth 100000 in
theorem wd_872 : Cond.codeWith yL_doSimulate cL_doSimulate 5 (some .int) [(0, 6, 7, 16)] ∈ lw_good := lg_in 872 rfl rfl
set_option maxRecDepth 100000 in
theorem wd_873 : Cond.methodLink RL 26 yX6_simulate ∈ lw_good := lg_in 873 rfl rfl
set_option maxRecDepth 100000 in
theorem wd_874 : Cond.instanceMethod yX6_simulate ∈ lw_good := lg_in 874 rfl rfl
set_option maxRecDepth 100000 in
theorem wd_875 : Cond.selects RX6 yX6_simulate yX6_simulate ∈ lw_good := lg_in 875 rfl rfl
set_option maxRecDepth 100000 in
theorem wd_876 : Cond.code yX6_simulate cX6_simulate 7 (some .int) ∈ lw_good := lg_in 876 rfl rfl
set_option maxRecDepth 100000 in
theorem wd_877 : Cond.constantLong RX6 287 (6364136223846793005) ∈ lw_good := lg_in 877 rfl rfl
set_option maxRecDepth 100000 in
theorem wd_878 : Cond.constantLong RX6 289 (1442695040888963407) ∈ lw_good := lg_in 878 rfl rfl
set_option maxRecDepth 100000 in
theorem wd_879 : Cond.methodLink RX6 291 yX4_turn ∈ lw_good := lg_in 879 rfl rfl
set_option maxRecDepth 100000 in
theorem wd_880 : Cond.static yX4_turn ∈ lw_good := lg_in 880 rfl rfl
set_option maxRecDepth 100000 in
theorem wd_881 : Cond.code yX4_turn cX4_turn 4 (none) ∈ lw_good := lg_in 881 rfl rfl
set_option maxRecDepth 100000 in
theorem wd_882 : Cond.methodLink RX4 7 yX4_tell ∈ lw_good := lg_in 882 rfl rfl
set_option maxRecDepth 100000 in
theorem wd_883 : Cond.static yX4_tell ∈ lw_good := lg_in 883 rfl rfl
set_option maxRecDepth 100000 in
theorem wd_884 : Cond.code yX4_tell cX4_tell 8 (none) ∈ lw_good := lg_in 884 rfl rfl
set_option maxRecDepth 100000 in
theorem wd_885 : Cond.methodLink RX4 31 yX2_tryMeasure ∈ lw_good := lg_in 885 rfl rfl
set_option maxRecDepth 100000 in
theorem wd_886 : Cond.methodLink RX4 13 yX2_tryDrop ∈ lw_good := lg_in 886 rfl rfl
set_option maxRecDepth 100000 in
theorem wd_887 : Cond.methodLink RX4 19 yX2_passEvening ∈ lw_good := lg_in 887 rfl rfl
set_option maxRecDepth 100000 in
theorem wd_888 : Cond.methodLink RX4 23 yX4_changeSetting ∈ lw_good := lg_in 888 rfl rfl
set_option maxRecDepth 100000 in
theorem wd_889 : Cond.static yX4_changeSetting ∈ lw_good := lg_in 889 rfl rfl
set_option maxRecDepth 100000 in
theorem wd_890 : Cond.code yX4_changeSetting cX4_changeSetting 2 (none) ∈ lw_good := lg_in 890 rfl rfl
set_option maxRecDepth 100000 in
theorem wd_891 : Cond.methodLink RX4 35 yX2_changeSetting ∈ lw_good := lg_in 891 rfl rfl
set_option maxRecDepth 100000 in
theorem wd_892 : Cond.methodLink RX4 27 yX2_trySurvey ∈ lw_good := lg_in 892 rfl rfl
set_option maxRecDepth 100000 in
theorem wd_893 : Cond.methodLink RL 203 yL_holds ∈ lw_good := lg_in 893 rfl rfl
set_option maxRecDepth 100000 in
theorem wd_894 : Cond.static yL_holds ∈ lw_good := lg_in 894 rfl rfl
set_option maxRecDepth 100000 in
theorem wd_895 : Cond.code yL_holds cL_holds 17 (some .boolean) ∈ lw_good := lg_in 895 rfl rfl
set_option maxRecDepth 100000 in
theorem wd_896 : Cond.methodLink RL 180 yX6_truest ∈ lw_good := lg_in 896 rfl rfl
set_option maxRecDepth 100000 in
theorem wd_897 : Cond.instanceMethod yX6_truest ∈ lw_good := lg_in 897 rfl rfl
set_option maxRecDepth 100000 in
theorem wd_898 : Cond.selects RX6 yX6_truest yX6_truest ∈ lw_good := lg_in 898 rfl rfl
set_option maxRecDepth 100000 in
theorem wd_899 : Cond.code yX6_truest cX6_truest 1 (some .int) ∈ lw_good := lg_in 899 rfl rfl
set_option maxRecDepth 100000 in
theorem wd_900 : Cond.methodLink RX6 270 yX2_tellerMostlyRight ∈ lw_good := lg_in 900 rfl rfl
set_option maxRecDepth 100000 in
theorem wd_901 : Cond.instanceMethod yX2_tellerMostlyRight ∈ lw_good := lg_in 901 rfl rfl
set_option maxRecDepth 100000 in
theorem wd_902 : Cond.selects RX2 yX2_tellerMostlyRight yX2_tellerMostlyRight ∈ lw_good := lg_in 902 rfl rfl
set_option maxRecDepth 100000 in
theorem wd_903 : Cond.code yX2_tellerMostlyRight cX2_tellerMostlyRight 3 (some .int) ∈ lw_good := lg_in 903 rfl rfl
set_option maxRecDepth 100000 in
theorem wd_904 : Cond.methodLink RX2 168 yX2_isTruer ∈ lw_good := lg_in 904 rfl rfl
set_option maxRecDepth 100000 in
theorem wd_906 : Cond.instanceMethod yX2_isTruer ∈ lw_good := lg_in 906 rfl rfl
set_option maxRecDepth 100000 in
theorem wd_907 : Cond.code yX2_isTruer cX2_isTruer 6 (some .boolean) ∈ lw_good := lg_in 907 rfl rfl
set_option maxRecDepth 100000 in
theorem wd_908 : Cond.methodLink RL 191 yL_act ∈ lw_good := lg_in 908 rfl rfl
set_option maxRecDepth 100000 in
theorem wd_909 : Cond.static yL_act ∈ lw_good := lg_in 909 rfl rfl
set_option maxRecDepth 100000 in
theorem wd_910 : Cond.code yL_act cL_act 5 (some .int) ∈ lw_good := lg_in 910 rfl rfl
set_option maxRecDepth 100000 in
theorem wd_911 : Cond.methodLink RL 183 yX6_evening ∈ lw_good := lg_in 911 rfl rfl
set_option maxRecDepth 100000 in
theorem wd_912 : Cond.instanceMethod yX6_evening ∈ lw_good := lg_in 912 rfl rfl
set_option maxRecDepth 100000 in
theorem wd_913 : Cond.selects RX6 yX6_evening yX6_evening ∈ lw_good := lg_in 913 rfl rfl
set_option maxRecDepth 100000 in
theorem wd_914 : Cond.code yX6_evening cX6_evening 1 (some .int) ∈ lw_good := lg_in 914 rfl rfl
set_option maxRecDepth 100000 in
theorem wd_915 : Cond.methodLink RL 199 yL_alike ∈ lw_good := lg_in 915 rfl rfl
set_option maxRecDepth 100000 in
theorem wd_916 : Cond.static yL_alike ∈ lw_good := lg_in 916 rfl rfl
set_option maxRecDepth 100000 in
theorem wd_917 : Cond.code yL_alike cL_alike 5 (some .boolean) ∈ lw_good := lg_in 917 rfl rfl
set_option maxRecDepth 100000 in
theorem wd_918 : Cond.methodLink RL 206 yL_surveys ∈ lw_good := lg_in 918 rfl rfl
set_option maxRecDepth 100000 in
theorem wd_919 : Cond.static yL_surveys ∈ lw_good := lg_in 919 rfl rfl
set_option maxRecDepth 100000 in
theorem wd_920 : Cond.code yL_surveys cL_surveys 16 (some .boolean) ∈ lw_good := lg_in 920 rfl rfl
set_option maxRecDepth 100000 in
theorem wd_921 : Cond.methodLink RL 212 yL_thrown ∈ lw_good := lg_in 921 rfl rfl
set_option maxRecDepth 100000 in
theorem wd_922 : Cond.static yL_thrown ∈ lw_good := lg_in 922 rfl rfl
set_option maxRecDepth 100000 in
theorem wd_923 : Cond.code yL_thrown cL_thrown 1 (some .boolean) ∈ lw_good := lg_in 923 rfl rfl
set_option maxRecDepth 100000 in
theorem wd_924 : Cond.methodLink RL 209 yL_drops ∈ lw_good := lg_in 924 rfl rfl
set_option maxRecDepth 100000 in
theorem wd_925 : Cond.static yL_drops ∈ lw_good := lg_in 925 rfl rfl
set_option maxRecDepth 100000 in
theorem wd_926 : Cond.code yL_drops cL_drops 19 (some .boolean) ∈ lw_good := lg_in 926 rfl rfl
set_option maxRecDepth 100000 in
theorem wd_927 : Cond.constant RL 194 (100000) ∈ lw_good := lg_in 927 rfl rfl
set_option maxRecDepth 100000 in
theorem tw_60 : ∀ w ∈ vx_atS RX6 60 "java/lang/IllegalStateException" ["java/lang/RuntimeException", "java/lang/Exception"], w ∈ lw_good ∨ w ∈ lw_face := by decide +kernel
set_option maxRecDepth 100000 in
theorem tg_60 : ∀ w ∈ Cond.classLink RX6 56 "java/lang/IllegalStateException" :: Cond.initialized "java/lang/IllegalStateException" :: vx_atS RX6 60 "java/lang/IllegalStateException" ["java/lang/RuntimeException", "java/lang/Exception"], vx_ot w = true := by decide +kernel
set_option maxRecDepth 100000 in
theorem tw_305 : ∀ w ∈ vx_atS RX6 305 "java/lang/IllegalArgumentException" ["java/lang/RuntimeException", "java/lang/Exception"], w ∈ lw_good ∨ w ∈ lw_face := by decide +kernel
set_option maxRecDepth 100000 in
theorem tg_305 : ∀ w ∈ Cond.classLink RX6 301 "java/lang/IllegalArgumentException" :: Cond.initialized "java/lang/IllegalArgumentException" :: vx_atS RX6 305 "java/lang/IllegalArgumentException" ["java/lang/RuntimeException", "java/lang/Exception"], vx_ot w = true := by decide +kernel
set_option maxRecDepth 100000 in
theorem tw_313 : ∀ w ∈ vx_atS RX6 313 "java/lang/IndexOutOfBoundsException" ["java/lang/RuntimeException", "java/lang/Exception"], w ∈ lw_good ∨ w ∈ lw_face := by decide +kernel
set_option maxRecDepth 100000 in
theorem tg_313 : ∀ w ∈ Cond.classLink RX6 309 "java/lang/IndexOutOfBoundsException" :: Cond.initialized "java/lang/IndexOutOfBoundsException" :: vx_atS RX6 313 "java/lang/IndexOutOfBoundsException" ["java/lang/RuntimeException", "java/lang/Exception"], vx_ot w = true := by decide +kernel
end
