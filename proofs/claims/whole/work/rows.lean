section
-- ===== PART A: goes FIRST, ahead of the names: the tables' words, and 'selects' of the private methods out of them =====
/-- a private method of a class that the tables say can be made, by its rows of tables_1 -/
def lw_okq (q : MethodName × Nat) : Prop := (q.1.cls ≠ "java/lang/invoke/MethodHandle" ∧ q.1.cls ≠ "java/lang/invoke/VarHandle") ∧ Cond.instantiable q.1.cls q.2 ∈ tables_1 ∧ Cond.privateMethod q.1 ∈ tables_1 ∧ Cond.instanceMethod q.1 ∈ tables_1
theorem lw_p0 : lw_okq (⟨"SteepleWords$Text", "signHere", "()I"⟩, 5) := ⟨⟨by decide +kernel, by decide +kernel⟩, List.mem_of_getElem? (i := 95) (by decide +kernel), List.mem_of_getElem? (i := 178) (by decide +kernel), List.mem_of_getElem? (i := 179) (by decide +kernel)⟩
theorem lw_p1 : lw_okq (⟨"SteepleWords$Text", "readNumbers", "([I)Z"⟩, 5) := ⟨⟨by decide +kernel, by decide +kernel⟩, List.mem_of_getElem? (i := 95) (by decide +kernel), List.mem_of_getElem? (i := 188) (by decide +kernel), List.mem_of_getElem? (i := 189) (by decide +kernel)⟩
theorem lw_p2 : lw_okq (⟨"SteepleWords$Text", "readNumber", "(III)I"⟩, 5) := ⟨⟨by decide +kernel, by decide +kernel⟩, List.mem_of_getElem? (i := 95) (by decide +kernel), List.mem_of_getElem? (i := 192) (by decide +kernel), List.mem_of_getElem? (i := 193) (by decide +kernel)⟩
theorem lw_p3 : lw_okq (⟨"SteepleWords$Parish", "matters", "(II)Z"⟩, 11) := ⟨⟨by decide +kernel, by decide +kernel⟩, List.mem_of_getElem? (i := 27) (by decide +kernel), List.mem_of_getElem? (i := 233) (by decide +kernel), List.mem_of_getElem? (i := 234) (by decide +kernel)⟩
theorem lw_p4 : lw_okq (⟨"SteepleWords$Parish", "shameLighter", "(II)V"⟩, 11) := ⟨⟨by decide +kernel, by decide +kernel⟩, List.mem_of_getElem? (i := 27) (by decide +kernel), List.mem_of_getElem? (i := 248) (by decide +kernel), List.mem_of_getElem? (i := 249) (by decide +kernel)⟩
theorem lw_p5 : lw_okq (⟨"SteepleWords$Parish", "isTruer", "(II)Z"⟩, 11) := ⟨⟨by decide +kernel, by decide +kernel⟩, List.mem_of_getElem? (i := 27) (by decide +kernel), List.mem_of_getElem? (i := 264) (by decide +kernel), List.mem_of_getElem? (i := 265) (by decide +kernel)⟩
theorem lw_p6 : lw_okq (⟨"java/lang/Throwable", "fillInStackTrace", "(I)Ljava/lang/Throwable;"⟩, 6) := ⟨⟨by decide +kernel, by decide +kernel⟩, List.mem_of_getElem? (i := 318) (by decide +kernel), List.mem_of_getElem? (i := 316) (by decide +kernel), List.mem_of_getElem? (i := 317) (by decide +kernel)⟩
theorem lw_p7 : lw_okq (⟨"SteepleWords", "doCommandOfText", "()Z"⟩, 7) := ⟨⟨by decide +kernel, by decide +kernel⟩, List.mem_of_getElem? (i := 19) (by decide +kernel), List.mem_of_getElem? (i := 387) (by decide +kernel), List.mem_of_getElem? (i := 388) (by decide +kernel)⟩
theorem lw_p8 : lw_okq (⟨"SteepleWords$Parish", "judge", "(IZ)V"⟩, 11) := ⟨⟨by decide +kernel, by decide +kernel⟩, List.mem_of_getElem? (i := 27) (by decide +kernel), List.mem_of_getElem? (i := 478) (by decide +kernel), List.mem_of_getElem? (i := 479) (by decide +kernel)⟩
theorem lw_p9 : lw_okq (⟨"SteepleWords$Parish", "removeMeasuresOf", "(I)V"⟩, 11) := ⟨⟨by decide +kernel, by decide +kernel⟩, List.mem_of_getElem? (i := 27) (by decide +kernel), List.mem_of_getElem? (i := 482) (by decide +kernel), List.mem_of_getElem? (i := 483) (by decide +kernel)⟩
theorem lw_p10 : lw_okq (⟨"SteepleWords$Parish", "quarrel", "(II)Z"⟩, 11) := ⟨⟨by decide +kernel, by decide +kernel⟩, List.mem_of_getElem? (i := 27) (by decide +kernel), List.mem_of_getElem? (i := 513) (by decide +kernel), List.mem_of_getElem? (i := 514) (by decide +kernel)⟩
theorem lw_p11 : lw_okq (⟨"SteepleWords", "needMeasure", "(I)V"⟩, 7) := ⟨⟨by decide +kernel, by decide +kernel⟩, List.mem_of_getElem? (i := 19) (by decide +kernel), List.mem_of_getElem? (i := 548) (by decide +kernel), List.mem_of_getElem? (i := 549) (by decide +kernel)⟩
theorem lw_p12 : lw_okq (⟨"SteepleWords$Ballot", "noteChanges", "(LSteepleWords$Parish;I)V"⟩, 4) := ⟨⟨by decide +kernel, by decide +kernel⟩, List.mem_of_getElem? (i := 117) (by decide +kernel), List.mem_of_getElem? (i := 655) (by decide +kernel), List.mem_of_getElem? (i := 656) (by decide +kernel)⟩
theorem lw_p13 : lw_okq (⟨"SteepleWords$Ballot", "tryLowest", "(II)V"⟩, 4) := ⟨⟨by decide +kernel, by decide +kernel⟩, List.mem_of_getElem? (i := 117) (by decide +kernel), List.mem_of_getElem? (i := 669) (by decide +kernel), List.mem_of_getElem? (i := 670) (by decide +kernel)⟩
theorem lw_p14 : lw_okq (⟨"SteepleWords$Parish", "isLouder", "(III)Z"⟩, 11) := ⟨⟨by decide +kernel, by decide +kernel⟩, List.mem_of_getElem? (i := 27) (by decide +kernel), List.mem_of_getElem? (i := 781) (by decide +kernel), List.mem_of_getElem? (i := 782) (by decide +kernel)⟩
theorem lw_p15 : lw_okq (⟨"SteepleWords$Parish", "feetFrom", "(II)I"⟩, 11) := ⟨⟨by decide +kernel, by decide +kernel⟩, List.mem_of_getElem? (i := 27) (by decide +kernel), List.mem_of_getElem? (i := 785) (by decide +kernel), List.mem_of_getElem? (i := 786) (by decide +kernel)⟩
def lw_privs_1 : List (MethodName × Nat) := [(⟨"SteepleWords$Text", "signHere", "()I"⟩, 5), (⟨"SteepleWords$Text", "readNumbers", "([I)Z"⟩, 5), (⟨"SteepleWords$Text", "readNumber", "(III)I"⟩, 5), (⟨"SteepleWords$Parish", "matters", "(II)Z"⟩, 11), (⟨"SteepleWords$Parish", "shameLighter", "(II)V"⟩, 11), (⟨"SteepleWords$Parish", "isTruer", "(II)Z"⟩, 11), (⟨"java/lang/Throwable", "fillInStackTrace", "(I)Ljava/lang/Throwable;"⟩, 6), (⟨"SteepleWords", "doCommandOfText", "()Z"⟩, 7), (⟨"SteepleWords$Parish", "judge", "(IZ)V"⟩, 11), (⟨"SteepleWords$Parish", "removeMeasuresOf", "(I)V"⟩, 11), (⟨"SteepleWords$Parish", "quarrel", "(II)Z"⟩, 11), (⟨"SteepleWords", "needMeasure", "(I)V"⟩, 7), (⟨"SteepleWords$Ballot", "noteChanges", "(LSteepleWords$Parish;I)V"⟩, 4), (⟨"SteepleWords$Ballot", "tryLowest", "(II)V"⟩, 4), (⟨"SteepleWords$Parish", "isLouder", "(III)Z"⟩, 11), (⟨"SteepleWords$Parish", "feetFrom", "(II)I"⟩, 11)]
theorem lw_r1 : ∀ q ∈ lw_privs_1, lw_okq q := List.forall_mem_cons.mpr ⟨lw_p0, List.forall_mem_cons.mpr ⟨lw_p1, List.forall_mem_cons.mpr ⟨lw_p2, List.forall_mem_cons.mpr ⟨lw_p3, List.forall_mem_cons.mpr ⟨lw_p4, List.forall_mem_cons.mpr ⟨lw_p5, List.forall_mem_cons.mpr ⟨lw_p6, List.forall_mem_cons.mpr ⟨lw_p7, List.forall_mem_cons.mpr ⟨lw_p8, List.forall_mem_cons.mpr ⟨lw_p9, List.forall_mem_cons.mpr ⟨lw_p10, List.forall_mem_cons.mpr ⟨lw_p11, List.forall_mem_cons.mpr ⟨lw_p12, List.forall_mem_cons.mpr ⟨lw_p13, List.forall_mem_cons.mpr ⟨lw_p14, List.forall_mem_cons.mpr ⟨lw_p15, fun _ h => absurd h List.not_mem_nil⟩⟩⟩⟩⟩⟩⟩⟩⟩⟩⟩⟩⟩⟩⟩⟩
theorem lw_p16 : lw_okq (⟨"SteepleWordsModel", "refused", "(I)Z"⟩, 11) := ⟨⟨by decide +kernel, by decide +kernel⟩, List.mem_of_getElem? (i := 892) (by decide +kernel), List.mem_of_getElem? (i := 947) (by decide +kernel), List.mem_of_getElem? (i := 948) (by decide +kernel)⟩
theorem lw_p17 : lw_okq (⟨"SteepleWordsModel", "readText", "([I)I"⟩, 11) := ⟨⟨by decide +kernel, by decide +kernel⟩, List.mem_of_getElem? (i := 892) (by decide +kernel), List.mem_of_getElem? (i := 959) (by decide +kernel), List.mem_of_getElem? (i := 960) (by decide +kernel)⟩
theorem lw_p18 : lw_okq (⟨"SteepleWordsModel", "readCommand", "([I)Z"⟩, 11) := ⟨⟨by decide +kernel, by decide +kernel⟩, List.mem_of_getElem? (i := 892) (by decide +kernel), List.mem_of_getElem? (i := 963) (by decide +kernel), List.mem_of_getElem? (i := 964) (by decide +kernel)⟩
theorem lw_p19 : lw_okq (⟨"SteepleWordsModel", "readMeasure", "([II)Z"⟩, 11) := ⟨⟨by decide +kernel, by decide +kernel⟩, List.mem_of_getElem? (i := 892) (by decide +kernel), List.mem_of_getElem? (i := 967) (by decide +kernel), List.mem_of_getElem? (i := 968) (by decide +kernel)⟩
theorem lw_p20 : lw_okq (⟨"SteepleWordsModel", "figures", "(IIII)I"⟩, 11) := ⟨⟨by decide +kernel, by decide +kernel⟩, List.mem_of_getElem? (i := 892) (by decide +kernel), List.mem_of_getElem? (i := 971) (by decide +kernel), List.mem_of_getElem? (i := 972) (by decide +kernel)⟩
theorem lw_p21 : lw_okq (⟨"SteepleWordsModel", "done", "(Z)Z"⟩, 11) := ⟨⟨by decide +kernel, by decide +kernel⟩, List.mem_of_getElem? (i := 892) (by decide +kernel), List.mem_of_getElem? (i := 987) (by decide +kernel), List.mem_of_getElem? (i := 988) (by decide +kernel)⟩
theorem lw_p22 : lw_okq (⟨"SteepleWordsModel", "remember", "()V"⟩, 11) := ⟨⟨by decide +kernel, by decide +kernel⟩, List.mem_of_getElem? (i := 892) (by decide +kernel), List.mem_of_getElem? (i := 1100) (by decide +kernel), List.mem_of_getElem? (i := 1101) (by decide +kernel)⟩
theorem lw_p23 : lw_okq (⟨"SteepleWordsModel", "command", "(II)Z"⟩, 11) := ⟨⟨by decide +kernel, by decide +kernel⟩, List.mem_of_getElem? (i := 892) (by decide +kernel), List.mem_of_getElem? (i := 1168) (by decide +kernel), List.mem_of_getElem? (i := 1169) (by decide +kernel)⟩
theorem lw_p24 : lw_okq (⟨"SteepleWordsModel", "commandSteeple", "(IIII)Z"⟩, 11) := ⟨⟨by decide +kernel, by decide +kernel⟩, List.mem_of_getElem? (i := 892) (by decide +kernel), List.mem_of_getElem? (i := 1172) (by decide +kernel), List.mem_of_getElem? (i := 1173) (by decide +kernel)⟩
def lw_privs_2 : List (MethodName × Nat) := [(⟨"SteepleWordsModel", "refused", "(I)Z"⟩, 11), (⟨"SteepleWordsModel", "readText", "([I)I"⟩, 11), (⟨"SteepleWordsModel", "readCommand", "([I)Z"⟩, 11), (⟨"SteepleWordsModel", "readMeasure", "([II)Z"⟩, 11), (⟨"SteepleWordsModel", "figures", "(IIII)I"⟩, 11), (⟨"SteepleWordsModel", "done", "(Z)Z"⟩, 11), (⟨"SteepleWordsModel", "remember", "()V"⟩, 11), (⟨"SteepleWordsModel", "command", "(II)Z"⟩, 11), (⟨"SteepleWordsModel", "commandSteeple", "(IIII)Z"⟩, 11)]
theorem lw_r2 : ∀ q ∈ lw_privs_2, lw_okq q := List.forall_mem_cons.mpr ⟨lw_p16, List.forall_mem_cons.mpr ⟨lw_p17, List.forall_mem_cons.mpr ⟨lw_p18, List.forall_mem_cons.mpr ⟨lw_p19, List.forall_mem_cons.mpr ⟨lw_p20, List.forall_mem_cons.mpr ⟨lw_p21, List.forall_mem_cons.mpr ⟨lw_p22, List.forall_mem_cons.mpr ⟨lw_p23, List.forall_mem_cons.mpr ⟨lw_p24, fun _ h => absurd h List.not_mem_nil⟩⟩⟩⟩⟩⟩⟩⟩⟩
def lw_privs : List (MethodName × Nat) := lw_privs_1 ++ (lw_privs_2)
def lw_tbl : List Cond := k2_sels lw_privs ++ tables_1
theorem lw_privs_ok : ∀ q ∈ lw_privs, lw_okq q := by
  show ∀ q ∈ lw_privs_1 ++ (lw_privs_2), lw_okq q
  exact List.forall_mem_append.mpr ⟨lw_r1, lw_r2⟩
/-! ===== BEGIN words of one list among another's, by their places ===== -/
theorem goodIn_r {big : List Cond} (ws : List Cond) (ps : List Nat) (hp : ws = ps.filterMap (fun i => big[i]?)) (h : ws.all goodWord = true) : GoodIn big ws := by
  intro w hw
  have h1 := List.all_eq_true.mp h w hw
  rw [hp] at hw
  obtain ⟨i, -, hi⟩ := List.mem_filterMap.mp hw
  have hm : w ∈ big := by first | exact List.mem_of_getElem? hi | exact List.getElem?_mem hi
  exact ⟨hm, good_of_word h1⟩
theorem goodIn_app {big a b : List Cond} (ha : GoodIn big a) (hb : GoodIn big b) : GoodIn big (a ++ b) := fun w h => (List.mem_append.mp h).elim (ha w) (hb w)
theorem goodIn_ca {big a b : List Cond} {c : Cond} (ha : GoodIn big (c :: a)) (hb : GoodIn big b) : GoodIn big (c :: (a ++ b)) := fun w h => (List.mem_cons.mp h).elim (fun e => ha w (List.mem_cons.mpr (Or.inl e))) (fun h => (List.mem_append.mp h).elim (fun h => ha w (List.mem_cons.mpr (Or.inr h))) (hb w))
theorem goodIn_sub {big ws : List Cond} (hm : ∀ w ∈ ws, w ∈ big) (h : ws.all goodWord = true) : GoodIn big ws := fun w hw => ⟨hm w hw, good_of_word (List.all_eq_true.mp h w hw)⟩
/-! ===== END ===== -/

/-! ===== BEGIN exceptions that leave a method, and their catching by the caller (launches without stack traces) ===== -/
section VXA
/-! The laws vx_back, vx_callV, vx_callS, vx_callSW, vx_throw0, vx_throwS follow proofs of the library, with one case more: JvmDerived/Free/Laws.lean (Back.of_free), Shelf42/LK1.lean (callV, callS), Shelf/KitTraced.lean (throwNew0V, throwNewS). -/
/-- where a method has thrown q: the class by its name, the cell, what was written, the world -/
def vx_T (XC : String → State → State → Prop) (st : State) (q : Addr) (t : State) (mc ms : Nat) (free : Addr → Prop) : Prop :=
  ∃ (E : String) (ce : Cell) (L : List Loc), XC E st t ∧ t.heap[q]? = some ce ∧ ce.vm = .none ∧ st.vm.findClass E = some ce.cls ∧ st.WarmedH t.vm ∧ st.sameButNew ({ t with vm := st.vm } : State) L mc ms ∧ ∀ z ∈ L, free z.base
def vx_Q (Qc : Array Value → State → Outcome → State → Prop) (XC : String → State → State → Prop) (mc ms : Nat) (free : Addr → Prop) : Array Value → State → Outcome → State → Prop := fun a st o t =>
  (Qc a st o t ∧ ∃ L, FrameEnd st o t L mc ms ∧ ∀ q ∈ L, free q.base) ∨ ∃ q, o = .threw q ∧ vx_T XC st q t mc ms free
/-- a callee that returns or throws -/
def vx_Met (l : Launch) (y : MethodName) (ws : List Cond) (rm : Room) (Pc : Array Value → State → Prop) (Qc : Array Value → State → Outcome → State → Prop) (XC : String → State → State → Prop) (mc ms : Nat) (free : Addr → Prop) : Prop :=
  MetFree l y (headSpec ws rm) Pc (fun _ _ _ _ _ => True) (vx_Q Qc XC mc ms free)
def vx_Post (XC : String → State → State → Prop) (mc ms : Nat) (free : Addr → Prop) : Pt → Array Value → Addr → Pt → Prop := fun A a q B =>
  ∃ (g : JFrame) (mk : MethodId) (t : State) (L : List Loc) (E : String) (ce : Cell), B.U.heap = t.heap ∧ B.U.vm = t.vm ∧ XC E (A.U.calling g mk a) t ∧ t.heap[q]? = some ce ∧ ce.vm = .none ∧ A.U.vm.findClass E = some ce.cls ∧ B.locs = A.locs ++ L ∧ (∀ z ∈ L, free z.base) ∧ B.cells = A.cells + mc ∧ B.slots = A.slots + ms
def vx_Back (l : Launch) (R : Room) (p : Program) (e : Env) (below : List Frame) (s : State) (sargs : Array Value) (y : MethodName) (len W9 : Nat)
    (Pre : Pt → Array Value → Prop) (Post : Pt → Array Value → Option Value → Pt → Prop) (PostX : Pt → Array Value → Addr → Pt → Prop) : Prop :=
  ∀ (m : MethodId) (meth : Method) (c : Code) (A : Pt) (g : JFrame) (ig : Instr) (mk : MethodId) (a : Array Value),
    Stand p l e R s m sargs below meth c A.U A.locs A.cells A.slots → g.method = m → g.locals.size = c.maxLocals → decode c.code g.pc = .ok (ig, len) →
    2 * g.monitorRoom + (g.stack.map fun v => v.category).sum ≤ W9 → A.U.methodNamed? y = some mk → Pre A a →
    (∃ (v : Option Value) (B : Pt), Stand p l e R s m sargs below meth c B.U B.locs B.cells B.slots ∧ Post A a v B ∧
      Steps p.tables e below (doInvoke e (A.U.setTop g) [] mk a).1 (B.U.setTop { g with pc := g.pc + len, stack := v.toList ++ g.stack })) ∨
    (∃ (q : Addr) (B : Pt), Stand p l e R s m sargs below meth c B.U B.locs B.cells B.slots ∧ PostX A a q B ∧
      Steps p.tables e below (doInvoke e (A.U.setTop g) [] mk a).1 ((B.U.setTop g).pushFrame (.throwing q)))
section Payer
variable {l : Launch} {R : Room} {p : Program} {e : Env} {below : List Frame} {s : State} {sargs : Array Value} {y : MethodName} {len W9 : Nat}
theorem vx_back {ws : List Cond} {rm : Room} {Pc : Array Value → State → Prop} {Qc : Array Value → State → Outcome → State → Prop} {XC : String → State → State → Prop} {mc ms : Nat} {free : Addr → Prop} {bytes : ByteArray} {maxL : Nat} {ret : Option FieldType}
    (hM : vx_Met l y ws rm Pc Qc XC mc ms free) (hblind : FrameBlind Pc) (hrc : rm.cells = mc) (hrs : rm.slots = ms)
    (hframes : rm.frames + 1 ≤ R.frames) (hlocals : W9 + (maxL + 11) + rm.locals ≤ R.locals)
    (hws : ∀ w ∈ ws, ∀ a' U, s.WarmedH U.vm → w.before a' U = true) (hcode : Cond.code y bytes maxL ret ∈ ws) (hinit : ∀ a' U, s.WarmedH U.vm → (Cond.initialized y.cls).before a' U = true) :
    vx_Back l R p e below s sargs y len W9 (PreOf R mc ms Pc) (PostOf Qc mc ms free) (vx_Post XC mc ms free) := by
  intro m meth c A g ig mk a X hg hsize hdg hW hn hp
  have h1 : (headSpec ws rm).pre.before a A.U = true := atoms_intro fun w hw => hws w hw _ _ X.warmed
  have h2 : (Cond.code y bytes maxL ret).before a A.U = true := hws _ hcode _ _ X.warmed
  have h3 : (Cond.initialized y.cls).before a A.U = true := hinit _ _ X.warmed
  have h4 : A.cells + (headSpec ws rm).room.cells ≤ R.cells := by rw [show (headSpec ws rm).room.cells = mc from hrc]; exact hp.1
  have h5 : A.slots + (headSpec ws rm).room.slots ≤ R.slots := by rw [show (headSpec ws rm).room.slots = ms from hrs]; exact hp.2.1
  have hPc : Pc a (A.U.calling g mk a) := hblind _ _ _ _ hp.2.2
  obtain ⟨U, Ls, c0, s0⟩ := A
  dsimp only [Pt.U, Pt.locs, Pt.cells, Pt.slots] at h1 h2 h3 h4 h5 X hn hPc ⊢
  obtain ⟨methY, cY, hmY, hcY, -, hlY, -, -, -, -⟩ := Cond.code_spec hn h2
  obtain ⟨kY, hkY, -⟩ := className_of_methodNamed hn
  have hinitY : kY.init = .initialized := Cond.initialized_spec (findClass_of_methodNamed hn) hkY h3
  have h : At U g.method c below := by rw [hg]; exact X.here
  have hlocals9 : W9 + (maxL + 11) + (headSpec ws rm).room.locals ≤ R.locals := hlocals
  have happ : (headSpec ws rm).appliesLoose y e.platform (U.calling g mk a) = true :=
    Spec.appliesLoose_calling (g := g) h hdg hn hkY hinitY
      (X.room_calling (g := g) (R' := (headSpec ws rm).room) hsize hmY hcY hframes (by rw [hlY]; omega) h4 h5) h1
  obtain ⟨mid, hmid⟩ := h.above
  have hfr : (U.setTop g).frames = (.java g :: mid) ++ below := by rw [State.frames_setTop' g h.top, hmid]; rfl
  obtain ⟨o, s₂, hsteps, -, hend, hq⟩ := Steps.callFree hM p X.admits X.cas X.clock (acts := []) hfr happ hPc trivial
  have hq' : vx_Q Qc XC mc ms free a (U.calling g mk a) o s₂ := hq
  rw [State.frames_setTop' g h.top] at hend
  obtain ⟨g₀, hg0⟩ := Option.isSome_iff_exists.mp h.top
  obtain ⟨r, hr⟩ := State.topJava?_eq_some.mp hg0
  have hr' : (({ U with heap := s₂.heap, slotsUsed := s₂.slotsUsed } : State).setVm s₂.vm).frames = .java g₀ :: r := hr
  rcases hq' with ⟨hqc, L, hfe, hL⟩ | ⟨q, rfl, E, ce, L, hx, hce, hcv, hcl, hW₂, hsm, hL⟩
  · obtain ⟨⟨v, rfl⟩, hW₂, e2, q2, q3, q4, q5, q6⟩ := id hfe
    have e3 : s₂ = ({ (U.calling g mk a).setFrames s₂.frames with heap := s₂.heap, slotsUsed := s₂.slotsUsed } : State).setVm s₂.vm := by
      have : s₂ = ({ s₂ with vm := (U.calling g mk a).vm } : State).setVm s₂.vm := rfl
      rw [e2] at this
      exact this
    obtain ⟨c₂, i₂, len₂, hc₂, hd₂, hf₂⟩ := hend
    have hW' : U.WarmedH s₂.vm := hW₂
    have hcc : c₂ = c := by
      have h1 : s₂.code? g.method = U.code? g.method := by
        rw [State.code?_eq, State.code?_eq, hW'.alike.method?]
      exact Option.some.inj (hc₂.symm.trans (h1.trans h.code))
    subst hcc
    have hlen : len₂ = len := by rw [hdg] at hd₂; cases hd₂; rfl
    subst hlen
    have hs₂ : s₂ = (({ U with heap := s₂.heap, slotsUsed := s₂.slotsUsed } : State).setVm s₂.vm).setTop { g with pc := g.pc + len₂, stack := v.toList ++ g.stack } := by
      refine e3.trans ?_
      rw [hf₂, State.calling_eq h.top, State.setFrames_setFrames, State.setTop_of_frames _ hr', hr]
      rfl
    have hsame : U.sameButNew ({ U with heap := s₂.heap, slotsUsed := s₂.slotsUsed } : State) L mc ms := by
      refine ⟨?_, q2, q3, q4, q5, q6⟩
      obtain ⟨t, ht, -⟩ := State.frames_cons hr
      show ({ U with heap := s₂.heap, slotsUsed := s₂.slotsUsed } : State) = { U.setFrames U.frames with heap := s₂.heap, slotsUsed := s₂.slotsUsed }
      rw [State.setFrames_self ht]
    subst hg
    refine Or.inl ⟨v, ⟨(({ U with heap := s₂.heap, slotsUsed := s₂.slotsUsed } : State).setVm s₂.vm), Ls ++ L, c0 + mc, s0 + ms⟩,
      ⟨X.admits, X.cas, X.clock, X.frames, X.room, X.hears, X.method, X.code, (X.here.setHeapUsed s₂.heap s₂.slotsUsed).setVm hW'.alike, X.tail, State.WarmedH.trans X.warmed hW', X.limits, X.bytes, X.same.trans (hsame.setVm s.vm)⟩,
      ⟨g, mk, s₂, L, rfl, rfl, hqc, rfl, hL, rfl, rfl⟩, ?_⟩
    show Steps p.tables e below _ ((({ U with heap := s₂.heap, slotsUsed := s₂.slotsUsed } : State).setVm s₂.vm).setTop { g with pc := g.pc + len₂, stack := v.toList ++ g.stack })
    rw [← hs₂]
    exact hsteps
  · obtain ⟨e2, q2, q3, q4, q5, q6⟩ := id hsm
    have e3 : s₂ = ({ (U.calling g mk a).setFrames s₂.frames with heap := s₂.heap, slotsUsed := s₂.slotsUsed } : State).setVm s₂.vm := by
      have : s₂ = ({ s₂ with vm := (U.calling g mk a).vm } : State).setVm s₂.vm := rfl
      rw [e2] at this
      exact this
    have hf₂ : s₂.frames = .throwing q :: .java g :: U.frames.tail := hend
    have hW' : U.WarmedH s₂.vm := hW₂
    have hs₂ : s₂ = ((({ U with heap := s₂.heap, slotsUsed := s₂.slotsUsed } : State).setVm s₂.vm).setTop g).pushFrame (.throwing q) := by
      refine e3.trans ?_
      rw [hf₂, State.calling_eq h.top, State.setFrames_setFrames, State.pushFrame, State.frames_setTop _ hr', State.setTop_of_frames _ hr', State.setFrames_setFrames, hr]
      rfl
    have hsame : U.sameButNew ({ U with heap := s₂.heap, slotsUsed := s₂.slotsUsed } : State) L mc ms := by
      refine ⟨?_, q2, q3, q4, q5, q6⟩
      obtain ⟨t, ht, -⟩ := State.frames_cons hr
      show ({ U with heap := s₂.heap, slotsUsed := s₂.slotsUsed } : State) = { U.setFrames U.frames with heap := s₂.heap, slotsUsed := s₂.slotsUsed }
      rw [State.setFrames_self ht]
    subst hg
    refine Or.inr ⟨q, ⟨(({ U with heap := s₂.heap, slotsUsed := s₂.slotsUsed } : State).setVm s₂.vm), Ls ++ L, c0 + mc, s0 + ms⟩,
      ⟨X.admits, X.cas, X.clock, X.frames, X.room, X.hears, X.method, X.code, (X.here.setHeapUsed s₂.heap s₂.slotsUsed).setVm hW'.alike, X.tail, State.WarmedH.trans X.warmed hW', X.limits, X.bytes, X.same.trans (hsame.setVm s.vm)⟩,
      ⟨g, mk, s₂, L, E, ce, rfl, rfl, hx, hce, hcv, hcl, rfl, hL, rfl, rfl⟩, ?_⟩
    show Steps p.tables e below _ (((({ U with heap := s₂.heap, slotsUsed := s₂.slotsUsed } : State).setVm s₂.vm).setTop g).pushFrame (.throwing q))
    rw [← hs₂]
    exact hsteps
end Payer
section Calls
variable {p : Program} {l : Launch} {e : Env} {R : Room} {s : State} {m : MethodId} {args : Array Value} {below : List Frame} {meth : Method} {c : Code} {T : State} {locs : List Loc} {cells slots : Nat}
theorem vx_callV (X : Stand p l e R s m args below meth c T locs cells slots) (hexec : p.tables.exec = Jvm.exec) {own C : String} {index : Nat} {y : MethodName} {bytes : ByteArray} {maxL : Nat} {ret : Option FieldType}
    (hown : s.vm.findClass own = some m.cls) (hlink : (Cond.methodLink own index y).before args s = true) (hinst : (Cond.instanceMethod y).before args s = true) (hsel : (Cond.selects C y y).before args s = true)
    (hcode : (Cond.code y bytes maxL ret).before args s = true) (hy : y.cls ≠ "java/lang/invoke/MethodHandle" ∧ y.cls ≠ "java/lang/invoke/VarHandle")
    {W9 : Nat} {Pre : Pt → Array Value → Prop} {Post : Pt → Array Value → Option Value → Pt → Prop} {PostX : Pt → Array Value → Addr → Pt → Prop} (hK : vx_Back l R p e below s args y 3 W9 Pre Post PostX)
    {b : Addr} {cellB : Cell} (hcell : T.heap[b]? = some cellB) (hobj : cellB.vm.isStatics = false) (hcls : s.vm.findClass C = some cellB.cls)
    {g : JFrame} (hg : g.method = m) (hsize : g.locals.size = c.maxLocals) {argsL rest : List Value} (hlen : ∀ sig, parseMethodDescriptor y.desc = some sig → argsL.length = sig.parameters.length)
    (hstack : g.stack = argsL.reverse ++ .ref b :: rest) (hW : 2 * g.monitorRoom + (rest.map fun v => v.category).sum ≤ W9) (hdg : decode c.code g.pc = .ok (.invokevirtual index, 3))
    (hpre : ∀ vm₁, s.WarmedH vm₁ → Pre ⟨T.setVm vm₁, locs, cells, slots⟩ (Value.ref b :: argsL).toArray) :
    (∃ (v : Option Value) (vm₁ : Vm) (B : Pt), s.WarmedH vm₁ ∧ Stand p l e R s m args below meth c B.U B.locs B.cells B.slots ∧ Post ⟨T.setVm vm₁, locs, cells, slots⟩ (Value.ref b :: argsL).toArray v B ∧
      ∀ target, Steps p.tables e below (B.U.setTop { g with pc := g.pc + 3, stack := v.toList ++ rest }) target → Steps p.tables e below (T.setTop g) target) ∨
    (∃ (q : Addr) (vm₁ : Vm) (B : Pt), s.WarmedH vm₁ ∧ Stand p l e R s m args below meth c B.U B.locs B.cells B.slots ∧ PostX ⟨T.setVm vm₁, locs, cells, slots⟩ (Value.ref b :: argsL).toArray q B ∧
      Steps p.tables e below (T.setTop g) ((B.U.setTop { g with stack := rest }).pushFrame (.throwing q))) := by
  obtain ⟨mk, methM, hnamed, hmethM, hstM, habM⟩ := Cond.instanceMethod_spec hinst
  obtain ⟨methM', cM, hmethM', -, -, -, -, -, -, hsigM⟩ := Cond.code_spec hnamed hcode
  cases hmethM.symm.trans hmethM'
  obtain ⟨c2, r2, m2, q1, q2, q3, q4, kP, hkP, hkPi⟩ := Cond.selects_spec hsel
  cases hcls.symm.trans q1
  cases (State.methodFound?_of_named hnamed hy).symm.trans q2
  cases hnamed.symm.trans q3
  have hselP : selectMethod e.platform s.vm cellB.cls mk = .method mk := by rw [Launch.admits_selectMethod X.admits]; exact q4
  obtain ⟨vm₁, X₁, hstep₁⟩ := X.invokevirtual hexec hown hlink hnamed hmethM hstM hkP hkPi hy (a := b) (cell := cellB) hcell
    (fun z h => by rw [h] at hobj; cases hobj) hselP hmethM habM hkP hkPi (g := g) hg (argsL := argsL) (rest := rest) (hlen _ hsigM) hstack hdg
  rcases hK m meth c ⟨T.setVm vm₁, locs, cells, slots⟩ { g with stack := rest } (.invokevirtual index) mk (Value.ref b :: argsL).toArray X₁ hg hsize hdg hW (X₁.named hnamed) (hpre vm₁ X₁.warmed) with ⟨v, B, X', hpost, hsteps⟩ | ⟨q, B, X', hpost, hsteps⟩
  · exact Or.inl ⟨v, vm₁, B, X₁.warmed, X', hpost, fun target h => hstep₁ _ fun acts => by rw [doInvoke_state]; exact hsteps.trans h⟩
  · exact Or.inr ⟨q, vm₁, B, X₁.warmed, X', hpost, hstep₁ _ fun acts => by rw [doInvoke_state]; exact hsteps⟩
theorem vx_callS (X : Stand p l e R s m args below meth c T locs cells slots) (hexec : p.tables.exec = Jvm.exec) {own : String} {index : Nat} {y : MethodName} {bytes : ByteArray} {maxL : Nat} {ret : Option FieldType}
    (hown : s.vm.findClass own = some m.cls) (hlink : (Cond.methodLink own index y).before args s = true) (hstat : (Cond.static y).before args s = true) (hinit : (Cond.initialized y.cls).before args s = true)
    (hcode : (Cond.code y bytes maxL ret).before args s = true) (hy : y.cls ≠ "java/lang/invoke/MethodHandle" ∧ y.cls ≠ "java/lang/invoke/VarHandle")
    {W9 : Nat} {Pre : Pt → Array Value → Prop} {Post : Pt → Array Value → Option Value → Pt → Prop} {PostX : Pt → Array Value → Addr → Pt → Prop} (hK : vx_Back l R p e below s args y 3 W9 Pre Post PostX)
    {g : JFrame} (hg : g.method = m) (hsize : g.locals.size = c.maxLocals) {argsL rest : List Value} (hlen : ∀ sig, parseMethodDescriptor y.desc = some sig → argsL.length = sig.parameters.length)
    (hstack : g.stack = argsL.reverse ++ rest) (hW : 2 * g.monitorRoom + (rest.map fun v => v.category).sum ≤ W9) (hdg : decode c.code g.pc = .ok (.invokestatic index, 3))
    (hpre : ∀ vm₁, s.WarmedH vm₁ → Pre ⟨T.setVm vm₁, locs, cells, slots⟩ argsL.toArray) :
    (∃ (v : Option Value) (vm₁ : Vm) (B : Pt), s.WarmedH vm₁ ∧ Stand p l e R s m args below meth c B.U B.locs B.cells B.slots ∧ Post ⟨T.setVm vm₁, locs, cells, slots⟩ argsL.toArray v B ∧
      ∀ target, Steps p.tables e below (B.U.setTop { g with pc := g.pc + 3, stack := v.toList ++ rest }) target → Steps p.tables e below (T.setTop g) target) ∨
    (∃ (q : Addr) (vm₁ : Vm) (B : Pt), s.WarmedH vm₁ ∧ Stand p l e R s m args below meth c B.U B.locs B.cells B.slots ∧ PostX ⟨T.setVm vm₁, locs, cells, slots⟩ argsL.toArray q B ∧
      Steps p.tables e below (T.setTop g) ((B.U.setTop { g with stack := rest }).pushFrame (.throwing q))) := by
  obtain ⟨mk, hnamed⟩ := Cond.code_named hcode
  obtain ⟨methM, cM, hmethM, -, -, -, -, -, -, hsigM⟩ := Cond.code_spec hnamed hcode
  have hstatic : methM.isStatic = true := Cond.static_spec hnamed hmethM hstat
  obtain ⟨kP, hkP, -⟩ := className_of_methodNamed hnamed
  have hinitP : kP.init = .initialized := Cond.initialized_spec (findClass_of_methodNamed hnamed) hkP hinit
  obtain ⟨vm₁, X₁, hstep₁⟩ := X.invokestatic hexec hown hlink hnamed hmethM hstatic hkP hinitP hy (g := g) hg (argsL := argsL) (rest := rest) (hlen _ hsigM) hstack hdg
  rcases hK m meth c ⟨T.setVm vm₁, locs, cells, slots⟩ { g with stack := rest } (.invokestatic index) mk argsL.toArray X₁ hg hsize hdg hW (X₁.named hnamed) (hpre vm₁ X₁.warmed) with ⟨v, B, X', hpost, hsteps⟩ | ⟨q, B, X', hpost, hsteps⟩
  · exact Or.inl ⟨v, vm₁, B, X₁.warmed, X', hpost, fun target h => hstep₁ _ fun acts => by rw [doInvoke_state]; exact hsteps.trans h⟩
  · exact Or.inr ⟨q, vm₁, B, X₁.warmed, X', hpost, hstep₁ _ fun acts => by rw [doInvoke_state]; exact hsteps⟩
end Calls
theorem vx_cls {s : State} {T : State} {vm₁ : Vm} {E : String} {k : ClassId} (hW : s.WarmedH vm₁) (h : (T.setVm vm₁).vm.findClass E = some k) : s.vm.findClass E = some k := by
  have h1 : vm₁.findClass E = some k := h
  rw [hW.alike.findClass] at h1
  exact h1
/-- the method's frame g, with q thrown over it -/
def vx_W (p : Program) (l : Launch) (e : Env) (R : Room) (s : State) (m : MethodId) (args : Array Value) (below : List Frame) (meth : Method) (c : Code) (H : Heap) (locs : List Loc) (cells slots : Nat) (Q : State → Prop) (g : JFrame) (q : Addr) : Prop :=
  ∀ T : State, T.heap = H → Stand p l e R s m args below meth c T locs cells slots → ∃ t, Steps p.tables e below ((T.setTop g).pushFrame (.throwing q)) t ∧ Q t
def vx_Run (p : Program) (l : Launch) (e : Env) (R : Room) (s : State) (m : MethodId) (args : Array Value) (below : List Frame) (meth : Method) (c : Code) (H : Heap) (locs : List Loc) (cells slots mc ms : Nat) (g : JFrame) (rest : List Value) (Qa : State → Outcome → State → Prop) (XC : String → State → State → Prop) (free : Addr → Prop) : Prop :=
  ∀ T : State, T.heap = H → Stand p l e R s m args below meth c T locs cells slots →
    (∃ (v : Option Value) (st₀ t T' : State) (L : List Loc), st₀.heap = H ∧ Stand p l e R s m args below meth c T' (locs ++ L) (cells + mc) (slots + ms) ∧ (∀ q ∈ L, free q.base) ∧ T'.heap = t.heap ∧ T'.vm = t.vm ∧ Qa st₀ (.returned v) t ∧
      Goes p e below T g T' { g with pc := g.pc + 3, stack := v.toList ++ rest }) ∨
    (∃ (q : Addr) (st₀ t T' : State) (L : List Loc) (E : String) (ce : Cell), st₀.heap = H ∧ Stand p l e R s m args below meth c T' (locs ++ L) (cells + mc) (slots + ms) ∧ (∀ z ∈ L, free z.base) ∧ T'.heap = t.heap ∧ T'.vm = t.vm ∧ XC E st₀ t ∧ t.heap[q]? = some ce ∧ ce.vm = .none ∧ s.vm.findClass E = some ce.cls ∧
      Steps p.tables e below (T.setTop g) ((T'.setTop { g with stack := rest }).pushFrame (.throwing q)))
def vx_X {S : Type} (px : S → Prop) (B : String → S → State → Prop) (A : Nat → Prop) : String → State → State → Prop := fun E st t => ∃ u : S, px u ∧ B E u t ∧ va_F A st t
section Runs
variable {p : Program} {l : Launch} {e : Env} {R : Room} {s : State} {m : MethodId} {args : Array Value} {below : List Frame} {meth : Method} {c : Code} {H : Heap} {locs : List Loc} {cells slots : Nat}
variable {y : MethodName} {bytes cc : ByteArray} {maxL nL mc ms n index : Nat} {ret : Option FieldType} {ws : List Cond} {rm : Room} {Pc : Array Value → State → Prop} {Qc : Array Value → State → Outcome → State → Prop} {XC : String → State → State → Prop} {free : Addr → Prop} {Ts : List Cond} {own C : String} {b : Addr} {As rest : List Value} {g : JFrame}
theorem vx_callBack (cb : CallB R s args own index y bytes maxL ret ws rm mc ms n) (hM : vx_Met l y ws rm Pc Qc XC mc ms free) (hbl : FrameBlind Pc) : vx_Back l R p e below s args y 3 8 (PreOf R mc ms Pc) (PostOf Qc mc ms free) (vx_Post XC mc ms free) := by
  obtain ⟨hrc, hrs, hfr, hlo, hws, hcw, -, hini, -⟩ := cb
  exact vx_back (bytes := bytes) (maxL := maxL) (ret := ret) hM hbl hrc hrs hfr hlo hws hcw (fun a' U hW => word_at hW (Or.inl (by first | rfl | simp [Cond.onTables, Cond.keeps, Cond.steady])) hini)
theorem vx_runV (S : CallFix p m c cc nL s args Ts own) (hM : vx_Met l y ws rm Pc Qc XC mc ms free) (cw : CallW R s args own C index y bytes maxL ret ws rm mc ms n) (hp : PreV s H C b Pc As)
    (hg : g.method = m) (hn : As.length = n) (hsize : g.locals.size = nL) (hstack : g.stack = As.reverse ++ .ref b :: rest) (hW : 2 * g.monitorRoom + (rest.map fun v => v.category).sum ≤ 8) (hdg : decode cc g.pc = .ok (.invokevirtual index, 3)) (hf : cells + mc ≤ R.cells ∧ slots + ms ≤ R.slots) :
    vx_Run p l e R s m args below meth c H locs cells slots mc ms g rest (Qc (Value.ref b :: As).toArray) XC free := by
  have hK : vx_Back l R p e below s args y 3 8 (PreOf R mc ms Pc) (PostOf Qc mc ms free) (vx_Post XC mc ms free) := vx_callBack cw.1 hM hp.1
  obtain ⟨⟨-, -, -, -, -, -, hcode, -, hy, hlen, hl⟩, hin, hse⟩ := cw
  obtain ⟨hx, hb, hml, ho, -⟩ := S
  obtain ⟨-, ⟨cellB, hcB, hoB, hclB⟩, hPc⟩ := hp
  intro T hT X
  rcases vx_callV X hx (C := C) (bytes := bytes) (maxL := maxL) (ret := ret) ho hl hin hse hcode hy hK (by rw [hT]; exact hcB) hoB hclB hg (hsize.trans hml.symm) (argsL := As) (rest := rest) (fun sig h => hn.trans (hlen sig h)) hstack hW (by rw [hb]; exact hdg)
    (fun vm₁ hW₁ => ⟨hf.1, hf.2, hPc (T.setVm vm₁) hT hW₁⟩) with ⟨v, vm₁, ⟨U', l2, c2, s2⟩, hW₁, X', ⟨g', mk, t, L, e1, e2, hq, h1, hL, h2, h3⟩, st⟩ | ⟨q, vm₁, ⟨U', l2, c2, s2⟩, hW₁, X', ⟨g', mk, t, L, E, ce, e1, e2, hq, hce, hcv, hcl, h1, hL, h2, h3⟩, st⟩
  · dsimp only [Pt.U, Pt.locs, Pt.cells, Pt.slots] at X' e1 e2 h1 h2 h3 st
    subst h1; subst h2; subst h3
    exact Or.inl ⟨v, (T.setVm vm₁).calling g' mk (Value.ref b :: As).toArray, t, U', L, hT, X', hL, e1, e2, hq, st⟩
  · dsimp only [Pt.U, Pt.locs, Pt.cells, Pt.slots] at X' e1 e2 h1 h2 h3 st hcl
    subst h1; subst h2; subst h3
    exact Or.inr ⟨q, (T.setVm vm₁).calling g' mk (Value.ref b :: As).toArray, t, U', L, E, ce, hT, X', hL, e1, e2, hq, hce, hcv, vx_cls hW₁ hcl, st⟩
theorem vx_runS (S : CallFix p m c cc nL s args Ts own) (hM : vx_Met l y ws rm Pc Qc XC mc ms free) (cw : CallB R s args own index y bytes maxL ret ws rm mc ms n ∧ (Cond.static y).before args s = true) (hp : PreS s H Pc As)
    (hg : g.method = m) (hn : As.length = n) (hsize : g.locals.size = nL) (hstack : g.stack = As.reverse ++ rest) (hW : 2 * g.monitorRoom + (rest.map fun v => v.category).sum ≤ 8) (hdg : decode cc g.pc = .ok (.invokestatic index, 3)) (hf : cells + mc ≤ R.cells ∧ slots + ms ≤ R.slots) :
    vx_Run p l e R s m args below meth c H locs cells slots mc ms g rest (Qc As.toArray) XC free := by
  have hK : vx_Back l R p e below s args y 3 8 (PreOf R mc ms Pc) (PostOf Qc mc ms free) (vx_Post XC mc ms free) := vx_callBack cw.1 hM hp.1
  obtain ⟨⟨-, -, -, -, -, -, hcode, hini, hy, hlen, hl⟩, hstt⟩ := cw
  obtain ⟨hx, hb, hml, ho, -⟩ := S
  intro T hT X
  rcases vx_callS X hx (bytes := bytes) (maxL := maxL) (ret := ret) ho hl hstt hini hcode hy hK hg (hsize.trans hml.symm) (argsL := As) (rest := rest) (fun sig h => hn.trans (hlen sig h)) hstack hW (by rw [hb]; exact hdg)
    (fun vm₁ hW₁ => ⟨hf.1, hf.2, hp.2 (T.setVm vm₁) hT hW₁⟩) with ⟨v, vm₁, ⟨U', l2, c2, s2⟩, hW₁, X', ⟨g', mk, t, L, e1, e2, hq, h1, hL, h2, h3⟩, st⟩ | ⟨q, vm₁, ⟨U', l2, c2, s2⟩, hW₁, X', ⟨g', mk, t, L, E, ce, e1, e2, hq, hce, hcv, hcl, h1, hL, h2, h3⟩, st⟩
  · dsimp only [Pt.U, Pt.locs, Pt.cells, Pt.slots] at X' e1 e2 h1 h2 h3 st
    subst h1; subst h2; subst h3
    exact Or.inl ⟨v, (T.setVm vm₁).calling g' mk As.toArray, t, U', L, hT, X', hL, e1, e2, hq, st⟩
  · dsimp only [Pt.U, Pt.locs, Pt.cells, Pt.slots] at X' e1 e2 h1 h2 h3 st hcl
    subst h1; subst h2; subst h3
    exact Or.inr ⟨q, (T.setVm vm₁).calling g' mk As.toArray, t, U', L, E, ce, hT, X', hL, e1, e2, hq, hce, hcv, vx_cls hW₁ hcl, st⟩
end Runs
section Rows
variable {p : Program} {l : Launch} {e : Env} {R : Room} {s : State} {m : MethodId} {args : Array Value} {below : List Frame} {meth : Method} {c : Code} {H : Heap} {locs : List Loc} {cells slots : Nat} {Q : State → Prop}
variable {mc ms : Nat} {free : Addr → Prop} {A0 A1 : Nat → Prop} {H0 : Heap} {a : Array Value} {pc : Nat} {ls : Array Slot} {st0 rest : List Value}
theorem vx_keep {st₀ t T' : State} {L : List Loc} (h0 : st₀.heap = H) (e1 : T'.heap = t.heap) (hS : va_S A0 H0 H locs) (hA : ∀ q, q < H.size → A1 q → A0 q) (hf : ∀ q, free q → A0 q) (hL : ∀ q ∈ L, free q.base) (hF : va_F A1 st₀ t) :
    H.size ≤ T'.heap.size ∧ (∀ q : Nat, q < H.size → ¬ A1 q → T'.heap[q]? = H[q]?) ∧ va_S A0 H0 T'.heap (locs ++ L) := by
  obtain ⟨hz, hk⟩ := hF
  rw [h0] at hz hk
  exact ⟨by rw [e1]; exact hz, fun q h1 h2 => by rw [e1]; exact hk q h1 h2,
    ⟨Nat.le_trans hS.1 (by rw [e1]; exact hz), fun q h1 h2 => by rw [e1, hk q (Nat.lt_of_lt_of_le h1 hS.1) (fun z => h2 (hA q (Nat.lt_of_lt_of_le h1 hS.1) z))]; exact hS.2.1 q h1 h2, fun q hq => by
      rcases List.mem_append.mp hq with h | h
      · exact hS.2.2 q h
      · exact hf _ (hL q h)⟩⟩
theorem vx_calli {S SX : Type} {post : Int32 → S → Prop} {px : SX → Prop} {B : S → State → Prop} {BX : String → SX → State → Prop} {AX : Nat → Prop} (hr : vx_Run p l e R s m args below meth c H locs cells slots mc ms (F0 m pc ls st0) rest (va_Qi post B A1 a) (vx_X px BX AX) free) (hS : va_S A0 H0 H locs) (hA : ∀ q, q < H.size → A1 q → A0 q) (hf : ∀ q, free q → A0 q) (hAX : ∀ q, q < H.size → AX q → A0 q)
    (kx : ∀ (E : String) (ce : Cell) (q9 : Addr) (u : SX) (t : State) (H1 : Heap) (locs1 : List Loc), t.heap = H1 → s.vm.Alike t.vm → px u → BX E u t → H.size ≤ H1.size → (∀ q : Nat, q < H.size → ¬ AX q → H1[q]? = H[q]?) → va_S A0 H0 H1 locs1 → H1[q9]? = some ce → ce.vm = .none → s.vm.findClass E = some ce.cls → vx_W p l e R s m args below meth c H1 locs1 (cells + mc) (slots + ms) Q (F0 m pc ls rest) q9)
    (kk : ∀ (r : Int32) (u : S) (t : State) (H1 : Heap) (locs1 : List Loc), t.heap = H1 → s.vm.Alike t.vm → post r u → B u t → H.size ≤ H1.size → (∀ q : Nat, q < H.size → ¬ A1 q → H1[q]? = H[q]?) → va_S A0 H0 H1 locs1 → W p l e R s m args below meth c H1 locs1 (cells + mc) (slots + ms) Q (F0 m (pc + 3) ls (.int r :: rest))) : W p l e R s m args below meth c H locs cells slots Q (F0 m pc ls st0) := by
  intro T hT X
  rcases hr T hT X with ⟨v, st₀, t, T', L, h0, X', hL, e1, e2, ⟨⟨r, u, hv, hp, hb⟩, hF⟩, st⟩ | ⟨q, st₀, t, T', L, E, ce, h0, X', hL, e1, e2, ⟨u, hp, hb, hF⟩, hce, hcv, hcl, st⟩
  · cases hv
    obtain ⟨k1, k2, k3⟩ := vx_keep h0 e1 hS hA hf hL hF
    obtain ⟨t2, a1, b1⟩ := kk r u t T'.heap (locs ++ L) e1.symm (by rw [← e2]; exact X'.warmed.alike) hp hb k1 k2 k3 T' rfl X'
    exact ⟨t2, st t2 a1, b1⟩
  · obtain ⟨k1, k2, k3⟩ := vx_keep h0 e1 hS hAX hf hL hF
    obtain ⟨t2, a1, b1⟩ := kx E ce q u t T'.heap (locs ++ L) e1.symm (by rw [← e2]; exact X'.warmed.alike) hp hb k1 k2 k3 (by rw [e1]; exact hce) hcv hcl T' rfl X'
    exact ⟨t2, st.trans a1, b1⟩
theorem vx_calll {S SX : Type} {post : Int64 → S → Prop} {px : SX → Prop} {B : S → State → Prop} {BX : String → SX → State → Prop} {AX : Nat → Prop} (hr : vx_Run p l e R s m args below meth c H locs cells slots mc ms (F0 m pc ls st0) rest (va_Ql post B A1 a) (vx_X px BX AX) free) (hS : va_S A0 H0 H locs) (hA : ∀ q, q < H.size → A1 q → A0 q) (hf : ∀ q, free q → A0 q) (hAX : ∀ q, q < H.size → AX q → A0 q)
    (kx : ∀ (E : String) (ce : Cell) (q9 : Addr) (u : SX) (t : State) (H1 : Heap) (locs1 : List Loc), t.heap = H1 → s.vm.Alike t.vm → px u → BX E u t → H.size ≤ H1.size → (∀ q : Nat, q < H.size → ¬ AX q → H1[q]? = H[q]?) → va_S A0 H0 H1 locs1 → H1[q9]? = some ce → ce.vm = .none → s.vm.findClass E = some ce.cls → vx_W p l e R s m args below meth c H1 locs1 (cells + mc) (slots + ms) Q (F0 m pc ls rest) q9)
    (kk : ∀ (r : Int64) (u : S) (t : State) (H1 : Heap) (locs1 : List Loc), t.heap = H1 → s.vm.Alike t.vm → post r u → B u t → H.size ≤ H1.size → (∀ q : Nat, q < H.size → ¬ A1 q → H1[q]? = H[q]?) → va_S A0 H0 H1 locs1 → W p l e R s m args below meth c H1 locs1 (cells + mc) (slots + ms) Q (F0 m (pc + 3) ls (.long r :: rest))) : W p l e R s m args below meth c H locs cells slots Q (F0 m pc ls st0) := by
  intro T hT X
  rcases hr T hT X with ⟨v, st₀, t, T', L, h0, X', hL, e1, e2, ⟨⟨r, u, hv, hp, hb⟩, hF⟩, st⟩ | ⟨q, st₀, t, T', L, E, ce, h0, X', hL, e1, e2, ⟨u, hp, hb, hF⟩, hce, hcv, hcl, st⟩
  · cases hv
    obtain ⟨k1, k2, k3⟩ := vx_keep h0 e1 hS hA hf hL hF
    obtain ⟨t2, a1, b1⟩ := kk r u t T'.heap (locs ++ L) e1.symm (by rw [← e2]; exact X'.warmed.alike) hp hb k1 k2 k3 T' rfl X'
    exact ⟨t2, st t2 a1, b1⟩
  · obtain ⟨k1, k2, k3⟩ := vx_keep h0 e1 hS hAX hf hL hF
    obtain ⟨t2, a1, b1⟩ := kx E ce q u t T'.heap (locs ++ L) e1.symm (by rw [← e2]; exact X'.warmed.alike) hp hb k1 k2 k3 (by rw [e1]; exact hce) hcv hcl T' rfl X'
    exact ⟨t2, st.trans a1, b1⟩
theorem vx_callf {S SX : Type} {post : UInt32 → S → Prop} {px : SX → Prop} {B : S → State → Prop} {BX : String → SX → State → Prop} {AX : Nat → Prop} (hr : vx_Run p l e R s m args below meth c H locs cells slots mc ms (F0 m pc ls st0) rest (va_Qf post B A1 a) (vx_X px BX AX) free) (hS : va_S A0 H0 H locs) (hA : ∀ q, q < H.size → A1 q → A0 q) (hf : ∀ q, free q → A0 q) (hAX : ∀ q, q < H.size → AX q → A0 q)
    (kx : ∀ (E : String) (ce : Cell) (q9 : Addr) (u : SX) (t : State) (H1 : Heap) (locs1 : List Loc), t.heap = H1 → s.vm.Alike t.vm → px u → BX E u t → H.size ≤ H1.size → (∀ q : Nat, q < H.size → ¬ AX q → H1[q]? = H[q]?) → va_S A0 H0 H1 locs1 → H1[q9]? = some ce → ce.vm = .none → s.vm.findClass E = some ce.cls → vx_W p l e R s m args below meth c H1 locs1 (cells + mc) (slots + ms) Q (F0 m pc ls rest) q9)
    (kk : ∀ (r : UInt32) (u : S) (t : State) (H1 : Heap) (locs1 : List Loc), t.heap = H1 → s.vm.Alike t.vm → post r u → B u t → H.size ≤ H1.size → (∀ q : Nat, q < H.size → ¬ A1 q → H1[q]? = H[q]?) → va_S A0 H0 H1 locs1 → W p l e R s m args below meth c H1 locs1 (cells + mc) (slots + ms) Q (F0 m (pc + 3) ls (.float r :: rest))) : W p l e R s m args below meth c H locs cells slots Q (F0 m pc ls st0) := by
  intro T hT X
  rcases hr T hT X with ⟨v, st₀, t, T', L, h0, X', hL, e1, e2, ⟨⟨r, u, hv, hp, hb⟩, hF⟩, st⟩ | ⟨q, st₀, t, T', L, E, ce, h0, X', hL, e1, e2, ⟨u, hp, hb, hF⟩, hce, hcv, hcl, st⟩
  · cases hv
    obtain ⟨k1, k2, k3⟩ := vx_keep h0 e1 hS hA hf hL hF
    obtain ⟨t2, a1, b1⟩ := kk r u t T'.heap (locs ++ L) e1.symm (by rw [← e2]; exact X'.warmed.alike) hp hb k1 k2 k3 T' rfl X'
    exact ⟨t2, st t2 a1, b1⟩
  · obtain ⟨k1, k2, k3⟩ := vx_keep h0 e1 hS hAX hf hL hF
    obtain ⟨t2, a1, b1⟩ := kx E ce q u t T'.heap (locs ++ L) e1.symm (by rw [← e2]; exact X'.warmed.alike) hp hb k1 k2 k3 (by rw [e1]; exact hce) hcv hcl T' rfl X'
    exact ⟨t2, st.trans a1, b1⟩
theorem vx_calld {S SX : Type} {post : UInt64 → S → Prop} {px : SX → Prop} {B : S → State → Prop} {BX : String → SX → State → Prop} {AX : Nat → Prop} (hr : vx_Run p l e R s m args below meth c H locs cells slots mc ms (F0 m pc ls st0) rest (va_Qd post B A1 a) (vx_X px BX AX) free) (hS : va_S A0 H0 H locs) (hA : ∀ q, q < H.size → A1 q → A0 q) (hf : ∀ q, free q → A0 q) (hAX : ∀ q, q < H.size → AX q → A0 q)
    (kx : ∀ (E : String) (ce : Cell) (q9 : Addr) (u : SX) (t : State) (H1 : Heap) (locs1 : List Loc), t.heap = H1 → s.vm.Alike t.vm → px u → BX E u t → H.size ≤ H1.size → (∀ q : Nat, q < H.size → ¬ AX q → H1[q]? = H[q]?) → va_S A0 H0 H1 locs1 → H1[q9]? = some ce → ce.vm = .none → s.vm.findClass E = some ce.cls → vx_W p l e R s m args below meth c H1 locs1 (cells + mc) (slots + ms) Q (F0 m pc ls rest) q9)
    (kk : ∀ (r : UInt64) (u : S) (t : State) (H1 : Heap) (locs1 : List Loc), t.heap = H1 → s.vm.Alike t.vm → post r u → B u t → H.size ≤ H1.size → (∀ q : Nat, q < H.size → ¬ A1 q → H1[q]? = H[q]?) → va_S A0 H0 H1 locs1 → W p l e R s m args below meth c H1 locs1 (cells + mc) (slots + ms) Q (F0 m (pc + 3) ls (.double r :: rest))) : W p l e R s m args below meth c H locs cells slots Q (F0 m pc ls st0) := by
  intro T hT X
  rcases hr T hT X with ⟨v, st₀, t, T', L, h0, X', hL, e1, e2, ⟨⟨r, u, hv, hp, hb⟩, hF⟩, st⟩ | ⟨q, st₀, t, T', L, E, ce, h0, X', hL, e1, e2, ⟨u, hp, hb, hF⟩, hce, hcv, hcl, st⟩
  · cases hv
    obtain ⟨k1, k2, k3⟩ := vx_keep h0 e1 hS hA hf hL hF
    obtain ⟨t2, a1, b1⟩ := kk r u t T'.heap (locs ++ L) e1.symm (by rw [← e2]; exact X'.warmed.alike) hp hb k1 k2 k3 T' rfl X'
    exact ⟨t2, st t2 a1, b1⟩
  · obtain ⟨k1, k2, k3⟩ := vx_keep h0 e1 hS hAX hf hL hF
    obtain ⟨t2, a1, b1⟩ := kx E ce q u t T'.heap (locs ++ L) e1.symm (by rw [← e2]; exact X'.warmed.alike) hp hb k1 k2 k3 (by rw [e1]; exact hce) hcv hcl T' rfl X'
    exact ⟨t2, st.trans a1, b1⟩
theorem vx_callv {S SX : Type} {post : S → Prop} {px : SX → Prop} {B : S → State → Prop} {BX : String → SX → State → Prop} {AX : Nat → Prop} (hr : vx_Run p l e R s m args below meth c H locs cells slots mc ms (F0 m pc ls st0) rest (va_Qv post B A1 a) (vx_X px BX AX) free) (hS : va_S A0 H0 H locs) (hA : ∀ q, q < H.size → A1 q → A0 q) (hf : ∀ q, free q → A0 q) (hAX : ∀ q, q < H.size → AX q → A0 q)
    (kx : ∀ (E : String) (ce : Cell) (q9 : Addr) (u : SX) (t : State) (H1 : Heap) (locs1 : List Loc), t.heap = H1 → s.vm.Alike t.vm → px u → BX E u t → H.size ≤ H1.size → (∀ q : Nat, q < H.size → ¬ AX q → H1[q]? = H[q]?) → va_S A0 H0 H1 locs1 → H1[q9]? = some ce → ce.vm = .none → s.vm.findClass E = some ce.cls → vx_W p l e R s m args below meth c H1 locs1 (cells + mc) (slots + ms) Q (F0 m pc ls rest) q9)
    (kk : ∀ (u : S) (t : State) (H1 : Heap) (locs1 : List Loc), t.heap = H1 → s.vm.Alike t.vm → post u → B u t → H.size ≤ H1.size → (∀ q : Nat, q < H.size → ¬ A1 q → H1[q]? = H[q]?) → va_S A0 H0 H1 locs1 → W p l e R s m args below meth c H1 locs1 (cells + mc) (slots + ms) Q (F0 m (pc + 3) ls (rest))) : W p l e R s m args below meth c H locs cells slots Q (F0 m pc ls st0) := by
  intro T hT X
  rcases hr T hT X with ⟨v, st₀, t, T', L, h0, X', hL, e1, e2, ⟨⟨u, hv, hp, hb⟩, hF⟩, st⟩ | ⟨q, st₀, t, T', L, E, ce, h0, X', hL, e1, e2, ⟨u, hp, hb, hF⟩, hce, hcv, hcl, st⟩
  · cases hv
    obtain ⟨k1, k2, k3⟩ := vx_keep h0 e1 hS hA hf hL hF
    obtain ⟨t2, a1, b1⟩ := kk u t T'.heap (locs ++ L) e1.symm (by rw [← e2]; exact X'.warmed.alike) hp hb k1 k2 k3 T' rfl X'
    exact ⟨t2, st t2 a1, b1⟩
  · obtain ⟨k1, k2, k3⟩ := vx_keep h0 e1 hS hAX hf hL hF
    obtain ⟨t2, a1, b1⟩ := kx E ce q u t T'.heap (locs ++ L) e1.symm (by rw [← e2]; exact X'.warmed.alike) hp hb k1 k2 k3 (by rw [e1]; exact hce) hcv hcl T' rfl X'
    exact ⟨t2, st.trans a1, b1⟩
/-- caught by the row x of this method's table; the rows ahead don't take it -/
theorem vx_catch {own name : String} {E : String} {ce : Cell} {q : Addr} (hown : s.vm.findClass own = some m.cls) (pre : List ExceptionTableEntry) (x : ExceptionTableEntry) (suf : List ExceptionTableEntry) (hsplit : c.exceptionTable.toList = pre ++ x :: suf)
    (hpass : ∀ z ∈ pre, covers z pc = false ∨ (z.catchType ≠ 0 ∧ ∃ nm : String, (Cond.classLink own z.catchType nm).before args s = true ∧ va_Nc E nm s)) (hx : covers x pc = true) (h0 : x.catchType ≠ 0)
    (hlink : (Cond.classLink own x.catchType name).before args s = true) (hcast : (Cond.castable E name).before args s = true) (hcell : H[q]? = some ce) (hv : ce.vm = .none) (hcl : s.vm.findClass E = some ce.cls)
    (kk : W p l e R s m args below meth c H locs cells slots Q (F0 m x.handlerPc ls [.ref q])) : vx_W p l e R s m args below meth c H locs cells slots Q (F0 m pc ls rest) q := by
  intro T hT X
  have hpl : e.platform.magicAccessors = ({} : Platform).magicAccessors := by rw [X.admits.platform]
  obtain ⟨c3, c4, hc3, hc4, hasg⟩ := Cond.castable_spec hcast
  cases Option.some.inj (hc3.symm.trans hcl)
  obtain ⟨c5, hc5, hcl5⟩ := Cond.classLink_spec hown hlink e.platform hpl
  cases Option.some.inj (hc4.symm.trans hc5)
  obtain ⟨vm', X', st⟩ := X.thenCaughtThrough q (g := F0 m pc ls rest) rfl (Steps.refl _) (by rw [hT]; exact hcell) (by rw [hv]; rfl) (by obtain ⟨k9, h9, -⟩ := Vm.findClass_spec hcl; exact ⟨k9, h9⟩) pre x suf hsplit
    (fun z hz => by
      rcases hpass z hz with h | ⟨hz0, nm, hl1, hn1⟩
      · exact Or.inl h
      · obtain ⟨c6, hc6, hcl6⟩ := Cond.classLink_spec hown hl1 e.platform hpl
        obtain ⟨a8, b8, h1, h2, h3⟩ := hn1
        cases Option.some.inj (h1.symm.trans hcl)
        cases Option.some.inj (h2.symm.trans hc6)
        exact Or.inr ⟨hz0, _, hcl6, h3⟩) hx (Or.inr ⟨h0, c4, hcl5, hasg⟩)
  obtain ⟨t, a1, b1⟩ := kk (T.setVm vm') hT X'
  exact ⟨t, st.trans a1, b1⟩
end Rows
section Ends
variable {p : Program} {l : Launch} {e : Env} {R : Room} {s : State} {m : MethodId} {args : Array Value} {below : List Frame} {meth : Method} {c : Code} {H : Heap} {locs : List Loc} {cells slots : Nat} {Q : State → Prop}
variable {mc ms : Nat} {free : Addr → Prop} {A0 A1 : Nat → Prop} {H0 : Heap} {a : Array Value} {ls : Array Slot} {st0 rest : List Value}
variable {Qc : Array Value → State → Outcome → State → Prop} {XC : String → State → State → Prop}
/-- what a body that may throw owes at its end -/
def vx_MQ (below : List Frame) (Qc : Array Value → State → Outcome → State → Prop) (XC : String → State → State → Prop) (a : Array Value) (s : State) (mc ms : Nat) (free : Addr → Prop) : State → Prop := fun t =>
  ∃ o, t.status = .running ∧ Ended t below o ∧ vx_Q Qc XC mc ms free a s o t
theorem vx_ret {g : JFrame} {mc ms : Nat} (k : W p l e R s m args below meth c H locs cells slots (MQ below Qc args s mc ms free) g) : W p l e R s m args below meth c H locs cells slots (vx_MQ below Qc XC args s mc ms free) g := by
  intro T hT X
  obtain ⟨t, a1, o, b1, b2, b3, b4⟩ := k T hT X
  exact ⟨t, a1, o, b1, b2, Or.inl ⟨b3, b4⟩⟩
/-- not caught here: it goes on to the caller -/
theorem vx_widen {g : JFrame} {q : Addr} {k n : Nat} (h1 : cells ≤ k) (h2 : slots ≤ n) (kk : vx_W p l e R s m args below meth c H locs k n Q g q) : vx_W p l e R s m args below meth c H locs cells slots Q g q := fun T hT X => kk T hT (stand_widen X h1 h2)
theorem vx_out {pc : Nat} {E : String} {ce : Cell} {q : Addr} {mc ms : Nat} (hout : ∀ x ∈ c.exceptionTable.toList, covers x pc = false) (hlocks : meth.locks = false) (hcell : H[q]? = some ce) (hv : ce.vm = .none) (hcl : s.vm.findClass E = some ce.cls)
    (hx : ∀ t : State, t.heap = H → s.vm.Alike t.vm → XC E s t) (hf : ∀ z ∈ locs, free z.base) (hc : cells ≤ mc) (hs : slots ≤ ms) :
    vx_W p l e R s m args below meth c H locs cells slots (vx_MQ below Qc XC args s mc ms free) (F0 m pc ls rest) q := by
  intro T hT X
  obtain ⟨st1, hrun, hend, hW, hsm⟩ := X.leaveThrown q (g := F0 m pc ls rest) rfl rfl rfl hout hlocks
  have hcell9 : (T.setFrames (.throwing q :: below)).heap[q]? = some ce := by
    show T.heap[q]? = some ce
    rw [hT]; exact hcell
  exact ⟨_, st1, .threw q, hrun, hend, Or.inr ⟨q, rfl, E, ce, locs, hx _ hT hW.alike, hcell9, hv, hcl, hW, hsm.mono hc hs, hf⟩⟩
theorem vx_frame {U : State} {k n : Nat} (h : s.sameButNew ({ U with vm := s.vm } : State) locs k n) : s.heap.size ≤ U.heap.size ∧ ∀ q : Nat, q < s.heap.size → (∀ z ∈ locs, z.base ≠ q) → U.heap[q]? = s.heap[q]? := by
  obtain ⟨-, h2, -, -, -, h6⟩ := h
  refine ⟨h2, fun q hq hz => ?_⟩
  obtain ⟨c9, e1, e2, e3, e4⟩ := h6 q _ (Array.getElem?_eq_getElem hq)
  have hs : c9.slots = (s.heap[q]).slots := Array.ext_getElem? fun i => e4 i fun hm => hz _ hm rfl
  have h9 : c9 = s.heap[q] := by
    rw [hs] at e2
    exact e2
  have e5 : U.heap[q]? = some c9 := e1
  rw [e5, h9, Array.getElem?_eq_getElem hq]
/-- the words of a throw but the four that speak of the heap -/
def vx_no (w : Cond) : Bool := decide (w ≠ .isRef (.static Bundle.tN "UNASSIGNED_STACK" Bundle.steD)) && decide (w ≠ .isRef (.static Bundle.tN "SUPPRESSED_SENTINEL" Bundle.listD)) && decide (w ≠ .laysStatic Bundle.tN "UNASSIGNED_STACK" Bundle.steD) && decide (w ≠ .laysStatic Bundle.tN "SUPPRESSED_SENTINEL" Bundle.listD)
def vx_at0 (own : String) (ic : Nat) (X : String) (names : List String) : List Cond := (Bundle.ownAtoms0 own ic X names).filter vx_no
def vx_atS (own : String) (ic : Nat) (X : String) (names : List String) : List Cond := (Bundle.ownAtoms own ic X names).filter vx_no
/-- a word that the tables alone decide, or a good one -/
def vx_ot (w : Cond) : Bool := w.onTables || goodWord w
theorem vx_ot_at {args a' : Array Value} {s U : State} {w : Cond} (hW : s.WarmedH U.vm) (hvm : s.vm = U.vm) (hg : vx_ot w = true) (h : w.before args s = true) : w.before a' U = true := by
  simp only [vx_ot, Bool.or_eq_true] at hg
  rcases hg with hg | hg
  · exact va_tabs hg hvm h
  · exact word_at hW (good_of_word hg) h
/-- a list's words: the good ones out of the method's own list, the others by premises of their own -/
theorem vx_hat {args : Array Value} {s : State} {L B : List Cond} (h1 : ∀ w ∈ L.filter goodWord, w.before args s = true) (h2 : ∀ w ∈ L.filter (fun w => !goodWord w), w ∈ B) (h3 : ∀ w ∈ B, w.before args s = true) : ∀ w ∈ L, w.before args s = true := by
  intro w hw
  by_cases g : goodWord w = true
  · exact h1 w (List.mem_filter.mpr ⟨hw, g⟩)
  · refine h3 w (h2 w (List.mem_filter.mpr ⟨hw, ?_⟩))
    show (!goodWord w) = true
    cases hgw : goodWord w
    · rfl
    · exact absurd hgw g
theorem vx_c {args : Array Value} {s : State} {w : Cond} {B : List Cond} (h : w.before args s = true) (t : ∀ w ∈ B, w.before args s = true) : ∀ w' ∈ w :: B, w'.before args s = true := fun w' h' => (List.mem_cons.mp h').elim (fun e => by rw [e]; exact h) (t w')
theorem vx_n {args : Array Value} {s : State} : ∀ w ∈ ([] : List Cond), w.before args s = true := fun _ h => nomatch h
theorem vx_own {args : Array Value} {s : State} {L : List Cond} (h1 : ∀ w ∈ L.filter vx_no, w.before args s = true)
    (hU : (Cond.isRef (.static Bundle.tN "UNASSIGNED_STACK" Bundle.steD)).before args s = true) (hN : (Cond.isRef (.static Bundle.tN "SUPPRESSED_SENTINEL" Bundle.listD)).before args s = true)
    (lU : (Cond.laysStatic Bundle.tN "UNASSIGNED_STACK" Bundle.steD).before args s = true) (lN : (Cond.laysStatic Bundle.tN "SUPPRESSED_SENTINEL" Bundle.listD).before args s = true) : ∀ w ∈ L, w.before args s = true := by
  intro w hw
  by_cases e1 : w = .isRef (.static Bundle.tN "UNASSIGNED_STACK" Bundle.steD)
  · rw [e1]; exact hU
  · by_cases e2 : w = .isRef (.static Bundle.tN "SUPPRESSED_SENTINEL" Bundle.listD)
    · rw [e2]; exact hN
    · by_cases e3 : w = .laysStatic Bundle.tN "UNASSIGNED_STACK" Bundle.steD
      · rw [e3]; exact lU
      · by_cases e4 : w = .laysStatic Bundle.tN "SUPPRESSED_SENTINEL" Bundle.listD
        · rw [e4]; exact lN
        · exact h1 w (List.mem_filter.mpr ⟨hw, by unfold vx_no; rw [decide_eq_true e1, decide_eq_true e2, decide_eq_true e3, decide_eq_true e4]; rfl⟩)
/-- where a static field lies, its class's statics cell in H -/
def vx_L (C n d : String) (A : Nat → Prop) (U : State) (H : Heap) : Prop := ∃ (c : ClassId) (k : Class) (i : Nat) (f : Field) (a : Nat) (cell : Cell), U.vm.findClass C = some c ∧ U.fieldFound? C n d = some (c, k, i, f) ∧ f.isStatic = true ∧ k.statics = some a ∧ H[a]? = some cell ∧ cell.vm.isStatics = true ∧ cell.cls = c ∧ f.slot < cell.slots.size ∧ k.staticTypes[f.slot]? = some f.type ∧ ¬ A a
theorem vx_L.moved {C n d : String} {A : Nat → Prop} {u U : State} {H : Heap} (hvm : u.vm.Alike U.vm) (h : vx_L C n d A u H) : vx_L C n d A U H := by
  obtain ⟨c, k, i, f, a, cell, h1, h2, h3, h4, h5, h6, h7, h8, h9, h10⟩ := h
  obtain ⟨k', hi', he⟩ := State.fieldFound?_setVm hvm h2
  exact ⟨c, k', i, f, a, cell, by rw [hvm.findClass]; exact h1, hi', h3, by rw [he]; exact h4, h5, h6, h7, h8, by rw [he]; exact h9, h10⟩
theorem vx_L.kept {C n d : String} {A : Nat → Prop} {U : State} {H H1 : Heap} (h : vx_L C n d A U H) (hq : ∀ a : Nat, a < H.size → ¬ A a → H1[a]? = H[a]?) : vx_L C n d A U H1 := by
  obtain ⟨c, k, i, f, a, cell, h1, h2, h3, h4, h5, h6, h7, h8, h9, h10⟩ := h
  exact ⟨c, k, i, f, a, cell, h1, h2, h3, h4, by rw [hq a (Array.getElem?_eq_some_iff.mp h5).1 h10]; exact h5, h6, h7, h8, h9, h10⟩
theorem vx_L.narrow {C n d : String} {A B : Nat → Prop} {U : State} {H : Heap} (h : vx_L C n d A U H) (hAB : ∀ q, B q → A q) : vx_L C n d B U H := by
  obtain ⟨c, k, i, f, a, cell, h1, h2, h3, h4, h5, h6, h7, h8, h9, h10⟩ := h
  exact ⟨c, k, i, f, a, cell, h1, h2, h3, h4, h5, h6, h7, h8, h9, fun z => h10 (hAB _ z)⟩
theorem vx_L.word {C n d : String} {A : Nat → Prop} {s : State} {args : Array Value} (h : vx_L C n d A s s.heap) : (Cond.laysStatic C n d).before args s = true := by
  obtain ⟨c, k, i, f, a, cell, h1, h2, h3, h4, h5, h6, h7, h8, h9, -⟩ := h
  show (Cond.laysStatic C n d).holds args s none s [] = true
  exact Cond.laysStatic_of h1 h2 h3 h4 h5 h6 h7 h8 h9
/-- .. and what it holds: null or some reference -/
def vx_Zq (C n d : String) (A : Nat → Prop) (U : State) (H : Heap) : Prop := va_Zq C n d A U H ∧ vx_L C n d A U H
theorem vx_Zq.moved {C n d : String} {A : Nat → Prop} {u U : State} {H : Heap} (hvm : u.vm.Alike U.vm) (h : vx_Zq C n d A u H) : vx_Zq C n d A U H := ⟨va_Zq.moved hvm h.1, vx_L.moved hvm h.2⟩
theorem vx_Zq.kept {C n d : String} {A : Nat → Prop} {U : State} {H H1 : Heap} (h : vx_Zq C n d A U H) (hq : ∀ a : Nat, a < H.size → ¬ A a → H1[a]? = H[a]?) : vx_Zq C n d A U H1 := ⟨va_Zq.kept h.1 hq, vx_L.kept h.2 hq⟩
theorem vx_Zq.narrow {C n d : String} {A B : Nat → Prop} {U : State} {H : Heap} (h : vx_Zq C n d A U H) (hAB : ∀ q, B q → A q) : vx_Zq C n d B U H := ⟨va_Zq.narrow h.1 hAB, vx_L.narrow h.2 hAB⟩
theorem vx_Zqof {args : Array Value} {s : State} {C n d : String} {A : Nat → Prop} (hl : (Cond.laysStatic C n d).before args s = true) (hini : (Cond.initialized C).before args s = true) (h : (Cond.isRef (.static C n d)).before args s = true) (hA : ∀ a : Nat, a < s.heap.size → ¬ A a) : vx_Zq C n d A s s.heap := by
  refine ⟨va_Zqof hl hini h hA, ?_⟩
  obtain ⟨c, k, i, f, a, cell, h1, h2, h3, h4, h5, h6, h7, h8, h9⟩ := Cond.laysStatic_spec hl
  exact ⟨c, k, i, f, a, cell, h1, h2, h3, h4, h5, h6, h7, h8, h9, hA a (Array.getElem?_eq_some_iff.mp h5).1⟩
theorem vx_isRef {C n d : String} {v : Value} {A : Nat → Prop} {s : State} {args : Array Value} (h : va_Z C n d v A s s.heap) (hv : v.isRef = true) : (Cond.isRef (.static C n d)).before args s = true := by
  obtain ⟨cf, kf, fi, f, a, cell, h1, h2, h3, h4, h5, h6, h7, -⟩ := h
  have he : (Term.static C n d).eval args s none [] s = some v := by
    simp [Term.eval, State.fieldNamed?, h1, h2, h4, h5, h6, h7]
  simp only [Cond.before, Cond.holds, Cond.value, he]
  cases v <;> simp_all [Value.isRef]
theorem vx_isRefq {C n d : String} {A : Nat → Prop} {s : State} {args : Array Value} (h : va_Zq C n d A s s.heap) : (Cond.isRef (.static C n d)).before args s = true := by
  rcases h with h | ⟨t, h⟩
  · exact vx_isRef h rfl
  · exact vx_isRef h rfl
/-- the same frame, seen from here: as if the method were called anew in this heap -/
theorem vx_rebase {T : State} (X : Stand p l e R s m args below meth c T locs cells slots) {R' : Room} (hf : R'.frames ≤ R.frames) (hl : R'.locals ≤ R.locals) (hc : cells + R'.cells ≤ R.cells) (hs : slots + R'.slots ≤ R.slots) :
    Stand p l e R' ((T.setVm s.vm).setFrames (.invoking m args :: below)) m args below meth c T [] 0 0 := by
  have htop : (T.setVm s.vm).topJava?.isSome := X.here.top
  have hF : ((T.setVm s.vm).setFrames (.invoking m args :: below)).frames = .invoking m args :: below := State.frames_setFrames _ (State.cur_lt_of_top htop)
  obtain ⟨g₀, hg0⟩ := Option.isSome_iff_exists.mp htop
  obtain ⟨r, hr⟩ := State.topJava?_eq_some.mp hg0
  have hl9 : e.platform.stackLimits (T.setVm s.vm).me = e.platform.stackLimits s.me := X.limits
  have hb9 : (T.setVm s.vm).me.stackBytes = s.me.stackBytes := X.bytes
  refine ⟨X.admits, X.cas, X.clock, hF, ?_, X.hears, X.method, X.code, X.here, X.tail, X.warmed, ?_, ?_, ?_⟩
  · have h := X.room
    have hU : ((T.setVm s.vm).setFrames (.invoking m args :: below)).localsInUse = s.localsInUse := by
      rw [State.localsInUse_invoking hF (meth := meth) (c := c) X.method X.code, State.localsInUse_invoking X.frames X.method X.code]
    simp only [State.hasRoom, Bool.and_eq_true, decide_eq_true_eq] at h ⊢
    obtain ⟨⟨⟨⟨h1, h2, h3, h4, h5, h6⟩, h7⟩, h8⟩, h9⟩ := h
    rw [X.frames, List.length_cons] at h2 h3
    have q1 := X.heapSize
    have q2 := X.used
    simp only [hF, hU, List.length_cons, State.stackLimits_setFrames, State.stackBytes_setFrames, hl9, hb9]
    refine ⟨⟨⟨⟨by omega, by omega, by omega, by omega, by omega, h6⟩, ?_⟩, ?_⟩, X.book⟩
    · show T.heap.size + R'.cells ≤ e.platform.maxCells
      omega
    · show T.slotsUsed + R'.slots ≤ e.platform.maxSlots
      omega
  · rw [State.stackLimits_setFrames]; rfl
  · rw [State.stackBytes_setFrames]; rfl
  · refine ⟨?_, Nat.le_refl _, Nat.le_refl _, ?_, ?_, fun a c9 h9 => ⟨c9, h9, rfl, rfl, fun _ _ => rfl⟩⟩
    · obtain ⟨t, ht, -⟩ := State.frames_cons hr
      show T.setVm s.vm = { ((T.setVm s.vm).setFrames (.invoking m args :: below)).setFrames (T.setVm s.vm).frames with heap := T.heap, slotsUsed := T.slotsUsed }
      rw [State.setFrames_setFrames, State.setFrames_self ht]
      rfl
    · show T.slotsUsed = T.slotsUsed + ((T.heap.toList.drop T.heap.size).map (·.slots.size)).sum
      rw [List.drop_eq_nil_of_le (Nat.le_of_eq Array.length_toList)]
      rfl
    · show ((T.heap.toList.drop T.heap.size).map (·.slots.size)).sum ≤ 0
      rw [List.drop_eq_nil_of_le (Nat.le_of_eq Array.length_toList)]
      exact Nat.le_refl _
/-- 'throw new E()': new; dup; invokespecial; athrow -/
theorem vx_throw0 {cc : ByteArray} {pc : Nat} (hexec : p.tables.exec = Jvm.exec) (hb : c.code = cc) (hl : l.stackTraces = false) {own cls : String} {names : List String} {ik ic mc ms : Nat} {A : Nat → Prop}
    (hown : s.vm.findClass own = some m.cls) (hcls : Bundle.fit cls = true) (hnames : ∀ n ∈ names, Bundle.fit n = true)
    (hk : (Cond.classLink own ik cls).before args s = true) (hini : (Cond.initialized cls).before args s = true) (hat : ∀ w ∈ vx_at0 own ic cls names, w.before args s = true)
    (hgood : ∀ w ∈ Cond.classLink own ik cls :: Cond.initialized cls :: vx_at0 own ic cls names, vx_ot w = true)
    (hU : vx_Zq Bundle.tN "UNASSIGNED_STACK" Bundle.steD A s s.heap) (hN : vx_Zq Bundle.tN "SUPPRESSED_SENTINEL" Bundle.listD A s s.heap) (hS : va_S A s.heap H locs) (hsize : ls.size = c.maxLocals)
    (d0 : decode cc pc = .ok (.new ik, 3)) (d3 : decode cc (pc + 3) = .ok (.dup, 1)) (d4 : decode cc (pc + 4) = .ok (.invokespecial ic, 3)) (d7 : decode cc (pc + 7) = .ok (.athrow, 1))
    (hout : ∀ x ∈ c.exceptionTable.toList, covers x (pc + 7) = false)
    (hRframes : names.length + 3 < R.frames) (hRlocals : (rest.map fun v => v.category).sum + (13 * (names.length + 1) + 42) ≤ R.locals) (hRcells : cells + 1 ≤ R.cells) (hRslots : slots + 6 ≤ R.slots) (hlocks : meth.locks = false)
    (hx : ∀ t : State, s.vm.Alike t.vm → H.size ≤ t.heap.size → (∀ q : Nat, q < H.size → t.heap[q]? = H[q]?) → XC cls s t)
    (hf : ∀ z ∈ locs, free z.base) (hc : cells + 1 ≤ mc) (hs : slots + 6 ≤ ms) :
    W p l e R s m args below meth c H locs cells slots (vx_MQ below Qc XC args s mc ms free) (F0 m pc ls rest) := by
  intro T hT X
  have htr : e.platform.stackTraces = false := (show e.platform.stackTraces = l.stackTraces by rw [X.admits.platform]).trans hl
  have Y := vx_rebase X (R' := { frames := R.frames, locals := R.locals, cells := 1, slots := 6 }) (Nat.le_refl _) (Nat.le_refl _) hRcells hRslots
  obtain ⟨s', hA⟩ : ∃ z, z = (T.setVm s.vm).setFrames (.invoking m args :: below) := ⟨_, rfl⟩
  rw [← hA] at Y
  have hvm : s'.vm = s.vm := by rw [hA]; rfl
  have hhp : s'.heap = H := by rw [hA]; exact hT
  have hW0 : s.WarmedH s'.vm := by rw [hvm]; exact State.WarmedH.refl s
  have hat' : ∀ w ∈ vx_at0 own ic cls names, w.before args s' = true := fun w hw => vx_ot_at hW0 hvm.symm (hgood w (List.mem_cons_of_mem _ (List.mem_cons_of_mem _ hw))) (hat w hw)
  have hk' : (Cond.classLink own ik cls).before args s' = true := vx_ot_at hW0 hvm.symm (hgood _ List.mem_cons_self) hk
  have hini' : (Cond.initialized cls).before args s' = true := vx_ot_at hW0 hvm.symm (hgood _ (List.mem_cons_of_mem _ List.mem_cons_self)) hini
  have hU' : vx_Zq Bundle.tN "UNASSIGNED_STACK" Bundle.steD A s' s'.heap := by rw [hhp]; exact vx_Zq.moved hW0.alike (hU.kept hS.2.1)
  have hN' : vx_Zq Bundle.tN "SUPPRESSED_SENTINEL" Bundle.listD A s' s'.heap := by rw [hhp]; exact vx_Zq.moved hW0.alike (hN.kept hS.2.1)
  have h : ∀ w ∈ Bundle.ownAtoms0 own ic cls names, w.before args s' = true := vx_own hat' (vx_isRefq hU'.1) (vx_isRefq hN'.1) hU'.2.word hN'.2.word
  have hown' : s'.vm.findClass own = some m.cls := by rw [hvm]; exact hown
  have hins : (Cond.instantiable cls 6).before args s' = true := h _ (by simp [Bundle.ownAtoms0])
  obtain ⟨vm₁, cX, kX, hfX, hkX, -, -, X₁, st1⟩ := Y.newCold hexec (own := own) (C := cls) (index := ik) (n := 6) hown' hk' hins hini'
    (g := F0 m pc ls rest) rfl (by rw [hb]; exact d0) (Nat.le_refl _) (Nat.le_refl _)
  generalize hT1 : (T.setVm vm₁).pushCell { cls := cX, slots := kX.instanceTypes.map defaultValue, vm := .none } = T1 at X₁ st1
  have hcat : (Value.ref T.heap.size).category = 1 := rfl
  have hcellA : T1.heap[T.heap.size]? = some (freshCell cX kX) := by rw [← hT1]; exact State.heap_pushCell_size _ _
  have d3' : decode c.code (pc + 3) = .ok (.dup, 1) := by rw [hb]; exact d3
  obtain ⟨U, hsteps, hrun, hend, hW, hsame, ce, hce, hO⟩ := X₁.ctorThrow0 hexec htr (own := own) (cls := cls) (names := names) (ic := ic) hown' hcls hnames h (fun x hx => nomatch hx) hfX hkX hcellA (by rw [hhp, hT]; exact Nat.le_refl _)
    (g := { method := m, pc := pc + 4, locals := ls, stack := .ref T.heap.size :: .ref T.heap.size :: rest, locked := none }) rfl hsize rfl rfl (rest := rest) rfl
    (by rw [hb]; exact d4) (by rw [hb]; exact d7) hout hRframes (by simp only [List.map_cons, List.sum_cons, hcat]; omega) hlocks
  obtain ⟨f1, f2⟩ := vx_frame hsame
  rw [hhp] at f1 f2
  have hWs : s.WarmedH U.vm := State.WarmedH.trans hW0 hW
  have hcl : s.vm.findClass cls = some ce.cls := by
    have h9 := hO.cls
    rw [hvm] at h9
    exact h9
  have hall : s.sameButNew ({ U with vm := s.vm } : State) locs mc ms := by
    subst hA
    obtain ⟨e1, e2⟩ := hsame
    rw [State.setFrames_setFrames] at e1
    have h2 : (T.setVm s.vm).sameButNew ({ U with vm := s.vm } : State) [] (0 + 1) (0 + 6) := ⟨e1, e2⟩
    have h3 := X.same.trans h2
    rw [List.append_nil] at h3
    exact h3.mono hc hs
  refine ⟨U, ?_, .threw T.heap.size, hrun, hend, Or.inr ⟨T.heap.size, rfl, cls, ce, locs, hx U hWs.alike f1 (fun q hq => f2 q hq (fun z hz => nomatch hz)), hce, hO.vm, hcl, hWs, hall, hf⟩⟩
  refine st1 _ ?_
  show Steps p.tables e below (T1.setTop { method := m, pc := pc + 3, locals := ls, stack := .ref T.heap.size :: rest, locked := none }) _
  jvm_step X₁.here [X₁.here.top, hexec, d3', Value.category]
  exact hsteps
/-- 'throw new E("text")': new; dup; ldc; invokespecial; athrow -/
theorem vx_throwS {cc : ByteArray} {pc : Nat} (hexec : p.tables.exec = Jvm.exec) (hb : c.code = cc) (hl : l.stackTraces = false) {own cls text : String} {names : List String} {ik is ic mc ms sa : Nat} {A : Nat → Prop}
    (hown : s.vm.findClass own = some m.cls) (hcls : Bundle.fit cls = true) (hnames : ∀ n ∈ names, Bundle.fit n = true)
    (hk : (Cond.classLink own ik cls).before args s = true) (hini : (Cond.initialized cls).before args s = true) (hstr : vk_R own is text sa s) (hat : ∀ w ∈ vx_atS own ic cls names, w.before args s = true)
    (hgood : ∀ w ∈ Cond.classLink own ik cls :: Cond.initialized cls :: vx_atS own ic cls names, vx_ot w = true)
    (hU : vx_Zq Bundle.tN "UNASSIGNED_STACK" Bundle.steD A s s.heap) (hN : vx_Zq Bundle.tN "SUPPRESSED_SENTINEL" Bundle.listD A s s.heap) (hS : va_S A s.heap H locs) (hsize : ls.size = c.maxLocals)
    (d0 : decode cc pc = .ok (.new ik, 3)) (d3 : decode cc (pc + 3) = .ok (.dup, 1)) (d4 : decode cc (pc + 4) = .ok (.ldc is, 2)) (d6 : decode cc (pc + 6) = .ok (.invokespecial ic, 3)) (d9 : decode cc (pc + 9) = .ok (.athrow, 1))
    (hout : ∀ x ∈ c.exceptionTable.toList, covers x (pc + 9) = false)
    (hRframes : names.length + 3 < R.frames) (hRlocals : (rest.map fun v => v.category).sum + (13 * (names.length + 1) + 43) ≤ R.locals) (hRcells : cells + 1 ≤ R.cells) (hRslots : slots + 6 ≤ R.slots) (hlocks : meth.locks = false)
    (hx : ∀ t : State, s.vm.Alike t.vm → H.size ≤ t.heap.size → (∀ q : Nat, q < H.size → t.heap[q]? = H[q]?) → XC cls s t)
    (hf : ∀ z ∈ locs, free z.base) (hc : cells + 1 ≤ mc) (hs : slots + 6 ≤ ms) :
    W p l e R s m args below meth c H locs cells slots (vx_MQ below Qc XC args s mc ms free) (F0 m pc ls rest) := by
  intro T hT X
  have htr : e.platform.stackTraces = false := (show e.platform.stackTraces = l.stackTraces by rw [X.admits.platform]).trans hl
  have Y := vx_rebase X (R' := { frames := R.frames, locals := R.locals, cells := 1, slots := 6 }) (Nat.le_refl _) (Nat.le_refl _) hRcells hRslots
  obtain ⟨s', hA⟩ : ∃ z, z = (T.setVm s.vm).setFrames (.invoking m args :: below) := ⟨_, rfl⟩
  rw [← hA] at Y
  have hvm : s'.vm = s.vm := by rw [hA]; rfl
  have hhp : s'.heap = H := by rw [hA]; exact hT
  have hW0 : s.WarmedH s'.vm := by rw [hvm]; exact State.WarmedH.refl s
  have hat' : ∀ w ∈ vx_atS own ic cls names, w.before args s' = true := fun w hw => vx_ot_at hW0 hvm.symm (hgood w (List.mem_cons_of_mem _ (List.mem_cons_of_mem _ hw))) (hat w hw)
  have hk' : (Cond.classLink own ik cls).before args s' = true := vx_ot_at hW0 hvm.symm (hgood _ List.mem_cons_self) hk
  have hini' : (Cond.initialized cls).before args s' = true := vx_ot_at hW0 hvm.symm (hgood _ (List.mem_cons_of_mem _ List.mem_cons_self)) hini
  have hU' : vx_Zq Bundle.tN "UNASSIGNED_STACK" Bundle.steD A s' s'.heap := by rw [hhp]; exact vx_Zq.moved hW0.alike (hU.kept hS.2.1)
  have hN' : vx_Zq Bundle.tN "SUPPRESSED_SENTINEL" Bundle.listD A s' s'.heap := by rw [hhp]; exact vx_Zq.moved hW0.alike (hN.kept hS.2.1)
  have h : ∀ w ∈ Bundle.ownAtoms own ic cls names, w.before args s' = true := vx_own hat' (vx_isRefq hU'.1) (vx_isRefq hN'.1) hU'.2.word hN'.2.word
  have hown' : s'.vm.findClass own = some m.cls := by rw [hvm]; exact hown
  have hins : (Cond.instantiable cls 6).before args s' = true := h _ (by simp [Bundle.ownAtoms])
  obtain ⟨vm₁, cX, kX, hfX, hkX, -, -, X₁, st1⟩ := Y.newCold hexec (own := own) (C := cls) (index := ik) (n := 6) hown' hk' hins hini'
    (g := F0 m pc ls rest) rfl (by rw [hb]; exact d0) (Nat.le_refl _) (Nat.le_refl _)
  generalize hT1 : (T.setVm vm₁).pushCell { cls := cX, slots := kX.instanceTypes.map defaultValue, vm := .none } = T1 at X₁ st1
  have hcat : (Value.ref T.heap.size).category = 1 := rfl
  have hcellA : T1.heap[T.heap.size]? = some (freshCell cX kX) := by rw [← hT1]; exact State.heap_pushCell_size _ _
  have d3' : decode c.code (pc + 3) = .ok (.dup, 1) := by rw [hb]; exact d3
  have d4' : decode c.code (pc + 4) = .ok (.ldc is, 2) := by rw [hb]; exact d4
  have hstr' : vk_R own is text sa s' := vk_R.warm hW0 hstr
  obtain ⟨U, hsteps, hrun, hend, hW, hsame, ce, hce, hO⟩ := X₁.ctorThrowS hexec htr (own := own) (cls := cls) (names := names) (ic := ic) hown' hcls hnames h (fun x hx => nomatch hx) hfX hkX hcellA (by rw [hhp, hT]; exact Nat.le_refl _) (msg := .ref sa) rfl
    (g := { method := m, pc := pc + 6, locals := ls, stack := .ref sa :: .ref T.heap.size :: .ref T.heap.size :: rest, locked := none }) rfl hsize rfl rfl (rest := rest) rfl
    (by rw [hb]; exact d6) (by rw [hb]; exact d9) hout hRframes (by simp only [List.map_cons, List.sum_cons, hcat]; omega) hlocks
  obtain ⟨f1, f2⟩ := vx_frame hsame
  rw [hhp] at f1 f2
  have hWs : s.WarmedH U.vm := State.WarmedH.trans hW0 hW
  have hcl : s.vm.findClass cls = some ce.cls := by
    have h9 := hO.cls
    rw [hvm] at h9
    exact h9
  have hall : s.sameButNew ({ U with vm := s.vm } : State) locs mc ms := by
    subst hA
    obtain ⟨e1, e2⟩ := hsame
    rw [State.setFrames_setFrames] at e1
    have h2 : (T.setVm s.vm).sameButNew ({ U with vm := s.vm } : State) [] (0 + 1) (0 + 6) := ⟨e1, e2⟩
    have h3 := X.same.trans h2
    rw [List.append_nil] at h3
    exact h3.mono hc hs
  refine ⟨U, ?_, .threw T.heap.size, hrun, hend, Or.inr ⟨T.heap.size, rfl, cls, ce, locs, hx U hWs.alike f1 (fun q hq => f2 q hq (fun z hz => nomatch hz)), hce, hO.vm, hcl, hWs, hall, hf⟩⟩
  refine st1 _ ?_
  show Steps p.tables e below (T1.setTop { method := m, pc := pc + 3, locals := ls, stack := .ref T.heap.size :: rest, locked := none }) _
  jvm_step X₁.here [X₁.here.top, hexec, d3', Value.category]
  exact X₁.ldcString hexec (own := own) (text := text) (index := is) (a := sa) hown' hstr'.1 hstr'.2
    (g := { method := m, pc := pc + 4, locals := ls, stack := .ref T.heap.size :: .ref T.heap.size :: rest, locked := none }) rfl d4' _ hsteps
/-- 'throw new E("text")', the text by a wide index -/
theorem vx_throwSW {cc : ByteArray} {pc : Nat} (hexec : p.tables.exec = Jvm.exec) (hb : c.code = cc) (hl : l.stackTraces = false) {own cls text : String} {names : List String} {ik is ic mc ms sa : Nat} {A : Nat → Prop}
    (hown : s.vm.findClass own = some m.cls) (hcls : Bundle.fit cls = true) (hnames : ∀ n ∈ names, Bundle.fit n = true)
    (hk : (Cond.classLink own ik cls).before args s = true) (hini : (Cond.initialized cls).before args s = true) (hstr : vk_R own is text sa s) (hat : ∀ w ∈ vx_atS own ic cls names, w.before args s = true)
    (hgood : ∀ w ∈ Cond.classLink own ik cls :: Cond.initialized cls :: vx_atS own ic cls names, vx_ot w = true)
    (hU : vx_Zq Bundle.tN "UNASSIGNED_STACK" Bundle.steD A s s.heap) (hN : vx_Zq Bundle.tN "SUPPRESSED_SENTINEL" Bundle.listD A s s.heap) (hS : va_S A s.heap H locs) (hsize : ls.size = c.maxLocals)
    (d0 : decode cc pc = .ok (.new ik, 3)) (d3 : decode cc (pc + 3) = .ok (.dup, 1)) (d4 : decode cc (pc + 4) = .ok (.ldc_w is, 3)) (d7 : decode cc (pc + 7) = .ok (.invokespecial ic, 3)) (d10 : decode cc (pc + 10) = .ok (.athrow, 1))
    (hout : ∀ x ∈ c.exceptionTable.toList, covers x (pc + 10) = false)
    (hRframes : names.length + 3 < R.frames) (hRlocals : (rest.map fun v => v.category).sum + (13 * (names.length + 1) + 43) ≤ R.locals) (hRcells : cells + 1 ≤ R.cells) (hRslots : slots + 6 ≤ R.slots) (hlocks : meth.locks = false)
    (hx : ∀ t : State, s.vm.Alike t.vm → H.size ≤ t.heap.size → (∀ q : Nat, q < H.size → t.heap[q]? = H[q]?) → XC cls s t)
    (hf : ∀ z ∈ locs, free z.base) (hc : cells + 1 ≤ mc) (hs : slots + 6 ≤ ms) :
    W p l e R s m args below meth c H locs cells slots (vx_MQ below Qc XC args s mc ms free) (F0 m pc ls rest) := by
  intro T hT X
  have htr : e.platform.stackTraces = false := (show e.platform.stackTraces = l.stackTraces by rw [X.admits.platform]).trans hl
  have Y := vx_rebase X (R' := { frames := R.frames, locals := R.locals, cells := 1, slots := 6 }) (Nat.le_refl _) (Nat.le_refl _) hRcells hRslots
  obtain ⟨s', hA⟩ : ∃ z, z = (T.setVm s.vm).setFrames (.invoking m args :: below) := ⟨_, rfl⟩
  rw [← hA] at Y
  have hvm : s'.vm = s.vm := by rw [hA]; rfl
  have hhp : s'.heap = H := by rw [hA]; exact hT
  have hW0 : s.WarmedH s'.vm := by rw [hvm]; exact State.WarmedH.refl s
  have hat' : ∀ w ∈ vx_atS own ic cls names, w.before args s' = true := fun w hw => vx_ot_at hW0 hvm.symm (hgood w (List.mem_cons_of_mem _ (List.mem_cons_of_mem _ hw))) (hat w hw)
  have hk' : (Cond.classLink own ik cls).before args s' = true := vx_ot_at hW0 hvm.symm (hgood _ List.mem_cons_self) hk
  have hini' : (Cond.initialized cls).before args s' = true := vx_ot_at hW0 hvm.symm (hgood _ (List.mem_cons_of_mem _ List.mem_cons_self)) hini
  have hU' : vx_Zq Bundle.tN "UNASSIGNED_STACK" Bundle.steD A s' s'.heap := by rw [hhp]; exact vx_Zq.moved hW0.alike (hU.kept hS.2.1)
  have hN' : vx_Zq Bundle.tN "SUPPRESSED_SENTINEL" Bundle.listD A s' s'.heap := by rw [hhp]; exact vx_Zq.moved hW0.alike (hN.kept hS.2.1)
  have h : ∀ w ∈ Bundle.ownAtoms own ic cls names, w.before args s' = true := vx_own hat' (vx_isRefq hU'.1) (vx_isRefq hN'.1) hU'.2.word hN'.2.word
  have hown' : s'.vm.findClass own = some m.cls := by rw [hvm]; exact hown
  have hins : (Cond.instantiable cls 6).before args s' = true := h _ (by simp [Bundle.ownAtoms])
  obtain ⟨vm₁, cX, kX, hfX, hkX, -, -, X₁, st1⟩ := Y.newCold hexec (own := own) (C := cls) (index := ik) (n := 6) hown' hk' hins hini'
    (g := F0 m pc ls rest) rfl (by rw [hb]; exact d0) (Nat.le_refl _) (Nat.le_refl _)
  generalize hT1 : (T.setVm vm₁).pushCell { cls := cX, slots := kX.instanceTypes.map defaultValue, vm := .none } = T1 at X₁ st1
  have hcat : (Value.ref T.heap.size).category = 1 := rfl
  have hcellA : T1.heap[T.heap.size]? = some (freshCell cX kX) := by rw [← hT1]; exact State.heap_pushCell_size _ _
  have d3' : decode c.code (pc + 3) = .ok (.dup, 1) := by rw [hb]; exact d3
  have d4' : decode c.code (pc + 4) = .ok (.ldc_w is, 3) := by rw [hb]; exact d4
  have hstr' : vk_R own is text sa s' := vk_R.warm hW0 hstr
  obtain ⟨U, hsteps, hrun, hend, hW, hsame, ce, hce, hO⟩ := X₁.ctorThrowS hexec htr (own := own) (cls := cls) (names := names) (ic := ic) hown' hcls hnames h (fun x hx => nomatch hx) hfX hkX hcellA (by rw [hhp, hT]; exact Nat.le_refl _) (msg := .ref sa) rfl
    (g := { method := m, pc := pc + 7, locals := ls, stack := .ref sa :: .ref T.heap.size :: .ref T.heap.size :: rest, locked := none }) rfl hsize rfl rfl (rest := rest) rfl
    (by rw [hb]; exact d7) (by rw [hb]; exact d10) hout hRframes (by simp only [List.map_cons, List.sum_cons, hcat]; omega) hlocks
  obtain ⟨f1, f2⟩ := vx_frame hsame
  rw [hhp] at f1 f2
  have hWs : s.WarmedH U.vm := State.WarmedH.trans hW0 hW
  have hcl : s.vm.findClass cls = some ce.cls := by
    have h9 := hO.cls
    rw [hvm] at h9
    exact h9
  have hall : s.sameButNew ({ U with vm := s.vm } : State) locs mc ms := by
    subst hA
    obtain ⟨e1, e2⟩ := hsame
    rw [State.setFrames_setFrames] at e1
    have h2 : (T.setVm s.vm).sameButNew ({ U with vm := s.vm } : State) [] (0 + 1) (0 + 6) := ⟨e1, e2⟩
    have h3 := X.same.trans h2
    rw [List.append_nil] at h3
    exact h3.mono hc hs
  refine ⟨U, ?_, .threw T.heap.size, hrun, hend, Or.inr ⟨T.heap.size, rfl, cls, ce, locs, hx U hWs.alike f1 (fun q hq => f2 q hq (fun z hz => nomatch hz)), hce, hO.vm, hcl, hWs, hall, hf⟩⟩
  refine st1 _ ?_
  show Steps p.tables e below (T1.setTop { method := m, pc := pc + 3, locals := ls, stack := .ref T.heap.size :: rest, locked := none }) _
  jvm_step X₁.here [X₁.here.top, hexec, d3', Value.category]
  exact X₁.ldcStringW hexec (own := own) (text := text) (index := is) (a := sa) hown' hstr'.1 hstr'.2
    (g := { method := m, pc := pc + 4, locals := ls, stack := .ref T.heap.size :: .ref T.heap.size :: rest, locked := none }) rfl d4' _ hsteps
end Ends
section Bodies
variable {l : Launch}
theorem vx_ofW {y : MethodName} {ws ws' : List Cond} {rm : Room} {Pc : Array Value → State → Prop} {Qc : Array Value → State → Outcome → State → Prop} {XC : String → State → State → Prop} {mc ms : Nat} {free : Addr → Prop} {cc : ByteArray} {maxL : Nat} {ret : Option FieldType}
    (hy : plainName y.cls = true) (hw : ws = Cond.code y cc maxL ret :: ws')
    (body : ∀ p e s m args below meth c s₁, BodyLoose p l y (headSpec ws rm) cc maxL ret e s m args below meth c s₁ → c.maxLocals = maxL → (∀ x ∈ c.exceptionTable.toList, False) → Pc args s →
      W p l e (headSpec ws rm).room s m args below meth c s.heap [] 0 0 (vx_MQ below Qc XC args s mc ms free) (entryFrame m args maxL)) : vx_Met l y ws rm Pc Qc XC mc ms free := by
  refine MetFree.of_bodyS (code := cc) (maxLocals := maxL) (ret := ret) hy ?_ ?_
  · intro args s m h hn
    obtain ⟨meth, c, h1, h2, h3, h4, h5, h6, -, -⟩ := Cond.code_spec hn (atoms_spec (ws := ws) h _ (by rw [hw]; exact List.mem_cons_self))
    exact ⟨meth, c, h1, h2, h3, h4, h5, h6⟩
  · intro p e s m args below meth c s₁ B hml hP _
    have hh0 : s₁.heap = s.heap := by rw [B.state]; rfl
    have ht : ∀ x ∈ c.exceptionTable.toList, False := by
      obtain ⟨meth9, c9, h1, h2, -, -, -, -, h7, -⟩ := Cond.code_spec B.named (atoms_spec (ws := ws) B.pre _ (by rw [hw]; exact List.mem_cons_self))
      cases Option.some.inj (h1.symm.trans B.method)
      cases Option.some.inj (h2.symm.trans (Stand.of_body B).code)
      intro x hx
      rw [Array.isEmpty_iff.mp h7] at hx
      cases hx
    obtain ⟨t, a1, o, b1, b2, b3⟩ := body p e s m args below meth c s₁ B hml ht hP s₁ hh0 (Stand.of_body B)
    exact ⟨t, o, a1, b1, b2, b3⟩
/-- the table of a body with handlers -/
theorem vx_table {p : Program} {x y : MethodName} {S : Spec} {cc bytes : ByteArray} {maxL maxL' : Nat} {ret ret' : Option FieldType} {e : Env} {s s₁ : State} {m : MethodId} {args : Array Value} {below : List Frame} {meth : Method} {c : Code} {hh : List (Nat × Nat × Nat × Nat)}
    (B : BodyLoose p l y S cc maxL ret e s m args below meth c s₁) (h : (Cond.codeWith y bytes maxL' ret' hh).before args s = true) : c.exceptionTable.toList = tableOf hh := by
  obtain ⟨m9, meth9, c9, hn9, h1, h2, -, -, h6, -⟩ := Cond.codeWith_spec h
  cases Option.some.inj (hn9.symm.trans B.named)
  cases Option.some.inj (h1.symm.trans B.method)
  cases Option.some.inj (h2.symm.trans (Stand.of_body B).code)
  rw [← h6, table_eq]
end Bodies
end VXA
/-! ===== END ===== -/
/-! ===== BEGIN a static call of a method with an exception table ===== -/
section VXS
variable {p : Program} {l : Launch} {e : Env} {R : Room} {s : State} {m : MethodId} {args : Array Value} {below : List Frame} {meth : Method} {c : Code} {T : State} {H : Heap} {locs : List Loc} {cells slots : Nat}
abbrev vx_CSW (R : Room) (s : State) (args : Array Value) (own : String) (index : Nat) (y : MethodName) (bytes : ByteArray) (maxL : Nat) (ret : Option FieldType) (hh : List (Nat × Nat × Nat × Nat)) (ws : List Cond) (rm : Room) (mc ms n : Nat) : Prop :=
  (rm.cells = mc ∧ rm.slots = ms ∧ rm.frames + 1 ≤ R.frames ∧ 8 + (maxL + 11) + rm.locals ≤ R.locals ∧ (∀ w ∈ ws, ∀ (a' : Array Value) (U : State), s.WarmedH U.vm → w.before a' U = true) ∧ Cond.codeWith y bytes maxL ret hh ∈ ws) ∧
  (Cond.codeWith y bytes maxL ret hh).before args s = true ∧ (Cond.initialized y.cls).before args s = true ∧ (y.cls ≠ "java/lang/invoke/MethodHandle" ∧ y.cls ≠ "java/lang/invoke/VarHandle") ∧
  (∀ sig, parseMethodDescriptor y.desc = some sig → n = sig.parameters.length) ∧ (Cond.methodLink own index y).before args s = true ∧ (Cond.static y).before args s = true
theorem vx_cwSW {own : String} {index maxL mc ms : Nat} {y : MethodName} {bytes : ByteArray} {ret : Option FieldType} {hh : List (Nat × Nat × Nat × Nat)} {Ts ws ws' : List Cond} {rm : Room} (n : Nat) (ht : ∀ w ∈ Ts, w.before args s = true) (hT : GoodIn Ts (va_wsS own index y ws)) (hw : ws = Cond.codeWith y bytes maxL ret hh :: ws') (hrc : rm.cells = mc) (hrs : rm.slots = ms)
    (hd : y.cls ≠ "java/lang/invoke/MethodHandle" ∧ y.cls ≠ "java/lang/invoke/VarHandle" ∧ (parseMethodDescriptor y.desc).map (fun d => d.parameters.length) = some n) (hR : rm.frames + 1 ≤ R.frames ∧ 8 + (maxL + 11) + rm.locals ≤ R.locals) :
    vx_CSW R s args own index y bytes maxL ret hh ws rm mc ms n := by
  have ok : ∀ w ∈ va_wsS own index y ws, w.before args s = true := fun w h => ht w (hT w h).1
  have hG : GoodIn Ts ws := fun w h => hT w (by unfold va_wsS; exact List.mem_append_right _ h)
  have hc : Cond.codeWith y bytes maxL ret hh ∈ ws := by rw [hw]; exact List.mem_cons_self
  refine ⟨⟨hrc, hrs, hR.1, hR.2, pay_in ht hG, hc⟩, ht _ (hG _ hc).1, ok _ (by simp [va_wsS]), ⟨hd.1, hd.2.1⟩, fun sig h => ?_, ok _ (by simp [va_wsS]), ok _ (by simp [va_wsS])⟩
  have h2 := hd.2.2
  rw [h] at h2
  exact (Option.some.inj h2).symm
theorem vx_callSW (X : Stand p l e R s m args below meth c T locs cells slots) (hexec : p.tables.exec = Jvm.exec) {own : String} {index : Nat} {y : MethodName} {bytes : ByteArray} {maxL : Nat} {ret : Option FieldType} {hh : List (Nat × Nat × Nat × Nat)}
    (hown : s.vm.findClass own = some m.cls) (hlink : (Cond.methodLink own index y).before args s = true) (hstat : (Cond.static y).before args s = true) (hinit : (Cond.initialized y.cls).before args s = true)
    (hcode : (Cond.codeWith y bytes maxL ret hh).before args s = true) (hy : y.cls ≠ "java/lang/invoke/MethodHandle" ∧ y.cls ≠ "java/lang/invoke/VarHandle")
    {W9 : Nat} {Pre : Pt → Array Value → Prop} {Post : Pt → Array Value → Option Value → Pt → Prop} (hK : Back l R p e below s args y 3 W9 Pre Post)
    {g : JFrame} (hg : g.method = m) (hsize : g.locals.size = c.maxLocals) {argsL rest : List Value} (hlen : ∀ sig, parseMethodDescriptor y.desc = some sig → argsL.length = sig.parameters.length)
    (hstack : g.stack = argsL.reverse ++ rest) (hW : 2 * g.monitorRoom + (rest.map fun v => v.category).sum ≤ W9) (hdg : decode c.code g.pc = .ok (.invokestatic index, 3))
    (hpre : ∀ vm₁, s.WarmedH vm₁ → Pre ⟨T.setVm vm₁, locs, cells, slots⟩ argsL.toArray) :
    ∃ (v : Option Value) (vm₁ : Vm) (B : Pt), s.WarmedH vm₁ ∧ Stand p l e R s m args below meth c B.U B.locs B.cells B.slots ∧ Post ⟨T.setVm vm₁, locs, cells, slots⟩ argsL.toArray v B ∧
      ∀ target, Steps p.tables e below (B.U.setTop { g with pc := g.pc + 3, stack := v.toList ++ rest }) target → Steps p.tables e below (T.setTop g) target := by
  obtain ⟨mk, methM, cM, hnamed, hmethM, -, -, -, -, -, -, hsigM⟩ := Cond.codeWith_spec hcode
  have hstatic : methM.isStatic = true := Cond.static_spec hnamed hmethM hstat
  obtain ⟨kP, hkP, -⟩ := className_of_methodNamed hnamed
  have hinitP : kP.init = .initialized := Cond.initialized_spec (findClass_of_methodNamed hnamed) hkP hinit
  obtain ⟨vm₁, X₁, hstep₁⟩ := X.invokestatic hexec hown hlink hnamed hmethM hstatic hkP hinitP hy (g := g) hg (argsL := argsL) (rest := rest) (hlen _ hsigM) hstack hdg
  obtain ⟨v, B, X', hpost, hsteps⟩ := hK m meth c ⟨T.setVm vm₁, locs, cells, slots⟩ { g with stack := rest } (.invokestatic index) mk argsL.toArray X₁ hg hsize hdg hW (X₁.named hnamed) (hpre vm₁ X₁.warmed)
  exact ⟨v, vm₁, B, X₁.warmed, X', hpost, fun target h => hstep₁ _ fun acts => by rw [doInvoke_state]; exact hsteps.trans h⟩
theorem vx_runSW {y : MethodName} {bytes cc : ByteArray} {maxL nL mc ms n index : Nat} {ret : Option FieldType} {hh : List (Nat × Nat × Nat × Nat)} {ws : List Cond} {rm : Room} {Pc : Array Value → State → Prop} {Qc : Array Value → State → Outcome → State → Prop} {free : Addr → Prop} {Ts : List Cond} {own : String} {As rest : List Value} {g : JFrame}
    (S : CallFix p m c cc nL s args Ts own) (hM : Met l y ws rm Pc Qc mc ms free) (cw : vx_CSW R s args own index y bytes maxL ret hh ws rm mc ms n) (hp : PreS s H Pc As)
    (hg : g.method = m) (hn : As.length = n) (hsize : g.locals.size = nL) (hstack : g.stack = As.reverse ++ rest) (hW : 2 * g.monitorRoom + (rest.map fun v => v.category).sum ≤ 8) (hdg : decode cc g.pc = .ok (.invokestatic index, 3)) (hf : cells + mc ≤ R.cells ∧ slots + ms ≤ R.slots) :
    va_Run p l e R s m args below meth c H locs cells slots mc ms g rest (Qc As.toArray) (free) := by
  obtain ⟨⟨hrc, hrs, hfr, hlo, hws, hcw⟩, hcode, hini, hy, hlen, hl, hstt⟩ := cw
  have hK : Back l R p e below s args y 3 8 (PreOf R mc ms Pc) (PostOf Qc mc ms free) := va_backW (hh := hh) (bytes := bytes) (maxL := maxL) (ret := ret) hM hp.1 hrc hrs hfr hlo hws hcw (fun a' U hW => word_at hW (Or.inl (by first | rfl | simp [Cond.onTables, Cond.keeps, Cond.steady])) hini)
  obtain ⟨hx, hb, hml, ho, -⟩ := S
  intro T hT X
  obtain ⟨v, vm₁, ⟨U', l2, c2, s2⟩, hW₁, X', ⟨g', mk, t, L, e1, e2, hq, h1, hL, h2, h3⟩, st⟩ := vx_callSW X hx (hh := hh) (bytes := bytes) (maxL := maxL) (ret := ret) ho hl hstt hini hcode hy hK hg (hsize.trans hml.symm) (argsL := As) (rest := rest) (fun sig h => hn.trans (hlen sig h)) hstack hW (by rw [hb]; exact hdg)
    (fun vm₁ hW₁ => ⟨hf.1, hf.2, hp.2 (T.setVm vm₁) hT hW₁⟩)
  dsimp only [Pt.U, Pt.locs, Pt.cells, Pt.slots] at X' e1 e2 h1 h2 h3 st
  subst h1; subst h2; subst h3
  exact ⟨v, (T.setVm vm₁).calling g' mk As.toArray, t, U', L, hT, X', hL, e1, e2, hq, st⟩
/-- not caught here, past rows that name other classes: it goes on to the caller -/
theorem vx_outP {p : Program} {l : Launch} {e : Env} {R : Room} {s : State} {m : MethodId} {args : Array Value} {below : List Frame} {meth : Method} {c : Code} {H : Heap} {locs : List Loc} {cells slots : Nat} {free : Addr → Prop} {ls : Array Slot} {rest : List Value} {Qc : Array Value → State → Outcome → State → Prop} {XC : String → State → State → Prop}
    {pc : Nat} {own E : String} {ce : Cell} {q : Addr} {mc ms : Nat} (hown : s.vm.findClass own = some m.cls) (hlocks : meth.locks = false)
    (hpass : ∀ z ∈ c.exceptionTable.toList, covers z pc = false ∨ (z.catchType ≠ 0 ∧ ∃ nm : String, (Cond.classLink own z.catchType nm).before args s = true ∧ va_Nc E nm s)) (hcell : H[q]? = some ce) (hv : ce.vm = .none) (hcl : s.vm.findClass E = some ce.cls)
    (hx : ∀ t : State, t.heap = H → s.vm.Alike t.vm → XC E s t) (hf : ∀ z ∈ locs, free z.base) (hc : cells ≤ mc) (hs : slots ≤ ms) :
    vx_W p l e R s m args below meth c H locs cells slots (vx_MQ below Qc XC args s mc ms free) (F0 m pc ls rest) q := by
  intro T hT X
  have hpl : e.platform.magicAccessors = ({} : Platform).magicAccessors := by rw [X.admits.platform]
  obtain ⟨vm', hW', X', st⟩ := X.outThrough hlocks q (g := F0 m pc ls rest) rfl rfl rfl (cell := ce) (by rw [hT]; exact hcell) (by rw [hv]; rfl)
    (by obtain ⟨k9, h9, -⟩ := Vm.findClass_spec hcl; exact ⟨k9, h9⟩) (fun z hz => by
      rcases hpass z hz with h | ⟨hz0, nm, hl1, hn1⟩
      · exact Or.inl h
      · obtain ⟨c6, hc6, hcl6⟩ := Cond.classLink_spec hown hl1 e.platform hpl
        obtain ⟨a8, b8, h1, h2, h3⟩ := hn1
        cases Option.some.inj (h1.symm.trans hcl)
        cases Option.some.inj (h2.symm.trans hc6)
        exact Or.inr ⟨hz0, _, hcl6, h3⟩)
  obtain ⟨g₀, hfr⟩ := X'.frames_eq
  have hcell9 : ((T.setVm vm').setFrames (.throwing q :: below)).heap[q]? = some ce := by
    show T.heap[q]? = some ce
    rw [hT]; exact hcell
  have hend : Ended ((T.setVm vm').setFrames (.throwing q :: below)) below (.threw q) := State.frames_setFrames _ (State.cur_lt_of_frames hfr)
  refine ⟨(T.setVm vm').setFrames (.throwing q :: below), ?_, .threw q, X'.here.running, hend, Or.inr ⟨q, rfl, E, ce, locs, hx _ hT (X'.ends _).1.alike, hcell9, hv, hcl, (X'.ends _).1, (X'.ends _).2.mono hc hs, hf⟩⟩
  rw [X.pushThrowing_eq]
  exact st
/-- a thing of a world lies in the heap -/
theorem vx_lt {D : va_G} {cl : List vw_C} {ws : va_W} {H1 : Heap} (h : va_P D cl ws H1) {k : Nat} {q : Nat × va_E} (hk : ws[k]? = some q) : q.1 < H1.size := (h k q hk).lt
end VXS
/-! ===== END ===== -/
/-! ===== BEGIN methods with a table of their own: called by a name, returning or throwing ===== -/
section VXH
/-! vx_backW, vx_callVX, vx_callSX, vx_callVW, vx_runVW, vx_runVX, vx_runSX, vx_ofWH follow the same proofs as their sisters above (Free/Laws.lean, Shelf42/LK1.lean); vx_outP calls Shelf42/NT130.lean (outThrough). -/
section
variable {l : Launch} {R : Room} {p : Program} {e : Env} {below : List Frame} {s : State} {sargs : Array Value} {y : MethodName} {len W9 : Nat}
theorem vx_backW {ws : List Cond} {rm : Room} {Pc : Array Value → State → Prop} {Qc : Array Value → State → Outcome → State → Prop} {XC : String → State → State → Prop} {mc ms : Nat} {free : Addr → Prop} {bytes : ByteArray} {maxL : Nat} {ret : Option FieldType} {hh : List (Nat × Nat × Nat × Nat)}
    (hM : vx_Met l y ws rm Pc Qc XC mc ms free) (hblind : FrameBlind Pc) (hrc : rm.cells = mc) (hrs : rm.slots = ms)
    (hframes : rm.frames + 1 ≤ R.frames) (hlocals : W9 + (maxL + 11) + rm.locals ≤ R.locals)
    (hws : ∀ w ∈ ws, ∀ a' U, s.WarmedH U.vm → w.before a' U = true) (hcode : Cond.codeWith y bytes maxL ret hh ∈ ws) (hinit : ∀ a' U, s.WarmedH U.vm → (Cond.initialized y.cls).before a' U = true) :
    vx_Back l R p e below s sargs y len W9 (PreOf R mc ms Pc) (PostOf Qc mc ms free) (vx_Post XC mc ms free) := by
  intro m meth c A g ig mk a X hg hsize hdg hW hn hp
  have h1 : (headSpec ws rm).pre.before a A.U = true := atoms_intro fun w hw => hws w hw _ _ X.warmed
  have h2 : (Cond.codeWith y bytes maxL ret hh).before a A.U = true := hws _ hcode _ _ X.warmed
  have h3 : (Cond.initialized y.cls).before a A.U = true := hinit _ _ X.warmed
  have h4 : A.cells + (headSpec ws rm).room.cells ≤ R.cells := by rw [show (headSpec ws rm).room.cells = mc from hrc]; exact hp.1
  have h5 : A.slots + (headSpec ws rm).room.slots ≤ R.slots := by rw [show (headSpec ws rm).room.slots = ms from hrs]; exact hp.2.1
  have hPc : Pc a (A.U.calling g mk a) := hblind _ _ _ _ hp.2.2
  obtain ⟨U, Ls, c0, s0⟩ := A
  dsimp only [Pt.U, Pt.locs, Pt.cells, Pt.slots] at h1 h2 h3 h4 h5 X hn hPc ⊢
  obtain ⟨m9, methY, cY, hn9, hmY, hcY, -, hlY, -⟩ := Cond.codeWith_spec h2
  cases Option.some.inj (hn9.symm.trans hn)
  obtain ⟨kY, hkY, -⟩ := className_of_methodNamed hn
  have hinitY : kY.init = .initialized := Cond.initialized_spec (findClass_of_methodNamed hn) hkY h3
  have h : At U g.method c below := by rw [hg]; exact X.here
  have hlocals9 : W9 + (maxL + 11) + (headSpec ws rm).room.locals ≤ R.locals := hlocals
  have happ : (headSpec ws rm).appliesLoose y e.platform (U.calling g mk a) = true :=
    Spec.appliesLoose_calling (g := g) h hdg hn hkY hinitY
      (X.room_calling (g := g) (R' := (headSpec ws rm).room) hsize hmY hcY hframes (by rw [hlY]; omega) h4 h5) h1
  obtain ⟨mid, hmid⟩ := h.above
  have hfr : (U.setTop g).frames = (.java g :: mid) ++ below := by rw [State.frames_setTop' g h.top, hmid]; rfl
  obtain ⟨o, s₂, hsteps, -, hend, hq⟩ := Steps.callFree hM p X.admits X.cas X.clock (acts := []) hfr happ hPc trivial
  have hq' : vx_Q Qc XC mc ms free a (U.calling g mk a) o s₂ := hq
  rw [State.frames_setTop' g h.top] at hend
  obtain ⟨g₀, hg0⟩ := Option.isSome_iff_exists.mp h.top
  obtain ⟨r, hr⟩ := State.topJava?_eq_some.mp hg0
  have hr' : (({ U with heap := s₂.heap, slotsUsed := s₂.slotsUsed } : State).setVm s₂.vm).frames = .java g₀ :: r := hr
  rcases hq' with ⟨hqc, L, hfe, hL⟩ | ⟨q, rfl, E, ce, L, hx, hce, hcv, hcl, hW₂, hsm, hL⟩
  · obtain ⟨⟨v, rfl⟩, hW₂, e2, q2, q3, q4, q5, q6⟩ := id hfe
    have e3 : s₂ = ({ (U.calling g mk a).setFrames s₂.frames with heap := s₂.heap, slotsUsed := s₂.slotsUsed } : State).setVm s₂.vm := by
      have : s₂ = ({ s₂ with vm := (U.calling g mk a).vm } : State).setVm s₂.vm := rfl
      rw [e2] at this
      exact this
    obtain ⟨c₂, i₂, len₂, hc₂, hd₂, hf₂⟩ := hend
    have hW' : U.WarmedH s₂.vm := hW₂
    have hcc : c₂ = c := by
      have h1 : s₂.code? g.method = U.code? g.method := by
        rw [State.code?_eq, State.code?_eq, hW'.alike.method?]
      exact Option.some.inj (hc₂.symm.trans (h1.trans h.code))
    subst hcc
    have hlen : len₂ = len := by rw [hdg] at hd₂; cases hd₂; rfl
    subst hlen
    have hs₂ : s₂ = (({ U with heap := s₂.heap, slotsUsed := s₂.slotsUsed } : State).setVm s₂.vm).setTop { g with pc := g.pc + len₂, stack := v.toList ++ g.stack } := by
      refine e3.trans ?_
      rw [hf₂, State.calling_eq h.top, State.setFrames_setFrames, State.setTop_of_frames _ hr', hr]
      rfl
    have hsame : U.sameButNew ({ U with heap := s₂.heap, slotsUsed := s₂.slotsUsed } : State) L mc ms := by
      refine ⟨?_, q2, q3, q4, q5, q6⟩
      obtain ⟨t, ht, -⟩ := State.frames_cons hr
      show ({ U with heap := s₂.heap, slotsUsed := s₂.slotsUsed } : State) = { U.setFrames U.frames with heap := s₂.heap, slotsUsed := s₂.slotsUsed }
      rw [State.setFrames_self ht]
    subst hg
    refine Or.inl ⟨v, ⟨(({ U with heap := s₂.heap, slotsUsed := s₂.slotsUsed } : State).setVm s₂.vm), Ls ++ L, c0 + mc, s0 + ms⟩,
      ⟨X.admits, X.cas, X.clock, X.frames, X.room, X.hears, X.method, X.code, (X.here.setHeapUsed s₂.heap s₂.slotsUsed).setVm hW'.alike, X.tail, State.WarmedH.trans X.warmed hW', X.limits, X.bytes, X.same.trans (hsame.setVm s.vm)⟩,
      ⟨g, mk, s₂, L, rfl, rfl, hqc, rfl, hL, rfl, rfl⟩, ?_⟩
    show Steps p.tables e below _ ((({ U with heap := s₂.heap, slotsUsed := s₂.slotsUsed } : State).setVm s₂.vm).setTop { g with pc := g.pc + len₂, stack := v.toList ++ g.stack })
    rw [← hs₂]
    exact hsteps
  · obtain ⟨e2, q2, q3, q4, q5, q6⟩ := id hsm
    have e3 : s₂ = ({ (U.calling g mk a).setFrames s₂.frames with heap := s₂.heap, slotsUsed := s₂.slotsUsed } : State).setVm s₂.vm := by
      have : s₂ = ({ s₂ with vm := (U.calling g mk a).vm } : State).setVm s₂.vm := rfl
      rw [e2] at this
      exact this
    have hf₂ : s₂.frames = .throwing q :: .java g :: U.frames.tail := hend
    have hW' : U.WarmedH s₂.vm := hW₂
    have hs₂ : s₂ = ((({ U with heap := s₂.heap, slotsUsed := s₂.slotsUsed } : State).setVm s₂.vm).setTop g).pushFrame (.throwing q) := by
      refine e3.trans ?_
      rw [hf₂, State.calling_eq h.top, State.setFrames_setFrames, State.pushFrame, State.frames_setTop _ hr', State.setTop_of_frames _ hr', State.setFrames_setFrames, hr]
      rfl
    have hsame : U.sameButNew ({ U with heap := s₂.heap, slotsUsed := s₂.slotsUsed } : State) L mc ms := by
      refine ⟨?_, q2, q3, q4, q5, q6⟩
      obtain ⟨t, ht, -⟩ := State.frames_cons hr
      show ({ U with heap := s₂.heap, slotsUsed := s₂.slotsUsed } : State) = { U.setFrames U.frames with heap := s₂.heap, slotsUsed := s₂.slotsUsed }
      rw [State.setFrames_self ht]
    subst hg
    refine Or.inr ⟨q, ⟨(({ U with heap := s₂.heap, slotsUsed := s₂.slotsUsed } : State).setVm s₂.vm), Ls ++ L, c0 + mc, s0 + ms⟩,
      ⟨X.admits, X.cas, X.clock, X.frames, X.room, X.hears, X.method, X.code, (X.here.setHeapUsed s₂.heap s₂.slotsUsed).setVm hW'.alike, X.tail, State.WarmedH.trans X.warmed hW', X.limits, X.bytes, X.same.trans (hsame.setVm s.vm)⟩,
      ⟨g, mk, s₂, L, E, ce, rfl, rfl, hx, hce, hcv, hcl, rfl, hL, rfl, rfl⟩, ?_⟩
    show Steps p.tables e below _ (((({ U with heap := s₂.heap, slotsUsed := s₂.slotsUsed } : State).setVm s₂.vm).setTop g).pushFrame (.throwing q))
    rw [← hs₂]
    exact hsteps
end
variable {p : Program} {l : Launch} {e : Env} {R : Room} {s : State} {m : MethodId} {args : Array Value} {below : List Frame} {meth : Method} {c : Code} {T : State} {H : Heap} {locs : List Loc} {cells slots : Nat}
theorem vx_callVX (X : Stand p l e R s m args below meth c T locs cells slots) (hexec : p.tables.exec = Jvm.exec) {own C : String} {index : Nat} {y : MethodName} {bytes : ByteArray} {maxL : Nat} {ret : Option FieldType} {hh : List (Nat × Nat × Nat × Nat)}
    (hown : s.vm.findClass own = some m.cls) (hlink : (Cond.methodLink own index y).before args s = true) (hinst : (Cond.instanceMethod y).before args s = true) (hsel : (Cond.selects C y y).before args s = true)
    (hcode : (Cond.codeWith y bytes maxL ret hh).before args s = true) (hy : y.cls ≠ "java/lang/invoke/MethodHandle" ∧ y.cls ≠ "java/lang/invoke/VarHandle")
    {W9 : Nat} {Pre : Pt → Array Value → Prop} {Post : Pt → Array Value → Option Value → Pt → Prop} {PostX : Pt → Array Value → Addr → Pt → Prop} (hK : vx_Back l R p e below s args y 3 W9 Pre Post PostX)
    {b : Addr} {cellB : Cell} (hcell : T.heap[b]? = some cellB) (hobj : cellB.vm.isStatics = false) (hcls : s.vm.findClass C = some cellB.cls)
    {g : JFrame} (hg : g.method = m) (hsize : g.locals.size = c.maxLocals) {argsL rest : List Value} (hlen : ∀ sig, parseMethodDescriptor y.desc = some sig → argsL.length = sig.parameters.length)
    (hstack : g.stack = argsL.reverse ++ .ref b :: rest) (hW : 2 * g.monitorRoom + (rest.map fun v => v.category).sum ≤ W9) (hdg : decode c.code g.pc = .ok (.invokevirtual index, 3))
    (hpre : ∀ vm₁, s.WarmedH vm₁ → Pre ⟨T.setVm vm₁, locs, cells, slots⟩ (Value.ref b :: argsL).toArray) :
    (∃ (v : Option Value) (vm₁ : Vm) (B : Pt), s.WarmedH vm₁ ∧ Stand p l e R s m args below meth c B.U B.locs B.cells B.slots ∧ Post ⟨T.setVm vm₁, locs, cells, slots⟩ (Value.ref b :: argsL).toArray v B ∧
      ∀ target, Steps p.tables e below (B.U.setTop { g with pc := g.pc + 3, stack := v.toList ++ rest }) target → Steps p.tables e below (T.setTop g) target) ∨
    (∃ (q : Addr) (vm₁ : Vm) (B : Pt), s.WarmedH vm₁ ∧ Stand p l e R s m args below meth c B.U B.locs B.cells B.slots ∧ PostX ⟨T.setVm vm₁, locs, cells, slots⟩ (Value.ref b :: argsL).toArray q B ∧
      Steps p.tables e below (T.setTop g) ((B.U.setTop { g with stack := rest }).pushFrame (.throwing q))) := by
  obtain ⟨mk, methM, hnamed, hmethM, hstM, habM⟩ := Cond.instanceMethod_spec hinst
  obtain ⟨m8, methM', cM, hn8, hmethM', -, -, -, -, -, -, hsigM⟩ := Cond.codeWith_spec hcode
  cases Option.some.inj (hn8.symm.trans hnamed)
  cases hmethM.symm.trans hmethM'
  obtain ⟨c2, r2, m2, q1, q2, q3, q4, kP, hkP, hkPi⟩ := Cond.selects_spec hsel
  cases hcls.symm.trans q1
  cases (State.methodFound?_of_named hnamed hy).symm.trans q2
  cases hnamed.symm.trans q3
  have hselP : selectMethod e.platform s.vm cellB.cls mk = .method mk := by rw [Launch.admits_selectMethod X.admits]; exact q4
  obtain ⟨vm₁, X₁, hstep₁⟩ := X.invokevirtual hexec hown hlink hnamed hmethM hstM hkP hkPi hy (a := b) (cell := cellB) hcell
    (fun z h => by rw [h] at hobj; cases hobj) hselP hmethM habM hkP hkPi (g := g) hg (argsL := argsL) (rest := rest) (hlen _ hsigM) hstack hdg
  rcases hK m meth c ⟨T.setVm vm₁, locs, cells, slots⟩ { g with stack := rest } (.invokevirtual index) mk (Value.ref b :: argsL).toArray X₁ hg hsize hdg hW (X₁.named hnamed) (hpre vm₁ X₁.warmed) with ⟨v, B, X', hpost, hsteps⟩ | ⟨q, B, X', hpost, hsteps⟩
  · exact Or.inl ⟨v, vm₁, B, X₁.warmed, X', hpost, fun target h => hstep₁ _ fun acts => by rw [doInvoke_state]; exact hsteps.trans h⟩
  · exact Or.inr ⟨q, vm₁, B, X₁.warmed, X', hpost, hstep₁ _ fun acts => by rw [doInvoke_state]; exact hsteps⟩
theorem vx_callSX (X : Stand p l e R s m args below meth c T locs cells slots) (hexec : p.tables.exec = Jvm.exec) {own : String} {index : Nat} {y : MethodName} {bytes : ByteArray} {maxL : Nat} {ret : Option FieldType} {hh : List (Nat × Nat × Nat × Nat)}
    (hown : s.vm.findClass own = some m.cls) (hlink : (Cond.methodLink own index y).before args s = true) (hstat : (Cond.static y).before args s = true) (hinit : (Cond.initialized y.cls).before args s = true)
    (hcode : (Cond.codeWith y bytes maxL ret hh).before args s = true) (hy : y.cls ≠ "java/lang/invoke/MethodHandle" ∧ y.cls ≠ "java/lang/invoke/VarHandle")
    {W9 : Nat} {Pre : Pt → Array Value → Prop} {Post : Pt → Array Value → Option Value → Pt → Prop} {PostX : Pt → Array Value → Addr → Pt → Prop} (hK : vx_Back l R p e below s args y 3 W9 Pre Post PostX)
    {g : JFrame} (hg : g.method = m) (hsize : g.locals.size = c.maxLocals) {argsL rest : List Value} (hlen : ∀ sig, parseMethodDescriptor y.desc = some sig → argsL.length = sig.parameters.length)
    (hstack : g.stack = argsL.reverse ++ rest) (hW : 2 * g.monitorRoom + (rest.map fun v => v.category).sum ≤ W9) (hdg : decode c.code g.pc = .ok (.invokestatic index, 3))
    (hpre : ∀ vm₁, s.WarmedH vm₁ → Pre ⟨T.setVm vm₁, locs, cells, slots⟩ argsL.toArray) :
    (∃ (v : Option Value) (vm₁ : Vm) (B : Pt), s.WarmedH vm₁ ∧ Stand p l e R s m args below meth c B.U B.locs B.cells B.slots ∧ Post ⟨T.setVm vm₁, locs, cells, slots⟩ argsL.toArray v B ∧
      ∀ target, Steps p.tables e below (B.U.setTop { g with pc := g.pc + 3, stack := v.toList ++ rest }) target → Steps p.tables e below (T.setTop g) target) ∨
    (∃ (q : Addr) (vm₁ : Vm) (B : Pt), s.WarmedH vm₁ ∧ Stand p l e R s m args below meth c B.U B.locs B.cells B.slots ∧ PostX ⟨T.setVm vm₁, locs, cells, slots⟩ argsL.toArray q B ∧
      Steps p.tables e below (T.setTop g) ((B.U.setTop { g with stack := rest }).pushFrame (.throwing q))) := by
  obtain ⟨mk, methM, cM, hnamed, hmethM, -, -, -, -, -, -, hsigM⟩ := Cond.codeWith_spec hcode
  have hstatic : methM.isStatic = true := Cond.static_spec hnamed hmethM hstat
  obtain ⟨kP, hkP, -⟩ := className_of_methodNamed hnamed
  have hinitP : kP.init = .initialized := Cond.initialized_spec (findClass_of_methodNamed hnamed) hkP hinit
  obtain ⟨vm₁, X₁, hstep₁⟩ := X.invokestatic hexec hown hlink hnamed hmethM hstatic hkP hinitP hy (g := g) hg (argsL := argsL) (rest := rest) (hlen _ hsigM) hstack hdg
  rcases hK m meth c ⟨T.setVm vm₁, locs, cells, slots⟩ { g with stack := rest } (.invokestatic index) mk argsL.toArray X₁ hg hsize hdg hW (X₁.named hnamed) (hpre vm₁ X₁.warmed) with ⟨v, B, X', hpost, hsteps⟩ | ⟨q, B, X', hpost, hsteps⟩
  · exact Or.inl ⟨v, vm₁, B, X₁.warmed, X', hpost, fun target h => hstep₁ _ fun acts => by rw [doInvoke_state]; exact hsteps.trans h⟩
  · exact Or.inr ⟨q, vm₁, B, X₁.warmed, X', hpost, hstep₁ _ fun acts => by rw [doInvoke_state]; exact hsteps⟩
theorem vx_callVW (X : Stand p l e R s m args below meth c T locs cells slots) (hexec : p.tables.exec = Jvm.exec) {own C : String} {index : Nat} {y : MethodName} {bytes : ByteArray} {maxL : Nat} {ret : Option FieldType} {hh : List (Nat × Nat × Nat × Nat)}
    (hown : s.vm.findClass own = some m.cls) (hlink : (Cond.methodLink own index y).before args s = true) (hinst : (Cond.instanceMethod y).before args s = true) (hsel : (Cond.selects C y y).before args s = true)
    (hcode : (Cond.codeWith y bytes maxL ret hh).before args s = true) (hy : y.cls ≠ "java/lang/invoke/MethodHandle" ∧ y.cls ≠ "java/lang/invoke/VarHandle")
    {W9 : Nat} {Pre : Pt → Array Value → Prop} {Post : Pt → Array Value → Option Value → Pt → Prop} (hK : Back l R p e below s args y 3 W9 Pre Post)
    {b : Addr} {cellB : Cell} (hcell : T.heap[b]? = some cellB) (hobj : cellB.vm.isStatics = false) (hcls : s.vm.findClass C = some cellB.cls)
    {g : JFrame} (hg : g.method = m) (hsize : g.locals.size = c.maxLocals) {argsL rest : List Value} (hlen : ∀ sig, parseMethodDescriptor y.desc = some sig → argsL.length = sig.parameters.length)
    (hstack : g.stack = argsL.reverse ++ .ref b :: rest) (hW : 2 * g.monitorRoom + (rest.map fun v => v.category).sum ≤ W9) (hdg : decode c.code g.pc = .ok (.invokevirtual index, 3))
    (hpre : ∀ vm₁, s.WarmedH vm₁ → Pre ⟨T.setVm vm₁, locs, cells, slots⟩ (Value.ref b :: argsL).toArray) :
    ∃ (v : Option Value) (vm₁ : Vm) (B : Pt), s.WarmedH vm₁ ∧ Stand p l e R s m args below meth c B.U B.locs B.cells B.slots ∧ Post ⟨T.setVm vm₁, locs, cells, slots⟩ (Value.ref b :: argsL).toArray v B ∧
      ∀ target, Steps p.tables e below (B.U.setTop { g with pc := g.pc + 3, stack := v.toList ++ rest }) target → Steps p.tables e below (T.setTop g) target := by
  obtain ⟨mk, methM, hnamed, hmethM, hstM, habM⟩ := Cond.instanceMethod_spec hinst
  obtain ⟨m8, methM', cM, hn8, hmethM', -, -, -, -, -, -, hsigM⟩ := Cond.codeWith_spec hcode
  cases Option.some.inj (hn8.symm.trans hnamed)
  cases hmethM.symm.trans hmethM'
  obtain ⟨c2, r2, m2, q1, q2, q3, q4, kP, hkP, hkPi⟩ := Cond.selects_spec hsel
  cases hcls.symm.trans q1
  cases (State.methodFound?_of_named hnamed hy).symm.trans q2
  cases hnamed.symm.trans q3
  have hselP : selectMethod e.platform s.vm cellB.cls mk = .method mk := by rw [Launch.admits_selectMethod X.admits]; exact q4
  obtain ⟨vm₁, X₁, hstep₁⟩ := X.invokevirtual hexec hown hlink hnamed hmethM hstM hkP hkPi hy (a := b) (cell := cellB) hcell
    (fun z h => by rw [h] at hobj; cases hobj) hselP hmethM habM hkP hkPi (g := g) hg (argsL := argsL) (rest := rest) (hlen _ hsigM) hstack hdg
  obtain ⟨v, B, X', hpost, hsteps⟩ := hK m meth c ⟨T.setVm vm₁, locs, cells, slots⟩ { g with stack := rest } (.invokevirtual index) mk (Value.ref b :: argsL).toArray X₁ hg hsize hdg hW (X₁.named hnamed) (hpre vm₁ X₁.warmed)
  exact ⟨v, vm₁, B, X₁.warmed, X', hpost, fun target h => hstep₁ _ fun acts => by rw [doInvoke_state]; exact hsteps.trans h⟩
abbrev vx_CVW (R : Room) (s : State) (args : Array Value) (own C : String) (index : Nat) (y : MethodName) (bytes : ByteArray) (maxL : Nat) (ret : Option FieldType) (hh : List (Nat × Nat × Nat × Nat)) (ws : List Cond) (rm : Room) (mc ms n : Nat) : Prop :=
  (rm.cells = mc ∧ rm.slots = ms ∧ rm.frames + 1 ≤ R.frames ∧ 8 + (maxL + 11) + rm.locals ≤ R.locals ∧ (∀ w ∈ ws, ∀ (a' : Array Value) (U : State), s.WarmedH U.vm → w.before a' U = true) ∧ Cond.codeWith y bytes maxL ret hh ∈ ws) ∧
  (Cond.codeWith y bytes maxL ret hh).before args s = true ∧ (Cond.initialized y.cls).before args s = true ∧ (y.cls ≠ "java/lang/invoke/MethodHandle" ∧ y.cls ≠ "java/lang/invoke/VarHandle") ∧
  (∀ sig, parseMethodDescriptor y.desc = some sig → n = sig.parameters.length) ∧ (Cond.methodLink own index y).before args s = true ∧ (Cond.instanceMethod y).before args s = true ∧ (Cond.selects C y y).before args s = true
theorem vx_cwVW {own C : String} {index maxL mc ms : Nat} {y : MethodName} {bytes : ByteArray} {ret : Option FieldType} {hh : List (Nat × Nat × Nat × Nat)} {Ts ws ws' : List Cond} {rm : Room} (n : Nat) (ht : ∀ w ∈ Ts, w.before args s = true) (hT : GoodIn Ts (wsV own index C y ws)) (hw : ws = Cond.codeWith y bytes maxL ret hh :: ws') (hrc : rm.cells = mc) (hrs : rm.slots = ms)
    (hd : y.cls = C ∧ y.cls ≠ "java/lang/invoke/MethodHandle" ∧ y.cls ≠ "java/lang/invoke/VarHandle" ∧ (parseMethodDescriptor y.desc).map (fun d => d.parameters.length) = some n) (hR : rm.frames + 1 ≤ R.frames ∧ 8 + (maxL + 11) + rm.locals ≤ R.locals) :
    vx_CVW R s args own C index y bytes maxL ret hh ws rm mc ms n := by
  obtain ⟨hC, hd⟩ := hd
  subst hC
  have ok : ∀ w ∈ wsV own index y.cls y ws, w.before args s = true := fun w h => ht w (hT w h).1
  have hG : GoodIn Ts ws := fun w h => hT w (by unfold wsV; exact List.mem_append_right _ h)
  have hc : Cond.codeWith y bytes maxL ret hh ∈ ws := by rw [hw]; exact List.mem_cons_self
  refine ⟨⟨hrc, hrs, hR.1, hR.2, pay_in ht hG, hc⟩, ht _ (hG _ hc).1, ok _ (by simp [wsV]), ⟨hd.1, hd.2.1⟩, fun sig h => ?_, ok _ (by simp [wsV]), ok _ (by simp [wsV]), ok _ (by simp [wsV])⟩
  have h2 := hd.2.2
  rw [h] at h2
  exact (Option.some.inj h2).symm
theorem vx_runVW {y : MethodName} {bytes cc : ByteArray} {maxL nL mc ms n index : Nat} {ret : Option FieldType} {hh : List (Nat × Nat × Nat × Nat)} {ws : List Cond} {rm : Room} {Pc : Array Value → State → Prop} {Qc : Array Value → State → Outcome → State → Prop} {free : Addr → Prop} {Ts : List Cond} {own C : String} {b : Addr} {As rest : List Value} {g : JFrame}
    (S : CallFix p m c cc nL s args Ts own) (hM : Met l y ws rm Pc Qc mc ms free) (cw : vx_CVW R s args own C index y bytes maxL ret hh ws rm mc ms n) (hp : PreV s H C b Pc As)
    (hg : g.method = m) (hn : As.length = n) (hsize : g.locals.size = nL) (hstack : g.stack = As.reverse ++ .ref b :: rest) (hW : 2 * g.monitorRoom + (rest.map fun v => v.category).sum ≤ 8) (hdg : decode cc g.pc = .ok (.invokevirtual index, 3)) (hf : cells + mc ≤ R.cells ∧ slots + ms ≤ R.slots) :
    va_Run p l e R s m args below meth c H locs cells slots mc ms g rest (Qc (Value.ref b :: As).toArray) free := by
  obtain ⟨⟨hrc, hrs, hfr, hlo, hws, hcw⟩, hcode, hini, hy, hlen, hl, hin, hse⟩ := cw
  have hK : Back l R p e below s args y 3 8 (PreOf R mc ms Pc) (PostOf Qc mc ms free) := va_backW (hh := hh) (bytes := bytes) (maxL := maxL) (ret := ret) hM hp.1 hrc hrs hfr hlo hws hcw (fun a' U hW => word_at hW (Or.inl (by first | rfl | simp [Cond.onTables, Cond.keeps, Cond.steady])) hini)
  obtain ⟨hx, hb, hml, ho, -⟩ := S
  obtain ⟨-, ⟨cellB, hcB, hoB, hclB⟩, hPc⟩ := hp
  intro T hT X
  obtain ⟨v, vm₁, ⟨U', l2, c2, s2⟩, hW₁, X', ⟨g', mk, t, L, e1, e2, hq, h1, hL, h2, h3⟩, st⟩ := vx_callVW X hx (C := C) (hh := hh) (bytes := bytes) (maxL := maxL) (ret := ret) ho hl hin hse hcode hy hK (by rw [hT]; exact hcB) hoB hclB hg (hsize.trans hml.symm) (argsL := As) (rest := rest) (fun sig h => hn.trans (hlen sig h)) hstack hW (by rw [hb]; exact hdg)
    (fun vm₁ hW₁ => ⟨hf.1, hf.2, hPc (T.setVm vm₁) hT hW₁⟩)
  dsimp only [Pt.U, Pt.locs, Pt.cells, Pt.slots] at X' e1 e2 h1 h2 h3 st
  subst h1; subst h2; subst h3
  exact ⟨v, (T.setVm vm₁).calling g' mk (Value.ref b :: As).toArray, t, U', L, hT, X', hL, e1, e2, hq, st⟩
section
variable {y : MethodName} {bytes cc : ByteArray} {maxL nL mc ms n index : Nat} {ret : Option FieldType} {ws : List Cond} {rm : Room} {Pc : Array Value → State → Prop} {Qc : Array Value → State → Outcome → State → Prop} {XC : String → State → State → Prop} {free : Addr → Prop} {Ts : List Cond} {own C : String} {b : Addr} {As rest : List Value} {g : JFrame}
theorem vx_runVX {hh : List (Nat × Nat × Nat × Nat)} (S : CallFix p m c cc nL s args Ts own) (hM : vx_Met l y ws rm Pc Qc XC mc ms free) (cw : vx_CVW R s args own C index y bytes maxL ret hh ws rm mc ms n) (hp : PreV s H C b Pc As)
    (hg : g.method = m) (hn : As.length = n) (hsize : g.locals.size = nL) (hstack : g.stack = As.reverse ++ .ref b :: rest) (hW : 2 * g.monitorRoom + (rest.map fun v => v.category).sum ≤ 8) (hdg : decode cc g.pc = .ok (.invokevirtual index, 3)) (hf : cells + mc ≤ R.cells ∧ slots + ms ≤ R.slots) :
    vx_Run p l e R s m args below meth c H locs cells slots mc ms g rest (Qc (Value.ref b :: As).toArray) XC free := by
  obtain ⟨⟨hrc, hrs, hfr, hlo, hws, hcw⟩, hcode, hini, hy, hlen, hl, hin, hse⟩ := cw
  have hK : vx_Back l R p e below s args y 3 8 (PreOf R mc ms Pc) (PostOf Qc mc ms free) (vx_Post XC mc ms free) := vx_backW (hh := hh) (bytes := bytes) (maxL := maxL) (ret := ret) hM hp.1 hrc hrs hfr hlo hws hcw (fun a' U hW => word_at hW (Or.inl (by first | rfl | simp [Cond.onTables, Cond.keeps, Cond.steady])) hini)
  obtain ⟨hx, hb, hml, ho, -⟩ := S
  obtain ⟨-, ⟨cellB, hcB, hoB, hclB⟩, hPc⟩ := hp
  intro T hT X
  rcases vx_callVX X hx (C := C) (hh := hh) (bytes := bytes) (maxL := maxL) (ret := ret) ho hl hin hse hcode hy hK (by rw [hT]; exact hcB) hoB hclB hg (hsize.trans hml.symm) (argsL := As) (rest := rest) (fun sig h => hn.trans (hlen sig h)) hstack hW (by rw [hb]; exact hdg)
    (fun vm₁ hW₁ => ⟨hf.1, hf.2, hPc (T.setVm vm₁) hT hW₁⟩) with ⟨v, vm₁, ⟨U', l2, c2, s2⟩, hW₁, X', ⟨g', mk, t, L, e1, e2, hq, h1, hL, h2, h3⟩, st⟩ | ⟨q, vm₁, ⟨U', l2, c2, s2⟩, hW₁, X', ⟨g', mk, t, L, E, ce, e1, e2, hq, hce, hcv, hcl, h1, hL, h2, h3⟩, st⟩
  · dsimp only [Pt.U, Pt.locs, Pt.cells, Pt.slots] at X' e1 e2 h1 h2 h3 st
    subst h1; subst h2; subst h3
    exact Or.inl ⟨v, (T.setVm vm₁).calling g' mk (Value.ref b :: As).toArray, t, U', L, hT, X', hL, e1, e2, hq, st⟩
  · dsimp only [Pt.U, Pt.locs, Pt.cells, Pt.slots] at X' e1 e2 h1 h2 h3 st hcl
    subst h1; subst h2; subst h3
    exact Or.inr ⟨q, (T.setVm vm₁).calling g' mk (Value.ref b :: As).toArray, t, U', L, E, ce, hT, X', hL, e1, e2, hq, hce, hcv, vx_cls hW₁ hcl, st⟩
theorem vx_runSX {hh : List (Nat × Nat × Nat × Nat)} (S : CallFix p m c cc nL s args Ts own) (hM : vx_Met l y ws rm Pc Qc XC mc ms free) (cw : vx_CSW R s args own index y bytes maxL ret hh ws rm mc ms n) (hp : PreS s H Pc As)
    (hg : g.method = m) (hn : As.length = n) (hsize : g.locals.size = nL) (hstack : g.stack = As.reverse ++ rest) (hW : 2 * g.monitorRoom + (rest.map fun v => v.category).sum ≤ 8) (hdg : decode cc g.pc = .ok (.invokestatic index, 3)) (hf : cells + mc ≤ R.cells ∧ slots + ms ≤ R.slots) :
    vx_Run p l e R s m args below meth c H locs cells slots mc ms g rest (Qc As.toArray) XC free := by
  obtain ⟨⟨hrc, hrs, hfr, hlo, hws, hcw⟩, hcode, hini, hy, hlen, hl, hstt⟩ := cw
  have hK : vx_Back l R p e below s args y 3 8 (PreOf R mc ms Pc) (PostOf Qc mc ms free) (vx_Post XC mc ms free) := vx_backW (hh := hh) (bytes := bytes) (maxL := maxL) (ret := ret) hM hp.1 hrc hrs hfr hlo hws hcw (fun a' U hW => word_at hW (Or.inl (by first | rfl | simp [Cond.onTables, Cond.keeps, Cond.steady])) hini)
  obtain ⟨hx, hb, hml, ho, -⟩ := S
  intro T hT X
  rcases vx_callSX X hx (hh := hh) (bytes := bytes) (maxL := maxL) (ret := ret) ho hl hstt hini hcode hy hK hg (hsize.trans hml.symm) (argsL := As) (rest := rest) (fun sig h => hn.trans (hlen sig h)) hstack hW (by rw [hb]; exact hdg)
    (fun vm₁ hW₁ => ⟨hf.1, hf.2, hp.2 (T.setVm vm₁) hT hW₁⟩) with ⟨v, vm₁, ⟨U', l2, c2, s2⟩, hW₁, X', ⟨g', mk, t, L, e1, e2, hq, h1, hL, h2, h3⟩, st⟩ | ⟨q, vm₁, ⟨U', l2, c2, s2⟩, hW₁, X', ⟨g', mk, t, L, E, ce, e1, e2, hq, hce, hcv, hcl, h1, hL, h2, h3⟩, st⟩
  · dsimp only [Pt.U, Pt.locs, Pt.cells, Pt.slots] at X' e1 e2 h1 h2 h3 st
    subst h1; subst h2; subst h3
    exact Or.inl ⟨v, (T.setVm vm₁).calling g' mk As.toArray, t, U', L, hT, X', hL, e1, e2, hq, st⟩
  · dsimp only [Pt.U, Pt.locs, Pt.cells, Pt.slots] at X' e1 e2 h1 h2 h3 st hcl
    subst h1; subst h2; subst h3
    exact Or.inr ⟨q, (T.setVm vm₁).calling g' mk As.toArray, t, U', L, E, ce, hT, X', hL, e1, e2, hq, hce, hcv, vx_cls hW₁ hcl, st⟩
end
end VXH
theorem vx_ofWH {l : Launch} {y : MethodName} {ws ws' : List Cond} {rm : Room} {Pc : Array Value → State → Prop} {Qc : Array Value → State → Outcome → State → Prop} {XC : String → State → State → Prop} {mc ms : Nat} {free : Addr → Prop} {cc : ByteArray} {maxL : Nat} {ret : Option FieldType} {hh : List (Nat × Nat × Nat × Nat)}
    (hy : plainName y.cls = true) (hw : ws = Cond.codeWith y cc maxL ret hh :: ws')
    (body : ∀ p e s m args below meth c s₁, BodyLoose p l y (headSpec ws rm) cc maxL ret e s m args below meth c s₁ → c.maxLocals = maxL → Pc args s →
      W p l e (headSpec ws rm).room s m args below meth c s.heap [] 0 0 (vx_MQ below Qc XC args s mc ms free) (entryFrame m args maxL)) : vx_Met l y ws rm Pc Qc XC mc ms free := by
  refine MetFree.of_bodyS (code := cc) (maxLocals := maxL) (ret := ret) hy ?_ ?_
  · intro args s m h hn
    obtain ⟨m9, meth, c, hn9, h1, h2, h3, h4, -, h5, h6, -⟩ := Cond.codeWith_spec (atoms_spec (ws := ws) h _ (by rw [hw]; exact List.mem_cons_self))
    cases hn.symm.trans hn9
    exact ⟨meth, c, h1, h2, h3, h4, h5, h6⟩
  · intro p e s m args below meth c s₁ B hml hP _
    have hh0 : s₁.heap = s.heap := by rw [B.state]; rfl
    obtain ⟨t, a1, o, b1, b2, b3⟩ := body p e s m args below meth c s₁ B hml hP s₁ hh0 (Stand.of_body B)
    exact ⟨t, o, a1, b1, b2, b3⟩
/-! ===== END ===== -/

def RX0 : String := "SteepleWords$Ballot"
def TX0 : u_T := fun k => match k with
  | 0 => ("SteepleWords$Ballot", "changes", "[I", true)
  | 1 => ("SteepleWords$Ballot", "lowest", "I", false)
  | 2 => ("SteepleWords$Ballot", "highest", "I", false)
  | _ => ("SteepleWords$Ballot", "most", "I", false)
def tyX0 : Nat → FieldType := fun k => match k with
  | 0 => .array .int
  | 1 => .int
  | 2 => .int
  | _ => .int
abbrev wsX00 : List Cond := u_ws RX0 TX0 4
theorem nmX0 : ∀ a, a < 4 → ∀ b, b < 4 → a ≠ b → (TX0 a).2.1 ≠ (TX0 b).2.1 := by decide +kernel
theorem tyX0_ok : ∀ k, k < 4 → parseFieldDescriptor (TX0 k).2.2.1 = some (tyX0 k) := by decide +kernel
abbrev cX0_init : ByteArray := prog_2_method_1_code
def yX0_init : MethodName := ⟨RX0, "<init>", "()V"⟩
abbrev cX0_lowest : ByteArray := prog_2_method_2_code
def yX0_lowest : MethodName := ⟨RX0, "lowest", "()I"⟩
abbrev cX0_most : ByteArray := prog_2_method_3_code
def yX0_most : MethodName := ⟨RX0, "most", "()I"⟩
abbrev cX0_told : ByteArray := prog_2_method_4_code
def yX0_told : MethodName := ⟨RX0, "told", "(I)I"⟩
abbrev cX0_countByHeights : ByteArray := prog_2_method_5_code
def yX0_countByHeights : MethodName := ⟨RX0, "countByHeights", "(LSteepleWords$Parish;I)V"⟩
abbrev cX0_noteChanges : ByteArray := prog_2_method_6_code
def yX0_noteChanges : MethodName := ⟨RX0, "noteChanges", "(LSteepleWords$Parish;I)V"⟩
abbrev cX0_countByEnds : ByteArray := prog_2_method_7_code
def yX0_countByEnds : MethodName := ⟨RX0, "countByEnds", "(LSteepleWords$Parish;II)V"⟩
abbrev cX0_tryLowest : ByteArray := prog_2_method_8_code
def yX0_tryLowest : MethodName := ⟨RX0, "tryLowest", "(II)V"⟩
def RX1 : String := "SteepleWords$History"
def TX1 : u_T := fun k => match k with
  | 0 => ("SteepleWords$History", "states", "[LSteepleWords$Parish;", true)
  | 1 => ("SteepleWords$History", "next", "I", false)
  | _ => ("SteepleWords$History", "count", "I", false)
def tyX1 : Nat → FieldType := fun k => match k with
  | 0 => .array (.object "SteepleWords$Parish")
  | 1 => .int
  | _ => .int
abbrev wsX10 : List Cond := u_ws RX1 TX1 3
theorem nmX1 : ∀ a, a < 3 → ∀ b, b < 3 → a ≠ b → (TX1 a).2.1 ≠ (TX1 b).2.1 := by decide +kernel
theorem tyX1_ok : ∀ k, k < 3 → parseFieldDescriptor (TX1 k).2.2.1 = some (tyX1 k) := by decide +kernel
abbrev cX1_init : ByteArray := prog_3_method_1_code
def yX1_init : MethodName := ⟨RX1, "<init>", "()V"⟩
abbrev cX1_isEmpty : ByteArray := prog_3_method_2_code
def yX1_isEmpty : MethodName := ⟨RX1, "isEmpty", "()Z"⟩
abbrev cX1_forget : ByteArray := prog_3_method_3_code
def yX1_forget : MethodName := ⟨RX1, "forget", "()V"⟩
abbrev cX1_remember : ByteArray := prog_3_method_4_code
def yX1_remember : MethodName := ⟨RX1, "remember", "(LSteepleWords$Parish;)V"⟩
abbrev cX1_takeBack : ByteArray := prog_3_method_5_code
def yX1_takeBack : MethodName := ⟨RX1, "takeBack", "(LSteepleWords$Parish;)I"⟩
def RX2 : String := "SteepleWords$Parish"
def TX2 : u_T := fun k => match k with
  | 0 => ("SteepleWords$Parish", "measures", "[I", true)
  | 1 => ("SteepleWords$Parish", "trusts", "[I", true)
  | 2 => ("SteepleWords$Parish", "rights", "[I", true)
  | 3 => ("SteepleWords$Parish", "wrongs", "[I", true)
  | 4 => ("SteepleWords$Parish", "surveyed", "[I", true)
  | 5 => ("SteepleWords$Parish", "settings", "[I", true)
  | 6 => ("SteepleWords$Parish", "count", "I", false)
  | 7 => ("SteepleWords$Parish", "came", "I", false)
  | 8 => ("SteepleWords$Parish", "evenings", "I", false)
  | 9 => ("SteepleWords$Parish", "surveys", "I", false)
  | _ => ("SteepleWords$Parish", "lost", "I", false)
def tyX2 : Nat → FieldType := fun k => match k with
  | 0 => .array .int
  | 1 => .array .int
  | 2 => .array .int
  | 3 => .array .int
  | 4 => .array .int
  | 5 => .array .int
  | 6 => .int
  | 7 => .int
  | 8 => .int
  | 9 => .int
  | _ => .int
abbrev wsX20 : List Cond := u_ws RX2 TX2 11
theorem nmX2 : ∀ a, a < 11 → ∀ b, b < 11 → a ≠ b → (TX2 a).2.1 ≠ (TX2 b).2.1 := by decide +kernel
theorem tyX2_ok : ∀ k, k < 11 → parseFieldDescriptor (TX2 k).2.2.1 = some (tyX2 k) := by decide +kernel
abbrev cX2_init : ByteArray := prog_4_method_1_code
def yX2_init : MethodName := ⟨RX2, "<init>", "()V"⟩
abbrev cX2_makeNew : ByteArray := prog_4_method_2_code
def yX2_makeNew : MethodName := ⟨RX2, "makeNew", "()V"⟩
abbrev cX2_takeFrom : ByteArray := prog_4_method_3_code
def yX2_takeFrom : MethodName := ⟨RX2, "takeFrom", "(LSteepleWords$Parish;)V"⟩
abbrev cX2_isSteeple : ByteArray := prog_4_method_4_code
def yX2_isSteeple : MethodName := ⟨RX2, "isSteeple", "(I)Z"⟩
abbrev cX2_isTeller : ByteArray := prog_4_method_5_code
def yX2_isTeller : MethodName := ⟨RX2, "isTeller", "(I)Z"⟩
abbrev cX2_isTrust : ByteArray := prog_4_method_6_code
def yX2_isTrust : MethodName := ⟨RX2, "isTrust", "(I)Z"⟩
abbrev cX2_isHeight : ByteArray := prog_4_method_7_code
def yX2_isHeight : MethodName := ⟨RX2, "isHeight", "(I)Z"⟩
abbrev cX2_isSetting : ByteArray := prog_4_method_8_code
def yX2_isSetting : MethodName := ⟨RX2, "isSetting", "(I)Z"⟩
abbrev cX2_fitsSetting : ByteArray := prog_4_method_9_code
def yX2_fitsSetting : MethodName := ⟨RX2, "fitsSetting", "(II)Z"⟩
abbrev cX2_fits : ByteArray := prog_4_method_10_code
def yX2_fits : MethodName := ⟨RX2, "fits", "(IIIII)Z"⟩
abbrev cX2_fitsFarSide : ByteArray := prog_4_method_11_code
def yX2_fitsFarSide : MethodName := ⟨RX2, "fitsFarSide", "(II)Z"⟩
abbrev cX2_hasMeasure : ByteArray := prog_4_method_12_code
def yX2_hasMeasure : MethodName := ⟨RX2, "hasMeasure", "(I)Z"⟩
abbrev cX2_isFull : ByteArray := prog_4_method_13_code
def yX2_isFull : MethodName := ⟨RX2, "isFull", "()Z"⟩
abbrev cX2_tryMeasure : ByteArray := prog_4_method_14_code
def yX2_tryMeasure : MethodName := ⟨RX2, "tryMeasure", "(IIIIIII)Z"⟩
abbrev cX2_tryDrop : ByteArray := prog_4_method_15_code
def yX2_tryDrop : MethodName := ⟨RX2, "tryDrop", "(I)Z"⟩
abbrev cX2_tryTrust : ByteArray := prog_4_method_16_code
def yX2_tryTrust : MethodName := ⟨RX2, "tryTrust", "(II)Z"⟩
abbrev cX2_trySurvey : ByteArray := prog_4_method_17_code
def yX2_trySurvey : MethodName := ⟨RX2, "trySurvey", "(II)Z"⟩
abbrev cX2_addMeasure : ByteArray := prog_4_method_18_code
def yX2_addMeasure : MethodName := ⟨RX2, "addMeasure", "(IIIIIII)I"⟩
abbrev cX2_leastHeight : ByteArray := prog_4_method_19_code
def yX2_leastHeight : MethodName := ⟨RX2, "leastHeight", "(III)I"⟩
abbrev cX2_greatestHeight : ByteArray := prog_4_method_20_code
def yX2_greatestHeight : MethodName := ⟨RX2, "greatestHeight", "(III)I"⟩
abbrev cX2_withinFeet : ByteArray := prog_4_method_21_code
def yX2_withinFeet : MethodName := ⟨RX2, "withinFeet", "(I)I"⟩
abbrev cX2_removeMeasure : ByteArray := prog_4_method_22_code
def yX2_removeMeasure : MethodName := ⟨RX2, "removeMeasure", "(I)I"⟩
abbrev cX2_changeTrust : ByteArray := prog_4_method_23_code
def yX2_changeTrust : MethodName := ⟨RX2, "changeTrust", "(II)I"⟩
abbrev cX2_changeSetting : ByteArray := prog_4_method_24_code
def yX2_changeSetting : MethodName := ⟨RX2, "changeSetting", "(II)I"⟩
abbrev cX2_passEvening : ByteArray := prog_4_method_25_code
def yX2_passEvening : MethodName := ⟨RX2, "passEvening", "()I"⟩
abbrev cX2_shameLighter : ByteArray := prog_4_method_26_code
def yX2_shameLighter : MethodName := ⟨RX2, "shameLighter", "(II)V"⟩
abbrev cX2_surveySteeple : ByteArray := prog_4_method_27_code
def yX2_surveySteeple : MethodName := ⟨RX2, "surveySteeple", "(II)I"⟩
abbrev cX2_judge : ByteArray := prog_4_method_28_code
def yX2_judge : MethodName := ⟨RX2, "judge", "(IZ)V"⟩
abbrev cX2_removeMeasuresOf : ByteArray := prog_4_method_29_code
def yX2_removeMeasuresOf : MethodName := ⟨RX2, "removeMeasuresOf", "(I)V"⟩
abbrev cX2_number : ByteArray := prog_4_method_30_code
def yX2_number : MethodName := ⟨RX2, "number", "(II)I"⟩
abbrev cX2_isOf : ByteArray := prog_4_method_31_code
def yX2_isOf : MethodName := ⟨RX2, "isOf", "(II)Z"⟩
abbrev cX2_tells : ByteArray := prog_4_method_32_code
def yX2_tells : MethodName := ⟨RX2, "tells", "(II)Z"⟩
abbrev cX2_weight : ByteArray := prog_4_method_33_code
def yX2_weight : MethodName := ⟨RX2, "weight", "(I)I"⟩
abbrev cX2_feetApart : ByteArray := prog_4_method_34_code
def yX2_feetApart : MethodName := ⟨RX2, "feetApart", "(II)I"⟩
abbrev cX2_quarrel : ByteArray := prog_4_method_35_code
def yX2_quarrel : MethodName := ⟨RX2, "quarrel", "(II)Z"⟩
abbrev cX2_matters : ByteArray := prog_4_method_36_code
def yX2_matters : MethodName := ⟨RX2, "matters", "(II)Z"⟩
abbrev cX2_quarrelsOfMeasure : ByteArray := prog_4_method_37_code
def yX2_quarrelsOfMeasure : MethodName := ⟨RX2, "quarrelsOfMeasure", "(I)I"⟩
abbrev cX2_count : ByteArray := prog_4_method_38_code
def yX2_count : MethodName := ⟨RX2, "count", "()I"⟩
abbrev cX2_came : ByteArray := prog_4_method_39_code
def yX2_came : MethodName := ⟨RX2, "came", "()I"⟩
abbrev cX2_evenings : ByteArray := prog_4_method_40_code
def yX2_evenings : MethodName := ⟨RX2, "evenings", "()I"⟩
abbrev cX2_surveys : ByteArray := prog_4_method_41_code
def yX2_surveys : MethodName := ⟨RX2, "surveys", "()I"⟩
abbrev cX2_lost : ByteArray := prog_4_method_42_code
def yX2_lost : MethodName := ⟨RX2, "lost", "()I"⟩
abbrev cX2_settingOf : ByteArray := prog_4_method_43_code
def yX2_settingOf : MethodName := ⟨RX2, "settingOf", "(I)I"⟩
abbrev cX2_trustOfAll : ByteArray := prog_4_method_44_code
def yX2_trustOfAll : MethodName := ⟨RX2, "trustOfAll", "()I"⟩
abbrev cX2_rightOfAll : ByteArray := prog_4_method_45_code
def yX2_rightOfAll : MethodName := ⟨RX2, "rightOfAll", "()I"⟩
abbrev cX2_wrongOfAll : ByteArray := prog_4_method_46_code
def yX2_wrongOfAll : MethodName := ⟨RX2, "wrongOfAll", "()I"⟩
abbrev cX2_sum : ByteArray := prog_4_method_47_code
def yX2_sum : MethodName := ⟨RX2, "sum", "([I)I"⟩
abbrev cX2_pairsThatQuarrel : ByteArray := prog_4_method_48_code
def yX2_pairsThatQuarrel : MethodName := ⟨RX2, "pairsThatQuarrel", "()I"⟩
abbrev cX2_pairsThatMatter : ByteArray := prog_4_method_49_code
def yX2_pairsThatMatter : MethodName := ⟨RX2, "pairsThatMatter", "()I"⟩
abbrev cX2_trustOf : ByteArray := prog_4_method_50_code
def yX2_trustOf : MethodName := ⟨RX2, "trustOf", "(I)I"⟩
abbrev cX2_rightOf : ByteArray := prog_4_method_51_code
def yX2_rightOf : MethodName := ⟨RX2, "rightOf", "(I)I"⟩
abbrev cX2_wrongOf : ByteArray := prog_4_method_52_code
def yX2_wrongOf : MethodName := ⟨RX2, "wrongOf", "(I)I"⟩
abbrev cX2_measuresOfTeller : ByteArray := prog_4_method_53_code
def yX2_measuresOfTeller : MethodName := ⟨RX2, "measuresOfTeller", "(I)I"⟩
abbrev cX2_quarrelsOfTeller : ByteArray := prog_4_method_54_code
def yX2_quarrelsOfTeller : MethodName := ⟨RX2, "quarrelsOfTeller", "(I)I"⟩
abbrev cX2_tellsHeight : ByteArray := prog_4_method_55_code
def yX2_tellsHeight : MethodName := ⟨RX2, "tellsHeight", "(III)Z"⟩
abbrev cX2_tellerMostlyRight : ByteArray := prog_4_method_56_code
def yX2_tellerMostlyRight : MethodName := ⟨RX2, "tellerMostlyRight", "()I"⟩
abbrev cX2_isTruer : ByteArray := prog_4_method_57_code
def yX2_isTruer : MethodName := ⟨RX2, "isTruer", "(II)Z"⟩
abbrev cX2_heightSurveyed : ByteArray := prog_4_method_58_code
def yX2_heightSurveyed : MethodName := ⟨RX2, "heightSurveyed", "(I)I"⟩
abbrev cX2_measuresOfSteeple : ByteArray := prog_4_method_59_code
def yX2_measuresOfSteeple : MethodName := ⟨RX2, "measuresOfSteeple", "(I)I"⟩
abbrev cX2_weightOfSteeple : ByteArray := prog_4_method_60_code
def yX2_weightOfSteeple : MethodName := ⟨RX2, "weightOfSteeple", "(I)I"⟩
abbrev cX2_voteOf : ByteArray := prog_4_method_61_code
def yX2_voteOf : MethodName := ⟨RX2, "voteOf", "(III)I"⟩
abbrev cX2_loudestAgainst : ByteArray := prog_4_method_62_code
def yX2_loudestAgainst : MethodName := ⟨RX2, "loudestAgainst", "(II)I"⟩
abbrev cX2_isLouder : ByteArray := prog_4_method_63_code
def yX2_isLouder : MethodName := ⟨RX2, "isLouder", "(III)Z"⟩
abbrev cX2_feetFrom : ByteArray := prog_4_method_64_code
def yX2_feetFrom : MethodName := ⟨RX2, "feetFrom", "(II)I"⟩
def RX3 : String := "SteepleWords$Script"
def TX3 : u_T := fun k => match k with
  | _ => ("", "", "", false)
def tyX3 : Nat → FieldType := fun k => match k with
  | _ => .int
abbrev wsX30 : List Cond := u_ws RX3 TX3 0
theorem nmX3 : ∀ a, a < 0 → ∀ b, b < 0 → a ≠ b → (TX3 a).2.1 ≠ (TX3 b).2.1 := by decide +kernel
theorem tyX3_ok : ∀ k, k < 0 → parseFieldDescriptor (TX3 k).2.2.1 = some (tyX3 k) := by decide +kernel
abbrev cX3_limit : ByteArray := prog_5_method_2_code
def yX3_limit : MethodName := ⟨RX3, "limit", "(I)J"⟩
abbrev cX3_group : ByteArray := prog_5_method_3_code
def yX3_group : MethodName := ⟨RX3, "group", "(JI)I"⟩
abbrev cX3_succeeds : ByteArray := prog_5_method_4_code
def yX3_succeeds : MethodName := ⟨RX3, "succeeds", "(LSteepleWords$Parish;LSteepleWords$Ballot;I)Z"⟩
abbrev cX3_passEvenings : ByteArray := prog_5_method_5_code
def yX3_passEvenings : MethodName := ⟨RX3, "passEvenings", "(LSteepleWords$Parish;I)Z"⟩
abbrev cX3_lowestIsAtMost : ByteArray := prog_5_method_6_code
def yX3_lowestIsAtMost : MethodName := ⟨RX3, "lowestIsAtMost", "(LSteepleWords$Parish;LSteepleWords$Ballot;II)Z"⟩
abbrev cX3_mostIsAtLeast : ByteArray := prog_5_method_7_code
def yX3_mostIsAtLeast : MethodName := ⟨RX3, "mostIsAtLeast", "(LSteepleWords$Parish;LSteepleWords$Ballot;II)Z"⟩
def RX4 : String := "SteepleWords$Simulation"
def TX4 : u_T := fun k => match k with
  | _ => ("", "", "", false)
def tyX4 : Nat → FieldType := fun k => match k with
  | _ => .int
abbrev wsX40 : List Cond := u_ws RX4 TX4 0
theorem nmX4 : ∀ a, a < 0 → ∀ b, b < 0 → a ≠ b → (TX4 a).2.1 ≠ (TX4 b).2.1 := by decide +kernel
theorem tyX4_ok : ∀ k, k < 0 → parseFieldDescriptor (TX4 k).2.2.1 = some (tyX4 k) := by decide +kernel
abbrev cX4_turn : ByteArray := prog_6_method_2_code
def yX4_turn : MethodName := ⟨RX4, "turn", "(LSteepleWords$Parish;I)V"⟩
abbrev cX4_tell : ByteArray := prog_6_method_3_code
def yX4_tell : MethodName := ⟨RX4, "tell", "(LSteepleWords$Parish;II)V"⟩
abbrev cX4_changeSetting : ByteArray := prog_6_method_4_code
def yX4_changeSetting : MethodName := ⟨RX4, "changeSetting", "(LSteepleWords$Parish;I)V"⟩
def RX5 : String := "SteepleWords$Text"
def TX5 : u_T := fun k => match k with
  | 0 => ("SteepleWords$Text", "signs", "[I", true)
  | 1 => ("SteepleWords$Text", "length", "I", false)
  | 2 => ("SteepleWords$Text", "position", "I", false)
  | 3 => ("SteepleWords$Text", "command", "I", false)
  | _ => ("SteepleWords$Text", "numbers", "[I", true)
def tyX5 : Nat → FieldType := fun k => match k with
  | 0 => .array .int
  | 1 => .int
  | 2 => .int
  | 3 => .int
  | _ => .array .int
abbrev wsX50 : List Cond := u_ws RX5 TX5 5
theorem nmX5 : ∀ a, a < 5 → ∀ b, b < 5 → a ≠ b → (TX5 a).2.1 ≠ (TX5 b).2.1 := by decide +kernel
theorem tyX5_ok : ∀ k, k < 5 → parseFieldDescriptor (TX5 k).2.2.1 = some (tyX5 k) := by decide +kernel
abbrev cX5_init : ByteArray := prog_7_method_1_code
def yX5_init : MethodName := ⟨RX5, "<init>", "()V"⟩
abbrev cX5_isFull : ByteArray := prog_7_method_2_code
def yX5_isFull : MethodName := ⟨RX5, "isFull", "()Z"⟩
abbrev cX5_add : ByteArray := prog_7_method_3_code
def yX5_add : MethodName := ⟨RX5, "add", "(I)I"⟩
abbrev cX5_empty : ByteArray := prog_7_method_4_code
def yX5_empty : MethodName := ⟨RX5, "empty", "()I"⟩
abbrev cX5_command : ByteArray := prog_7_method_5_code
def yX5_command : MethodName := ⟨RX5, "command", "()I"⟩
abbrev cX5_number : ByteArray := prog_7_method_6_code
def yX5_number : MethodName := ⟨RX5, "number", "(I)I"⟩
abbrev cX5_findError : ByteArray := prog_7_method_7_code
def yX5_findError : MethodName := ⟨RX5, "findError", "()I"⟩
abbrev cX5_readHead : ByteArray := prog_7_method_8_code
def yX5_readHead : MethodName := ⟨RX5, "readHead", "()Z"⟩
abbrev cX5_readCommand : ByteArray := prog_7_method_9_code
def yX5_readCommand : MethodName := ⟨RX5, "readCommand", "()Z"⟩
abbrev cX5_signHere : ByteArray := prog_7_method_10_code
def yX5_signHere : MethodName := ⟨RX5, "signHere", "()I"⟩
abbrev cX5_readNumbers : ByteArray := prog_7_method_11_code
def yX5_readNumbers : MethodName := ⟨RX5, "readNumbers", "([I)Z"⟩
abbrev cX5_readNumber : ByteArray := prog_7_method_12_code
def yX5_readNumber : MethodName := ⟨RX5, "readNumber", "(III)I"⟩
abbrev cX5_leadsInto : ByteArray := prog_7_method_13_code
def yX5_leadsInto : MethodName := ⟨RX5, "leadsInto", "(IIII)Z"⟩
def RX6 : String := "SteepleWords"
def TX6 : u_T := fun k => match k with
  | 0 => ("SteepleWords", "parish", "LSteepleWords$Parish;", true)
  | 1 => ("SteepleWords", "copy", "LSteepleWords$Parish;", true)
  | 2 => ("SteepleWords", "slots", "[LSteepleWords$Parish;", true)
  | 3 => ("SteepleWords", "saved", "[Z", true)
  | 4 => ("SteepleWords", "history", "LSteepleWords$History;", true)
  | 5 => ("SteepleWords", "text", "LSteepleWords$Text;", true)
  | _ => ("SteepleWords", "ballot", "LSteepleWords$Ballot;", true)
def tyX6 : Nat → FieldType := fun k => match k with
  | 0 => .object "SteepleWords$Parish"
  | 1 => .object "SteepleWords$Parish"
  | 2 => .array (.object "SteepleWords$Parish")
  | 3 => .array .boolean
  | 4 => .object "SteepleWords$History"
  | 5 => .object "SteepleWords$Text"
  | _ => .object "SteepleWords$Ballot"
abbrev wsX60 : List Cond := u_ws RX6 TX6 7
theorem nmX6 : ∀ a, a < 7 → ∀ b, b < 7 → a ≠ b → (TX6 a).2.1 ≠ (TX6 b).2.1 := by decide +kernel
theorem tyX6_ok : ∀ k, k < 7 → parseFieldDescriptor (TX6 k).2.2.1 = some (tyX6 k) := by decide +kernel
abbrev cX6_init : ByteArray := prog_1_method_1_code
def yX6_init : MethodName := ⟨RX6, "<init>", "()V"⟩
abbrev cX6_append : ByteArray := prog_1_method_2_code
def yX6_append : MethodName := ⟨RX6, "append", "(I)I"⟩
abbrev cX6_clearText : ByteArray := prog_1_method_3_code
def yX6_clearText : MethodName := ⟨RX6, "clearText", "()I"⟩
abbrev cX6_errorPosition : ByteArray := prog_1_method_4_code
def yX6_errorPosition : MethodName := ⟨RX6, "errorPosition", "()I"⟩
abbrev cX6_load : ByteArray := prog_1_method_5_code
def yX6_load : MethodName := ⟨RX6, "load", "()I"⟩
abbrev cX6_doCommandOfText : ByteArray := prog_1_method_6_code
def yX6_doCommandOfText : MethodName := ⟨RX6, "doCommandOfText", "()Z"⟩
abbrev cX6_about : ByteArray := prog_1_method_7_code
def yX6_about : MethodName := ⟨RX6, "about", "(I)I"⟩
abbrev cX6_measureOf : ByteArray := prog_1_method_8_code
def yX6_measureOf : MethodName := ⟨RX6, "measureOf", "(II)I"⟩
abbrev cX6_tellerOf : ByteArray := prog_1_method_9_code
def yX6_tellerOf : MethodName := ⟨RX6, "tellerOf", "(II)I"⟩
abbrev cX6_steepleOf : ByteArray := prog_1_method_10_code
def yX6_steepleOf : MethodName := ⟨RX6, "steepleOf", "(II)I"⟩
abbrev cX6_vote : ByteArray := prog_1_method_11_code
def yX6_vote : MethodName := ⟨RX6, "vote", "(II)I"⟩
abbrev cX6_best : ByteArray := prog_1_method_12_code
def yX6_best : MethodName := ⟨RX6, "best", "(III)I"⟩
abbrev cX6_setting : ByteArray := prog_1_method_13_code
def yX6_setting : MethodName := ⟨RX6, "setting", "(I)I"⟩
abbrev cX6_measure : ByteArray := prog_1_method_14_code
def yX6_measure : MethodName := ⟨RX6, "measure", "(IIIIIII)I"⟩
abbrev cX6_drop : ByteArray := prog_1_method_15_code
def yX6_drop : MethodName := ⟨RX6, "drop", "(I)I"⟩
abbrev cX6_trust : ByteArray := prog_1_method_16_code
def yX6_trust : MethodName := ⟨RX6, "trust", "(II)I"⟩
abbrev cX6_evening : ByteArray := prog_1_method_17_code
def yX6_evening : MethodName := ⟨RX6, "evening", "()I"⟩
abbrev cX6_survey : ByteArray := prog_1_method_18_code
def yX6_survey : MethodName := ⟨RX6, "survey", "(II)I"⟩
abbrev cX6_set : ByteArray := prog_1_method_19_code
def yX6_set : MethodName := ⟨RX6, "set", "(II)I"⟩
abbrev cX6_undo : ByteArray := prog_1_method_20_code
def yX6_undo : MethodName := ⟨RX6, "undo", "()I"⟩
abbrev cX6_apart : ByteArray := prog_1_method_21_code
def yX6_apart : MethodName := ⟨RX6, "apart", "(II)I"⟩
abbrev cX6_against : ByteArray := prog_1_method_22_code
def yX6_against : MethodName := ⟨RX6, "against", "(I)I"⟩
abbrev cX6_without : ByteArray := prog_1_method_23_code
def yX6_without : MethodName := ⟨RX6, "without", "(II)I"⟩
abbrev cX6_swings : ByteArray := prog_1_method_24_code
def yX6_swings : MethodName := ⟨RX6, "swings", "(II)I"⟩
abbrev cX6_truest : ByteArray := prog_1_method_25_code
def yX6_truest : MethodName := ⟨RX6, "truest", "()I"⟩
abbrev cX6_runScript : ByteArray := prog_1_method_26_code
def yX6_runScript : MethodName := ⟨RX6, "runScript", "(IJ)I"⟩
abbrev cX6_simulate : ByteArray := prog_1_method_27_code
def yX6_simulate : MethodName := ⟨RX6, "simulate", "(JI)I"⟩
abbrev cX6_save : ByteArray := prog_1_method_28_code
def yX6_save : MethodName := ⟨RX6, "save", "(I)I"⟩
abbrev cX6_restore : ByteArray := prog_1_method_29_code
def yX6_restore : MethodName := ⟨RX6, "restore", "(I)I"⟩
abbrev cX6_need : ByteArray := prog_1_method_30_code
def yX6_need : MethodName := ⟨RX6, "need", "(Z)V"⟩
abbrev cX6_needSteeple : ByteArray := prog_1_method_31_code
def yX6_needSteeple : MethodName := ⟨RX6, "needSteeple", "(I)V"⟩
abbrev cX6_needTeller : ByteArray := prog_1_method_32_code
def yX6_needTeller : MethodName := ⟨RX6, "needTeller", "(I)V"⟩
abbrev cX6_needMeasure : ByteArray := prog_1_method_33_code
def yX6_needMeasure : MethodName := ⟨RX6, "needMeasure", "(I)V"⟩
abbrev cX6_needSlot : ByteArray := prog_1_method_34_code
def yX6_needSlot : MethodName := ⟨RX6, "needSlot", "(I)V"⟩
def RX7 : String := "SteepleWordsModel"
def TX7 : u_T := fun k => match k with
  | 0 => ("SteepleWordsModel", "refusal", "I", false)
  | 1 => ("SteepleWordsModel", "text", "[I", true)
  | 2 => ("SteepleWordsModel", "size", "I", false)
  | 3 => ("SteepleWordsModel", "now", "[I", true)
  | 4 => ("SteepleWordsModel", "trial", "[I", true)
  | 5 => ("SteepleWordsModel", "diary", "[I", true)
  | 6 => ("SteepleWordsModel", "acts", "I", false)
  | 7 => ("SteepleWordsModel", "kept", "[I", true)
  | 8 => ("SteepleWordsModel", "isKept", "[Z", true)
  | 9 => ("SteepleWordsModel", "spot", "I", false)
  | _ => ("SteepleWordsModel", "out", "I", false)
def tyX7 : Nat → FieldType := fun k => match k with
  | 0 => .int
  | 1 => .array .int
  | 2 => .int
  | 3 => .array .int
  | 4 => .array .int
  | 5 => .array .int
  | 6 => .int
  | 7 => .array .int
  | 8 => .array .boolean
  | 9 => .int
  | _ => .int
abbrev wsX70 : List Cond := u_ws RX7 TX7 11
theorem nmX7 : ∀ a, a < 11 → ∀ b, b < 11 → a ≠ b → (TX7 a).2.1 ≠ (TX7 b).2.1 := by decide +kernel
theorem tyX7_ok : ∀ k, k < 11 → parseFieldDescriptor (TX7 k).2.2.1 = some (tyX7 k) := by decide +kernel
abbrev cX7_init : ByteArray := prog_9_method_1_code
def yX7_init : MethodName := ⟨RX7, "<init>", "()V"⟩
abbrev cX7_thrown : ByteArray := prog_9_method_2_code
def yX7_thrown : MethodName := ⟨RX7, "thrown", "()I"⟩
abbrev cX7_refused : ByteArray := prog_9_method_3_code
def yX7_refused : MethodName := ⟨RX7, "refused", "(I)Z"⟩
abbrev cX7_in : ByteArray := prog_9_method_4_code
def yX7_in : MethodName := ⟨RX7, "in", "(JJJ)Z"⟩
abbrev cX7_copyState : ByteArray := prog_9_method_5_code
def yX7_copyState : MethodName := ⟨RX7, "copyState", "([II[II)V"⟩
abbrev cX7_clear : ByteArray := prog_9_method_6_code
def yX7_clear : MethodName := ⟨RX7, "clear", "([I)V"⟩
abbrev cX7_of : ByteArray := prog_9_method_7_code
def yX7_of : MethodName := ⟨RX7, "of", "([III)I"⟩
abbrev cX7_isMeasure : ByteArray := prog_9_method_8_code
def yX7_isMeasure : MethodName := ⟨RX7, "isMeasure", "([II)Z"⟩
abbrev cX7_isSteeple : ByteArray := prog_9_method_9_code
def yX7_isSteeple : MethodName := ⟨RX7, "isSteeple", "(I)Z"⟩
abbrev cX7_isTeller : ByteArray := prog_9_method_10_code
def yX7_isTeller : MethodName := ⟨RX7, "isTeller", "(I)Z"⟩
abbrev cX7_isSetting : ByteArray := prog_9_method_11_code
def yX7_isSetting : MethodName := ⟨RX7, "isSetting", "(II)Z"⟩
abbrev cX7_areFine : ByteArray := prog_9_method_12_code
def yX7_areFine : MethodName := ⟨RX7, "areFine", "(IIIII)Z"⟩
abbrev cX7_bounded : ByteArray := prog_9_method_13_code
def yX7_bounded : MethodName := ⟨RX7, "bounded", "(I)I"⟩
abbrev cX7_least : ByteArray := prog_9_method_14_code
def yX7_least : MethodName := ⟨RX7, "least", "([II)I"⟩
abbrev cX7_greatest : ByteArray := prog_9_method_15_code
def yX7_greatest : MethodName := ⟨RX7, "greatest", "([II)I"⟩
abbrev cX7_tells : ByteArray := prog_9_method_16_code
def yX7_tells : MethodName := ⟨RX7, "tells", "([III)Z"⟩
abbrev cX7_weight : ByteArray := prog_9_method_17_code
def yX7_weight : MethodName := ⟨RX7, "weight", "([II)I"⟩
abbrev cX7_gap : ByteArray := prog_9_method_18_code
def yX7_gap : MethodName := ⟨RX7, "gap", "([III)I"⟩
abbrev cX7_quarrel : ByteArray := prog_9_method_19_code
def yX7_quarrel : MethodName := ⟨RX7, "quarrel", "([III)Z"⟩
abbrev cX7_quarrelsOf : ByteArray := prog_9_method_20_code
def yX7_quarrelsOf : MethodName := ⟨RX7, "quarrelsOf", "([II)I"⟩
abbrev cX7_pairs : ByteArray := prog_9_method_21_code
def yX7_pairs : MethodName := ⟨RX7, "pairs", "([II)I"⟩
abbrev cX7_voteOf : ByteArray := prog_9_method_22_code
def yX7_voteOf : MethodName := ⟨RX7, "voteOf", "([III)I"⟩
abbrev cX7_lowestBest : ByteArray := prog_9_method_23_code
def yX7_lowestBest : MethodName := ⟨RX7, "lowestBest", "([II)I"⟩
abbrev cX7_bestOf : ByteArray := prog_9_method_24_code
def yX7_bestOf : MethodName := ⟨RX7, "bestOf", "([III)I"⟩
abbrev cX7_measureOn : ByteArray := prog_9_method_25_code
def yX7_measureOn : MethodName := ⟨RX7, "measureOn", "([IIIIIIII)I"⟩
abbrev cX7_dropOn : ByteArray := prog_9_method_26_code
def yX7_dropOn : MethodName := ⟨RX7, "dropOn", "([II)I"⟩
abbrev cX7_trustOn : ByteArray := prog_9_method_27_code
def yX7_trustOn : MethodName := ⟨RX7, "trustOn", "([III)I"⟩
abbrev cX7_eveningOn : ByteArray := prog_9_method_28_code
def yX7_eveningOn : MethodName := ⟨RX7, "eveningOn", "([I)I"⟩
abbrev cX7_sees : ByteArray := prog_9_method_29_code
def yX7_sees : MethodName := ⟨RX7, "sees", "([IIZ)V"⟩
abbrev cX7_surveyOn : ByteArray := prog_9_method_30_code
def yX7_surveyOn : MethodName := ⟨RX7, "surveyOn", "([III)I"⟩
abbrev cX7_change : ByteArray := prog_9_method_31_code
def yX7_change : MethodName := ⟨RX7, "change", "([III)I"⟩
abbrev cX7_allTrust : ByteArray := prog_9_method_32_code
def yX7_allTrust : MethodName := ⟨RX7, "allTrust", "([I)I"⟩
abbrev cX7_append : ByteArray := prog_9_method_33_code
def yX7_append : MethodName := ⟨RX7, "append", "(I)I"⟩
abbrev cX7_clearText : ByteArray := prog_9_method_34_code
def yX7_clearText : MethodName := ⟨RX7, "clearText", "()I"⟩
abbrev cX7_figures : ByteArray := prog_9_method_35_code
def yX7_figures : MethodName := ⟨RX7, "figures", "(IIII)I"⟩
abbrev cX7_done : ByteArray := prog_9_method_36_code
def yX7_done : MethodName := ⟨RX7, "done", "(Z)Z"⟩
abbrev cX7_readMeasure : ByteArray := prog_9_method_37_code
def yX7_readMeasure : MethodName := ⟨RX7, "readMeasure", "([II)Z"⟩
abbrev cX7_readCommand : ByteArray := prog_9_method_38_code
def yX7_readCommand : MethodName := ⟨RX7, "readCommand", "([I)Z"⟩
abbrev cX7_readText : ByteArray := prog_9_method_39_code
def yX7_readText : MethodName := ⟨RX7, "readText", "([I)I"⟩
abbrev cX7_errorPosition : ByteArray := prog_9_method_40_code
def yX7_errorPosition : MethodName := ⟨RX7, "errorPosition", "()I"⟩
abbrev cX7_load : ByteArray := prog_9_method_41_code
def yX7_load : MethodName := ⟨RX7, "load", "()I"⟩
abbrev cX7_about : ByteArray := prog_9_method_42_code
def yX7_about : MethodName := ⟨RX7, "about", "(I)I"⟩
abbrev cX7_measureOf : ByteArray := prog_9_method_43_code
def yX7_measureOf : MethodName := ⟨RX7, "measureOf", "(II)I"⟩
abbrev cX7_tellerOf : ByteArray := prog_9_method_44_code
def yX7_tellerOf : MethodName := ⟨RX7, "tellerOf", "(II)I"⟩
abbrev cX7_steepleOf : ByteArray := prog_9_method_45_code
def yX7_steepleOf : MethodName := ⟨RX7, "steepleOf", "(II)I"⟩
abbrev cX7_vote : ByteArray := prog_9_method_46_code
def yX7_vote : MethodName := ⟨RX7, "vote", "(II)I"⟩
abbrev cX7_best : ByteArray := prog_9_method_47_code
def yX7_best : MethodName := ⟨RX7, "best", "(III)I"⟩
abbrev cX7_setting : ByteArray := prog_9_method_48_code
def yX7_setting : MethodName := ⟨RX7, "setting", "(I)I"⟩
abbrev cX7_remember : ByteArray := prog_9_method_49_code
def yX7_remember : MethodName := ⟨RX7, "remember", "()V"⟩
abbrev cX7_measure : ByteArray := prog_9_method_50_code
def yX7_measure : MethodName := ⟨RX7, "measure", "(IIIIIII)I"⟩
abbrev cX7_drop : ByteArray := prog_9_method_51_code
def yX7_drop : MethodName := ⟨RX7, "drop", "(I)I"⟩
abbrev cX7_trust : ByteArray := prog_9_method_52_code
def yX7_trust : MethodName := ⟨RX7, "trust", "(II)I"⟩
abbrev cX7_evening : ByteArray := prog_9_method_53_code
def yX7_evening : MethodName := ⟨RX7, "evening", "()I"⟩
abbrev cX7_survey : ByteArray := prog_9_method_54_code
def yX7_survey : MethodName := ⟨RX7, "survey", "(II)I"⟩
abbrev cX7_set : ByteArray := prog_9_method_55_code
def yX7_set : MethodName := ⟨RX7, "set", "(II)I"⟩
abbrev cX7_undo : ByteArray := prog_9_method_56_code
def yX7_undo : MethodName := ⟨RX7, "undo", "()I"⟩
abbrev cX7_apart : ByteArray := prog_9_method_57_code
def yX7_apart : MethodName := ⟨RX7, "apart", "(II)I"⟩
abbrev cX7_away : ByteArray := prog_9_method_58_code
def yX7_away : MethodName := ⟨RX7, "away", "([III)I"⟩
abbrev cX7_against : ByteArray := prog_9_method_59_code
def yX7_against : MethodName := ⟨RX7, "against", "(I)I"⟩
abbrev cX7_without : ByteArray := prog_9_method_60_code
def yX7_without : MethodName := ⟨RX7, "without", "(II)I"⟩
abbrev cX7_isTold : ByteArray := prog_9_method_61_code
def yX7_isTold : MethodName := ⟨RX7, "isTold", "([III)Z"⟩
abbrev cX7_swings : ByteArray := prog_9_method_62_code
def yX7_swings : MethodName := ⟨RX7, "swings", "(II)I"⟩
abbrev cX7_truest : ByteArray := prog_9_method_63_code
def yX7_truest : MethodName := ⟨RX7, "truest", "()I"⟩
abbrev cX7_commandSteeple : ByteArray := prog_9_method_64_code
def yX7_commandSteeple : MethodName := ⟨RX7, "commandSteeple", "(IIII)Z"⟩
abbrev cX7_command : ByteArray := prog_9_method_65_code
def yX7_command : MethodName := ⟨RX7, "command", "(II)Z"⟩
abbrev cX7_runScript : ByteArray := prog_9_method_66_code
def yX7_runScript : MethodName := ⟨RX7, "runScript", "(IJ)I"⟩
abbrev cX7_turnOf : ByteArray := prog_9_method_67_code
def yX7_turnOf : MethodName := ⟨RX7, "turnOf", "([III)V"⟩
abbrev cX7_simulate : ByteArray := prog_9_method_68_code
def yX7_simulate : MethodName := ⟨RX7, "simulate", "(JI)I"⟩
abbrev cX7_save : ByteArray := prog_9_method_69_code
def yX7_save : MethodName := ⟨RX7, "save", "(I)I"⟩
abbrev cX7_restore : ByteArray := prog_9_method_70_code
def yX7_restore : MethodName := ⟨RX7, "restore", "(I)I"⟩
def RJx145de : String := "java/io/Serializable"
def TJx145de : u_T := fun k => match k with
  | _ => ("", "", "", false)
def tyJx145de : Nat → FieldType := fun k => match k with
  | _ => .int
abbrev wsJx145de0 : List Cond := u_ws RJx145de TJx145de 0
theorem nmJx145de : ∀ a, a < 0 → ∀ b, b < 0 → a ≠ b → (TJx145de a).2.1 ≠ (TJx145de b).2.1 := by decide +kernel
theorem tyJx145de_ok : ∀ k, k < 0 → parseFieldDescriptor (TJx145de k).2.2.1 = some (tyJx145de k) := by decide +kernel
def RJ9 : String := "java/lang/Math"
def TJ9 : u_T := fun k => match k with
  | _ => ("", "", "", false)
def tyJ9 : Nat → FieldType := fun k => match k with
  | _ => .int
abbrev wsJ90 : List Cond := u_ws RJ9 TJ9 0
theorem nmJ9 : ∀ a, a < 0 → ∀ b, b < 0 → a ≠ b → (TJ9 a).2.1 ≠ (TJ9 b).2.1 := by decide +kernel
theorem tyJ9_ok : ∀ k, k < 0 → parseFieldDescriptor (TJ9 k).2.2.1 = some (tyJ9 k) := by decide +kernel
abbrev cJ9_floorDiv_7cf53 : ByteArray := prog_14_method_47_code
def yJ9_floorDiv_7cf53 : MethodName := ⟨RJ9, "floorDiv", "(II)I"⟩
abbrev cJ9_max_7cf53 : ByteArray := prog_14_method_65_code
def yJ9_max_7cf53 : MethodName := ⟨RJ9, "max", "(II)I"⟩
abbrev cJ9_min_7cf53 : ByteArray := prog_14_method_69_code
def yJ9_min_7cf53 : MethodName := ⟨RJ9, "min", "(II)I"⟩
def RJ0 : String := "java/lang/String"
def TJ0 : u_T := fun k => match k with
  | _ => ("", "", "", false)
def tyJ0 : Nat → FieldType := fun k => match k with
  | _ => .int
abbrev wsJ00 : List Cond := u_ws RJ0 TJ0 0
theorem nmJ0 : ∀ a, a < 0 → ∀ b, b < 0 → a ≠ b → (TJ0 a).2.1 ≠ (TJ0 b).2.1 := by decide +kernel
theorem tyJ0_ok : ∀ k, k < 0 → parseFieldDescriptor (TJ0 k).2.2.1 = some (tyJ0 k) := by decide +kernel
def RJ10 : String := "java/lang/System"
def TJ10 : u_T := fun k => match k with
  | _ => ("", "", "", false)
def tyJ10 : Nat → FieldType := fun k => match k with
  | _ => .int
abbrev wsJ100 : List Cond := u_ws RJ10 TJ10 0
theorem nmJ10 : ∀ a, a < 0 → ∀ b, b < 0 → a ≠ b → (TJ10 a).2.1 ≠ (TJ10 b).2.1 := by decide +kernel
theorem tyJ10_ok : ∀ k, k < 0 → parseFieldDescriptor (TJ10 k).2.2.1 = some (tyJ10 k) := by decide +kernel
def RJ7 : String := "java/util/Arrays"
def TJ7 : u_T := fun k => match k with
  | _ => ("", "", "", false)
def tyJ7 : Nat → FieldType := fun k => match k with
  | _ => .int
abbrev wsJ70 : List Cond := u_ws RJ7 TJ7 0
theorem nmJ7 : ∀ a, a < 0 → ∀ b, b < 0 → a ≠ b → (TJ7 a).2.1 ≠ (TJ7 b).2.1 := by decide +kernel
theorem tyJ7_ok : ∀ k, k < 0 → parseFieldDescriptor (TJ7 k).2.2.1 = some (tyJ7 k) := by decide +kernel
abbrev cJ7_fill_53178 : ByteArray := prog_19_method_103_code
def yJ7_fill_53178 : MethodName := ⟨RJ7, "fill", "([II)V"⟩
def RL : String := "SteepleWordsLaw"
abbrev cL_append : ByteArray := method_3_code
def yL_append : MethodName := ⟨RL, "append", "(LSteepleWords;I[J)I"⟩
abbrev cL_load : ByteArray := method_4_code
def yL_load : MethodName := ⟨RL, "load", "(LSteepleWords;[J)I"⟩
abbrev cL_about : ByteArray := method_5_code
def yL_about : MethodName := ⟨RL, "about", "(LSteepleWords;I[J)I"⟩
abbrev cL_measureOf : ByteArray := method_6_code
def yL_measureOf : MethodName := ⟨RL, "measureOf", "(LSteepleWords;II[J)I"⟩
abbrev cL_tellerOf : ByteArray := method_7_code
def yL_tellerOf : MethodName := ⟨RL, "tellerOf", "(LSteepleWords;II[J)I"⟩
abbrev cL_steepleOf : ByteArray := method_8_code
def yL_steepleOf : MethodName := ⟨RL, "steepleOf", "(LSteepleWords;II[J)I"⟩
abbrev cL_vote : ByteArray := method_9_code
def yL_vote : MethodName := ⟨RL, "vote", "(LSteepleWords;II[J)I"⟩
abbrev cL_best : ByteArray := method_10_code
def yL_best : MethodName := ⟨RL, "best", "(LSteepleWords;III[J)I"⟩
abbrev cL_setting : ByteArray := method_11_code
def yL_setting : MethodName := ⟨RL, "setting", "(LSteepleWords;I[J)I"⟩
abbrev cL_measure : ByteArray := method_12_code
def yL_measure : MethodName := ⟨RL, "measure", "(LSteepleWords;IIIIIII[J)I"⟩
abbrev cL_drop : ByteArray := method_13_code
def yL_drop : MethodName := ⟨RL, "drop", "(LSteepleWords;I[J)I"⟩
abbrev cL_trust : ByteArray := method_14_code
def yL_trust : MethodName := ⟨RL, "trust", "(LSteepleWords;II[J)I"⟩
abbrev cL_survey : ByteArray := method_15_code
def yL_survey : MethodName := ⟨RL, "survey", "(LSteepleWords;II[J)I"⟩
abbrev cL_set : ByteArray := method_16_code
def yL_set : MethodName := ⟨RL, "set", "(LSteepleWords;II[J)I"⟩
abbrev cL_undo : ByteArray := method_17_code
def yL_undo : MethodName := ⟨RL, "undo", "(LSteepleWords;[J)I"⟩
abbrev cL_apart : ByteArray := method_18_code
def yL_apart : MethodName := ⟨RL, "apart", "(LSteepleWords;II[J)I"⟩
abbrev cL_against : ByteArray := method_19_code
def yL_against : MethodName := ⟨RL, "against", "(LSteepleWords;I[J)I"⟩
abbrev cL_without : ByteArray := method_20_code
def yL_without : MethodName := ⟨RL, "without", "(LSteepleWords;II[J)I"⟩
abbrev cL_swings : ByteArray := method_21_code
def yL_swings : MethodName := ⟨RL, "swings", "(LSteepleWords;II[J)I"⟩
abbrev cL_runScript : ByteArray := method_22_code
def yL_runScript : MethodName := ⟨RL, "runScript", "(LSteepleWords;IJ[J)I"⟩
abbrev cL_simulate : ByteArray := method_23_code
def yL_simulate : MethodName := ⟨RL, "simulate", "(LSteepleWords;JI[J)I"⟩
abbrev cL_save : ByteArray := method_24_code
def yL_save : MethodName := ⟨RL, "save", "(LSteepleWords;I[J)I"⟩
abbrev cL_restore : ByteArray := method_25_code
def yL_restore : MethodName := ⟨RL, "restore", "(LSteepleWords;I[J)I"⟩
abbrev cL_law : ByteArray := code
def yL_law : MethodName := ⟨RL, "law", "([I)Z"⟩
abbrev vwCl : List vw_C := [(RX0, TX0, 4), (RX1, TX1, 3), (RX2, TX2, 11), (RX5, TX5, 5), (RX6, TX6, 7), (RX7, TX7, 11)]
end
section
theorem dX0_init_0 : decode cX0_init 0 = .ok (.aload_n 0, 1) := by decide +kernel
theorem dX0_init_1 : decode cX0_init 1 = .ok (.invokespecial 3, 3) := by decide +kernel
theorem dX0_init_4 : decode cX0_init 4 = .ok (.aload_n 0, 1) := by decide +kernel
theorem dX0_init_5 : decode cX0_init 5 = .ok (.sipush 1001, 3) := by decide +kernel
theorem dX0_init_8 : decode cX0_init 8 = .ok (.newarray .int, 2) := by decide +kernel
theorem dX0_init_10 : decode cX0_init 10 = .ok (.putfield 11, 3) := by decide +kernel
theorem dX0_init_13 : decode cX0_init 13 = .ok (.return_, 1) := by decide +kernel
theorem dX0_lowest_0 : decode cX0_lowest 0 = .ok (.aload_n 0, 1) := by decide +kernel
theorem dX0_lowest_1 : decode cX0_lowest 1 = .ok (.getfield 17, 3) := by decide +kernel
theorem dX0_lowest_4 : decode cX0_lowest 4 = .ok (.ireturn, 1) := by decide +kernel
theorem dX0_most_0 : decode cX0_most 0 = .ok (.aload_n 0, 1) := by decide +kernel
theorem dX0_most_1 : decode cX0_most 1 = .ok (.getfield 21, 3) := by decide +kernel
theorem dX0_most_4 : decode cX0_most 4 = .ok (.ireturn, 1) := by decide +kernel
theorem dX0_told_0 : decode cX0_told 0 = .ok (.iload_n 1, 1) := by decide +kernel
theorem dX0_told_1 : decode cX0_told 1 = .ok (.lookupswitch 37 #[(0, 27), (1, 32)], 27) := by decide +kernel
theorem dX0_told_28 : decode cX0_told 28 = .ok (.aload_n 0, 1) := by decide +kernel
theorem dX0_told_29 : decode cX0_told 29 = .ok (.getfield 17, 3) := by decide +kernel
theorem dX0_told_32 : decode cX0_told 32 = .ok (.ireturn, 1) := by decide +kernel
theorem dX0_told_33 : decode cX0_told 33 = .ok (.aload_n 0, 1) := by decide +kernel
theorem dX0_told_34 : decode cX0_told 34 = .ok (.getfield 24, 3) := by decide +kernel
theorem dX0_told_37 : decode cX0_told 37 = .ok (.ireturn, 1) := by decide +kernel
theorem dX0_told_38 : decode cX0_told 38 = .ok (.aload_n 0, 1) := by decide +kernel
theorem dX0_told_39 : decode cX0_told 39 = .ok (.getfield 21, 3) := by decide +kernel
theorem dX0_told_42 : decode cX0_told 42 = .ok (.ireturn, 1) := by decide +kernel
theorem dX0_countByHeights_0 : decode cX0_countByHeights 0 = .ok (.aload_n 0, 1) := by decide +kernel
theorem dX0_countByHeights_1 : decode cX0_countByHeights 1 = .ok (.aload_n 1, 1) := by decide +kernel
theorem dX0_countByHeights_2 : decode cX0_countByHeights 2 = .ok (.iload_n 2, 1) := by decide +kernel
theorem dX0_countByHeights_3 : decode cX0_countByHeights 3 = .ok (.invokevirtual 27, 3) := by decide +kernel
theorem dX0_countByHeights_6 : decode cX0_countByHeights 6 = .ok (.aload_n 0, 1) := by decide +kernel
theorem dX0_countByHeights_7 : decode cX0_countByHeights 7 = .ok (.iconst (-1), 1) := by decide +kernel
theorem dX0_countByHeights_8 : decode cX0_countByHeights 8 = .ok (.putfield 21, 3) := by decide +kernel
theorem dX0_countByHeights_11 : decode cX0_countByHeights 11 = .ok (.iconst 0, 1) := by decide +kernel
theorem dX0_countByHeights_12 : decode cX0_countByHeights 12 = .ok (.istore_n 3, 1) := by decide +kernel
theorem dX0_countByHeights_13 : decode cX0_countByHeights 13 = .ok (.iconst 1, 1) := by decide +kernel
theorem dX0_countByHeights_14 : decode cX0_countByHeights 14 = .ok (.istore 4, 2) := by decide +kernel
theorem dX0_countByHeights_16 : decode cX0_countByHeights 16 = .ok (.iload 4, 2) := by decide +kernel
theorem dX0_countByHeights_18 : decode cX0_countByHeights 18 = .ok (.sipush 999, 3) := by decide +kernel
theorem dX0_countByHeights_21 : decode cX0_countByHeights 21 = .ok (.if_icmp .gt 72, 3) := by decide +kernel
theorem dX0_countByHeights_24 : decode cX0_countByHeights 24 = .ok (.iload_n 3, 1) := by decide +kernel
theorem dX0_countByHeights_25 : decode cX0_countByHeights 25 = .ok (.aload_n 0, 1) := by decide +kernel
theorem dX0_countByHeights_26 : decode cX0_countByHeights 26 = .ok (.getfield 11, 3) := by decide +kernel
theorem dX0_countByHeights_29 : decode cX0_countByHeights 29 = .ok (.iload 4, 2) := by decide +kernel
theorem dX0_countByHeights_31 : decode cX0_countByHeights 31 = .ok (.iaload, 1) := by decide +kernel
theorem dX0_countByHeights_32 : decode cX0_countByHeights 32 = .ok (.iadd, 1) := by decide +kernel
theorem dX0_countByHeights_33 : decode cX0_countByHeights 33 = .ok (.istore_n 3, 1) := by decide +kernel
theorem dX0_countByHeights_34 : decode cX0_countByHeights 34 = .ok (.iload_n 3, 1) := by decide +kernel
theorem dX0_countByHeights_35 : decode cX0_countByHeights 35 = .ok (.aload_n 0, 1) := by decide +kernel
theorem dX0_countByHeights_36 : decode cX0_countByHeights 36 = .ok (.getfield 21, 3) := by decide +kernel
theorem dX0_countByHeights_39 : decode cX0_countByHeights 39 = .ok (.if_icmp .le 23, 3) := by decide +kernel
theorem dX0_countByHeights_42 : decode cX0_countByHeights 42 = .ok (.aload_n 0, 1) := by decide +kernel
theorem dX0_countByHeights_43 : decode cX0_countByHeights 43 = .ok (.iload_n 3, 1) := by decide +kernel
theorem dX0_countByHeights_44 : decode cX0_countByHeights 44 = .ok (.putfield 21, 3) := by decide +kernel
theorem dX0_countByHeights_47 : decode cX0_countByHeights 47 = .ok (.aload_n 0, 1) := by decide +kernel
theorem dX0_countByHeights_48 : decode cX0_countByHeights 48 = .ok (.iload 4, 2) := by decide +kernel
theorem dX0_countByHeights_50 : decode cX0_countByHeights 50 = .ok (.putfield 17, 3) := by decide +kernel
theorem dX0_countByHeights_53 : decode cX0_countByHeights 53 = .ok (.aload_n 0, 1) := by decide +kernel
theorem dX0_countByHeights_54 : decode cX0_countByHeights 54 = .ok (.iload 4, 2) := by decide +kernel
theorem dX0_countByHeights_56 : decode cX0_countByHeights 56 = .ok (.putfield 24, 3) := by decide +kernel
theorem dX0_countByHeights_59 : decode cX0_countByHeights 59 = .ok (.goto 28, 3) := by decide +kernel
theorem dX0_countByHeights_62 : decode cX0_countByHeights 62 = .ok (.iload_n 3, 1) := by decide +kernel
theorem dX0_countByHeights_63 : decode cX0_countByHeights 63 = .ok (.aload_n 0, 1) := by decide +kernel
theorem dX0_countByHeights_64 : decode cX0_countByHeights 64 = .ok (.getfield 21, 3) := by decide +kernel
theorem dX0_countByHeights_67 : decode cX0_countByHeights 67 = .ok (.if_icmp .ne 20, 3) := by decide +kernel
theorem dX0_countByHeights_70 : decode cX0_countByHeights 70 = .ok (.aload_n 0, 1) := by decide +kernel
theorem dX0_countByHeights_71 : decode cX0_countByHeights 71 = .ok (.getfield 24, 3) := by decide +kernel
theorem dX0_countByHeights_74 : decode cX0_countByHeights 74 = .ok (.iload 4, 2) := by decide +kernel
theorem dX0_countByHeights_76 : decode cX0_countByHeights 76 = .ok (.iconst 1, 1) := by decide +kernel
theorem dX0_countByHeights_77 : decode cX0_countByHeights 77 = .ok (.isub, 1) := by decide +kernel
theorem dX0_countByHeights_78 : decode cX0_countByHeights 78 = .ok (.if_icmp .ne 9, 3) := by decide +kernel
theorem dX0_countByHeights_81 : decode cX0_countByHeights 81 = .ok (.aload_n 0, 1) := by decide +kernel
theorem dX0_countByHeights_82 : decode cX0_countByHeights 82 = .ok (.iload 4, 2) := by decide +kernel
theorem dX0_countByHeights_84 : decode cX0_countByHeights 84 = .ok (.putfield 24, 3) := by decide +kernel
theorem dX0_countByHeights_87 : decode cX0_countByHeights 87 = .ok (.iinc 4 1, 3) := by decide +kernel
theorem dX0_countByHeights_90 : decode cX0_countByHeights 90 = .ok (.goto (-74), 3) := by decide +kernel
theorem dX0_countByHeights_93 : decode cX0_countByHeights 93 = .ok (.return_, 1) := by decide +kernel
theorem dX0_noteChanges_0 : decode cX0_noteChanges 0 = .ok (.aload_n 0, 1) := by decide +kernel
theorem dX0_noteChanges_1 : decode cX0_noteChanges 1 = .ok (.getfield 11, 3) := by decide +kernel
theorem dX0_noteChanges_4 : decode cX0_noteChanges 4 = .ok (.iconst 0, 1) := by decide +kernel
theorem dX0_noteChanges_5 : decode cX0_noteChanges 5 = .ok (.invokestatic 31, 3) := by decide +kernel
theorem dX0_noteChanges_8 : decode cX0_noteChanges 8 = .ok (.iconst 0, 1) := by decide +kernel
theorem dX0_noteChanges_9 : decode cX0_noteChanges 9 = .ok (.istore_n 3, 1) := by decide +kernel
theorem dX0_noteChanges_10 : decode cX0_noteChanges 10 = .ok (.iload_n 3, 1) := by decide +kernel
theorem dX0_noteChanges_11 : decode cX0_noteChanges 11 = .ok (.aload_n 1, 1) := by decide +kernel
theorem dX0_noteChanges_12 : decode cX0_noteChanges 12 = .ok (.invokevirtual 37, 3) := by decide +kernel
theorem dX0_noteChanges_15 : decode cX0_noteChanges 15 = .ok (.if_icmp .ge 60, 3) := by decide +kernel
theorem dX0_noteChanges_18 : decode cX0_noteChanges 18 = .ok (.aload_n 1, 1) := by decide +kernel
theorem dX0_noteChanges_19 : decode cX0_noteChanges 19 = .ok (.iload_n 3, 1) := by decide +kernel
theorem dX0_noteChanges_20 : decode cX0_noteChanges 20 = .ok (.iload_n 2, 1) := by decide +kernel
theorem dX0_noteChanges_21 : decode cX0_noteChanges 21 = .ok (.invokevirtual 41, 3) := by decide +kernel
theorem dX0_noteChanges_24 : decode cX0_noteChanges 24 = .ok (.ifCond .eq 45, 3) := by decide +kernel
theorem dX0_noteChanges_27 : decode cX0_noteChanges 27 = .ok (.aload_n 0, 1) := by decide +kernel
theorem dX0_noteChanges_28 : decode cX0_noteChanges 28 = .ok (.getfield 11, 3) := by decide +kernel
theorem dX0_noteChanges_31 : decode cX0_noteChanges 31 = .ok (.aload_n 1, 1) := by decide +kernel
theorem dX0_noteChanges_32 : decode cX0_noteChanges 32 = .ok (.iload_n 3, 1) := by decide +kernel
theorem dX0_noteChanges_33 : decode cX0_noteChanges 33 = .ok (.bipush 7, 2) := by decide +kernel
theorem dX0_noteChanges_35 : decode cX0_noteChanges 35 = .ok (.invokevirtual 45, 3) := by decide +kernel
theorem dX0_noteChanges_38 : decode cX0_noteChanges 38 = .ok (.dup2, 1) := by decide +kernel
theorem dX0_noteChanges_39 : decode cX0_noteChanges 39 = .ok (.iaload, 1) := by decide +kernel
theorem dX0_noteChanges_40 : decode cX0_noteChanges 40 = .ok (.aload_n 1, 1) := by decide +kernel
theorem dX0_noteChanges_41 : decode cX0_noteChanges 41 = .ok (.iload_n 3, 1) := by decide +kernel
theorem dX0_noteChanges_42 : decode cX0_noteChanges 42 = .ok (.invokevirtual 49, 3) := by decide +kernel
theorem dX0_noteChanges_45 : decode cX0_noteChanges 45 = .ok (.iadd, 1) := by decide +kernel
theorem dX0_noteChanges_46 : decode cX0_noteChanges 46 = .ok (.iastore, 1) := by decide +kernel
theorem dX0_noteChanges_47 : decode cX0_noteChanges 47 = .ok (.aload_n 0, 1) := by decide +kernel
theorem dX0_noteChanges_48 : decode cX0_noteChanges 48 = .ok (.getfield 11, 3) := by decide +kernel
theorem dX0_noteChanges_51 : decode cX0_noteChanges 51 = .ok (.aload_n 1, 1) := by decide +kernel
theorem dX0_noteChanges_52 : decode cX0_noteChanges 52 = .ok (.iload_n 3, 1) := by decide +kernel
theorem dX0_noteChanges_53 : decode cX0_noteChanges 53 = .ok (.bipush 8, 2) := by decide +kernel
theorem dX0_noteChanges_55 : decode cX0_noteChanges 55 = .ok (.invokevirtual 45, 3) := by decide +kernel
theorem dX0_noteChanges_58 : decode cX0_noteChanges 58 = .ok (.iconst 1, 1) := by decide +kernel
theorem dX0_noteChanges_59 : decode cX0_noteChanges 59 = .ok (.iadd, 1) := by decide +kernel
theorem dX0_noteChanges_60 : decode cX0_noteChanges 60 = .ok (.dup2, 1) := by decide +kernel
theorem dX0_noteChanges_61 : decode cX0_noteChanges 61 = .ok (.iaload, 1) := by decide +kernel
theorem dX0_noteChanges_62 : decode cX0_noteChanges 62 = .ok (.aload_n 1, 1) := by decide +kernel
theorem dX0_noteChanges_63 : decode cX0_noteChanges 63 = .ok (.iload_n 3, 1) := by decide +kernel
theorem dX0_noteChanges_64 : decode cX0_noteChanges 64 = .ok (.invokevirtual 49, 3) := by decide +kernel
theorem dX0_noteChanges_67 : decode cX0_noteChanges 67 = .ok (.isub, 1) := by decide +kernel
theorem dX0_noteChanges_68 : decode cX0_noteChanges 68 = .ok (.iastore, 1) := by decide +kernel
theorem dX0_noteChanges_69 : decode cX0_noteChanges 69 = .ok (.iinc 3 1, 3) := by decide +kernel
theorem dX0_noteChanges_72 : decode cX0_noteChanges 72 = .ok (.goto (-62), 3) := by decide +kernel
theorem dX0_noteChanges_75 : decode cX0_noteChanges 75 = .ok (.return_, 1) := by decide +kernel
theorem dX0_countByEnds_0 : decode cX0_countByEnds 0 = .ok (.aload_n 0, 1) := by decide +kernel
theorem dX0_countByEnds_1 : decode cX0_countByEnds 1 = .ok (.iconst 1, 1) := by decide +kernel
theorem dX0_countByEnds_2 : decode cX0_countByEnds 2 = .ok (.putfield 17, 3) := by decide +kernel
theorem dX0_countByEnds_5 : decode cX0_countByEnds 5 = .ok (.aload_n 0, 1) := by decide +kernel
theorem dX0_countByEnds_6 : decode cX0_countByEnds 6 = .ok (.aload_n 1, 1) := by decide +kernel
theorem dX0_countByEnds_7 : decode cX0_countByEnds 7 = .ok (.iload_n 2, 1) := by decide +kernel
theorem dX0_countByEnds_8 : decode cX0_countByEnds 8 = .ok (.iconst 1, 1) := by decide +kernel
theorem dX0_countByEnds_9 : decode cX0_countByEnds 9 = .ok (.iload_n 3, 1) := by decide +kernel
theorem dX0_countByEnds_10 : decode cX0_countByEnds 10 = .ok (.invokevirtual 53, 3) := by decide +kernel
theorem dX0_countByEnds_13 : decode cX0_countByEnds 13 = .ok (.putfield 21, 3) := by decide +kernel
theorem dX0_countByEnds_16 : decode cX0_countByEnds 16 = .ok (.iconst 0, 1) := by decide +kernel
theorem dX0_countByEnds_17 : decode cX0_countByEnds 17 = .ok (.istore 4, 2) := by decide +kernel
theorem dX0_countByEnds_19 : decode cX0_countByEnds 19 = .ok (.iload 4, 2) := by decide +kernel
theorem dX0_countByEnds_21 : decode cX0_countByEnds 21 = .ok (.aload_n 1, 1) := by decide +kernel
theorem dX0_countByEnds_22 : decode cX0_countByEnds 22 = .ok (.invokevirtual 37, 3) := by decide +kernel
theorem dX0_countByEnds_25 : decode cX0_countByEnds 25 = .ok (.if_icmp .ge 49, 3) := by decide +kernel
theorem dX0_countByEnds_28 : decode cX0_countByEnds 28 = .ok (.iload 4, 2) := by decide +kernel
theorem dX0_countByEnds_30 : decode cX0_countByEnds 30 = .ok (.iload_n 3, 1) := by decide +kernel
theorem dX0_countByEnds_31 : decode cX0_countByEnds 31 = .ok (.if_icmp .eq 37, 3) := by decide +kernel
theorem dX0_countByEnds_34 : decode cX0_countByEnds 34 = .ok (.aload_n 1, 1) := by decide +kernel
theorem dX0_countByEnds_35 : decode cX0_countByEnds 35 = .ok (.iload 4, 2) := by decide +kernel
theorem dX0_countByEnds_37 : decode cX0_countByEnds 37 = .ok (.iload_n 2, 1) := by decide +kernel
theorem dX0_countByEnds_38 : decode cX0_countByEnds 38 = .ok (.invokevirtual 41, 3) := by decide +kernel
theorem dX0_countByEnds_41 : decode cX0_countByEnds 41 = .ok (.ifCond .eq 27, 3) := by decide +kernel
theorem dX0_countByEnds_44 : decode cX0_countByEnds 44 = .ok (.aload_n 1, 1) := by decide +kernel
theorem dX0_countByEnds_45 : decode cX0_countByEnds 45 = .ok (.iload 4, 2) := by decide +kernel
theorem dX0_countByEnds_47 : decode cX0_countByEnds 47 = .ok (.bipush 7, 2) := by decide +kernel
theorem dX0_countByEnds_49 : decode cX0_countByEnds 49 = .ok (.invokevirtual 45, 3) := by decide +kernel
theorem dX0_countByEnds_52 : decode cX0_countByEnds 52 = .ok (.istore 5, 2) := by decide +kernel
theorem dX0_countByEnds_54 : decode cX0_countByEnds 54 = .ok (.aload_n 0, 1) := by decide +kernel
theorem dX0_countByEnds_55 : decode cX0_countByEnds 55 = .ok (.iload 5, 2) := by decide +kernel
theorem dX0_countByEnds_57 : decode cX0_countByEnds 57 = .ok (.aload_n 1, 1) := by decide +kernel
theorem dX0_countByEnds_58 : decode cX0_countByEnds 58 = .ok (.iload_n 2, 1) := by decide +kernel
theorem dX0_countByEnds_59 : decode cX0_countByEnds 59 = .ok (.iload 5, 2) := by decide +kernel
theorem dX0_countByEnds_61 : decode cX0_countByEnds 61 = .ok (.iload_n 3, 1) := by decide +kernel
theorem dX0_countByEnds_62 : decode cX0_countByEnds 62 = .ok (.invokevirtual 53, 3) := by decide +kernel
theorem dX0_countByEnds_65 : decode cX0_countByEnds 65 = .ok (.invokevirtual 57, 3) := by decide +kernel
theorem dX0_countByEnds_68 : decode cX0_countByEnds 68 = .ok (.iinc 4 1, 3) := by decide +kernel
theorem dX0_countByEnds_71 : decode cX0_countByEnds 71 = .ok (.goto (-52), 3) := by decide +kernel
theorem dX0_countByEnds_74 : decode cX0_countByEnds 74 = .ok (.aload_n 0, 1) := by decide +kernel
theorem dX0_countByEnds_75 : decode cX0_countByEnds 75 = .ok (.sipush 999, 3) := by decide +kernel
theorem dX0_countByEnds_78 : decode cX0_countByEnds 78 = .ok (.putfield 24, 3) := by decide +kernel
theorem dX0_countByEnds_81 : decode cX0_countByEnds 81 = .ok (.iconst 0, 1) := by decide +kernel
theorem dX0_countByEnds_82 : decode cX0_countByEnds 82 = .ok (.istore 4, 2) := by decide +kernel
theorem dX0_countByEnds_84 : decode cX0_countByEnds 84 = .ok (.iload 4, 2) := by decide +kernel
theorem dX0_countByEnds_86 : decode cX0_countByEnds 86 = .ok (.aload_n 1, 1) := by decide +kernel
theorem dX0_countByEnds_87 : decode cX0_countByEnds 87 = .ok (.invokevirtual 37, 3) := by decide +kernel
theorem dX0_countByEnds_90 : decode cX0_countByEnds 90 = .ok (.if_icmp .ge 76, 3) := by decide +kernel
theorem dX0_countByEnds_93 : decode cX0_countByEnds 93 = .ok (.aload_n 1, 1) := by decide +kernel
theorem dX0_countByEnds_94 : decode cX0_countByEnds 94 = .ok (.iload 4, 2) := by decide +kernel
theorem dX0_countByEnds_96 : decode cX0_countByEnds 96 = .ok (.bipush 8, 2) := by decide +kernel
theorem dX0_countByEnds_98 : decode cX0_countByEnds 98 = .ok (.invokevirtual 45, 3) := by decide +kernel
theorem dX0_countByEnds_101 : decode cX0_countByEnds 101 = .ok (.istore 5, 2) := by decide +kernel
theorem dX0_countByEnds_103 : decode cX0_countByEnds 103 = .ok (.iload 4, 2) := by decide +kernel
theorem dX0_countByEnds_105 : decode cX0_countByEnds 105 = .ok (.iload_n 3, 1) := by decide +kernel
theorem dX0_countByEnds_106 : decode cX0_countByEnds 106 = .ok (.if_icmp .eq 54, 3) := by decide +kernel
theorem dX0_countByEnds_109 : decode cX0_countByEnds 109 = .ok (.aload_n 1, 1) := by decide +kernel
theorem dX0_countByEnds_110 : decode cX0_countByEnds 110 = .ok (.iload 4, 2) := by decide +kernel
theorem dX0_countByEnds_112 : decode cX0_countByEnds 112 = .ok (.iload_n 2, 1) := by decide +kernel
theorem dX0_countByEnds_113 : decode cX0_countByEnds 113 = .ok (.invokevirtual 41, 3) := by decide +kernel
theorem dX0_countByEnds_116 : decode cX0_countByEnds 116 = .ok (.ifCond .eq 44, 3) := by decide +kernel
theorem dX0_countByEnds_119 : decode cX0_countByEnds 119 = .ok (.aload_n 0, 1) := by decide +kernel
theorem dX0_countByEnds_120 : decode cX0_countByEnds 120 = .ok (.getfield 17, 3) := by decide +kernel
theorem dX0_countByEnds_123 : decode cX0_countByEnds 123 = .ok (.iload 5, 2) := by decide +kernel
theorem dX0_countByEnds_125 : decode cX0_countByEnds 125 = .ok (.if_icmp .gt 35, 3) := by decide +kernel
theorem dX0_countByEnds_128 : decode cX0_countByEnds 128 = .ok (.iload 5, 2) := by decide +kernel
theorem dX0_countByEnds_130 : decode cX0_countByEnds 130 = .ok (.aload_n 0, 1) := by decide +kernel
theorem dX0_countByEnds_131 : decode cX0_countByEnds 131 = .ok (.getfield 24, 3) := by decide +kernel
theorem dX0_countByEnds_134 : decode cX0_countByEnds 134 = .ok (.if_icmp .ge 26, 3) := by decide +kernel
theorem dX0_countByEnds_137 : decode cX0_countByEnds 137 = .ok (.aload_n 1, 1) := by decide +kernel
theorem dX0_countByEnds_138 : decode cX0_countByEnds 138 = .ok (.iload_n 2, 1) := by decide +kernel
theorem dX0_countByEnds_139 : decode cX0_countByEnds 139 = .ok (.iload 5, 2) := by decide +kernel
theorem dX0_countByEnds_141 : decode cX0_countByEnds 141 = .ok (.iconst 1, 1) := by decide +kernel
theorem dX0_countByEnds_142 : decode cX0_countByEnds 142 = .ok (.iadd, 1) := by decide +kernel
theorem dX0_countByEnds_143 : decode cX0_countByEnds 143 = .ok (.iload_n 3, 1) := by decide +kernel
theorem dX0_countByEnds_144 : decode cX0_countByEnds 144 = .ok (.invokevirtual 53, 3) := by decide +kernel
theorem dX0_countByEnds_147 : decode cX0_countByEnds 147 = .ok (.aload_n 0, 1) := by decide +kernel
theorem dX0_countByEnds_148 : decode cX0_countByEnds 148 = .ok (.getfield 21, 3) := by decide +kernel
theorem dX0_countByEnds_151 : decode cX0_countByEnds 151 = .ok (.if_icmp .ge 9, 3) := by decide +kernel
theorem dX0_countByEnds_154 : decode cX0_countByEnds 154 = .ok (.aload_n 0, 1) := by decide +kernel
theorem dX0_countByEnds_155 : decode cX0_countByEnds 155 = .ok (.iload 5, 2) := by decide +kernel
theorem dX0_countByEnds_157 : decode cX0_countByEnds 157 = .ok (.putfield 24, 3) := by decide +kernel
theorem dX0_countByEnds_160 : decode cX0_countByEnds 160 = .ok (.iinc 4 1, 3) := by decide +kernel
theorem dX0_countByEnds_163 : decode cX0_countByEnds 163 = .ok (.goto (-79), 3) := by decide +kernel
theorem dX0_countByEnds_166 : decode cX0_countByEnds 166 = .ok (.return_, 1) := by decide +kernel
theorem dX0_tryLowest_0 : decode cX0_tryLowest 0 = .ok (.iload_n 2, 1) := by decide +kernel
theorem dX0_tryLowest_1 : decode cX0_tryLowest 1 = .ok (.aload_n 0, 1) := by decide +kernel
theorem dX0_tryLowest_2 : decode cX0_tryLowest 2 = .ok (.getfield 21, 3) := by decide +kernel
theorem dX0_tryLowest_5 : decode cX0_tryLowest 5 = .ok (.if_icmp .gt 19, 3) := by decide +kernel
theorem dX0_tryLowest_8 : decode cX0_tryLowest 8 = .ok (.iload_n 2, 1) := by decide +kernel
theorem dX0_tryLowest_9 : decode cX0_tryLowest 9 = .ok (.aload_n 0, 1) := by decide +kernel
theorem dX0_tryLowest_10 : decode cX0_tryLowest 10 = .ok (.getfield 21, 3) := by decide +kernel
theorem dX0_tryLowest_13 : decode cX0_tryLowest 13 = .ok (.if_icmp .ne 21, 3) := by decide +kernel
theorem dX0_tryLowest_16 : decode cX0_tryLowest 16 = .ok (.iload_n 1, 1) := by decide +kernel
theorem dX0_tryLowest_17 : decode cX0_tryLowest 17 = .ok (.aload_n 0, 1) := by decide +kernel
theorem dX0_tryLowest_18 : decode cX0_tryLowest 18 = .ok (.getfield 17, 3) := by decide +kernel
theorem dX0_tryLowest_21 : decode cX0_tryLowest 21 = .ok (.if_icmp .ge 13, 3) := by decide +kernel
theorem dX0_tryLowest_24 : decode cX0_tryLowest 24 = .ok (.aload_n 0, 1) := by decide +kernel
theorem dX0_tryLowest_25 : decode cX0_tryLowest 25 = .ok (.iload_n 2, 1) := by decide +kernel
theorem dX0_tryLowest_26 : decode cX0_tryLowest 26 = .ok (.putfield 21, 3) := by decide +kernel
theorem dX0_tryLowest_29 : decode cX0_tryLowest 29 = .ok (.aload_n 0, 1) := by decide +kernel
theorem dX0_tryLowest_30 : decode cX0_tryLowest 30 = .ok (.iload_n 1, 1) := by decide +kernel
theorem dX0_tryLowest_31 : decode cX0_tryLowest 31 = .ok (.putfield 17, 3) := by decide +kernel
theorem dX0_tryLowest_34 : decode cX0_tryLowest 34 = .ok (.return_, 1) := by decide +kernel
theorem dX1_init_0 : decode cX1_init 0 = .ok (.aload_n 0, 1) := by decide +kernel
theorem dX1_init_1 : decode cX1_init 1 = .ok (.invokespecial 1, 3) := by decide +kernel
theorem dX1_init_4 : decode cX1_init 4 = .ok (.aload_n 0, 1) := by decide +kernel
theorem dX1_init_5 : decode cX1_init 5 = .ok (.bipush 14, 2) := by decide +kernel
theorem dX1_init_7 : decode cX1_init 7 = .ok (.anewarray 9, 3) := by decide +kernel
theorem dX1_init_10 : decode cX1_init 10 = .ok (.putfield 11, 3) := by decide +kernel
theorem dX1_init_13 : decode cX1_init 13 = .ok (.iconst 0, 1) := by decide +kernel
theorem dX1_init_14 : decode cX1_init 14 = .ok (.istore_n 1, 1) := by decide +kernel
theorem dX1_init_15 : decode cX1_init 15 = .ok (.iload_n 1, 1) := by decide +kernel
theorem dX1_init_16 : decode cX1_init 16 = .ok (.aload_n 0, 1) := by decide +kernel
theorem dX1_init_17 : decode cX1_init 17 = .ok (.getfield 11, 3) := by decide +kernel
theorem dX1_init_20 : decode cX1_init 20 = .ok (.arraylength, 1) := by decide +kernel
theorem dX1_init_21 : decode cX1_init 21 = .ok (.if_icmp .ge 22, 3) := by decide +kernel
theorem dX1_init_24 : decode cX1_init 24 = .ok (.aload_n 0, 1) := by decide +kernel
theorem dX1_init_25 : decode cX1_init 25 = .ok (.getfield 11, 3) := by decide +kernel
theorem dX1_init_28 : decode cX1_init 28 = .ok (.iload_n 1, 1) := by decide +kernel
theorem dX1_init_29 : decode cX1_init 29 = .ok (.new 9, 3) := by decide +kernel
theorem dX1_init_32 : decode cX1_init 32 = .ok (.dup, 1) := by decide +kernel
theorem dX1_init_33 : decode cX1_init 33 = .ok (.invokespecial 15, 3) := by decide +kernel
theorem dX1_init_36 : decode cX1_init 36 = .ok (.aastore, 1) := by decide +kernel
theorem dX1_init_37 : decode cX1_init 37 = .ok (.iinc 1 1, 3) := by decide +kernel
theorem dX1_init_40 : decode cX1_init 40 = .ok (.goto (-25), 3) := by decide +kernel
theorem dX1_init_43 : decode cX1_init 43 = .ok (.return_, 1) := by decide +kernel
theorem dX1_isEmpty_0 : decode cX1_isEmpty 0 = .ok (.aload_n 0, 1) := by decide +kernel
theorem dX1_isEmpty_1 : decode cX1_isEmpty 1 = .ok (.getfield 16, 3) := by decide +kernel
theorem dX1_isEmpty_4 : decode cX1_isEmpty 4 = .ok (.ifCond .ne 7, 3) := by decide +kernel
theorem dX1_isEmpty_7 : decode cX1_isEmpty 7 = .ok (.iconst 1, 1) := by decide +kernel
theorem dX1_isEmpty_8 : decode cX1_isEmpty 8 = .ok (.goto 4, 3) := by decide +kernel
theorem dX1_isEmpty_11 : decode cX1_isEmpty 11 = .ok (.iconst 0, 1) := by decide +kernel
theorem dX1_isEmpty_12 : decode cX1_isEmpty 12 = .ok (.ireturn, 1) := by decide +kernel
theorem dX1_forget_0 : decode cX1_forget 0 = .ok (.aload_n 0, 1) := by decide +kernel
theorem dX1_forget_1 : decode cX1_forget 1 = .ok (.iconst 0, 1) := by decide +kernel
theorem dX1_forget_2 : decode cX1_forget 2 = .ok (.putfield 16, 3) := by decide +kernel
theorem dX1_forget_5 : decode cX1_forget 5 = .ok (.return_, 1) := by decide +kernel
theorem dX1_remember_0 : decode cX1_remember 0 = .ok (.aload_n 0, 1) := by decide +kernel
theorem dX1_remember_1 : decode cX1_remember 1 = .ok (.getfield 11, 3) := by decide +kernel
theorem dX1_remember_4 : decode cX1_remember 4 = .ok (.aload_n 0, 1) := by decide +kernel
theorem dX1_remember_5 : decode cX1_remember 5 = .ok (.getfield 20, 3) := by decide +kernel
theorem dX1_remember_8 : decode cX1_remember 8 = .ok (.aaload, 1) := by decide +kernel
theorem dX1_remember_9 : decode cX1_remember 9 = .ok (.aload_n 1, 1) := by decide +kernel
theorem dX1_remember_10 : decode cX1_remember 10 = .ok (.invokevirtual 23, 3) := by decide +kernel
theorem dX1_remember_13 : decode cX1_remember 13 = .ok (.aload_n 0, 1) := by decide +kernel
theorem dX1_remember_14 : decode cX1_remember 14 = .ok (.aload_n 0, 1) := by decide +kernel
theorem dX1_remember_15 : decode cX1_remember 15 = .ok (.getfield 20, 3) := by decide +kernel
theorem dX1_remember_18 : decode cX1_remember 18 = .ok (.iconst 1, 1) := by decide +kernel
theorem dX1_remember_19 : decode cX1_remember 19 = .ok (.iadd, 1) := by decide +kernel
theorem dX1_remember_20 : decode cX1_remember 20 = .ok (.bipush 14, 2) := by decide +kernel
theorem dX1_remember_22 : decode cX1_remember 22 = .ok (.if_icmp .ge 12, 3) := by decide +kernel
theorem dX1_remember_25 : decode cX1_remember 25 = .ok (.aload_n 0, 1) := by decide +kernel
theorem dX1_remember_26 : decode cX1_remember 26 = .ok (.getfield 20, 3) := by decide +kernel
theorem dX1_remember_29 : decode cX1_remember 29 = .ok (.iconst 1, 1) := by decide +kernel
theorem dX1_remember_30 : decode cX1_remember 30 = .ok (.iadd, 1) := by decide +kernel
theorem dX1_remember_31 : decode cX1_remember 31 = .ok (.goto 4, 3) := by decide +kernel
theorem dX1_remember_34 : decode cX1_remember 34 = .ok (.iconst 0, 1) := by decide +kernel
theorem dX1_remember_35 : decode cX1_remember 35 = .ok (.putfield 20, 3) := by decide +kernel
theorem dX1_remember_38 : decode cX1_remember 38 = .ok (.aload_n 0, 1) := by decide +kernel
theorem dX1_remember_39 : decode cX1_remember 39 = .ok (.bipush 14, 2) := by decide +kernel
theorem dX1_remember_41 : decode cX1_remember 41 = .ok (.aload_n 0, 1) := by decide +kernel
theorem dX1_remember_42 : decode cX1_remember 42 = .ok (.getfield 16, 3) := by decide +kernel
theorem dX1_remember_45 : decode cX1_remember 45 = .ok (.iconst 1, 1) := by decide +kernel
theorem dX1_remember_46 : decode cX1_remember 46 = .ok (.iadd, 1) := by decide +kernel
theorem dX1_remember_47 : decode cX1_remember 47 = .ok (.invokestatic 27, 3) := by decide +kernel
theorem dX1_remember_50 : decode cX1_remember 50 = .ok (.putfield 16, 3) := by decide +kernel
theorem dX1_remember_53 : decode cX1_remember 53 = .ok (.return_, 1) := by decide +kernel
theorem dX1_takeBack_0 : decode cX1_takeBack 0 = .ok (.aload_n 0, 1) := by decide +kernel
theorem dX1_takeBack_1 : decode cX1_takeBack 1 = .ok (.aload_n 0, 1) := by decide +kernel
theorem dX1_takeBack_2 : decode cX1_takeBack 2 = .ok (.getfield 20, 3) := by decide +kernel
theorem dX1_takeBack_5 : decode cX1_takeBack 5 = .ok (.ifCond .le 12, 3) := by decide +kernel
theorem dX1_takeBack_8 : decode cX1_takeBack 8 = .ok (.aload_n 0, 1) := by decide +kernel
theorem dX1_takeBack_9 : decode cX1_takeBack 9 = .ok (.getfield 20, 3) := by decide +kernel
theorem dX1_takeBack_12 : decode cX1_takeBack 12 = .ok (.iconst 1, 1) := by decide +kernel
theorem dX1_takeBack_13 : decode cX1_takeBack 13 = .ok (.isub, 1) := by decide +kernel
theorem dX1_takeBack_14 : decode cX1_takeBack 14 = .ok (.goto 5, 3) := by decide +kernel
theorem dX1_takeBack_17 : decode cX1_takeBack 17 = .ok (.bipush 13, 2) := by decide +kernel
theorem dX1_takeBack_19 : decode cX1_takeBack 19 = .ok (.putfield 20, 3) := by decide +kernel
theorem dX1_takeBack_22 : decode cX1_takeBack 22 = .ok (.aload_n 0, 1) := by decide +kernel
theorem dX1_takeBack_23 : decode cX1_takeBack 23 = .ok (.dup, 1) := by decide +kernel
theorem dX1_takeBack_24 : decode cX1_takeBack 24 = .ok (.getfield 16, 3) := by decide +kernel
theorem dX1_takeBack_27 : decode cX1_takeBack 27 = .ok (.iconst 1, 1) := by decide +kernel
theorem dX1_takeBack_28 : decode cX1_takeBack 28 = .ok (.isub, 1) := by decide +kernel
theorem dX1_takeBack_29 : decode cX1_takeBack 29 = .ok (.putfield 16, 3) := by decide +kernel
theorem dX1_takeBack_32 : decode cX1_takeBack 32 = .ok (.aload_n 1, 1) := by decide +kernel
theorem dX1_takeBack_33 : decode cX1_takeBack 33 = .ok (.aload_n 0, 1) := by decide +kernel
theorem dX1_takeBack_34 : decode cX1_takeBack 34 = .ok (.getfield 11, 3) := by decide +kernel
theorem dX1_takeBack_37 : decode cX1_takeBack 37 = .ok (.aload_n 0, 1) := by decide +kernel
theorem dX1_takeBack_38 : decode cX1_takeBack 38 = .ok (.getfield 20, 3) := by decide +kernel
theorem dX1_takeBack_41 : decode cX1_takeBack 41 = .ok (.aaload, 1) := by decide +kernel
theorem dX1_takeBack_42 : decode cX1_takeBack 42 = .ok (.invokevirtual 23, 3) := by decide +kernel
theorem dX1_takeBack_45 : decode cX1_takeBack 45 = .ok (.aload_n 0, 1) := by decide +kernel
theorem dX1_takeBack_46 : decode cX1_takeBack 46 = .ok (.getfield 16, 3) := by decide +kernel
theorem dX1_takeBack_49 : decode cX1_takeBack 49 = .ok (.ireturn, 1) := by decide +kernel
theorem dX2_init_0 : decode cX2_init 0 = .ok (.aload_n 0, 1) := by decide +kernel
theorem dX2_init_1 : decode cX2_init 1 = .ok (.invokespecial 3, 3) := by decide +kernel
theorem dX2_init_4 : decode cX2_init 4 = .ok (.aload_n 0, 1) := by decide +kernel
theorem dX2_init_5 : decode cX2_init 5 = .ok (.sipush 144, 3) := by decide +kernel
theorem dX2_init_8 : decode cX2_init 8 = .ok (.newarray .int, 2) := by decide +kernel
theorem dX2_init_10 : decode cX2_init 10 = .ok (.putfield 11, 3) := by decide +kernel
theorem dX2_init_13 : decode cX2_init 13 = .ok (.aload_n 0, 1) := by decide +kernel
theorem dX2_init_14 : decode cX2_init 14 = .ok (.bipush 6, 2) := by decide +kernel
theorem dX2_init_16 : decode cX2_init 16 = .ok (.newarray .int, 2) := by decide +kernel
theorem dX2_init_18 : decode cX2_init 18 = .ok (.putfield 15, 3) := by decide +kernel
theorem dX2_init_21 : decode cX2_init 21 = .ok (.aload_n 0, 1) := by decide +kernel
theorem dX2_init_22 : decode cX2_init 22 = .ok (.bipush 6, 2) := by decide +kernel
theorem dX2_init_24 : decode cX2_init 24 = .ok (.newarray .int, 2) := by decide +kernel
theorem dX2_init_26 : decode cX2_init 26 = .ok (.putfield 18, 3) := by decide +kernel
theorem dX2_init_29 : decode cX2_init 29 = .ok (.aload_n 0, 1) := by decide +kernel
theorem dX2_init_30 : decode cX2_init 30 = .ok (.bipush 6, 2) := by decide +kernel
theorem dX2_init_32 : decode cX2_init 32 = .ok (.newarray .int, 2) := by decide +kernel
theorem dX2_init_34 : decode cX2_init 34 = .ok (.putfield 21, 3) := by decide +kernel
theorem dX2_init_37 : decode cX2_init 37 = .ok (.aload_n 0, 1) := by decide +kernel
theorem dX2_init_38 : decode cX2_init 38 = .ok (.iconst 3, 1) := by decide +kernel
theorem dX2_init_39 : decode cX2_init 39 = .ok (.newarray .int, 2) := by decide +kernel
theorem dX2_init_41 : decode cX2_init 41 = .ok (.putfield 24, 3) := by decide +kernel
theorem dX2_init_44 : decode cX2_init 44 = .ok (.aload_n 0, 1) := by decide +kernel
theorem dX2_init_45 : decode cX2_init 45 = .ok (.iconst 2, 1) := by decide +kernel
theorem dX2_init_46 : decode cX2_init 46 = .ok (.newarray .int, 2) := by decide +kernel
theorem dX2_init_48 : decode cX2_init 48 = .ok (.putfield 27, 3) := by decide +kernel
theorem dX2_init_51 : decode cX2_init 51 = .ok (.aload_n 0, 1) := by decide +kernel
theorem dX2_init_52 : decode cX2_init 52 = .ok (.invokevirtual 30, 3) := by decide +kernel
theorem dX2_init_55 : decode cX2_init 55 = .ok (.return_, 1) := by decide +kernel
theorem dX2_makeNew_0 : decode cX2_makeNew 0 = .ok (.aload_n 0, 1) := by decide +kernel
theorem dX2_makeNew_1 : decode cX2_makeNew 1 = .ok (.getfield 11, 3) := by decide +kernel
theorem dX2_makeNew_4 : decode cX2_makeNew 4 = .ok (.iconst 0, 1) := by decide +kernel
theorem dX2_makeNew_5 : decode cX2_makeNew 5 = .ok (.invokestatic 33, 3) := by decide +kernel
theorem dX2_makeNew_8 : decode cX2_makeNew 8 = .ok (.aload_n 0, 1) := by decide +kernel
theorem dX2_makeNew_9 : decode cX2_makeNew 9 = .ok (.getfield 15, 3) := by decide +kernel
theorem dX2_makeNew_12 : decode cX2_makeNew 12 = .ok (.iconst 5, 1) := by decide +kernel
theorem dX2_makeNew_13 : decode cX2_makeNew 13 = .ok (.invokestatic 33, 3) := by decide +kernel
theorem dX2_makeNew_16 : decode cX2_makeNew 16 = .ok (.aload_n 0, 1) := by decide +kernel
theorem dX2_makeNew_17 : decode cX2_makeNew 17 = .ok (.getfield 18, 3) := by decide +kernel
theorem dX2_makeNew_20 : decode cX2_makeNew 20 = .ok (.iconst 0, 1) := by decide +kernel
theorem dX2_makeNew_21 : decode cX2_makeNew 21 = .ok (.invokestatic 33, 3) := by decide +kernel
theorem dX2_makeNew_24 : decode cX2_makeNew 24 = .ok (.aload_n 0, 1) := by decide +kernel
theorem dX2_makeNew_25 : decode cX2_makeNew 25 = .ok (.getfield 21, 3) := by decide +kernel
theorem dX2_makeNew_28 : decode cX2_makeNew 28 = .ok (.iconst 0, 1) := by decide +kernel
theorem dX2_makeNew_29 : decode cX2_makeNew 29 = .ok (.invokestatic 33, 3) := by decide +kernel
theorem dX2_makeNew_32 : decode cX2_makeNew 32 = .ok (.aload_n 0, 1) := by decide +kernel
theorem dX2_makeNew_33 : decode cX2_makeNew 33 = .ok (.getfield 24, 3) := by decide +kernel
theorem dX2_makeNew_36 : decode cX2_makeNew 36 = .ok (.iconst (-1), 1) := by decide +kernel
theorem dX2_makeNew_37 : decode cX2_makeNew 37 = .ok (.invokestatic 33, 3) := by decide +kernel
theorem dX2_makeNew_40 : decode cX2_makeNew 40 = .ok (.aload_n 0, 1) := by decide +kernel
theorem dX2_makeNew_41 : decode cX2_makeNew 41 = .ok (.getfield 27, 3) := by decide +kernel
theorem dX2_makeNew_44 : decode cX2_makeNew 44 = .ok (.iconst 0, 1) := by decide +kernel
theorem dX2_makeNew_45 : decode cX2_makeNew 45 = .ok (.iconst 1, 1) := by decide +kernel
theorem dX2_makeNew_46 : decode cX2_makeNew 46 = .ok (.iastore, 1) := by decide +kernel
theorem dX2_makeNew_47 : decode cX2_makeNew 47 = .ok (.aload_n 0, 1) := by decide +kernel
theorem dX2_makeNew_48 : decode cX2_makeNew 48 = .ok (.getfield 27, 3) := by decide +kernel
theorem dX2_makeNew_51 : decode cX2_makeNew 51 = .ok (.iconst 1, 1) := by decide +kernel
theorem dX2_makeNew_52 : decode cX2_makeNew 52 = .ok (.iconst 5, 1) := by decide +kernel
theorem dX2_makeNew_53 : decode cX2_makeNew 53 = .ok (.iastore, 1) := by decide +kernel
theorem dX2_makeNew_54 : decode cX2_makeNew 54 = .ok (.aload_n 0, 1) := by decide +kernel
theorem dX2_makeNew_55 : decode cX2_makeNew 55 = .ok (.iconst 0, 1) := by decide +kernel
theorem dX2_makeNew_56 : decode cX2_makeNew 56 = .ok (.putfield 39, 3) := by decide +kernel
theorem dX2_makeNew_59 : decode cX2_makeNew 59 = .ok (.aload_n 0, 1) := by decide +kernel
theorem dX2_makeNew_60 : decode cX2_makeNew 60 = .ok (.iconst 0, 1) := by decide +kernel
theorem dX2_makeNew_61 : decode cX2_makeNew 61 = .ok (.putfield 43, 3) := by decide +kernel
theorem dX2_makeNew_64 : decode cX2_makeNew 64 = .ok (.aload_n 0, 1) := by decide +kernel
theorem dX2_makeNew_65 : decode cX2_makeNew 65 = .ok (.iconst 0, 1) := by decide +kernel
theorem dX2_makeNew_66 : decode cX2_makeNew 66 = .ok (.putfield 46, 3) := by decide +kernel
theorem dX2_makeNew_69 : decode cX2_makeNew 69 = .ok (.aload_n 0, 1) := by decide +kernel
theorem dX2_makeNew_70 : decode cX2_makeNew 70 = .ok (.iconst 0, 1) := by decide +kernel
theorem dX2_makeNew_71 : decode cX2_makeNew 71 = .ok (.putfield 49, 3) := by decide +kernel
theorem dX2_makeNew_74 : decode cX2_makeNew 74 = .ok (.aload_n 0, 1) := by decide +kernel
theorem dX2_makeNew_75 : decode cX2_makeNew 75 = .ok (.iconst 0, 1) := by decide +kernel
theorem dX2_makeNew_76 : decode cX2_makeNew 76 = .ok (.putfield 52, 3) := by decide +kernel
theorem dX2_makeNew_79 : decode cX2_makeNew 79 = .ok (.return_, 1) := by decide +kernel
theorem dX2_takeFrom_0 : decode cX2_takeFrom 0 = .ok (.aload_n 1, 1) := by decide +kernel
theorem dX2_takeFrom_1 : decode cX2_takeFrom 1 = .ok (.getfield 11, 3) := by decide +kernel
theorem dX2_takeFrom_4 : decode cX2_takeFrom 4 = .ok (.iconst 0, 1) := by decide +kernel
theorem dX2_takeFrom_5 : decode cX2_takeFrom 5 = .ok (.aload_n 0, 1) := by decide +kernel
theorem dX2_takeFrom_6 : decode cX2_takeFrom 6 = .ok (.getfield 11, 3) := by decide +kernel
theorem dX2_takeFrom_9 : decode cX2_takeFrom 9 = .ok (.iconst 0, 1) := by decide +kernel
theorem dX2_takeFrom_10 : decode cX2_takeFrom 10 = .ok (.aload_n 0, 1) := by decide +kernel
theorem dX2_takeFrom_11 : decode cX2_takeFrom 11 = .ok (.getfield 11, 3) := by decide +kernel
theorem dX2_takeFrom_14 : decode cX2_takeFrom 14 = .ok (.arraylength, 1) := by decide +kernel
theorem dX2_takeFrom_15 : decode cX2_takeFrom 15 = .ok (.invokestatic 55, 3) := by decide +kernel
theorem dX2_takeFrom_18 : decode cX2_takeFrom 18 = .ok (.aload_n 1, 1) := by decide +kernel
theorem dX2_takeFrom_19 : decode cX2_takeFrom 19 = .ok (.getfield 15, 3) := by decide +kernel
theorem dX2_takeFrom_22 : decode cX2_takeFrom 22 = .ok (.iconst 0, 1) := by decide +kernel
theorem dX2_takeFrom_23 : decode cX2_takeFrom 23 = .ok (.aload_n 0, 1) := by decide +kernel
theorem dX2_takeFrom_24 : decode cX2_takeFrom 24 = .ok (.getfield 15, 3) := by decide +kernel
theorem dX2_takeFrom_27 : decode cX2_takeFrom 27 = .ok (.iconst 0, 1) := by decide +kernel
theorem dX2_takeFrom_28 : decode cX2_takeFrom 28 = .ok (.aload_n 0, 1) := by decide +kernel
theorem dX2_takeFrom_29 : decode cX2_takeFrom 29 = .ok (.getfield 15, 3) := by decide +kernel
theorem dX2_takeFrom_32 : decode cX2_takeFrom 32 = .ok (.arraylength, 1) := by decide +kernel
theorem dX2_takeFrom_33 : decode cX2_takeFrom 33 = .ok (.invokestatic 55, 3) := by decide +kernel
theorem dX2_takeFrom_36 : decode cX2_takeFrom 36 = .ok (.aload_n 1, 1) := by decide +kernel
theorem dX2_takeFrom_37 : decode cX2_takeFrom 37 = .ok (.getfield 18, 3) := by decide +kernel
theorem dX2_takeFrom_40 : decode cX2_takeFrom 40 = .ok (.iconst 0, 1) := by decide +kernel
theorem dX2_takeFrom_41 : decode cX2_takeFrom 41 = .ok (.aload_n 0, 1) := by decide +kernel
theorem dX2_takeFrom_42 : decode cX2_takeFrom 42 = .ok (.getfield 18, 3) := by decide +kernel
theorem dX2_takeFrom_45 : decode cX2_takeFrom 45 = .ok (.iconst 0, 1) := by decide +kernel
theorem dX2_takeFrom_46 : decode cX2_takeFrom 46 = .ok (.aload_n 0, 1) := by decide +kernel
theorem dX2_takeFrom_47 : decode cX2_takeFrom 47 = .ok (.getfield 18, 3) := by decide +kernel
theorem dX2_takeFrom_50 : decode cX2_takeFrom 50 = .ok (.arraylength, 1) := by decide +kernel
theorem dX2_takeFrom_51 : decode cX2_takeFrom 51 = .ok (.invokestatic 55, 3) := by decide +kernel
theorem dX2_takeFrom_54 : decode cX2_takeFrom 54 = .ok (.aload_n 1, 1) := by decide +kernel
theorem dX2_takeFrom_55 : decode cX2_takeFrom 55 = .ok (.getfield 21, 3) := by decide +kernel
theorem dX2_takeFrom_58 : decode cX2_takeFrom 58 = .ok (.iconst 0, 1) := by decide +kernel
theorem dX2_takeFrom_59 : decode cX2_takeFrom 59 = .ok (.aload_n 0, 1) := by decide +kernel
theorem dX2_takeFrom_60 : decode cX2_takeFrom 60 = .ok (.getfield 21, 3) := by decide +kernel
theorem dX2_takeFrom_63 : decode cX2_takeFrom 63 = .ok (.iconst 0, 1) := by decide +kernel
theorem dX2_takeFrom_64 : decode cX2_takeFrom 64 = .ok (.aload_n 0, 1) := by decide +kernel
theorem dX2_takeFrom_65 : decode cX2_takeFrom 65 = .ok (.getfield 21, 3) := by decide +kernel
theorem dX2_takeFrom_68 : decode cX2_takeFrom 68 = .ok (.arraylength, 1) := by decide +kernel
theorem dX2_takeFrom_69 : decode cX2_takeFrom 69 = .ok (.invokestatic 55, 3) := by decide +kernel
theorem dX2_takeFrom_72 : decode cX2_takeFrom 72 = .ok (.aload_n 1, 1) := by decide +kernel
theorem dX2_takeFrom_73 : decode cX2_takeFrom 73 = .ok (.getfield 24, 3) := by decide +kernel
theorem dX2_takeFrom_76 : decode cX2_takeFrom 76 = .ok (.iconst 0, 1) := by decide +kernel
theorem dX2_takeFrom_77 : decode cX2_takeFrom 77 = .ok (.aload_n 0, 1) := by decide +kernel
theorem dX2_takeFrom_78 : decode cX2_takeFrom 78 = .ok (.getfield 24, 3) := by decide +kernel
theorem dX2_takeFrom_81 : decode cX2_takeFrom 81 = .ok (.iconst 0, 1) := by decide +kernel
theorem dX2_takeFrom_82 : decode cX2_takeFrom 82 = .ok (.aload_n 0, 1) := by decide +kernel
theorem dX2_takeFrom_83 : decode cX2_takeFrom 83 = .ok (.getfield 24, 3) := by decide +kernel
theorem dX2_takeFrom_86 : decode cX2_takeFrom 86 = .ok (.arraylength, 1) := by decide +kernel
theorem dX2_takeFrom_87 : decode cX2_takeFrom 87 = .ok (.invokestatic 55, 3) := by decide +kernel
theorem dX2_takeFrom_90 : decode cX2_takeFrom 90 = .ok (.aload_n 1, 1) := by decide +kernel
theorem dX2_takeFrom_91 : decode cX2_takeFrom 91 = .ok (.getfield 27, 3) := by decide +kernel
theorem dX2_takeFrom_94 : decode cX2_takeFrom 94 = .ok (.iconst 0, 1) := by decide +kernel
theorem dX2_takeFrom_95 : decode cX2_takeFrom 95 = .ok (.aload_n 0, 1) := by decide +kernel
theorem dX2_takeFrom_96 : decode cX2_takeFrom 96 = .ok (.getfield 27, 3) := by decide +kernel
theorem dX2_takeFrom_99 : decode cX2_takeFrom 99 = .ok (.iconst 0, 1) := by decide +kernel
theorem dX2_takeFrom_100 : decode cX2_takeFrom 100 = .ok (.aload_n 0, 1) := by decide +kernel
theorem dX2_takeFrom_101 : decode cX2_takeFrom 101 = .ok (.getfield 27, 3) := by decide +kernel
theorem dX2_takeFrom_104 : decode cX2_takeFrom 104 = .ok (.arraylength, 1) := by decide +kernel
theorem dX2_takeFrom_105 : decode cX2_takeFrom 105 = .ok (.invokestatic 55, 3) := by decide +kernel
theorem dX2_takeFrom_108 : decode cX2_takeFrom 108 = .ok (.aload_n 0, 1) := by decide +kernel
theorem dX2_takeFrom_109 : decode cX2_takeFrom 109 = .ok (.aload_n 1, 1) := by decide +kernel
theorem dX2_takeFrom_110 : decode cX2_takeFrom 110 = .ok (.getfield 39, 3) := by decide +kernel
theorem dX2_takeFrom_113 : decode cX2_takeFrom 113 = .ok (.putfield 39, 3) := by decide +kernel
theorem dX2_takeFrom_116 : decode cX2_takeFrom 116 = .ok (.aload_n 0, 1) := by decide +kernel
theorem dX2_takeFrom_117 : decode cX2_takeFrom 117 = .ok (.aload_n 1, 1) := by decide +kernel
theorem dX2_takeFrom_118 : decode cX2_takeFrom 118 = .ok (.getfield 43, 3) := by decide +kernel
theorem dX2_takeFrom_121 : decode cX2_takeFrom 121 = .ok (.putfield 43, 3) := by decide +kernel
theorem dX2_takeFrom_124 : decode cX2_takeFrom 124 = .ok (.aload_n 0, 1) := by decide +kernel
theorem dX2_takeFrom_125 : decode cX2_takeFrom 125 = .ok (.aload_n 1, 1) := by decide +kernel
theorem dX2_takeFrom_126 : decode cX2_takeFrom 126 = .ok (.getfield 46, 3) := by decide +kernel
theorem dX2_takeFrom_129 : decode cX2_takeFrom 129 = .ok (.putfield 46, 3) := by decide +kernel
theorem dX2_takeFrom_132 : decode cX2_takeFrom 132 = .ok (.aload_n 0, 1) := by decide +kernel
theorem dX2_takeFrom_133 : decode cX2_takeFrom 133 = .ok (.aload_n 1, 1) := by decide +kernel
theorem dX2_takeFrom_134 : decode cX2_takeFrom 134 = .ok (.getfield 49, 3) := by decide +kernel
theorem dX2_takeFrom_137 : decode cX2_takeFrom 137 = .ok (.putfield 49, 3) := by decide +kernel
theorem dX2_takeFrom_140 : decode cX2_takeFrom 140 = .ok (.aload_n 0, 1) := by decide +kernel
theorem dX2_takeFrom_141 : decode cX2_takeFrom 141 = .ok (.aload_n 1, 1) := by decide +kernel
theorem dX2_takeFrom_142 : decode cX2_takeFrom 142 = .ok (.getfield 52, 3) := by decide +kernel
theorem dX2_takeFrom_145 : decode cX2_takeFrom 145 = .ok (.putfield 52, 3) := by decide +kernel
theorem dX2_takeFrom_148 : decode cX2_takeFrom 148 = .ok (.return_, 1) := by decide +kernel
theorem dX2_isSteeple_0 : decode cX2_isSteeple 0 = .ok (.iconst 0, 1) := by decide +kernel
theorem dX2_isSteeple_1 : decode cX2_isSteeple 1 = .ok (.iload_n 0, 1) := by decide +kernel
theorem dX2_isSteeple_2 : decode cX2_isSteeple 2 = .ok (.if_icmp .gt 12, 3) := by decide +kernel
theorem dX2_isSteeple_5 : decode cX2_isSteeple 5 = .ok (.iload_n 0, 1) := by decide +kernel
theorem dX2_isSteeple_6 : decode cX2_isSteeple 6 = .ok (.iconst 3, 1) := by decide +kernel
theorem dX2_isSteeple_7 : decode cX2_isSteeple 7 = .ok (.if_icmp .ge 7, 3) := by decide +kernel
theorem dX2_isSteeple_10 : decode cX2_isSteeple 10 = .ok (.iconst 1, 1) := by decide +kernel
theorem dX2_isSteeple_11 : decode cX2_isSteeple 11 = .ok (.goto 4, 3) := by decide +kernel
theorem dX2_isSteeple_14 : decode cX2_isSteeple 14 = .ok (.iconst 0, 1) := by decide +kernel
theorem dX2_isSteeple_15 : decode cX2_isSteeple 15 = .ok (.ireturn, 1) := by decide +kernel
theorem dX2_isTeller_0 : decode cX2_isTeller 0 = .ok (.iconst 0, 1) := by decide +kernel
theorem dX2_isTeller_1 : decode cX2_isTeller 1 = .ok (.iload_n 0, 1) := by decide +kernel
theorem dX2_isTeller_2 : decode cX2_isTeller 2 = .ok (.if_icmp .gt 13, 3) := by decide +kernel
theorem dX2_isTeller_5 : decode cX2_isTeller 5 = .ok (.iload_n 0, 1) := by decide +kernel
theorem dX2_isTeller_6 : decode cX2_isTeller 6 = .ok (.bipush 6, 2) := by decide +kernel
theorem dX2_isTeller_8 : decode cX2_isTeller 8 = .ok (.if_icmp .ge 7, 3) := by decide +kernel
theorem dX2_isTeller_11 : decode cX2_isTeller 11 = .ok (.iconst 1, 1) := by decide +kernel
theorem dX2_isTeller_12 : decode cX2_isTeller 12 = .ok (.goto 4, 3) := by decide +kernel
theorem dX2_isTeller_15 : decode cX2_isTeller 15 = .ok (.iconst 0, 1) := by decide +kernel
theorem dX2_isTeller_16 : decode cX2_isTeller 16 = .ok (.ireturn, 1) := by decide +kernel
theorem dX2_isTrust_0 : decode cX2_isTrust 0 = .ok (.iconst 0, 1) := by decide +kernel
theorem dX2_isTrust_1 : decode cX2_isTrust 1 = .ok (.iload_n 0, 1) := by decide +kernel
theorem dX2_isTrust_2 : decode cX2_isTrust 2 = .ok (.if_icmp .gt 13, 3) := by decide +kernel
theorem dX2_isTrust_5 : decode cX2_isTrust 5 = .ok (.iload_n 0, 1) := by decide +kernel
theorem dX2_isTrust_6 : decode cX2_isTrust 6 = .ok (.bipush 9, 2) := by decide +kernel
theorem dX2_isTrust_8 : decode cX2_isTrust 8 = .ok (.if_icmp .gt 7, 3) := by decide +kernel
theorem dX2_isTrust_11 : decode cX2_isTrust 11 = .ok (.iconst 1, 1) := by decide +kernel
theorem dX2_isTrust_12 : decode cX2_isTrust 12 = .ok (.goto 4, 3) := by decide +kernel
theorem dX2_isTrust_15 : decode cX2_isTrust 15 = .ok (.iconst 0, 1) := by decide +kernel
theorem dX2_isTrust_16 : decode cX2_isTrust 16 = .ok (.ireturn, 1) := by decide +kernel
theorem dX2_isHeight_0 : decode cX2_isHeight 0 = .ok (.iconst 1, 1) := by decide +kernel
theorem dX2_isHeight_1 : decode cX2_isHeight 1 = .ok (.iload_n 0, 1) := by decide +kernel
theorem dX2_isHeight_2 : decode cX2_isHeight 2 = .ok (.if_icmp .gt 14, 3) := by decide +kernel
theorem dX2_isHeight_5 : decode cX2_isHeight 5 = .ok (.iload_n 0, 1) := by decide +kernel
theorem dX2_isHeight_6 : decode cX2_isHeight 6 = .ok (.sipush 999, 3) := by decide +kernel
theorem dX2_isHeight_9 : decode cX2_isHeight 9 = .ok (.if_icmp .gt 7, 3) := by decide +kernel
theorem dX2_isHeight_12 : decode cX2_isHeight 12 = .ok (.iconst 1, 1) := by decide +kernel
theorem dX2_isHeight_13 : decode cX2_isHeight 13 = .ok (.goto 4, 3) := by decide +kernel
theorem dX2_isHeight_16 : decode cX2_isHeight 16 = .ok (.iconst 0, 1) := by decide +kernel
theorem dX2_isHeight_17 : decode cX2_isHeight 17 = .ok (.ireturn, 1) := by decide +kernel
theorem dX2_isSetting_0 : decode cX2_isSetting 0 = .ok (.iconst 0, 1) := by decide +kernel
theorem dX2_isSetting_1 : decode cX2_isSetting 1 = .ok (.iload_n 0, 1) := by decide +kernel
theorem dX2_isSetting_2 : decode cX2_isSetting 2 = .ok (.if_icmp .gt 12, 3) := by decide +kernel
theorem dX2_isSetting_5 : decode cX2_isSetting 5 = .ok (.iload_n 0, 1) := by decide +kernel
theorem dX2_isSetting_6 : decode cX2_isSetting 6 = .ok (.iconst 2, 1) := by decide +kernel
theorem dX2_isSetting_7 : decode cX2_isSetting 7 = .ok (.if_icmp .ge 7, 3) := by decide +kernel
theorem dX2_isSetting_10 : decode cX2_isSetting 10 = .ok (.iconst 1, 1) := by decide +kernel
theorem dX2_isSetting_11 : decode cX2_isSetting 11 = .ok (.goto 4, 3) := by decide +kernel
theorem dX2_isSetting_14 : decode cX2_isSetting 14 = .ok (.iconst 0, 1) := by decide +kernel
theorem dX2_isSetting_15 : decode cX2_isSetting 15 = .ok (.ireturn, 1) := by decide +kernel
theorem dX2_fitsSetting_0 : decode cX2_fitsSetting 0 = .ok (.iload_n 0, 1) := by decide +kernel
theorem dX2_fitsSetting_1 : decode cX2_fitsSetting 1 = .ok (.invokestatic 61, 3) := by decide +kernel
theorem dX2_fitsSetting_4 : decode cX2_fitsSetting 4 = .ok (.ifCond .eq 26, 3) := by decide +kernel
theorem dX2_fitsSetting_7 : decode cX2_fitsSetting 7 = .ok (.iconst 0, 1) := by decide +kernel
theorem dX2_fitsSetting_8 : decode cX2_fitsSetting 8 = .ok (.iload_n 1, 1) := by decide +kernel
theorem dX2_fitsSetting_9 : decode cX2_fitsSetting 9 = .ok (.if_icmp .gt 21, 3) := by decide +kernel
theorem dX2_fitsSetting_12 : decode cX2_fitsSetting 12 = .ok (.iload_n 1, 1) := by decide +kernel
theorem dX2_fitsSetting_13 : decode cX2_fitsSetting 13 = .ok (.iload_n 0, 1) := by decide +kernel
theorem dX2_fitsSetting_14 : decode cX2_fitsSetting 14 = .ok (.ifCond .ne 7, 3) := by decide +kernel
theorem dX2_fitsSetting_17 : decode cX2_fitsSetting 17 = .ok (.iconst 5, 1) := by decide +kernel
theorem dX2_fitsSetting_18 : decode cX2_fitsSetting 18 = .ok (.goto 5, 3) := by decide +kernel
theorem dX2_fitsSetting_21 : decode cX2_fitsSetting 21 = .ok (.bipush 50, 2) := by decide +kernel
theorem dX2_fitsSetting_23 : decode cX2_fitsSetting 23 = .ok (.if_icmp .gt 7, 3) := by decide +kernel
theorem dX2_fitsSetting_26 : decode cX2_fitsSetting 26 = .ok (.iconst 1, 1) := by decide +kernel
theorem dX2_fitsSetting_27 : decode cX2_fitsSetting 27 = .ok (.goto 4, 3) := by decide +kernel
theorem dX2_fitsSetting_30 : decode cX2_fitsSetting 30 = .ok (.iconst 0, 1) := by decide +kernel
theorem dX2_fitsSetting_31 : decode cX2_fitsSetting 31 = .ok (.ireturn, 1) := by decide +kernel
theorem dX2_fits_0 : decode cX2_fits 0 = .ok (.iload_n 0, 1) := by decide +kernel
theorem dX2_fits_1 : decode cX2_fits 1 = .ok (.tableswitch 135 0 2 #[27, 64, 101], 27) := by decide +kernel
theorem dX2_fits_28 : decode cX2_fits 28 = .ok (.iconst 1, 1) := by decide +kernel
theorem dX2_fits_29 : decode cX2_fits 29 = .ok (.iload_n 1, 1) := by decide +kernel
theorem dX2_fits_30 : decode cX2_fits 30 = .ok (.if_icmp .gt 33, 3) := by decide +kernel
theorem dX2_fits_33 : decode cX2_fits 33 = .ok (.iload_n 1, 1) := by decide +kernel
theorem dX2_fits_34 : decode cX2_fits 34 = .ok (.bipush 20, 2) := by decide +kernel
theorem dX2_fits_36 : decode cX2_fits 36 = .ok (.if_icmp .gt 27, 3) := by decide +kernel
theorem dX2_fits_39 : decode cX2_fits 39 = .ok (.iconst 1, 1) := by decide +kernel
theorem dX2_fits_40 : decode cX2_fits 40 = .ok (.iload_n 2, 1) := by decide +kernel
theorem dX2_fits_41 : decode cX2_fits 41 = .ok (.if_icmp .gt 22, 3) := by decide +kernel
theorem dX2_fits_44 : decode cX2_fits 44 = .ok (.iload_n 2, 1) := by decide +kernel
theorem dX2_fits_45 : decode cX2_fits 45 = .ok (.bipush 40, 2) := by decide +kernel
theorem dX2_fits_47 : decode cX2_fits 47 = .ok (.if_icmp .gt 16, 3) := by decide +kernel
theorem dX2_fits_50 : decode cX2_fits 50 = .ok (.iload_n 3, 1) := by decide +kernel
theorem dX2_fits_51 : decode cX2_fits 51 = .ok (.iload 4, 2) := by decide +kernel
theorem dX2_fits_53 : decode cX2_fits 53 = .ok (.invokestatic 65, 3) := by decide +kernel
theorem dX2_fits_56 : decode cX2_fits 56 = .ok (.ifCond .eq 7, 3) := by decide +kernel
theorem dX2_fits_59 : decode cX2_fits 59 = .ok (.iconst 1, 1) := by decide +kernel
theorem dX2_fits_60 : decode cX2_fits 60 = .ok (.goto 4, 3) := by decide +kernel
theorem dX2_fits_63 : decode cX2_fits 63 = .ok (.iconst 0, 1) := by decide +kernel
theorem dX2_fits_64 : decode cX2_fits 64 = .ok (.ireturn, 1) := by decide +kernel
theorem dX2_fits_65 : decode cX2_fits 65 = .ok (.iconst 1, 1) := by decide +kernel
theorem dX2_fits_66 : decode cX2_fits 66 = .ok (.iload_n 1, 1) := by decide +kernel
theorem dX2_fits_67 : decode cX2_fits 67 = .ok (.if_icmp .gt 33, 3) := by decide +kernel
theorem dX2_fits_70 : decode cX2_fits 70 = .ok (.iload_n 1, 1) := by decide +kernel
theorem dX2_fits_71 : decode cX2_fits 71 = .ok (.bipush 9, 2) := by decide +kernel
theorem dX2_fits_73 : decode cX2_fits 73 = .ok (.if_icmp .gt 27, 3) := by decide +kernel
theorem dX2_fits_76 : decode cX2_fits 76 = .ok (.iconst 1, 1) := by decide +kernel
theorem dX2_fits_77 : decode cX2_fits 77 = .ok (.iload_n 2, 1) := by decide +kernel
theorem dX2_fits_78 : decode cX2_fits 78 = .ok (.if_icmp .gt 22, 3) := by decide +kernel
theorem dX2_fits_81 : decode cX2_fits 81 = .ok (.iload_n 2, 1) := by decide +kernel
theorem dX2_fits_82 : decode cX2_fits 82 = .ok (.bipush 60, 2) := by decide +kernel
theorem dX2_fits_84 : decode cX2_fits 84 = .ok (.if_icmp .gt 16, 3) := by decide +kernel
theorem dX2_fits_87 : decode cX2_fits 87 = .ok (.iload_n 3, 1) := by decide +kernel
theorem dX2_fits_88 : decode cX2_fits 88 = .ok (.iload 4, 2) := by decide +kernel
theorem dX2_fits_90 : decode cX2_fits 90 = .ok (.invokestatic 65, 3) := by decide +kernel
theorem dX2_fits_93 : decode cX2_fits 93 = .ok (.ifCond .eq 7, 3) := by decide +kernel
theorem dX2_fits_96 : decode cX2_fits 96 = .ok (.iconst 1, 1) := by decide +kernel
theorem dX2_fits_97 : decode cX2_fits 97 = .ok (.goto 4, 3) := by decide +kernel
theorem dX2_fits_100 : decode cX2_fits 100 = .ok (.iconst 0, 1) := by decide +kernel
theorem dX2_fits_101 : decode cX2_fits 101 = .ok (.ireturn, 1) := by decide +kernel
theorem dX2_fits_102 : decode cX2_fits 102 = .ok (.iload_n 1, 1) := by decide +kernel
theorem dX2_fits_103 : decode cX2_fits 103 = .ok (.invokestatic 69, 3) := by decide +kernel
theorem dX2_fits_106 : decode cX2_fits 106 = .ok (.ifCond .eq 28, 3) := by decide +kernel
theorem dX2_fits_109 : decode cX2_fits 109 = .ok (.iload_n 2, 1) := by decide +kernel
theorem dX2_fits_110 : decode cX2_fits 110 = .ok (.invokestatic 69, 3) := by decide +kernel
theorem dX2_fits_113 : decode cX2_fits 113 = .ok (.ifCond .eq 21, 3) := by decide +kernel
theorem dX2_fits_116 : decode cX2_fits 116 = .ok (.iload_n 1, 1) := by decide +kernel
theorem dX2_fits_117 : decode cX2_fits 117 = .ok (.iload_n 2, 1) := by decide +kernel
theorem dX2_fits_118 : decode cX2_fits 118 = .ok (.if_icmp .gt 16, 3) := by decide +kernel
theorem dX2_fits_121 : decode cX2_fits 121 = .ok (.iload_n 3, 1) := by decide +kernel
theorem dX2_fits_122 : decode cX2_fits 122 = .ok (.ifCond .ne 12, 3) := by decide +kernel
theorem dX2_fits_125 : decode cX2_fits 125 = .ok (.iload 4, 2) := by decide +kernel
theorem dX2_fits_127 : decode cX2_fits 127 = .ok (.ifCond .ne 7, 3) := by decide +kernel
theorem dX2_fits_130 : decode cX2_fits 130 = .ok (.iconst 1, 1) := by decide +kernel
theorem dX2_fits_131 : decode cX2_fits 131 = .ok (.goto 4, 3) := by decide +kernel
theorem dX2_fits_134 : decode cX2_fits 134 = .ok (.iconst 0, 1) := by decide +kernel
theorem dX2_fits_135 : decode cX2_fits 135 = .ok (.ireturn, 1) := by decide +kernel
theorem dX2_fits_136 : decode cX2_fits 136 = .ok (.iconst 0, 1) := by decide +kernel
theorem dX2_fits_137 : decode cX2_fits 137 = .ok (.ireturn, 1) := by decide +kernel
theorem dX2_fitsFarSide_0 : decode cX2_fitsFarSide 0 = .ok (.iconst 1, 1) := by decide +kernel
theorem dX2_fitsFarSide_1 : decode cX2_fitsFarSide 1 = .ok (.iload_n 0, 1) := by decide +kernel
theorem dX2_fitsFarSide_2 : decode cX2_fitsFarSide 2 = .ok (.if_icmp .gt 25, 3) := by decide +kernel
theorem dX2_fitsFarSide_5 : decode cX2_fitsFarSide 5 = .ok (.iload_n 0, 1) := by decide +kernel
theorem dX2_fitsFarSide_6 : decode cX2_fitsFarSide 6 = .ok (.sipush 400, 3) := by decide +kernel
theorem dX2_fitsFarSide_9 : decode cX2_fitsFarSide 9 = .ok (.if_icmp .gt 18, 3) := by decide +kernel
theorem dX2_fitsFarSide_12 : decode cX2_fitsFarSide 12 = .ok (.iconst 0, 1) := by decide +kernel
theorem dX2_fitsFarSide_13 : decode cX2_fitsFarSide 13 = .ok (.iload_n 1, 1) := by decide +kernel
theorem dX2_fitsFarSide_14 : decode cX2_fitsFarSide 14 = .ok (.if_icmp .gt 13, 3) := by decide +kernel
theorem dX2_fitsFarSide_17 : decode cX2_fitsFarSide 17 = .ok (.iload_n 1, 1) := by decide +kernel
theorem dX2_fitsFarSide_18 : decode cX2_fitsFarSide 18 = .ok (.bipush 20, 2) := by decide +kernel
theorem dX2_fitsFarSide_20 : decode cX2_fitsFarSide 20 = .ok (.if_icmp .gt 7, 3) := by decide +kernel
theorem dX2_fitsFarSide_23 : decode cX2_fitsFarSide 23 = .ok (.iconst 1, 1) := by decide +kernel
theorem dX2_fitsFarSide_24 : decode cX2_fitsFarSide 24 = .ok (.goto 4, 3) := by decide +kernel
theorem dX2_fitsFarSide_27 : decode cX2_fitsFarSide 27 = .ok (.iconst 0, 1) := by decide +kernel
theorem dX2_fitsFarSide_28 : decode cX2_fitsFarSide 28 = .ok (.ireturn, 1) := by decide +kernel
theorem dX2_hasMeasure_0 : decode cX2_hasMeasure 0 = .ok (.iconst 0, 1) := by decide +kernel
theorem dX2_hasMeasure_1 : decode cX2_hasMeasure 1 = .ok (.iload_n 1, 1) := by decide +kernel
theorem dX2_hasMeasure_2 : decode cX2_hasMeasure 2 = .ok (.if_icmp .gt 15, 3) := by decide +kernel
theorem dX2_hasMeasure_5 : decode cX2_hasMeasure 5 = .ok (.iload_n 1, 1) := by decide +kernel
theorem dX2_hasMeasure_6 : decode cX2_hasMeasure 6 = .ok (.aload_n 0, 1) := by decide +kernel
theorem dX2_hasMeasure_7 : decode cX2_hasMeasure 7 = .ok (.getfield 39, 3) := by decide +kernel
theorem dX2_hasMeasure_10 : decode cX2_hasMeasure 10 = .ok (.if_icmp .ge 7, 3) := by decide +kernel
theorem dX2_hasMeasure_13 : decode cX2_hasMeasure 13 = .ok (.iconst 1, 1) := by decide +kernel
theorem dX2_hasMeasure_14 : decode cX2_hasMeasure 14 = .ok (.goto 4, 3) := by decide +kernel
theorem dX2_hasMeasure_17 : decode cX2_hasMeasure 17 = .ok (.iconst 0, 1) := by decide +kernel
theorem dX2_hasMeasure_18 : decode cX2_hasMeasure 18 = .ok (.ireturn, 1) := by decide +kernel
theorem dX2_isFull_0 : decode cX2_isFull 0 = .ok (.aload_n 0, 1) := by decide +kernel
theorem dX2_isFull_1 : decode cX2_isFull 1 = .ok (.getfield 39, 3) := by decide +kernel
theorem dX2_isFull_4 : decode cX2_isFull 4 = .ok (.bipush 16, 2) := by decide +kernel
theorem dX2_isFull_6 : decode cX2_isFull 6 = .ok (.if_icmp .lt 7, 3) := by decide +kernel
theorem dX2_isFull_9 : decode cX2_isFull 9 = .ok (.iconst 1, 1) := by decide +kernel
theorem dX2_isFull_10 : decode cX2_isFull 10 = .ok (.goto 4, 3) := by decide +kernel
theorem dX2_isFull_13 : decode cX2_isFull 13 = .ok (.iconst 0, 1) := by decide +kernel
theorem dX2_isFull_14 : decode cX2_isFull 14 = .ok (.ireturn, 1) := by decide +kernel
theorem dX2_tryMeasure_0 : decode cX2_tryMeasure 0 = .ok (.iload_n 1, 1) := by decide +kernel
theorem dX2_tryMeasure_1 : decode cX2_tryMeasure 1 = .ok (.invokestatic 72, 3) := by decide +kernel
theorem dX2_tryMeasure_4 : decode cX2_tryMeasure 4 = .ok (.ifCond .eq 32, 3) := by decide +kernel
theorem dX2_tryMeasure_7 : decode cX2_tryMeasure 7 = .ok (.iload_n 2, 1) := by decide +kernel
theorem dX2_tryMeasure_8 : decode cX2_tryMeasure 8 = .ok (.invokestatic 75, 3) := by decide +kernel
theorem dX2_tryMeasure_11 : decode cX2_tryMeasure 11 = .ok (.ifCond .eq 25, 3) := by decide +kernel
theorem dX2_tryMeasure_14 : decode cX2_tryMeasure 14 = .ok (.iload_n 3, 1) := by decide +kernel
theorem dX2_tryMeasure_15 : decode cX2_tryMeasure 15 = .ok (.iload 4, 2) := by decide +kernel
theorem dX2_tryMeasure_17 : decode cX2_tryMeasure 17 = .ok (.iload 5, 2) := by decide +kernel
theorem dX2_tryMeasure_19 : decode cX2_tryMeasure 19 = .ok (.iload 6, 2) := by decide +kernel
theorem dX2_tryMeasure_21 : decode cX2_tryMeasure 21 = .ok (.iload 7, 2) := by decide +kernel
theorem dX2_tryMeasure_23 : decode cX2_tryMeasure 23 = .ok (.invokestatic 78, 3) := by decide +kernel
theorem dX2_tryMeasure_26 : decode cX2_tryMeasure 26 = .ok (.ifCond .eq 10, 3) := by decide +kernel
theorem dX2_tryMeasure_29 : decode cX2_tryMeasure 29 = .ok (.aload_n 0, 1) := by decide +kernel
theorem dX2_tryMeasure_30 : decode cX2_tryMeasure 30 = .ok (.invokevirtual 82, 3) := by decide +kernel
theorem dX2_tryMeasure_33 : decode cX2_tryMeasure 33 = .ok (.ifCond .eq 5, 3) := by decide +kernel
theorem dX2_tryMeasure_36 : decode cX2_tryMeasure 36 = .ok (.iconst 0, 1) := by decide +kernel
theorem dX2_tryMeasure_37 : decode cX2_tryMeasure 37 = .ok (.ireturn, 1) := by decide +kernel
theorem dX2_tryMeasure_38 : decode cX2_tryMeasure 38 = .ok (.aload_n 0, 1) := by decide +kernel
theorem dX2_tryMeasure_39 : decode cX2_tryMeasure 39 = .ok (.iload_n 1, 1) := by decide +kernel
theorem dX2_tryMeasure_40 : decode cX2_tryMeasure 40 = .ok (.iload_n 2, 1) := by decide +kernel
theorem dX2_tryMeasure_41 : decode cX2_tryMeasure 41 = .ok (.iload_n 3, 1) := by decide +kernel
theorem dX2_tryMeasure_42 : decode cX2_tryMeasure 42 = .ok (.iload 4, 2) := by decide +kernel
theorem dX2_tryMeasure_44 : decode cX2_tryMeasure 44 = .ok (.iload 5, 2) := by decide +kernel
theorem dX2_tryMeasure_46 : decode cX2_tryMeasure 46 = .ok (.iload 6, 2) := by decide +kernel
theorem dX2_tryMeasure_48 : decode cX2_tryMeasure 48 = .ok (.iload 7, 2) := by decide +kernel
theorem dX2_tryMeasure_50 : decode cX2_tryMeasure 50 = .ok (.invokevirtual 86, 3) := by decide +kernel
theorem dX2_tryMeasure_53 : decode cX2_tryMeasure 53 = .ok (.pop, 1) := by decide +kernel
theorem dX2_tryMeasure_54 : decode cX2_tryMeasure 54 = .ok (.iconst 1, 1) := by decide +kernel
theorem dX2_tryMeasure_55 : decode cX2_tryMeasure 55 = .ok (.ireturn, 1) := by decide +kernel
theorem dX2_tryDrop_0 : decode cX2_tryDrop 0 = .ok (.aload_n 0, 1) := by decide +kernel
theorem dX2_tryDrop_1 : decode cX2_tryDrop 1 = .ok (.iload_n 1, 1) := by decide +kernel
theorem dX2_tryDrop_2 : decode cX2_tryDrop 2 = .ok (.invokevirtual 90, 3) := by decide +kernel
theorem dX2_tryDrop_5 : decode cX2_tryDrop 5 = .ok (.ifCond .ne 5, 3) := by decide +kernel
theorem dX2_tryDrop_8 : decode cX2_tryDrop 8 = .ok (.iconst 0, 1) := by decide +kernel
theorem dX2_tryDrop_9 : decode cX2_tryDrop 9 = .ok (.ireturn, 1) := by decide +kernel
theorem dX2_tryDrop_10 : decode cX2_tryDrop 10 = .ok (.aload_n 0, 1) := by decide +kernel
theorem dX2_tryDrop_11 : decode cX2_tryDrop 11 = .ok (.iload_n 1, 1) := by decide +kernel
theorem dX2_tryDrop_12 : decode cX2_tryDrop 12 = .ok (.invokevirtual 93, 3) := by decide +kernel
theorem dX2_tryDrop_15 : decode cX2_tryDrop 15 = .ok (.pop, 1) := by decide +kernel
theorem dX2_tryDrop_16 : decode cX2_tryDrop 16 = .ok (.iconst 1, 1) := by decide +kernel
theorem dX2_tryDrop_17 : decode cX2_tryDrop 17 = .ok (.ireturn, 1) := by decide +kernel
theorem dX2_tryTrust_0 : decode cX2_tryTrust 0 = .ok (.iload_n 1, 1) := by decide +kernel
theorem dX2_tryTrust_1 : decode cX2_tryTrust 1 = .ok (.invokestatic 75, 3) := by decide +kernel
theorem dX2_tryTrust_4 : decode cX2_tryTrust 4 = .ok (.ifCond .eq 10, 3) := by decide +kernel
theorem dX2_tryTrust_7 : decode cX2_tryTrust 7 = .ok (.iload_n 2, 1) := by decide +kernel
theorem dX2_tryTrust_8 : decode cX2_tryTrust 8 = .ok (.invokestatic 97, 3) := by decide +kernel
theorem dX2_tryTrust_11 : decode cX2_tryTrust 11 = .ok (.ifCond .ne 5, 3) := by decide +kernel
theorem dX2_tryTrust_14 : decode cX2_tryTrust 14 = .ok (.iconst 0, 1) := by decide +kernel
theorem dX2_tryTrust_15 : decode cX2_tryTrust 15 = .ok (.ireturn, 1) := by decide +kernel
theorem dX2_tryTrust_16 : decode cX2_tryTrust 16 = .ok (.aload_n 0, 1) := by decide +kernel
theorem dX2_tryTrust_17 : decode cX2_tryTrust 17 = .ok (.iload_n 1, 1) := by decide +kernel
theorem dX2_tryTrust_18 : decode cX2_tryTrust 18 = .ok (.iload_n 2, 1) := by decide +kernel
theorem dX2_tryTrust_19 : decode cX2_tryTrust 19 = .ok (.invokevirtual 100, 3) := by decide +kernel
theorem dX2_tryTrust_22 : decode cX2_tryTrust 22 = .ok (.pop, 1) := by decide +kernel
theorem dX2_tryTrust_23 : decode cX2_tryTrust 23 = .ok (.iconst 1, 1) := by decide +kernel
theorem dX2_tryTrust_24 : decode cX2_tryTrust 24 = .ok (.ireturn, 1) := by decide +kernel
theorem dX2_trySurvey_0 : decode cX2_trySurvey 0 = .ok (.iload_n 1, 1) := by decide +kernel
theorem dX2_trySurvey_1 : decode cX2_trySurvey 1 = .ok (.invokestatic 72, 3) := by decide +kernel
theorem dX2_trySurvey_4 : decode cX2_trySurvey 4 = .ok (.ifCond .eq 10, 3) := by decide +kernel
theorem dX2_trySurvey_7 : decode cX2_trySurvey 7 = .ok (.iload_n 2, 1) := by decide +kernel
theorem dX2_trySurvey_8 : decode cX2_trySurvey 8 = .ok (.invokestatic 69, 3) := by decide +kernel
theorem dX2_trySurvey_11 : decode cX2_trySurvey 11 = .ok (.ifCond .ne 5, 3) := by decide +kernel
theorem dX2_trySurvey_14 : decode cX2_trySurvey 14 = .ok (.iconst 0, 1) := by decide +kernel
theorem dX2_trySurvey_15 : decode cX2_trySurvey 15 = .ok (.ireturn, 1) := by decide +kernel
theorem dX2_trySurvey_16 : decode cX2_trySurvey 16 = .ok (.aload_n 0, 1) := by decide +kernel
theorem dX2_trySurvey_17 : decode cX2_trySurvey 17 = .ok (.iload_n 1, 1) := by decide +kernel
theorem dX2_trySurvey_18 : decode cX2_trySurvey 18 = .ok (.iload_n 2, 1) := by decide +kernel
theorem dX2_trySurvey_19 : decode cX2_trySurvey 19 = .ok (.invokevirtual 104, 3) := by decide +kernel
theorem dX2_trySurvey_22 : decode cX2_trySurvey 22 = .ok (.pop, 1) := by decide +kernel
theorem dX2_trySurvey_23 : decode cX2_trySurvey 23 = .ok (.iconst 1, 1) := by decide +kernel
theorem dX2_trySurvey_24 : decode cX2_trySurvey 24 = .ok (.ireturn, 1) := by decide +kernel
theorem dX2_addMeasure_0 : decode cX2_addMeasure 0 = .ok (.aload_n 0, 1) := by decide +kernel
theorem dX2_addMeasure_1 : decode cX2_addMeasure 1 = .ok (.getfield 39, 3) := by decide +kernel
theorem dX2_addMeasure_4 : decode cX2_addMeasure 4 = .ok (.bipush 9, 2) := by decide +kernel
theorem dX2_addMeasure_6 : decode cX2_addMeasure 6 = .ok (.imul, 1) := by decide +kernel
theorem dX2_addMeasure_7 : decode cX2_addMeasure 7 = .ok (.istore 8, 2) := by decide +kernel
theorem dX2_addMeasure_9 : decode cX2_addMeasure 9 = .ok (.aload_n 0, 1) := by decide +kernel
theorem dX2_addMeasure_10 : decode cX2_addMeasure 10 = .ok (.getfield 11, 3) := by decide +kernel
theorem dX2_addMeasure_13 : decode cX2_addMeasure 13 = .ok (.iload 8, 2) := by decide +kernel
theorem dX2_addMeasure_15 : decode cX2_addMeasure 15 = .ok (.iconst 0, 1) := by decide +kernel
theorem dX2_addMeasure_16 : decode cX2_addMeasure 16 = .ok (.iadd, 1) := by decide +kernel
theorem dX2_addMeasure_17 : decode cX2_addMeasure 17 = .ok (.iload_n 1, 1) := by decide +kernel
theorem dX2_addMeasure_18 : decode cX2_addMeasure 18 = .ok (.iastore, 1) := by decide +kernel
theorem dX2_addMeasure_19 : decode cX2_addMeasure 19 = .ok (.aload_n 0, 1) := by decide +kernel
theorem dX2_addMeasure_20 : decode cX2_addMeasure 20 = .ok (.getfield 11, 3) := by decide +kernel
theorem dX2_addMeasure_23 : decode cX2_addMeasure 23 = .ok (.iload 8, 2) := by decide +kernel
theorem dX2_addMeasure_25 : decode cX2_addMeasure 25 = .ok (.iconst 1, 1) := by decide +kernel
theorem dX2_addMeasure_26 : decode cX2_addMeasure 26 = .ok (.iadd, 1) := by decide +kernel
theorem dX2_addMeasure_27 : decode cX2_addMeasure 27 = .ok (.iload_n 2, 1) := by decide +kernel
theorem dX2_addMeasure_28 : decode cX2_addMeasure 28 = .ok (.iastore, 1) := by decide +kernel
theorem dX2_addMeasure_29 : decode cX2_addMeasure 29 = .ok (.aload_n 0, 1) := by decide +kernel
theorem dX2_addMeasure_30 : decode cX2_addMeasure 30 = .ok (.getfield 11, 3) := by decide +kernel
theorem dX2_addMeasure_33 : decode cX2_addMeasure 33 = .ok (.iload 8, 2) := by decide +kernel
theorem dX2_addMeasure_35 : decode cX2_addMeasure 35 = .ok (.iconst 2, 1) := by decide +kernel
theorem dX2_addMeasure_36 : decode cX2_addMeasure 36 = .ok (.iadd, 1) := by decide +kernel
theorem dX2_addMeasure_37 : decode cX2_addMeasure 37 = .ok (.iload_n 3, 1) := by decide +kernel
theorem dX2_addMeasure_38 : decode cX2_addMeasure 38 = .ok (.iastore, 1) := by decide +kernel
theorem dX2_addMeasure_39 : decode cX2_addMeasure 39 = .ok (.aload_n 0, 1) := by decide +kernel
theorem dX2_addMeasure_40 : decode cX2_addMeasure 40 = .ok (.getfield 11, 3) := by decide +kernel
theorem dX2_addMeasure_43 : decode cX2_addMeasure 43 = .ok (.iload 8, 2) := by decide +kernel
theorem dX2_addMeasure_45 : decode cX2_addMeasure 45 = .ok (.iconst 3, 1) := by decide +kernel
theorem dX2_addMeasure_46 : decode cX2_addMeasure 46 = .ok (.iadd, 1) := by decide +kernel
theorem dX2_addMeasure_47 : decode cX2_addMeasure 47 = .ok (.iload 4, 2) := by decide +kernel
theorem dX2_addMeasure_49 : decode cX2_addMeasure 49 = .ok (.iastore, 1) := by decide +kernel
theorem dX2_addMeasure_50 : decode cX2_addMeasure 50 = .ok (.aload_n 0, 1) := by decide +kernel
theorem dX2_addMeasure_51 : decode cX2_addMeasure 51 = .ok (.getfield 11, 3) := by decide +kernel
theorem dX2_addMeasure_54 : decode cX2_addMeasure 54 = .ok (.iload 8, 2) := by decide +kernel
theorem dX2_addMeasure_56 : decode cX2_addMeasure 56 = .ok (.iconst 4, 1) := by decide +kernel
theorem dX2_addMeasure_57 : decode cX2_addMeasure 57 = .ok (.iadd, 1) := by decide +kernel
theorem dX2_addMeasure_58 : decode cX2_addMeasure 58 = .ok (.iload 5, 2) := by decide +kernel
theorem dX2_addMeasure_60 : decode cX2_addMeasure 60 = .ok (.iastore, 1) := by decide +kernel
theorem dX2_addMeasure_61 : decode cX2_addMeasure 61 = .ok (.aload_n 0, 1) := by decide +kernel
theorem dX2_addMeasure_62 : decode cX2_addMeasure 62 = .ok (.getfield 11, 3) := by decide +kernel
theorem dX2_addMeasure_65 : decode cX2_addMeasure 65 = .ok (.iload 8, 2) := by decide +kernel
theorem dX2_addMeasure_67 : decode cX2_addMeasure 67 = .ok (.iconst 5, 1) := by decide +kernel
theorem dX2_addMeasure_68 : decode cX2_addMeasure 68 = .ok (.iadd, 1) := by decide +kernel
theorem dX2_addMeasure_69 : decode cX2_addMeasure 69 = .ok (.iload 6, 2) := by decide +kernel
theorem dX2_addMeasure_71 : decode cX2_addMeasure 71 = .ok (.iastore, 1) := by decide +kernel
theorem dX2_addMeasure_72 : decode cX2_addMeasure 72 = .ok (.aload_n 0, 1) := by decide +kernel
theorem dX2_addMeasure_73 : decode cX2_addMeasure 73 = .ok (.getfield 11, 3) := by decide +kernel
theorem dX2_addMeasure_76 : decode cX2_addMeasure 76 = .ok (.iload 8, 2) := by decide +kernel
theorem dX2_addMeasure_78 : decode cX2_addMeasure 78 = .ok (.bipush 6, 2) := by decide +kernel
theorem dX2_addMeasure_80 : decode cX2_addMeasure 80 = .ok (.iadd, 1) := by decide +kernel
theorem dX2_addMeasure_81 : decode cX2_addMeasure 81 = .ok (.iload 7, 2) := by decide +kernel
theorem dX2_addMeasure_83 : decode cX2_addMeasure 83 = .ok (.iastore, 1) := by decide +kernel
theorem dX2_addMeasure_84 : decode cX2_addMeasure 84 = .ok (.aload_n 0, 1) := by decide +kernel
theorem dX2_addMeasure_85 : decode cX2_addMeasure 85 = .ok (.getfield 11, 3) := by decide +kernel
theorem dX2_addMeasure_88 : decode cX2_addMeasure 88 = .ok (.iload 8, 2) := by decide +kernel
theorem dX2_addMeasure_90 : decode cX2_addMeasure 90 = .ok (.bipush 7, 2) := by decide +kernel
theorem dX2_addMeasure_92 : decode cX2_addMeasure 92 = .ok (.iadd, 1) := by decide +kernel
theorem dX2_addMeasure_93 : decode cX2_addMeasure 93 = .ok (.iload_n 3, 1) := by decide +kernel
theorem dX2_addMeasure_94 : decode cX2_addMeasure 94 = .ok (.iconst 2, 1) := by decide +kernel
theorem dX2_addMeasure_95 : decode cX2_addMeasure 95 = .ok (.if_icmp .ne 8, 3) := by decide +kernel
theorem dX2_addMeasure_98 : decode cX2_addMeasure 98 = .ok (.iload 4, 2) := by decide +kernel
theorem dX2_addMeasure_100 : decode cX2_addMeasure 100 = .ok (.goto 15, 3) := by decide +kernel
theorem dX2_addMeasure_103 : decode cX2_addMeasure 103 = .ok (.iload 4, 2) := by decide +kernel
theorem dX2_addMeasure_105 : decode cX2_addMeasure 105 = .ok (.iload 5, 2) := by decide +kernel
theorem dX2_addMeasure_107 : decode cX2_addMeasure 107 = .ok (.iload 6, 2) := by decide +kernel
theorem dX2_addMeasure_109 : decode cX2_addMeasure 109 = .ok (.iload 7, 2) := by decide +kernel
theorem dX2_addMeasure_111 : decode cX2_addMeasure 111 = .ok (.isub, 1) := by decide +kernel
theorem dX2_addMeasure_112 : decode cX2_addMeasure 112 = .ok (.invokestatic 107, 3) := by decide +kernel
theorem dX2_addMeasure_115 : decode cX2_addMeasure 115 = .ok (.invokestatic 111, 3) := by decide +kernel
theorem dX2_addMeasure_118 : decode cX2_addMeasure 118 = .ok (.iastore, 1) := by decide +kernel
theorem dX2_addMeasure_119 : decode cX2_addMeasure 119 = .ok (.aload_n 0, 1) := by decide +kernel
theorem dX2_addMeasure_120 : decode cX2_addMeasure 120 = .ok (.getfield 11, 3) := by decide +kernel
theorem dX2_addMeasure_123 : decode cX2_addMeasure 123 = .ok (.iload 8, 2) := by decide +kernel
theorem dX2_addMeasure_125 : decode cX2_addMeasure 125 = .ok (.bipush 8, 2) := by decide +kernel
theorem dX2_addMeasure_127 : decode cX2_addMeasure 127 = .ok (.iadd, 1) := by decide +kernel
theorem dX2_addMeasure_128 : decode cX2_addMeasure 128 = .ok (.iload_n 3, 1) := by decide +kernel
theorem dX2_addMeasure_129 : decode cX2_addMeasure 129 = .ok (.iconst 2, 1) := by decide +kernel
theorem dX2_addMeasure_130 : decode cX2_addMeasure 130 = .ok (.if_icmp .ne 8, 3) := by decide +kernel
theorem dX2_addMeasure_133 : decode cX2_addMeasure 133 = .ok (.iload 5, 2) := by decide +kernel
theorem dX2_addMeasure_135 : decode cX2_addMeasure 135 = .ok (.goto 15, 3) := by decide +kernel
theorem dX2_addMeasure_138 : decode cX2_addMeasure 138 = .ok (.iload 4, 2) := by decide +kernel
theorem dX2_addMeasure_140 : decode cX2_addMeasure 140 = .ok (.iload 5, 2) := by decide +kernel
theorem dX2_addMeasure_142 : decode cX2_addMeasure 142 = .ok (.iload 6, 2) := by decide +kernel
theorem dX2_addMeasure_144 : decode cX2_addMeasure 144 = .ok (.iload 7, 2) := by decide +kernel
theorem dX2_addMeasure_146 : decode cX2_addMeasure 146 = .ok (.iadd, 1) := by decide +kernel
theorem dX2_addMeasure_147 : decode cX2_addMeasure 147 = .ok (.invokestatic 114, 3) := by decide +kernel
theorem dX2_addMeasure_150 : decode cX2_addMeasure 150 = .ok (.invokestatic 111, 3) := by decide +kernel
theorem dX2_addMeasure_153 : decode cX2_addMeasure 153 = .ok (.iastore, 1) := by decide +kernel
theorem dX2_addMeasure_154 : decode cX2_addMeasure 154 = .ok (.aload_n 0, 1) := by decide +kernel
theorem dX2_addMeasure_155 : decode cX2_addMeasure 155 = .ok (.dup, 1) := by decide +kernel
theorem dX2_addMeasure_156 : decode cX2_addMeasure 156 = .ok (.getfield 39, 3) := by decide +kernel
theorem dX2_addMeasure_159 : decode cX2_addMeasure 159 = .ok (.iconst 1, 1) := by decide +kernel
theorem dX2_addMeasure_160 : decode cX2_addMeasure 160 = .ok (.iadd, 1) := by decide +kernel
theorem dX2_addMeasure_161 : decode cX2_addMeasure 161 = .ok (.putfield 39, 3) := by decide +kernel
theorem dX2_addMeasure_164 : decode cX2_addMeasure 164 = .ok (.aload_n 0, 1) := by decide +kernel
theorem dX2_addMeasure_165 : decode cX2_addMeasure 165 = .ok (.dup, 1) := by decide +kernel
theorem dX2_addMeasure_166 : decode cX2_addMeasure 166 = .ok (.getfield 43, 3) := by decide +kernel
theorem dX2_addMeasure_169 : decode cX2_addMeasure 169 = .ok (.iconst 1, 1) := by decide +kernel
theorem dX2_addMeasure_170 : decode cX2_addMeasure 170 = .ok (.iadd, 1) := by decide +kernel
theorem dX2_addMeasure_171 : decode cX2_addMeasure 171 = .ok (.putfield 43, 3) := by decide +kernel
theorem dX2_addMeasure_174 : decode cX2_addMeasure 174 = .ok (.aload_n 0, 1) := by decide +kernel
theorem dX2_addMeasure_175 : decode cX2_addMeasure 175 = .ok (.getfield 39, 3) := by decide +kernel
theorem dX2_addMeasure_178 : decode cX2_addMeasure 178 = .ok (.iconst 1, 1) := by decide +kernel
theorem dX2_addMeasure_179 : decode cX2_addMeasure 179 = .ok (.isub, 1) := by decide +kernel
theorem dX2_addMeasure_180 : decode cX2_addMeasure 180 = .ok (.ireturn, 1) := by decide +kernel
theorem dX2_leastHeight_0 : decode cX2_leastHeight 0 = .ok (.iload_n 1, 1) := by decide +kernel
theorem dX2_leastHeight_1 : decode cX2_leastHeight 1 = .ok (.iconst 1, 1) := by decide +kernel
theorem dX2_leastHeight_2 : decode cX2_leastHeight 2 = .ok (.if_icmp .ge 7, 3) := by decide +kernel
theorem dX2_leastHeight_5 : decode cX2_leastHeight 5 = .ok (.iconst 1, 1) := by decide +kernel
theorem dX2_leastHeight_6 : decode cX2_leastHeight 6 = .ok (.goto 10, 3) := by decide +kernel
theorem dX2_leastHeight_9 : decode cX2_leastHeight 9 = .ok (.iload_n 0, 1) := by decide +kernel
theorem dX2_leastHeight_10 : decode cX2_leastHeight 10 = .ok (.iload_n 2, 1) := by decide +kernel
theorem dX2_leastHeight_11 : decode cX2_leastHeight 11 = .ok (.imul, 1) := by decide +kernel
theorem dX2_leastHeight_12 : decode cX2_leastHeight 12 = .ok (.iload_n 1, 1) := by decide +kernel
theorem dX2_leastHeight_13 : decode cX2_leastHeight 13 = .ok (.invokestatic 117, 3) := by decide +kernel
theorem dX2_leastHeight_16 : decode cX2_leastHeight 16 = .ok (.ireturn, 1) := by decide +kernel
theorem dX2_greatestHeight_0 : decode cX2_greatestHeight 0 = .ok (.iload_n 1, 1) := by decide +kernel
theorem dX2_greatestHeight_1 : decode cX2_greatestHeight 1 = .ok (.iconst 1, 1) := by decide +kernel
theorem dX2_greatestHeight_2 : decode cX2_greatestHeight 2 = .ok (.if_icmp .ge 7, 3) := by decide +kernel
theorem dX2_greatestHeight_5 : decode cX2_greatestHeight 5 = .ok (.iconst 1, 1) := by decide +kernel
theorem dX2_greatestHeight_6 : decode cX2_greatestHeight 6 = .ok (.goto 12, 3) := by decide +kernel
theorem dX2_greatestHeight_9 : decode cX2_greatestHeight 9 = .ok (.iload_n 0, 1) := by decide +kernel
theorem dX2_greatestHeight_10 : decode cX2_greatestHeight 10 = .ok (.iload_n 2, 1) := by decide +kernel
theorem dX2_greatestHeight_11 : decode cX2_greatestHeight 11 = .ok (.imul, 1) := by decide +kernel
theorem dX2_greatestHeight_12 : decode cX2_greatestHeight 12 = .ok (.iload_n 1, 1) := by decide +kernel
theorem dX2_greatestHeight_13 : decode cX2_greatestHeight 13 = .ok (.iadd, 1) := by decide +kernel
theorem dX2_greatestHeight_14 : decode cX2_greatestHeight 14 = .ok (.iconst 1, 1) := by decide +kernel
theorem dX2_greatestHeight_15 : decode cX2_greatestHeight 15 = .ok (.isub, 1) := by decide +kernel
theorem dX2_greatestHeight_16 : decode cX2_greatestHeight 16 = .ok (.iload_n 1, 1) := by decide +kernel
theorem dX2_greatestHeight_17 : decode cX2_greatestHeight 17 = .ok (.idiv, 1) := by decide +kernel
theorem dX2_greatestHeight_18 : decode cX2_greatestHeight 18 = .ok (.ireturn, 1) := by decide +kernel
theorem dX2_withinFeet_0 : decode cX2_withinFeet 0 = .ok (.iconst 1, 1) := by decide +kernel
theorem dX2_withinFeet_1 : decode cX2_withinFeet 1 = .ok (.sipush 999, 3) := by decide +kernel
theorem dX2_withinFeet_4 : decode cX2_withinFeet 4 = .ok (.iload_n 0, 1) := by decide +kernel
theorem dX2_withinFeet_5 : decode cX2_withinFeet 5 = .ok (.invokestatic 122, 3) := by decide +kernel
theorem dX2_withinFeet_8 : decode cX2_withinFeet 8 = .ok (.invokestatic 125, 3) := by decide +kernel
theorem dX2_withinFeet_11 : decode cX2_withinFeet 11 = .ok (.ireturn, 1) := by decide +kernel
theorem dX2_removeMeasure_0 : decode cX2_removeMeasure 0 = .ok (.aload_n 0, 1) := by decide +kernel
theorem dX2_removeMeasure_1 : decode cX2_removeMeasure 1 = .ok (.getfield 39, 3) := by decide +kernel
theorem dX2_removeMeasure_4 : decode cX2_removeMeasure 4 = .ok (.iconst 1, 1) := by decide +kernel
theorem dX2_removeMeasure_5 : decode cX2_removeMeasure 5 = .ok (.isub, 1) := by decide +kernel
theorem dX2_removeMeasure_6 : decode cX2_removeMeasure 6 = .ok (.iload_n 1, 1) := by decide +kernel
theorem dX2_removeMeasure_7 : decode cX2_removeMeasure 7 = .ok (.isub, 1) := by decide +kernel
theorem dX2_removeMeasure_8 : decode cX2_removeMeasure 8 = .ok (.istore_n 2, 1) := by decide +kernel
theorem dX2_removeMeasure_9 : decode cX2_removeMeasure 9 = .ok (.aload_n 0, 1) := by decide +kernel
theorem dX2_removeMeasure_10 : decode cX2_removeMeasure 10 = .ok (.getfield 11, 3) := by decide +kernel
theorem dX2_removeMeasure_13 : decode cX2_removeMeasure 13 = .ok (.iload_n 1, 1) := by decide +kernel
theorem dX2_removeMeasure_14 : decode cX2_removeMeasure 14 = .ok (.iconst 1, 1) := by decide +kernel
theorem dX2_removeMeasure_15 : decode cX2_removeMeasure 15 = .ok (.iadd, 1) := by decide +kernel
theorem dX2_removeMeasure_16 : decode cX2_removeMeasure 16 = .ok (.bipush 9, 2) := by decide +kernel
theorem dX2_removeMeasure_18 : decode cX2_removeMeasure 18 = .ok (.imul, 1) := by decide +kernel
theorem dX2_removeMeasure_19 : decode cX2_removeMeasure 19 = .ok (.aload_n 0, 1) := by decide +kernel
theorem dX2_removeMeasure_20 : decode cX2_removeMeasure 20 = .ok (.getfield 11, 3) := by decide +kernel
theorem dX2_removeMeasure_23 : decode cX2_removeMeasure 23 = .ok (.iload_n 1, 1) := by decide +kernel
theorem dX2_removeMeasure_24 : decode cX2_removeMeasure 24 = .ok (.bipush 9, 2) := by decide +kernel
theorem dX2_removeMeasure_26 : decode cX2_removeMeasure 26 = .ok (.imul, 1) := by decide +kernel
theorem dX2_removeMeasure_27 : decode cX2_removeMeasure 27 = .ok (.iload_n 2, 1) := by decide +kernel
theorem dX2_removeMeasure_28 : decode cX2_removeMeasure 28 = .ok (.bipush 9, 2) := by decide +kernel
theorem dX2_removeMeasure_30 : decode cX2_removeMeasure 30 = .ok (.imul, 1) := by decide +kernel
theorem dX2_removeMeasure_31 : decode cX2_removeMeasure 31 = .ok (.invokestatic 55, 3) := by decide +kernel
theorem dX2_removeMeasure_34 : decode cX2_removeMeasure 34 = .ok (.aload_n 0, 1) := by decide +kernel
theorem dX2_removeMeasure_35 : decode cX2_removeMeasure 35 = .ok (.dup, 1) := by decide +kernel
theorem dX2_removeMeasure_36 : decode cX2_removeMeasure 36 = .ok (.getfield 39, 3) := by decide +kernel
theorem dX2_removeMeasure_39 : decode cX2_removeMeasure 39 = .ok (.iconst 1, 1) := by decide +kernel
theorem dX2_removeMeasure_40 : decode cX2_removeMeasure 40 = .ok (.isub, 1) := by decide +kernel
theorem dX2_removeMeasure_41 : decode cX2_removeMeasure 41 = .ok (.putfield 39, 3) := by decide +kernel
theorem dX2_removeMeasure_44 : decode cX2_removeMeasure 44 = .ok (.aload_n 0, 1) := by decide +kernel
theorem dX2_removeMeasure_45 : decode cX2_removeMeasure 45 = .ok (.getfield 39, 3) := by decide +kernel
theorem dX2_removeMeasure_48 : decode cX2_removeMeasure 48 = .ok (.ireturn, 1) := by decide +kernel
theorem dX2_changeTrust_0 : decode cX2_changeTrust 0 = .ok (.aload_n 0, 1) := by decide +kernel
theorem dX2_changeTrust_1 : decode cX2_changeTrust 1 = .ok (.getfield 15, 3) := by decide +kernel
theorem dX2_changeTrust_4 : decode cX2_changeTrust 4 = .ok (.iload_n 1, 1) := by decide +kernel
theorem dX2_changeTrust_5 : decode cX2_changeTrust 5 = .ok (.iaload, 1) := by decide +kernel
theorem dX2_changeTrust_6 : decode cX2_changeTrust 6 = .ok (.istore_n 3, 1) := by decide +kernel
theorem dX2_changeTrust_7 : decode cX2_changeTrust 7 = .ok (.aload_n 0, 1) := by decide +kernel
theorem dX2_changeTrust_8 : decode cX2_changeTrust 8 = .ok (.getfield 15, 3) := by decide +kernel
theorem dX2_changeTrust_11 : decode cX2_changeTrust 11 = .ok (.iload_n 1, 1) := by decide +kernel
theorem dX2_changeTrust_12 : decode cX2_changeTrust 12 = .ok (.iload_n 2, 1) := by decide +kernel
theorem dX2_changeTrust_13 : decode cX2_changeTrust 13 = .ok (.iastore, 1) := by decide +kernel
theorem dX2_changeTrust_14 : decode cX2_changeTrust 14 = .ok (.iload_n 3, 1) := by decide +kernel
theorem dX2_changeTrust_15 : decode cX2_changeTrust 15 = .ok (.ireturn, 1) := by decide +kernel
theorem dX2_changeSetting_0 : decode cX2_changeSetting 0 = .ok (.aload_n 0, 1) := by decide +kernel
theorem dX2_changeSetting_1 : decode cX2_changeSetting 1 = .ok (.getfield 27, 3) := by decide +kernel
theorem dX2_changeSetting_4 : decode cX2_changeSetting 4 = .ok (.iload_n 1, 1) := by decide +kernel
theorem dX2_changeSetting_5 : decode cX2_changeSetting 5 = .ok (.iaload, 1) := by decide +kernel
theorem dX2_changeSetting_6 : decode cX2_changeSetting 6 = .ok (.istore_n 3, 1) := by decide +kernel
theorem dX2_changeSetting_7 : decode cX2_changeSetting 7 = .ok (.aload_n 0, 1) := by decide +kernel
theorem dX2_changeSetting_8 : decode cX2_changeSetting 8 = .ok (.getfield 27, 3) := by decide +kernel
theorem dX2_changeSetting_11 : decode cX2_changeSetting 11 = .ok (.iload_n 1, 1) := by decide +kernel
theorem dX2_changeSetting_12 : decode cX2_changeSetting 12 = .ok (.iload_n 2, 1) := by decide +kernel
theorem dX2_changeSetting_13 : decode cX2_changeSetting 13 = .ok (.iastore, 1) := by decide +kernel
theorem dX2_changeSetting_14 : decode cX2_changeSetting 14 = .ok (.iload_n 3, 1) := by decide +kernel
theorem dX2_changeSetting_15 : decode cX2_changeSetting 15 = .ok (.ireturn, 1) := by decide +kernel
theorem dX2_passEvening_0 : decode cX2_passEvening 0 = .ok (.aload_n 0, 1) := by decide +kernel
theorem dX2_passEvening_1 : decode cX2_passEvening 1 = .ok (.getfield 52, 3) := by decide +kernel
theorem dX2_passEvening_4 : decode cX2_passEvening 4 = .ok (.istore_n 1, 1) := by decide +kernel
theorem dX2_passEvening_5 : decode cX2_passEvening 5 = .ok (.iconst 0, 1) := by decide +kernel
theorem dX2_passEvening_6 : decode cX2_passEvening 6 = .ok (.istore_n 2, 1) := by decide +kernel
theorem dX2_passEvening_7 : decode cX2_passEvening 7 = .ok (.iload_n 2, 1) := by decide +kernel
theorem dX2_passEvening_8 : decode cX2_passEvening 8 = .ok (.aload_n 0, 1) := by decide +kernel
theorem dX2_passEvening_9 : decode cX2_passEvening 9 = .ok (.getfield 39, 3) := by decide +kernel
theorem dX2_passEvening_12 : decode cX2_passEvening 12 = .ok (.if_icmp .ge 42, 3) := by decide +kernel
theorem dX2_passEvening_15 : decode cX2_passEvening 15 = .ok (.iload_n 2, 1) := by decide +kernel
theorem dX2_passEvening_16 : decode cX2_passEvening 16 = .ok (.iconst 1, 1) := by decide +kernel
theorem dX2_passEvening_17 : decode cX2_passEvening 17 = .ok (.iadd, 1) := by decide +kernel
theorem dX2_passEvening_18 : decode cX2_passEvening 18 = .ok (.istore_n 3, 1) := by decide +kernel
theorem dX2_passEvening_19 : decode cX2_passEvening 19 = .ok (.iload_n 3, 1) := by decide +kernel
theorem dX2_passEvening_20 : decode cX2_passEvening 20 = .ok (.aload_n 0, 1) := by decide +kernel
theorem dX2_passEvening_21 : decode cX2_passEvening 21 = .ok (.getfield 39, 3) := by decide +kernel
theorem dX2_passEvening_24 : decode cX2_passEvening 24 = .ok (.if_icmp .ge 24, 3) := by decide +kernel
theorem dX2_passEvening_27 : decode cX2_passEvening 27 = .ok (.aload_n 0, 1) := by decide +kernel
theorem dX2_passEvening_28 : decode cX2_passEvening 28 = .ok (.iload_n 2, 1) := by decide +kernel
theorem dX2_passEvening_29 : decode cX2_passEvening 29 = .ok (.iload_n 3, 1) := by decide +kernel
theorem dX2_passEvening_30 : decode cX2_passEvening 30 = .ok (.invokevirtual 128, 3) := by decide +kernel
theorem dX2_passEvening_33 : decode cX2_passEvening 33 = .ok (.ifCond .eq 9, 3) := by decide +kernel
theorem dX2_passEvening_36 : decode cX2_passEvening 36 = .ok (.aload_n 0, 1) := by decide +kernel
theorem dX2_passEvening_37 : decode cX2_passEvening 37 = .ok (.iload_n 2, 1) := by decide +kernel
theorem dX2_passEvening_38 : decode cX2_passEvening 38 = .ok (.iload_n 3, 1) := by decide +kernel
theorem dX2_passEvening_39 : decode cX2_passEvening 39 = .ok (.invokevirtual 131, 3) := by decide +kernel
theorem dX2_passEvening_42 : decode cX2_passEvening 42 = .ok (.iinc 3 1, 3) := by decide +kernel
theorem dX2_passEvening_45 : decode cX2_passEvening 45 = .ok (.goto (-26), 3) := by decide +kernel
theorem dX2_passEvening_48 : decode cX2_passEvening 48 = .ok (.iinc 2 1, 3) := by decide +kernel
theorem dX2_passEvening_51 : decode cX2_passEvening 51 = .ok (.goto (-44), 3) := by decide +kernel
theorem dX2_passEvening_54 : decode cX2_passEvening 54 = .ok (.aload_n 0, 1) := by decide +kernel
theorem dX2_passEvening_55 : decode cX2_passEvening 55 = .ok (.dup, 1) := by decide +kernel
theorem dX2_passEvening_56 : decode cX2_passEvening 56 = .ok (.getfield 46, 3) := by decide +kernel
theorem dX2_passEvening_59 : decode cX2_passEvening 59 = .ok (.iconst 1, 1) := by decide +kernel
theorem dX2_passEvening_60 : decode cX2_passEvening 60 = .ok (.iadd, 1) := by decide +kernel
theorem dX2_passEvening_61 : decode cX2_passEvening 61 = .ok (.putfield 46, 3) := by decide +kernel
theorem dX2_passEvening_64 : decode cX2_passEvening 64 = .ok (.aload_n 0, 1) := by decide +kernel
theorem dX2_passEvening_65 : decode cX2_passEvening 65 = .ok (.getfield 52, 3) := by decide +kernel
theorem dX2_passEvening_68 : decode cX2_passEvening 68 = .ok (.iload_n 1, 1) := by decide +kernel
theorem dX2_passEvening_69 : decode cX2_passEvening 69 = .ok (.isub, 1) := by decide +kernel
theorem dX2_passEvening_70 : decode cX2_passEvening 70 = .ok (.ireturn, 1) := by decide +kernel
theorem dX2_shameLighter_0 : decode cX2_shameLighter 0 = .ok (.aload_n 0, 1) := by decide +kernel
theorem dX2_shameLighter_1 : decode cX2_shameLighter 1 = .ok (.iload_n 1, 1) := by decide +kernel
theorem dX2_shameLighter_2 : decode cX2_shameLighter 2 = .ok (.invokevirtual 135, 3) := by decide +kernel
theorem dX2_shameLighter_5 : decode cX2_shameLighter 5 = .ok (.aload_n 0, 1) := by decide +kernel
theorem dX2_shameLighter_6 : decode cX2_shameLighter 6 = .ok (.iload_n 2, 1) := by decide +kernel
theorem dX2_shameLighter_7 : decode cX2_shameLighter 7 = .ok (.invokevirtual 135, 3) := by decide +kernel
theorem dX2_shameLighter_10 : decode cX2_shameLighter 10 = .ok (.isub, 1) := by decide +kernel
theorem dX2_shameLighter_11 : decode cX2_shameLighter 11 = .ok (.istore_n 3, 1) := by decide +kernel
theorem dX2_shameLighter_12 : decode cX2_shameLighter 12 = .ok (.iload_n 3, 1) := by decide +kernel
theorem dX2_shameLighter_13 : decode cX2_shameLighter 13 = .ok (.ifCond .eq 50, 3) := by decide +kernel
theorem dX2_shameLighter_16 : decode cX2_shameLighter 16 = .ok (.aload_n 0, 1) := by decide +kernel
theorem dX2_shameLighter_17 : decode cX2_shameLighter 17 = .ok (.iload_n 3, 1) := by decide +kernel
theorem dX2_shameLighter_18 : decode cX2_shameLighter 18 = .ok (.ifCond .ge 7, 3) := by decide +kernel
theorem dX2_shameLighter_21 : decode cX2_shameLighter 21 = .ok (.iload_n 1, 1) := by decide +kernel
theorem dX2_shameLighter_22 : decode cX2_shameLighter 22 = .ok (.goto 4, 3) := by decide +kernel
theorem dX2_shameLighter_25 : decode cX2_shameLighter 25 = .ok (.iload_n 2, 1) := by decide +kernel
theorem dX2_shameLighter_26 : decode cX2_shameLighter 26 = .ok (.iconst 1, 1) := by decide +kernel
theorem dX2_shameLighter_27 : decode cX2_shameLighter 27 = .ok (.invokevirtual 138, 3) := by decide +kernel
theorem dX2_shameLighter_30 : decode cX2_shameLighter 30 = .ok (.istore 4, 2) := by decide +kernel
theorem dX2_shameLighter_32 : decode cX2_shameLighter 32 = .ok (.aload_n 0, 1) := by decide +kernel
theorem dX2_shameLighter_33 : decode cX2_shameLighter 33 = .ok (.getfield 15, 3) := by decide +kernel
theorem dX2_shameLighter_36 : decode cX2_shameLighter 36 = .ok (.iload 4, 2) := by decide +kernel
theorem dX2_shameLighter_38 : decode cX2_shameLighter 38 = .ok (.iaload, 1) := by decide +kernel
theorem dX2_shameLighter_39 : decode cX2_shameLighter 39 = .ok (.ifCond .le 24, 3) := by decide +kernel
theorem dX2_shameLighter_42 : decode cX2_shameLighter 42 = .ok (.aload_n 0, 1) := by decide +kernel
theorem dX2_shameLighter_43 : decode cX2_shameLighter 43 = .ok (.getfield 15, 3) := by decide +kernel
theorem dX2_shameLighter_46 : decode cX2_shameLighter 46 = .ok (.iload 4, 2) := by decide +kernel
theorem dX2_shameLighter_48 : decode cX2_shameLighter 48 = .ok (.dup2, 1) := by decide +kernel
theorem dX2_shameLighter_49 : decode cX2_shameLighter 49 = .ok (.iaload, 1) := by decide +kernel
theorem dX2_shameLighter_50 : decode cX2_shameLighter 50 = .ok (.iconst 1, 1) := by decide +kernel
theorem dX2_shameLighter_51 : decode cX2_shameLighter 51 = .ok (.isub, 1) := by decide +kernel
theorem dX2_shameLighter_52 : decode cX2_shameLighter 52 = .ok (.iastore, 1) := by decide +kernel
theorem dX2_shameLighter_53 : decode cX2_shameLighter 53 = .ok (.aload_n 0, 1) := by decide +kernel
theorem dX2_shameLighter_54 : decode cX2_shameLighter 54 = .ok (.dup, 1) := by decide +kernel
theorem dX2_shameLighter_55 : decode cX2_shameLighter 55 = .ok (.getfield 52, 3) := by decide +kernel
theorem dX2_shameLighter_58 : decode cX2_shameLighter 58 = .ok (.iconst 1, 1) := by decide +kernel
theorem dX2_shameLighter_59 : decode cX2_shameLighter 59 = .ok (.iadd, 1) := by decide +kernel
theorem dX2_shameLighter_60 : decode cX2_shameLighter 60 = .ok (.putfield 52, 3) := by decide +kernel
theorem dX2_shameLighter_63 : decode cX2_shameLighter 63 = .ok (.return_, 1) := by decide +kernel
theorem dX2_surveySteeple_0 : decode cX2_surveySteeple 0 = .ok (.iconst 0, 1) := by decide +kernel
theorem dX2_surveySteeple_1 : decode cX2_surveySteeple 1 = .ok (.istore_n 3, 1) := by decide +kernel
theorem dX2_surveySteeple_2 : decode cX2_surveySteeple 2 = .ok (.iconst 0, 1) := by decide +kernel
theorem dX2_surveySteeple_3 : decode cX2_surveySteeple 3 = .ok (.istore 4, 2) := by decide +kernel
theorem dX2_surveySteeple_5 : decode cX2_surveySteeple 5 = .ok (.iload 4, 2) := by decide +kernel
theorem dX2_surveySteeple_7 : decode cX2_surveySteeple 7 = .ok (.aload_n 0, 1) := by decide +kernel
theorem dX2_surveySteeple_8 : decode cX2_surveySteeple 8 = .ok (.getfield 39, 3) := by decide +kernel
theorem dX2_surveySteeple_11 : decode cX2_surveySteeple 11 = .ok (.if_icmp .ge 54, 3) := by decide +kernel
theorem dX2_surveySteeple_14 : decode cX2_surveySteeple 14 = .ok (.aload_n 0, 1) := by decide +kernel
theorem dX2_surveySteeple_15 : decode cX2_surveySteeple 15 = .ok (.iload 4, 2) := by decide +kernel
theorem dX2_surveySteeple_17 : decode cX2_surveySteeple 17 = .ok (.iload_n 1, 1) := by decide +kernel
theorem dX2_surveySteeple_18 : decode cX2_surveySteeple 18 = .ok (.invokevirtual 141, 3) := by decide +kernel
theorem dX2_surveySteeple_21 : decode cX2_surveySteeple 21 = .ok (.ifCond .eq 38, 3) := by decide +kernel
theorem dX2_surveySteeple_24 : decode cX2_surveySteeple 24 = .ok (.aload_n 0, 1) := by decide +kernel
theorem dX2_surveySteeple_25 : decode cX2_surveySteeple 25 = .ok (.iload 4, 2) := by decide +kernel
theorem dX2_surveySteeple_27 : decode cX2_surveySteeple 27 = .ok (.iload_n 2, 1) := by decide +kernel
theorem dX2_surveySteeple_28 : decode cX2_surveySteeple 28 = .ok (.invokevirtual 144, 3) := by decide +kernel
theorem dX2_surveySteeple_31 : decode cX2_surveySteeple 31 = .ok (.istore 5, 2) := by decide +kernel
theorem dX2_surveySteeple_33 : decode cX2_surveySteeple 33 = .ok (.aload_n 0, 1) := by decide +kernel
theorem dX2_surveySteeple_34 : decode cX2_surveySteeple 34 = .ok (.aload_n 0, 1) := by decide +kernel
theorem dX2_surveySteeple_35 : decode cX2_surveySteeple 35 = .ok (.iload 4, 2) := by decide +kernel
theorem dX2_surveySteeple_37 : decode cX2_surveySteeple 37 = .ok (.iconst 1, 1) := by decide +kernel
theorem dX2_surveySteeple_38 : decode cX2_surveySteeple 38 = .ok (.invokevirtual 138, 3) := by decide +kernel
theorem dX2_surveySteeple_41 : decode cX2_surveySteeple 41 = .ok (.iload 5, 2) := by decide +kernel
theorem dX2_surveySteeple_43 : decode cX2_surveySteeple 43 = .ok (.invokevirtual 147, 3) := by decide +kernel
theorem dX2_surveySteeple_46 : decode cX2_surveySteeple 46 = .ok (.iload_n 3, 1) := by decide +kernel
theorem dX2_surveySteeple_47 : decode cX2_surveySteeple 47 = .ok (.iload 5, 2) := by decide +kernel
theorem dX2_surveySteeple_49 : decode cX2_surveySteeple 49 = .ok (.ifCond .eq 7, 3) := by decide +kernel
theorem dX2_surveySteeple_52 : decode cX2_surveySteeple 52 = .ok (.iconst 1, 1) := by decide +kernel
theorem dX2_surveySteeple_53 : decode cX2_surveySteeple 53 = .ok (.goto 4, 3) := by decide +kernel
theorem dX2_surveySteeple_56 : decode cX2_surveySteeple 56 = .ok (.iconst 0, 1) := by decide +kernel
theorem dX2_surveySteeple_57 : decode cX2_surveySteeple 57 = .ok (.iadd, 1) := by decide +kernel
theorem dX2_surveySteeple_58 : decode cX2_surveySteeple 58 = .ok (.istore_n 3, 1) := by decide +kernel
theorem dX2_surveySteeple_59 : decode cX2_surveySteeple 59 = .ok (.iinc 4 1, 3) := by decide +kernel
theorem dX2_surveySteeple_62 : decode cX2_surveySteeple 62 = .ok (.goto (-57), 3) := by decide +kernel
theorem dX2_surveySteeple_65 : decode cX2_surveySteeple 65 = .ok (.aload_n 0, 1) := by decide +kernel
theorem dX2_surveySteeple_66 : decode cX2_surveySteeple 66 = .ok (.iload_n 1, 1) := by decide +kernel
theorem dX2_surveySteeple_67 : decode cX2_surveySteeple 67 = .ok (.invokevirtual 151, 3) := by decide +kernel
theorem dX2_surveySteeple_70 : decode cX2_surveySteeple 70 = .ok (.aload_n 0, 1) := by decide +kernel
theorem dX2_surveySteeple_71 : decode cX2_surveySteeple 71 = .ok (.getfield 24, 3) := by decide +kernel
theorem dX2_surveySteeple_74 : decode cX2_surveySteeple 74 = .ok (.iload_n 1, 1) := by decide +kernel
theorem dX2_surveySteeple_75 : decode cX2_surveySteeple 75 = .ok (.iload_n 2, 1) := by decide +kernel
theorem dX2_surveySteeple_76 : decode cX2_surveySteeple 76 = .ok (.iastore, 1) := by decide +kernel
theorem dX2_surveySteeple_77 : decode cX2_surveySteeple 77 = .ok (.aload_n 0, 1) := by decide +kernel
theorem dX2_surveySteeple_78 : decode cX2_surveySteeple 78 = .ok (.dup, 1) := by decide +kernel
theorem dX2_surveySteeple_79 : decode cX2_surveySteeple 79 = .ok (.getfield 49, 3) := by decide +kernel
theorem dX2_surveySteeple_82 : decode cX2_surveySteeple 82 = .ok (.iconst 1, 1) := by decide +kernel
theorem dX2_surveySteeple_83 : decode cX2_surveySteeple 83 = .ok (.iadd, 1) := by decide +kernel
theorem dX2_surveySteeple_84 : decode cX2_surveySteeple 84 = .ok (.putfield 49, 3) := by decide +kernel
theorem dX2_surveySteeple_87 : decode cX2_surveySteeple 87 = .ok (.iload_n 3, 1) := by decide +kernel
theorem dX2_surveySteeple_88 : decode cX2_surveySteeple 88 = .ok (.ireturn, 1) := by decide +kernel
theorem dX2_judge_0 : decode cX2_judge 0 = .ok (.iload_n 2, 1) := by decide +kernel
theorem dX2_judge_1 : decode cX2_judge 1 = .ok (.ifCond .eq 35, 3) := by decide +kernel
theorem dX2_judge_4 : decode cX2_judge 4 = .ok (.aload_n 0, 1) := by decide +kernel
theorem dX2_judge_5 : decode cX2_judge 5 = .ok (.getfield 18, 3) := by decide +kernel
theorem dX2_judge_8 : decode cX2_judge 8 = .ok (.iload_n 1, 1) := by decide +kernel
theorem dX2_judge_9 : decode cX2_judge 9 = .ok (.dup2, 1) := by decide +kernel
theorem dX2_judge_10 : decode cX2_judge 10 = .ok (.iaload, 1) := by decide +kernel
theorem dX2_judge_11 : decode cX2_judge 11 = .ok (.iconst 1, 1) := by decide +kernel
theorem dX2_judge_12 : decode cX2_judge 12 = .ok (.iadd, 1) := by decide +kernel
theorem dX2_judge_13 : decode cX2_judge 13 = .ok (.iastore, 1) := by decide +kernel
theorem dX2_judge_14 : decode cX2_judge 14 = .ok (.aload_n 0, 1) := by decide +kernel
theorem dX2_judge_15 : decode cX2_judge 15 = .ok (.getfield 15, 3) := by decide +kernel
theorem dX2_judge_18 : decode cX2_judge 18 = .ok (.iload_n 1, 1) := by decide +kernel
theorem dX2_judge_19 : decode cX2_judge 19 = .ok (.bipush 9, 2) := by decide +kernel
theorem dX2_judge_21 : decode cX2_judge 21 = .ok (.aload_n 0, 1) := by decide +kernel
theorem dX2_judge_22 : decode cX2_judge 22 = .ok (.getfield 15, 3) := by decide +kernel
theorem dX2_judge_25 : decode cX2_judge 25 = .ok (.iload_n 1, 1) := by decide +kernel
theorem dX2_judge_26 : decode cX2_judge 26 = .ok (.iaload, 1) := by decide +kernel
theorem dX2_judge_27 : decode cX2_judge 27 = .ok (.iconst 1, 1) := by decide +kernel
theorem dX2_judge_28 : decode cX2_judge 28 = .ok (.iadd, 1) := by decide +kernel
theorem dX2_judge_29 : decode cX2_judge 29 = .ok (.invokestatic 122, 3) := by decide +kernel
theorem dX2_judge_32 : decode cX2_judge 32 = .ok (.iastore, 1) := by decide +kernel
theorem dX2_judge_33 : decode cX2_judge 33 = .ok (.goto 31, 3) := by decide +kernel
theorem dX2_judge_36 : decode cX2_judge 36 = .ok (.aload_n 0, 1) := by decide +kernel
theorem dX2_judge_37 : decode cX2_judge 37 = .ok (.getfield 21, 3) := by decide +kernel
theorem dX2_judge_40 : decode cX2_judge 40 = .ok (.iload_n 1, 1) := by decide +kernel
theorem dX2_judge_41 : decode cX2_judge 41 = .ok (.dup2, 1) := by decide +kernel
theorem dX2_judge_42 : decode cX2_judge 42 = .ok (.iaload, 1) := by decide +kernel
theorem dX2_judge_43 : decode cX2_judge 43 = .ok (.iconst 1, 1) := by decide +kernel
theorem dX2_judge_44 : decode cX2_judge 44 = .ok (.iadd, 1) := by decide +kernel
theorem dX2_judge_45 : decode cX2_judge 45 = .ok (.iastore, 1) := by decide +kernel
theorem dX2_judge_46 : decode cX2_judge 46 = .ok (.aload_n 0, 1) := by decide +kernel
theorem dX2_judge_47 : decode cX2_judge 47 = .ok (.getfield 15, 3) := by decide +kernel
theorem dX2_judge_50 : decode cX2_judge 50 = .ok (.iload_n 1, 1) := by decide +kernel
theorem dX2_judge_51 : decode cX2_judge 51 = .ok (.iconst 0, 1) := by decide +kernel
theorem dX2_judge_52 : decode cX2_judge 52 = .ok (.aload_n 0, 1) := by decide +kernel
theorem dX2_judge_53 : decode cX2_judge 53 = .ok (.getfield 15, 3) := by decide +kernel
theorem dX2_judge_56 : decode cX2_judge 56 = .ok (.iload_n 1, 1) := by decide +kernel
theorem dX2_judge_57 : decode cX2_judge 57 = .ok (.iaload, 1) := by decide +kernel
theorem dX2_judge_58 : decode cX2_judge 58 = .ok (.iconst 1, 1) := by decide +kernel
theorem dX2_judge_59 : decode cX2_judge 59 = .ok (.isub, 1) := by decide +kernel
theorem dX2_judge_60 : decode cX2_judge 60 = .ok (.invokestatic 125, 3) := by decide +kernel
theorem dX2_judge_63 : decode cX2_judge 63 = .ok (.iastore, 1) := by decide +kernel
theorem dX2_judge_64 : decode cX2_judge 64 = .ok (.return_, 1) := by decide +kernel
theorem dX2_removeMeasuresOf_0 : decode cX2_removeMeasuresOf 0 = .ok (.aload_n 0, 1) := by decide +kernel
theorem dX2_removeMeasuresOf_1 : decode cX2_removeMeasuresOf 1 = .ok (.getfield 39, 3) := by decide +kernel
theorem dX2_removeMeasuresOf_4 : decode cX2_removeMeasuresOf 4 = .ok (.iconst 1, 1) := by decide +kernel
theorem dX2_removeMeasuresOf_5 : decode cX2_removeMeasuresOf 5 = .ok (.isub, 1) := by decide +kernel
theorem dX2_removeMeasuresOf_6 : decode cX2_removeMeasuresOf 6 = .ok (.istore_n 2, 1) := by decide +kernel
theorem dX2_removeMeasuresOf_7 : decode cX2_removeMeasuresOf 7 = .ok (.iload_n 2, 1) := by decide +kernel
theorem dX2_removeMeasuresOf_8 : decode cX2_removeMeasuresOf 8 = .ok (.ifCond .lt 24, 3) := by decide +kernel
theorem dX2_removeMeasuresOf_11 : decode cX2_removeMeasuresOf 11 = .ok (.aload_n 0, 1) := by decide +kernel
theorem dX2_removeMeasuresOf_12 : decode cX2_removeMeasuresOf 12 = .ok (.iload_n 2, 1) := by decide +kernel
theorem dX2_removeMeasuresOf_13 : decode cX2_removeMeasuresOf 13 = .ok (.iload_n 1, 1) := by decide +kernel
theorem dX2_removeMeasuresOf_14 : decode cX2_removeMeasuresOf 14 = .ok (.invokevirtual 141, 3) := by decide +kernel
theorem dX2_removeMeasuresOf_17 : decode cX2_removeMeasuresOf 17 = .ok (.ifCond .eq 9, 3) := by decide +kernel
theorem dX2_removeMeasuresOf_20 : decode cX2_removeMeasuresOf 20 = .ok (.aload_n 0, 1) := by decide +kernel
theorem dX2_removeMeasuresOf_21 : decode cX2_removeMeasuresOf 21 = .ok (.iload_n 2, 1) := by decide +kernel
theorem dX2_removeMeasuresOf_22 : decode cX2_removeMeasuresOf 22 = .ok (.invokevirtual 93, 3) := by decide +kernel
theorem dX2_removeMeasuresOf_25 : decode cX2_removeMeasuresOf 25 = .ok (.pop, 1) := by decide +kernel
theorem dX2_removeMeasuresOf_26 : decode cX2_removeMeasuresOf 26 = .ok (.iinc 2 (-1), 3) := by decide +kernel
theorem dX2_removeMeasuresOf_29 : decode cX2_removeMeasuresOf 29 = .ok (.goto (-22), 3) := by decide +kernel
theorem dX2_removeMeasuresOf_32 : decode cX2_removeMeasuresOf 32 = .ok (.return_, 1) := by decide +kernel
theorem dX2_number_0 : decode cX2_number 0 = .ok (.aload_n 0, 1) := by decide +kernel
theorem dX2_number_1 : decode cX2_number 1 = .ok (.getfield 11, 3) := by decide +kernel
theorem dX2_number_4 : decode cX2_number 4 = .ok (.iload_n 1, 1) := by decide +kernel
theorem dX2_number_5 : decode cX2_number 5 = .ok (.bipush 9, 2) := by decide +kernel
theorem dX2_number_7 : decode cX2_number 7 = .ok (.imul, 1) := by decide +kernel
theorem dX2_number_8 : decode cX2_number 8 = .ok (.iload_n 2, 1) := by decide +kernel
theorem dX2_number_9 : decode cX2_number 9 = .ok (.iadd, 1) := by decide +kernel
theorem dX2_number_10 : decode cX2_number 10 = .ok (.iaload, 1) := by decide +kernel
theorem dX2_number_11 : decode cX2_number 11 = .ok (.ireturn, 1) := by decide +kernel
theorem dX2_isOf_0 : decode cX2_isOf 0 = .ok (.aload_n 0, 1) := by decide +kernel
theorem dX2_isOf_1 : decode cX2_isOf 1 = .ok (.iload_n 1, 1) := by decide +kernel
theorem dX2_isOf_2 : decode cX2_isOf 2 = .ok (.iconst 0, 1) := by decide +kernel
theorem dX2_isOf_3 : decode cX2_isOf 3 = .ok (.invokevirtual 138, 3) := by decide +kernel
theorem dX2_isOf_6 : decode cX2_isOf 6 = .ok (.iload_n 2, 1) := by decide +kernel
theorem dX2_isOf_7 : decode cX2_isOf 7 = .ok (.if_icmp .ne 7, 3) := by decide +kernel
theorem dX2_isOf_10 : decode cX2_isOf 10 = .ok (.iconst 1, 1) := by decide +kernel
theorem dX2_isOf_11 : decode cX2_isOf 11 = .ok (.goto 4, 3) := by decide +kernel
theorem dX2_isOf_14 : decode cX2_isOf 14 = .ok (.iconst 0, 1) := by decide +kernel
theorem dX2_isOf_15 : decode cX2_isOf 15 = .ok (.ireturn, 1) := by decide +kernel
theorem dX2_tells_0 : decode cX2_tells 0 = .ok (.aload_n 0, 1) := by decide +kernel
theorem dX2_tells_1 : decode cX2_tells 1 = .ok (.iload_n 1, 1) := by decide +kernel
theorem dX2_tells_2 : decode cX2_tells 2 = .ok (.bipush 7, 2) := by decide +kernel
theorem dX2_tells_4 : decode cX2_tells 4 = .ok (.invokevirtual 138, 3) := by decide +kernel
theorem dX2_tells_7 : decode cX2_tells 7 = .ok (.iload_n 2, 1) := by decide +kernel
theorem dX2_tells_8 : decode cX2_tells 8 = .ok (.if_icmp .gt 18, 3) := by decide +kernel
theorem dX2_tells_11 : decode cX2_tells 11 = .ok (.iload_n 2, 1) := by decide +kernel
theorem dX2_tells_12 : decode cX2_tells 12 = .ok (.aload_n 0, 1) := by decide +kernel
theorem dX2_tells_13 : decode cX2_tells 13 = .ok (.iload_n 1, 1) := by decide +kernel
theorem dX2_tells_14 : decode cX2_tells 14 = .ok (.bipush 8, 2) := by decide +kernel
theorem dX2_tells_16 : decode cX2_tells 16 = .ok (.invokevirtual 138, 3) := by decide +kernel
theorem dX2_tells_19 : decode cX2_tells 19 = .ok (.if_icmp .gt 7, 3) := by decide +kernel
theorem dX2_tells_22 : decode cX2_tells 22 = .ok (.iconst 1, 1) := by decide +kernel
theorem dX2_tells_23 : decode cX2_tells 23 = .ok (.goto 4, 3) := by decide +kernel
theorem dX2_tells_26 : decode cX2_tells 26 = .ok (.iconst 0, 1) := by decide +kernel
theorem dX2_tells_27 : decode cX2_tells 27 = .ok (.ireturn, 1) := by decide +kernel
theorem dX2_weight_0 : decode cX2_weight 0 = .ok (.aload_n 0, 1) := by decide +kernel
theorem dX2_weight_1 : decode cX2_weight 1 = .ok (.getfield 15, 3) := by decide +kernel
theorem dX2_weight_4 : decode cX2_weight 4 = .ok (.aload_n 0, 1) := by decide +kernel
theorem dX2_weight_5 : decode cX2_weight 5 = .ok (.iload_n 1, 1) := by decide +kernel
theorem dX2_weight_6 : decode cX2_weight 6 = .ok (.iconst 1, 1) := by decide +kernel
theorem dX2_weight_7 : decode cX2_weight 7 = .ok (.invokevirtual 138, 3) := by decide +kernel
theorem dX2_weight_10 : decode cX2_weight 10 = .ok (.iaload, 1) := by decide +kernel
theorem dX2_weight_11 : decode cX2_weight 11 = .ok (.aload_n 0, 1) := by decide +kernel
theorem dX2_weight_12 : decode cX2_weight 12 = .ok (.iload_n 1, 1) := by decide +kernel
theorem dX2_weight_13 : decode cX2_weight 13 = .ok (.iconst 2, 1) := by decide +kernel
theorem dX2_weight_14 : decode cX2_weight 14 = .ok (.invokevirtual 138, 3) := by decide +kernel
theorem dX2_weight_17 : decode cX2_weight 17 = .ok (.iconst 2, 1) := by decide +kernel
theorem dX2_weight_18 : decode cX2_weight 18 = .ok (.if_icmp .ne 7, 3) := by decide +kernel
theorem dX2_weight_21 : decode cX2_weight 21 = .ok (.iconst 0, 1) := by decide +kernel
theorem dX2_weight_22 : decode cX2_weight 22 = .ok (.goto 9, 3) := by decide +kernel
theorem dX2_weight_25 : decode cX2_weight 25 = .ok (.aload_n 0, 1) := by decide +kernel
theorem dX2_weight_26 : decode cX2_weight 26 = .ok (.getfield 27, 3) := by decide +kernel
theorem dX2_weight_29 : decode cX2_weight 29 = .ok (.iconst 0, 1) := by decide +kernel
theorem dX2_weight_30 : decode cX2_weight 30 = .ok (.iaload, 1) := by decide +kernel
theorem dX2_weight_31 : decode cX2_weight 31 = .ok (.iadd, 1) := by decide +kernel
theorem dX2_weight_32 : decode cX2_weight 32 = .ok (.ireturn, 1) := by decide +kernel
theorem dX2_feetApart_0 : decode cX2_feetApart 0 = .ok (.aload_n 0, 1) := by decide +kernel
theorem dX2_feetApart_1 : decode cX2_feetApart 1 = .ok (.iload_n 1, 1) := by decide +kernel
theorem dX2_feetApart_2 : decode cX2_feetApart 2 = .ok (.iconst 0, 1) := by decide +kernel
theorem dX2_feetApart_3 : decode cX2_feetApart 3 = .ok (.invokevirtual 138, 3) := by decide +kernel
theorem dX2_feetApart_6 : decode cX2_feetApart 6 = .ok (.aload_n 0, 1) := by decide +kernel
theorem dX2_feetApart_7 : decode cX2_feetApart 7 = .ok (.iload_n 2, 1) := by decide +kernel
theorem dX2_feetApart_8 : decode cX2_feetApart 8 = .ok (.iconst 0, 1) := by decide +kernel
theorem dX2_feetApart_9 : decode cX2_feetApart 9 = .ok (.invokevirtual 138, 3) := by decide +kernel
theorem dX2_feetApart_12 : decode cX2_feetApart 12 = .ok (.if_icmp .eq 5, 3) := by decide +kernel
theorem dX2_feetApart_15 : decode cX2_feetApart 15 = .ok (.iconst (-1), 1) := by decide +kernel
theorem dX2_feetApart_16 : decode cX2_feetApart 16 = .ok (.ireturn, 1) := by decide +kernel
theorem dX2_feetApart_17 : decode cX2_feetApart 17 = .ok (.aload_n 0, 1) := by decide +kernel
theorem dX2_feetApart_18 : decode cX2_feetApart 18 = .ok (.iload_n 1, 1) := by decide +kernel
theorem dX2_feetApart_19 : decode cX2_feetApart 19 = .ok (.bipush 7, 2) := by decide +kernel
theorem dX2_feetApart_21 : decode cX2_feetApart 21 = .ok (.invokevirtual 138, 3) := by decide +kernel
theorem dX2_feetApart_24 : decode cX2_feetApart 24 = .ok (.aload_n 0, 1) := by decide +kernel
theorem dX2_feetApart_25 : decode cX2_feetApart 25 = .ok (.iload_n 2, 1) := by decide +kernel
theorem dX2_feetApart_26 : decode cX2_feetApart 26 = .ok (.bipush 8, 2) := by decide +kernel
theorem dX2_feetApart_28 : decode cX2_feetApart 28 = .ok (.invokevirtual 138, 3) := by decide +kernel
theorem dX2_feetApart_31 : decode cX2_feetApart 31 = .ok (.isub, 1) := by decide +kernel
theorem dX2_feetApart_32 : decode cX2_feetApart 32 = .ok (.istore_n 3, 1) := by decide +kernel
theorem dX2_feetApart_33 : decode cX2_feetApart 33 = .ok (.aload_n 0, 1) := by decide +kernel
theorem dX2_feetApart_34 : decode cX2_feetApart 34 = .ok (.iload_n 2, 1) := by decide +kernel
theorem dX2_feetApart_35 : decode cX2_feetApart 35 = .ok (.bipush 7, 2) := by decide +kernel
theorem dX2_feetApart_37 : decode cX2_feetApart 37 = .ok (.invokevirtual 138, 3) := by decide +kernel
theorem dX2_feetApart_40 : decode cX2_feetApart 40 = .ok (.aload_n 0, 1) := by decide +kernel
theorem dX2_feetApart_41 : decode cX2_feetApart 41 = .ok (.iload_n 1, 1) := by decide +kernel
theorem dX2_feetApart_42 : decode cX2_feetApart 42 = .ok (.bipush 8, 2) := by decide +kernel
theorem dX2_feetApart_44 : decode cX2_feetApart 44 = .ok (.invokevirtual 138, 3) := by decide +kernel
theorem dX2_feetApart_47 : decode cX2_feetApart 47 = .ok (.isub, 1) := by decide +kernel
theorem dX2_feetApart_48 : decode cX2_feetApart 48 = .ok (.istore 4, 2) := by decide +kernel
theorem dX2_feetApart_50 : decode cX2_feetApart 50 = .ok (.iconst 0, 1) := by decide +kernel
theorem dX2_feetApart_51 : decode cX2_feetApart 51 = .ok (.iload_n 3, 1) := by decide +kernel
theorem dX2_feetApart_52 : decode cX2_feetApart 52 = .ok (.iload 4, 2) := by decide +kernel
theorem dX2_feetApart_54 : decode cX2_feetApart 54 = .ok (.invokestatic 125, 3) := by decide +kernel
theorem dX2_feetApart_57 : decode cX2_feetApart 57 = .ok (.invokestatic 125, 3) := by decide +kernel
theorem dX2_feetApart_60 : decode cX2_feetApart 60 = .ok (.ireturn, 1) := by decide +kernel
theorem dX2_quarrel_0 : decode cX2_quarrel 0 = .ok (.aload_n 0, 1) := by decide +kernel
theorem dX2_quarrel_1 : decode cX2_quarrel 1 = .ok (.iload_n 1, 1) := by decide +kernel
theorem dX2_quarrel_2 : decode cX2_quarrel 2 = .ok (.iconst 1, 1) := by decide +kernel
theorem dX2_quarrel_3 : decode cX2_quarrel 3 = .ok (.invokevirtual 138, 3) := by decide +kernel
theorem dX2_quarrel_6 : decode cX2_quarrel 6 = .ok (.aload_n 0, 1) := by decide +kernel
theorem dX2_quarrel_7 : decode cX2_quarrel 7 = .ok (.iload_n 2, 1) := by decide +kernel
theorem dX2_quarrel_8 : decode cX2_quarrel 8 = .ok (.iconst 1, 1) := by decide +kernel
theorem dX2_quarrel_9 : decode cX2_quarrel 9 = .ok (.invokevirtual 138, 3) := by decide +kernel
theorem dX2_quarrel_12 : decode cX2_quarrel 12 = .ok (.if_icmp .eq 16, 3) := by decide +kernel
theorem dX2_quarrel_15 : decode cX2_quarrel 15 = .ok (.aload_n 0, 1) := by decide +kernel
theorem dX2_quarrel_16 : decode cX2_quarrel 16 = .ok (.iload_n 1, 1) := by decide +kernel
theorem dX2_quarrel_17 : decode cX2_quarrel 17 = .ok (.iload_n 2, 1) := by decide +kernel
theorem dX2_quarrel_18 : decode cX2_quarrel 18 = .ok (.invokevirtual 155, 3) := by decide +kernel
theorem dX2_quarrel_21 : decode cX2_quarrel 21 = .ok (.ifCond .le 7, 3) := by decide +kernel
theorem dX2_quarrel_24 : decode cX2_quarrel 24 = .ok (.iconst 1, 1) := by decide +kernel
theorem dX2_quarrel_25 : decode cX2_quarrel 25 = .ok (.goto 4, 3) := by decide +kernel
theorem dX2_quarrel_28 : decode cX2_quarrel 28 = .ok (.iconst 0, 1) := by decide +kernel
theorem dX2_quarrel_29 : decode cX2_quarrel 29 = .ok (.ireturn, 1) := by decide +kernel
theorem dX2_matters_0 : decode cX2_matters 0 = .ok (.aload_n 0, 1) := by decide +kernel
theorem dX2_matters_1 : decode cX2_matters 1 = .ok (.iload_n 1, 1) := by decide +kernel
theorem dX2_matters_2 : decode cX2_matters 2 = .ok (.iconst 1, 1) := by decide +kernel
theorem dX2_matters_3 : decode cX2_matters 3 = .ok (.invokevirtual 138, 3) := by decide +kernel
theorem dX2_matters_6 : decode cX2_matters 6 = .ok (.aload_n 0, 1) := by decide +kernel
theorem dX2_matters_7 : decode cX2_matters 7 = .ok (.iload_n 2, 1) := by decide +kernel
theorem dX2_matters_8 : decode cX2_matters 8 = .ok (.iconst 1, 1) := by decide +kernel
theorem dX2_matters_9 : decode cX2_matters 9 = .ok (.invokevirtual 138, 3) := by decide +kernel
theorem dX2_matters_12 : decode cX2_matters 12 = .ok (.if_icmp .eq 22, 3) := by decide +kernel
theorem dX2_matters_15 : decode cX2_matters 15 = .ok (.aload_n 0, 1) := by decide +kernel
theorem dX2_matters_16 : decode cX2_matters 16 = .ok (.iload_n 1, 1) := by decide +kernel
theorem dX2_matters_17 : decode cX2_matters 17 = .ok (.iload_n 2, 1) := by decide +kernel
theorem dX2_matters_18 : decode cX2_matters 18 = .ok (.invokevirtual 155, 3) := by decide +kernel
theorem dX2_matters_21 : decode cX2_matters 21 = .ok (.aload_n 0, 1) := by decide +kernel
theorem dX2_matters_22 : decode cX2_matters 22 = .ok (.getfield 27, 3) := by decide +kernel
theorem dX2_matters_25 : decode cX2_matters 25 = .ok (.iconst 1, 1) := by decide +kernel
theorem dX2_matters_26 : decode cX2_matters 26 = .ok (.iaload, 1) := by decide +kernel
theorem dX2_matters_27 : decode cX2_matters 27 = .ok (.if_icmp .le 7, 3) := by decide +kernel
theorem dX2_matters_30 : decode cX2_matters 30 = .ok (.iconst 1, 1) := by decide +kernel
theorem dX2_matters_31 : decode cX2_matters 31 = .ok (.goto 4, 3) := by decide +kernel
theorem dX2_matters_34 : decode cX2_matters 34 = .ok (.iconst 0, 1) := by decide +kernel
theorem dX2_matters_35 : decode cX2_matters 35 = .ok (.ireturn, 1) := by decide +kernel
theorem dX2_quarrelsOfMeasure_0 : decode cX2_quarrelsOfMeasure 0 = .ok (.iconst 0, 1) := by decide +kernel
theorem dX2_quarrelsOfMeasure_1 : decode cX2_quarrelsOfMeasure 1 = .ok (.istore_n 2, 1) := by decide +kernel
theorem dX2_quarrelsOfMeasure_2 : decode cX2_quarrelsOfMeasure 2 = .ok (.iconst 0, 1) := by decide +kernel
theorem dX2_quarrelsOfMeasure_3 : decode cX2_quarrelsOfMeasure 3 = .ok (.istore_n 3, 1) := by decide +kernel
theorem dX2_quarrelsOfMeasure_4 : decode cX2_quarrelsOfMeasure 4 = .ok (.iload_n 3, 1) := by decide +kernel
theorem dX2_quarrelsOfMeasure_5 : decode cX2_quarrelsOfMeasure 5 = .ok (.aload_n 0, 1) := by decide +kernel
theorem dX2_quarrelsOfMeasure_6 : decode cX2_quarrelsOfMeasure 6 = .ok (.getfield 39, 3) := by decide +kernel
theorem dX2_quarrelsOfMeasure_9 : decode cX2_quarrelsOfMeasure 9 = .ok (.if_icmp .ge 21, 3) := by decide +kernel
theorem dX2_quarrelsOfMeasure_12 : decode cX2_quarrelsOfMeasure 12 = .ok (.aload_n 0, 1) := by decide +kernel
theorem dX2_quarrelsOfMeasure_13 : decode cX2_quarrelsOfMeasure 13 = .ok (.iload_n 1, 1) := by decide +kernel
theorem dX2_quarrelsOfMeasure_14 : decode cX2_quarrelsOfMeasure 14 = .ok (.iload_n 3, 1) := by decide +kernel
theorem dX2_quarrelsOfMeasure_15 : decode cX2_quarrelsOfMeasure 15 = .ok (.invokevirtual 158, 3) := by decide +kernel
theorem dX2_quarrelsOfMeasure_18 : decode cX2_quarrelsOfMeasure 18 = .ok (.ifCond .eq 6, 3) := by decide +kernel
theorem dX2_quarrelsOfMeasure_21 : decode cX2_quarrelsOfMeasure 21 = .ok (.iinc 2 1, 3) := by decide +kernel
theorem dX2_quarrelsOfMeasure_24 : decode cX2_quarrelsOfMeasure 24 = .ok (.iinc 3 1, 3) := by decide +kernel
theorem dX2_quarrelsOfMeasure_27 : decode cX2_quarrelsOfMeasure 27 = .ok (.goto (-23), 3) := by decide +kernel
theorem dX2_quarrelsOfMeasure_30 : decode cX2_quarrelsOfMeasure 30 = .ok (.iload_n 2, 1) := by decide +kernel
theorem dX2_quarrelsOfMeasure_31 : decode cX2_quarrelsOfMeasure 31 = .ok (.ireturn, 1) := by decide +kernel
theorem dX2_count_0 : decode cX2_count 0 = .ok (.aload_n 0, 1) := by decide +kernel
theorem dX2_count_1 : decode cX2_count 1 = .ok (.getfield 39, 3) := by decide +kernel
theorem dX2_count_4 : decode cX2_count 4 = .ok (.ireturn, 1) := by decide +kernel
theorem dX2_came_0 : decode cX2_came 0 = .ok (.aload_n 0, 1) := by decide +kernel
theorem dX2_came_1 : decode cX2_came 1 = .ok (.getfield 43, 3) := by decide +kernel
theorem dX2_came_4 : decode cX2_came 4 = .ok (.ireturn, 1) := by decide +kernel
theorem dX2_evenings_0 : decode cX2_evenings 0 = .ok (.aload_n 0, 1) := by decide +kernel
theorem dX2_evenings_1 : decode cX2_evenings 1 = .ok (.getfield 46, 3) := by decide +kernel
theorem dX2_evenings_4 : decode cX2_evenings 4 = .ok (.ireturn, 1) := by decide +kernel
theorem dX2_surveys_0 : decode cX2_surveys 0 = .ok (.aload_n 0, 1) := by decide +kernel
theorem dX2_surveys_1 : decode cX2_surveys 1 = .ok (.getfield 49, 3) := by decide +kernel
theorem dX2_surveys_4 : decode cX2_surveys 4 = .ok (.ireturn, 1) := by decide +kernel
theorem dX2_lost_0 : decode cX2_lost 0 = .ok (.aload_n 0, 1) := by decide +kernel
theorem dX2_lost_1 : decode cX2_lost 1 = .ok (.getfield 52, 3) := by decide +kernel
theorem dX2_lost_4 : decode cX2_lost 4 = .ok (.ireturn, 1) := by decide +kernel
theorem dX2_settingOf_0 : decode cX2_settingOf 0 = .ok (.aload_n 0, 1) := by decide +kernel
theorem dX2_settingOf_1 : decode cX2_settingOf 1 = .ok (.getfield 27, 3) := by decide +kernel
theorem dX2_settingOf_4 : decode cX2_settingOf 4 = .ok (.iload_n 1, 1) := by decide +kernel
theorem dX2_settingOf_5 : decode cX2_settingOf 5 = .ok (.iaload, 1) := by decide +kernel
theorem dX2_settingOf_6 : decode cX2_settingOf 6 = .ok (.ireturn, 1) := by decide +kernel
theorem dX2_trustOfAll_0 : decode cX2_trustOfAll 0 = .ok (.aload_n 0, 1) := by decide +kernel
theorem dX2_trustOfAll_1 : decode cX2_trustOfAll 1 = .ok (.getfield 15, 3) := by decide +kernel
theorem dX2_trustOfAll_4 : decode cX2_trustOfAll 4 = .ok (.invokestatic 161, 3) := by decide +kernel
theorem dX2_trustOfAll_7 : decode cX2_trustOfAll 7 = .ok (.ireturn, 1) := by decide +kernel
theorem dX2_rightOfAll_0 : decode cX2_rightOfAll 0 = .ok (.aload_n 0, 1) := by decide +kernel
theorem dX2_rightOfAll_1 : decode cX2_rightOfAll 1 = .ok (.getfield 18, 3) := by decide +kernel
theorem dX2_rightOfAll_4 : decode cX2_rightOfAll 4 = .ok (.invokestatic 161, 3) := by decide +kernel
theorem dX2_rightOfAll_7 : decode cX2_rightOfAll 7 = .ok (.ireturn, 1) := by decide +kernel
theorem dX2_wrongOfAll_0 : decode cX2_wrongOfAll 0 = .ok (.aload_n 0, 1) := by decide +kernel
theorem dX2_wrongOfAll_1 : decode cX2_wrongOfAll 1 = .ok (.getfield 21, 3) := by decide +kernel
theorem dX2_wrongOfAll_4 : decode cX2_wrongOfAll 4 = .ok (.invokestatic 161, 3) := by decide +kernel
theorem dX2_wrongOfAll_7 : decode cX2_wrongOfAll 7 = .ok (.ireturn, 1) := by decide +kernel
theorem dX2_sum_0 : decode cX2_sum 0 = .ok (.iconst 0, 1) := by decide +kernel
theorem dX2_sum_1 : decode cX2_sum 1 = .ok (.istore_n 1, 1) := by decide +kernel
theorem dX2_sum_2 : decode cX2_sum 2 = .ok (.aload_n 0, 1) := by decide +kernel
theorem dX2_sum_3 : decode cX2_sum 3 = .ok (.astore_n 2, 1) := by decide +kernel
theorem dX2_sum_4 : decode cX2_sum 4 = .ok (.aload_n 2, 1) := by decide +kernel
theorem dX2_sum_5 : decode cX2_sum 5 = .ok (.arraylength, 1) := by decide +kernel
theorem dX2_sum_6 : decode cX2_sum 6 = .ok (.istore_n 3, 1) := by decide +kernel
theorem dX2_sum_7 : decode cX2_sum 7 = .ok (.iconst 0, 1) := by decide +kernel
theorem dX2_sum_8 : decode cX2_sum 8 = .ok (.istore 4, 2) := by decide +kernel
theorem dX2_sum_10 : decode cX2_sum 10 = .ok (.iload 4, 2) := by decide +kernel
theorem dX2_sum_12 : decode cX2_sum 12 = .ok (.iload_n 3, 1) := by decide +kernel
theorem dX2_sum_13 : decode cX2_sum 13 = .ok (.if_icmp .ge 20, 3) := by decide +kernel
theorem dX2_sum_16 : decode cX2_sum 16 = .ok (.aload_n 2, 1) := by decide +kernel
theorem dX2_sum_17 : decode cX2_sum 17 = .ok (.iload 4, 2) := by decide +kernel
theorem dX2_sum_19 : decode cX2_sum 19 = .ok (.iaload, 1) := by decide +kernel
theorem dX2_sum_20 : decode cX2_sum 20 = .ok (.istore 5, 2) := by decide +kernel
theorem dX2_sum_22 : decode cX2_sum 22 = .ok (.iload_n 1, 1) := by decide +kernel
theorem dX2_sum_23 : decode cX2_sum 23 = .ok (.iload 5, 2) := by decide +kernel
theorem dX2_sum_25 : decode cX2_sum 25 = .ok (.iadd, 1) := by decide +kernel
theorem dX2_sum_26 : decode cX2_sum 26 = .ok (.istore_n 1, 1) := by decide +kernel
theorem dX2_sum_27 : decode cX2_sum 27 = .ok (.iinc 4 1, 3) := by decide +kernel
theorem dX2_sum_30 : decode cX2_sum 30 = .ok (.goto (-20), 3) := by decide +kernel
theorem dX2_sum_33 : decode cX2_sum 33 = .ok (.iload_n 1, 1) := by decide +kernel
theorem dX2_sum_34 : decode cX2_sum 34 = .ok (.ireturn, 1) := by decide +kernel
theorem dX2_pairsThatQuarrel_0 : decode cX2_pairsThatQuarrel 0 = .ok (.iconst 0, 1) := by decide +kernel
theorem dX2_pairsThatQuarrel_1 : decode cX2_pairsThatQuarrel 1 = .ok (.istore_n 1, 1) := by decide +kernel
theorem dX2_pairsThatQuarrel_2 : decode cX2_pairsThatQuarrel 2 = .ok (.iconst 0, 1) := by decide +kernel
theorem dX2_pairsThatQuarrel_3 : decode cX2_pairsThatQuarrel 3 = .ok (.istore_n 2, 1) := by decide +kernel
theorem dX2_pairsThatQuarrel_4 : decode cX2_pairsThatQuarrel 4 = .ok (.iload_n 2, 1) := by decide +kernel
theorem dX2_pairsThatQuarrel_5 : decode cX2_pairsThatQuarrel 5 = .ok (.aload_n 0, 1) := by decide +kernel
theorem dX2_pairsThatQuarrel_6 : decode cX2_pairsThatQuarrel 6 = .ok (.getfield 39, 3) := by decide +kernel
theorem dX2_pairsThatQuarrel_9 : decode cX2_pairsThatQuarrel 9 = .ok (.if_icmp .ge 44, 3) := by decide +kernel
theorem dX2_pairsThatQuarrel_12 : decode cX2_pairsThatQuarrel 12 = .ok (.iload_n 2, 1) := by decide +kernel
theorem dX2_pairsThatQuarrel_13 : decode cX2_pairsThatQuarrel 13 = .ok (.iconst 1, 1) := by decide +kernel
theorem dX2_pairsThatQuarrel_14 : decode cX2_pairsThatQuarrel 14 = .ok (.iadd, 1) := by decide +kernel
theorem dX2_pairsThatQuarrel_15 : decode cX2_pairsThatQuarrel 15 = .ok (.istore_n 3, 1) := by decide +kernel
theorem dX2_pairsThatQuarrel_16 : decode cX2_pairsThatQuarrel 16 = .ok (.iload_n 3, 1) := by decide +kernel
theorem dX2_pairsThatQuarrel_17 : decode cX2_pairsThatQuarrel 17 = .ok (.aload_n 0, 1) := by decide +kernel
theorem dX2_pairsThatQuarrel_18 : decode cX2_pairsThatQuarrel 18 = .ok (.getfield 39, 3) := by decide +kernel
theorem dX2_pairsThatQuarrel_21 : decode cX2_pairsThatQuarrel 21 = .ok (.if_icmp .ge 26, 3) := by decide +kernel
theorem dX2_pairsThatQuarrel_24 : decode cX2_pairsThatQuarrel 24 = .ok (.iload_n 1, 1) := by decide +kernel
theorem dX2_pairsThatQuarrel_25 : decode cX2_pairsThatQuarrel 25 = .ok (.aload_n 0, 1) := by decide +kernel
theorem dX2_pairsThatQuarrel_26 : decode cX2_pairsThatQuarrel 26 = .ok (.iload_n 2, 1) := by decide +kernel
theorem dX2_pairsThatQuarrel_27 : decode cX2_pairsThatQuarrel 27 = .ok (.iload_n 3, 1) := by decide +kernel
theorem dX2_pairsThatQuarrel_28 : decode cX2_pairsThatQuarrel 28 = .ok (.invokevirtual 158, 3) := by decide +kernel
theorem dX2_pairsThatQuarrel_31 : decode cX2_pairsThatQuarrel 31 = .ok (.ifCond .eq 7, 3) := by decide +kernel
theorem dX2_pairsThatQuarrel_34 : decode cX2_pairsThatQuarrel 34 = .ok (.iconst 1, 1) := by decide +kernel
theorem dX2_pairsThatQuarrel_35 : decode cX2_pairsThatQuarrel 35 = .ok (.goto 4, 3) := by decide +kernel
theorem dX2_pairsThatQuarrel_38 : decode cX2_pairsThatQuarrel 38 = .ok (.iconst 0, 1) := by decide +kernel
theorem dX2_pairsThatQuarrel_39 : decode cX2_pairsThatQuarrel 39 = .ok (.iadd, 1) := by decide +kernel
theorem dX2_pairsThatQuarrel_40 : decode cX2_pairsThatQuarrel 40 = .ok (.istore_n 1, 1) := by decide +kernel
theorem dX2_pairsThatQuarrel_41 : decode cX2_pairsThatQuarrel 41 = .ok (.iinc 3 1, 3) := by decide +kernel
theorem dX2_pairsThatQuarrel_44 : decode cX2_pairsThatQuarrel 44 = .ok (.goto (-28), 3) := by decide +kernel
theorem dX2_pairsThatQuarrel_47 : decode cX2_pairsThatQuarrel 47 = .ok (.iinc 2 1, 3) := by decide +kernel
theorem dX2_pairsThatQuarrel_50 : decode cX2_pairsThatQuarrel 50 = .ok (.goto (-46), 3) := by decide +kernel
theorem dX2_pairsThatQuarrel_53 : decode cX2_pairsThatQuarrel 53 = .ok (.iload_n 1, 1) := by decide +kernel
theorem dX2_pairsThatQuarrel_54 : decode cX2_pairsThatQuarrel 54 = .ok (.ireturn, 1) := by decide +kernel
theorem dX2_pairsThatMatter_0 : decode cX2_pairsThatMatter 0 = .ok (.iconst 0, 1) := by decide +kernel
theorem dX2_pairsThatMatter_1 : decode cX2_pairsThatMatter 1 = .ok (.istore_n 1, 1) := by decide +kernel
theorem dX2_pairsThatMatter_2 : decode cX2_pairsThatMatter 2 = .ok (.iconst 0, 1) := by decide +kernel
theorem dX2_pairsThatMatter_3 : decode cX2_pairsThatMatter 3 = .ok (.istore_n 2, 1) := by decide +kernel
theorem dX2_pairsThatMatter_4 : decode cX2_pairsThatMatter 4 = .ok (.iload_n 2, 1) := by decide +kernel
theorem dX2_pairsThatMatter_5 : decode cX2_pairsThatMatter 5 = .ok (.aload_n 0, 1) := by decide +kernel
theorem dX2_pairsThatMatter_6 : decode cX2_pairsThatMatter 6 = .ok (.getfield 39, 3) := by decide +kernel
theorem dX2_pairsThatMatter_9 : decode cX2_pairsThatMatter 9 = .ok (.if_icmp .ge 44, 3) := by decide +kernel
theorem dX2_pairsThatMatter_12 : decode cX2_pairsThatMatter 12 = .ok (.iload_n 2, 1) := by decide +kernel
theorem dX2_pairsThatMatter_13 : decode cX2_pairsThatMatter 13 = .ok (.iconst 1, 1) := by decide +kernel
theorem dX2_pairsThatMatter_14 : decode cX2_pairsThatMatter 14 = .ok (.iadd, 1) := by decide +kernel
theorem dX2_pairsThatMatter_15 : decode cX2_pairsThatMatter 15 = .ok (.istore_n 3, 1) := by decide +kernel
theorem dX2_pairsThatMatter_16 : decode cX2_pairsThatMatter 16 = .ok (.iload_n 3, 1) := by decide +kernel
theorem dX2_pairsThatMatter_17 : decode cX2_pairsThatMatter 17 = .ok (.aload_n 0, 1) := by decide +kernel
theorem dX2_pairsThatMatter_18 : decode cX2_pairsThatMatter 18 = .ok (.getfield 39, 3) := by decide +kernel
theorem dX2_pairsThatMatter_21 : decode cX2_pairsThatMatter 21 = .ok (.if_icmp .ge 26, 3) := by decide +kernel
theorem dX2_pairsThatMatter_24 : decode cX2_pairsThatMatter 24 = .ok (.iload_n 1, 1) := by decide +kernel
theorem dX2_pairsThatMatter_25 : decode cX2_pairsThatMatter 25 = .ok (.aload_n 0, 1) := by decide +kernel
theorem dX2_pairsThatMatter_26 : decode cX2_pairsThatMatter 26 = .ok (.iload_n 2, 1) := by decide +kernel
theorem dX2_pairsThatMatter_27 : decode cX2_pairsThatMatter 27 = .ok (.iload_n 3, 1) := by decide +kernel
theorem dX2_pairsThatMatter_28 : decode cX2_pairsThatMatter 28 = .ok (.invokevirtual 128, 3) := by decide +kernel
theorem dX2_pairsThatMatter_31 : decode cX2_pairsThatMatter 31 = .ok (.ifCond .eq 7, 3) := by decide +kernel
theorem dX2_pairsThatMatter_34 : decode cX2_pairsThatMatter 34 = .ok (.iconst 1, 1) := by decide +kernel
theorem dX2_pairsThatMatter_35 : decode cX2_pairsThatMatter 35 = .ok (.goto 4, 3) := by decide +kernel
theorem dX2_pairsThatMatter_38 : decode cX2_pairsThatMatter 38 = .ok (.iconst 0, 1) := by decide +kernel
theorem dX2_pairsThatMatter_39 : decode cX2_pairsThatMatter 39 = .ok (.iadd, 1) := by decide +kernel
theorem dX2_pairsThatMatter_40 : decode cX2_pairsThatMatter 40 = .ok (.istore_n 1, 1) := by decide +kernel
theorem dX2_pairsThatMatter_41 : decode cX2_pairsThatMatter 41 = .ok (.iinc 3 1, 3) := by decide +kernel
theorem dX2_pairsThatMatter_44 : decode cX2_pairsThatMatter 44 = .ok (.goto (-28), 3) := by decide +kernel
theorem dX2_pairsThatMatter_47 : decode cX2_pairsThatMatter 47 = .ok (.iinc 2 1, 3) := by decide +kernel
theorem dX2_pairsThatMatter_50 : decode cX2_pairsThatMatter 50 = .ok (.goto (-46), 3) := by decide +kernel
theorem dX2_pairsThatMatter_53 : decode cX2_pairsThatMatter 53 = .ok (.iload_n 1, 1) := by decide +kernel
theorem dX2_pairsThatMatter_54 : decode cX2_pairsThatMatter 54 = .ok (.ireturn, 1) := by decide +kernel
theorem dX2_trustOf_0 : decode cX2_trustOf 0 = .ok (.aload_n 0, 1) := by decide +kernel
theorem dX2_trustOf_1 : decode cX2_trustOf 1 = .ok (.getfield 15, 3) := by decide +kernel
theorem dX2_trustOf_4 : decode cX2_trustOf 4 = .ok (.iload_n 1, 1) := by decide +kernel
theorem dX2_trustOf_5 : decode cX2_trustOf 5 = .ok (.iaload, 1) := by decide +kernel
theorem dX2_trustOf_6 : decode cX2_trustOf 6 = .ok (.ireturn, 1) := by decide +kernel
theorem dX2_rightOf_0 : decode cX2_rightOf 0 = .ok (.aload_n 0, 1) := by decide +kernel
theorem dX2_rightOf_1 : decode cX2_rightOf 1 = .ok (.getfield 18, 3) := by decide +kernel
theorem dX2_rightOf_4 : decode cX2_rightOf 4 = .ok (.iload_n 1, 1) := by decide +kernel
theorem dX2_rightOf_5 : decode cX2_rightOf 5 = .ok (.iaload, 1) := by decide +kernel
theorem dX2_rightOf_6 : decode cX2_rightOf 6 = .ok (.ireturn, 1) := by decide +kernel
theorem dX2_wrongOf_0 : decode cX2_wrongOf 0 = .ok (.aload_n 0, 1) := by decide +kernel
theorem dX2_wrongOf_1 : decode cX2_wrongOf 1 = .ok (.getfield 21, 3) := by decide +kernel
theorem dX2_wrongOf_4 : decode cX2_wrongOf 4 = .ok (.iload_n 1, 1) := by decide +kernel
theorem dX2_wrongOf_5 : decode cX2_wrongOf 5 = .ok (.iaload, 1) := by decide +kernel
theorem dX2_wrongOf_6 : decode cX2_wrongOf 6 = .ok (.ireturn, 1) := by decide +kernel
theorem dX2_measuresOfTeller_0 : decode cX2_measuresOfTeller 0 = .ok (.iconst 0, 1) := by decide +kernel
theorem dX2_measuresOfTeller_1 : decode cX2_measuresOfTeller 1 = .ok (.istore_n 2, 1) := by decide +kernel
theorem dX2_measuresOfTeller_2 : decode cX2_measuresOfTeller 2 = .ok (.iconst 0, 1) := by decide +kernel
theorem dX2_measuresOfTeller_3 : decode cX2_measuresOfTeller 3 = .ok (.istore_n 3, 1) := by decide +kernel
theorem dX2_measuresOfTeller_4 : decode cX2_measuresOfTeller 4 = .ok (.iload_n 3, 1) := by decide +kernel
theorem dX2_measuresOfTeller_5 : decode cX2_measuresOfTeller 5 = .ok (.aload_n 0, 1) := by decide +kernel
theorem dX2_measuresOfTeller_6 : decode cX2_measuresOfTeller 6 = .ok (.getfield 39, 3) := by decide +kernel
theorem dX2_measuresOfTeller_9 : decode cX2_measuresOfTeller 9 = .ok (.if_icmp .ge 27, 3) := by decide +kernel
theorem dX2_measuresOfTeller_12 : decode cX2_measuresOfTeller 12 = .ok (.iload_n 2, 1) := by decide +kernel
theorem dX2_measuresOfTeller_13 : decode cX2_measuresOfTeller 13 = .ok (.aload_n 0, 1) := by decide +kernel
theorem dX2_measuresOfTeller_14 : decode cX2_measuresOfTeller 14 = .ok (.iload_n 3, 1) := by decide +kernel
theorem dX2_measuresOfTeller_15 : decode cX2_measuresOfTeller 15 = .ok (.iconst 1, 1) := by decide +kernel
theorem dX2_measuresOfTeller_16 : decode cX2_measuresOfTeller 16 = .ok (.invokevirtual 138, 3) := by decide +kernel
theorem dX2_measuresOfTeller_19 : decode cX2_measuresOfTeller 19 = .ok (.iload_n 1, 1) := by decide +kernel
theorem dX2_measuresOfTeller_20 : decode cX2_measuresOfTeller 20 = .ok (.if_icmp .ne 7, 3) := by decide +kernel
theorem dX2_measuresOfTeller_23 : decode cX2_measuresOfTeller 23 = .ok (.iconst 1, 1) := by decide +kernel
theorem dX2_measuresOfTeller_24 : decode cX2_measuresOfTeller 24 = .ok (.goto 4, 3) := by decide +kernel
theorem dX2_measuresOfTeller_27 : decode cX2_measuresOfTeller 27 = .ok (.iconst 0, 1) := by decide +kernel
theorem dX2_measuresOfTeller_28 : decode cX2_measuresOfTeller 28 = .ok (.iadd, 1) := by decide +kernel
theorem dX2_measuresOfTeller_29 : decode cX2_measuresOfTeller 29 = .ok (.istore_n 2, 1) := by decide +kernel
theorem dX2_measuresOfTeller_30 : decode cX2_measuresOfTeller 30 = .ok (.iinc 3 1, 3) := by decide +kernel
theorem dX2_measuresOfTeller_33 : decode cX2_measuresOfTeller 33 = .ok (.goto (-29), 3) := by decide +kernel
theorem dX2_measuresOfTeller_36 : decode cX2_measuresOfTeller 36 = .ok (.iload_n 2, 1) := by decide +kernel
theorem dX2_measuresOfTeller_37 : decode cX2_measuresOfTeller 37 = .ok (.ireturn, 1) := by decide +kernel
theorem dX2_quarrelsOfTeller_0 : decode cX2_quarrelsOfTeller 0 = .ok (.iconst 0, 1) := by decide +kernel
theorem dX2_quarrelsOfTeller_1 : decode cX2_quarrelsOfTeller 1 = .ok (.istore_n 2, 1) := by decide +kernel
theorem dX2_quarrelsOfTeller_2 : decode cX2_quarrelsOfTeller 2 = .ok (.iconst 0, 1) := by decide +kernel
theorem dX2_quarrelsOfTeller_3 : decode cX2_quarrelsOfTeller 3 = .ok (.istore_n 3, 1) := by decide +kernel
theorem dX2_quarrelsOfTeller_4 : decode cX2_quarrelsOfTeller 4 = .ok (.iload_n 3, 1) := by decide +kernel
theorem dX2_quarrelsOfTeller_5 : decode cX2_quarrelsOfTeller 5 = .ok (.aload_n 0, 1) := by decide +kernel
theorem dX2_quarrelsOfTeller_6 : decode cX2_quarrelsOfTeller 6 = .ok (.getfield 39, 3) := by decide +kernel
theorem dX2_quarrelsOfTeller_9 : decode cX2_quarrelsOfTeller 9 = .ok (.if_icmp .ge 31, 3) := by decide +kernel
theorem dX2_quarrelsOfTeller_12 : decode cX2_quarrelsOfTeller 12 = .ok (.iload_n 2, 1) := by decide +kernel
theorem dX2_quarrelsOfTeller_13 : decode cX2_quarrelsOfTeller 13 = .ok (.aload_n 0, 1) := by decide +kernel
theorem dX2_quarrelsOfTeller_14 : decode cX2_quarrelsOfTeller 14 = .ok (.iload_n 3, 1) := by decide +kernel
theorem dX2_quarrelsOfTeller_15 : decode cX2_quarrelsOfTeller 15 = .ok (.iconst 1, 1) := by decide +kernel
theorem dX2_quarrelsOfTeller_16 : decode cX2_quarrelsOfTeller 16 = .ok (.invokevirtual 138, 3) := by decide +kernel
theorem dX2_quarrelsOfTeller_19 : decode cX2_quarrelsOfTeller 19 = .ok (.iload_n 1, 1) := by decide +kernel
theorem dX2_quarrelsOfTeller_20 : decode cX2_quarrelsOfTeller 20 = .ok (.if_icmp .ne 11, 3) := by decide +kernel
theorem dX2_quarrelsOfTeller_23 : decode cX2_quarrelsOfTeller 23 = .ok (.aload_n 0, 1) := by decide +kernel
theorem dX2_quarrelsOfTeller_24 : decode cX2_quarrelsOfTeller 24 = .ok (.iload_n 3, 1) := by decide +kernel
theorem dX2_quarrelsOfTeller_25 : decode cX2_quarrelsOfTeller 25 = .ok (.invokevirtual 165, 3) := by decide +kernel
theorem dX2_quarrelsOfTeller_28 : decode cX2_quarrelsOfTeller 28 = .ok (.goto 4, 3) := by decide +kernel
theorem dX2_quarrelsOfTeller_31 : decode cX2_quarrelsOfTeller 31 = .ok (.iconst 0, 1) := by decide +kernel
theorem dX2_quarrelsOfTeller_32 : decode cX2_quarrelsOfTeller 32 = .ok (.iadd, 1) := by decide +kernel
theorem dX2_quarrelsOfTeller_33 : decode cX2_quarrelsOfTeller 33 = .ok (.istore_n 2, 1) := by decide +kernel
theorem dX2_quarrelsOfTeller_34 : decode cX2_quarrelsOfTeller 34 = .ok (.iinc 3 1, 3) := by decide +kernel
theorem dX2_quarrelsOfTeller_37 : decode cX2_quarrelsOfTeller 37 = .ok (.goto (-33), 3) := by decide +kernel
theorem dX2_quarrelsOfTeller_40 : decode cX2_quarrelsOfTeller 40 = .ok (.iload_n 2, 1) := by decide +kernel
theorem dX2_quarrelsOfTeller_41 : decode cX2_quarrelsOfTeller 41 = .ok (.ireturn, 1) := by decide +kernel
theorem dX2_tellsHeight_0 : decode cX2_tellsHeight 0 = .ok (.iconst 0, 1) := by decide +kernel
theorem dX2_tellsHeight_1 : decode cX2_tellsHeight 1 = .ok (.istore 4, 2) := by decide +kernel
theorem dX2_tellsHeight_3 : decode cX2_tellsHeight 3 = .ok (.iload 4, 2) := by decide +kernel
theorem dX2_tellsHeight_5 : decode cX2_tellsHeight 5 = .ok (.aload_n 0, 1) := by decide +kernel
theorem dX2_tellsHeight_6 : decode cX2_tellsHeight 6 = .ok (.getfield 39, 3) := by decide +kernel
theorem dX2_tellsHeight_9 : decode cX2_tellsHeight 9 = .ok (.if_icmp .ge 42, 3) := by decide +kernel
theorem dX2_tellsHeight_12 : decode cX2_tellsHeight 12 = .ok (.aload_n 0, 1) := by decide +kernel
theorem dX2_tellsHeight_13 : decode cX2_tellsHeight 13 = .ok (.iload 4, 2) := by decide +kernel
theorem dX2_tellsHeight_15 : decode cX2_tellsHeight 15 = .ok (.iload_n 2, 1) := by decide +kernel
theorem dX2_tellsHeight_16 : decode cX2_tellsHeight 16 = .ok (.invokevirtual 141, 3) := by decide +kernel
theorem dX2_tellsHeight_19 : decode cX2_tellsHeight 19 = .ok (.ifCond .eq 26, 3) := by decide +kernel
theorem dX2_tellsHeight_22 : decode cX2_tellsHeight 22 = .ok (.aload_n 0, 1) := by decide +kernel
theorem dX2_tellsHeight_23 : decode cX2_tellsHeight 23 = .ok (.iload 4, 2) := by decide +kernel
theorem dX2_tellsHeight_25 : decode cX2_tellsHeight 25 = .ok (.iconst 1, 1) := by decide +kernel
theorem dX2_tellsHeight_26 : decode cX2_tellsHeight 26 = .ok (.invokevirtual 138, 3) := by decide +kernel
theorem dX2_tellsHeight_29 : decode cX2_tellsHeight 29 = .ok (.iload_n 1, 1) := by decide +kernel
theorem dX2_tellsHeight_30 : decode cX2_tellsHeight 30 = .ok (.if_icmp .ne 15, 3) := by decide +kernel
theorem dX2_tellsHeight_33 : decode cX2_tellsHeight 33 = .ok (.aload_n 0, 1) := by decide +kernel
theorem dX2_tellsHeight_34 : decode cX2_tellsHeight 34 = .ok (.iload 4, 2) := by decide +kernel
theorem dX2_tellsHeight_36 : decode cX2_tellsHeight 36 = .ok (.iload_n 3, 1) := by decide +kernel
theorem dX2_tellsHeight_37 : decode cX2_tellsHeight 37 = .ok (.invokevirtual 144, 3) := by decide +kernel
theorem dX2_tellsHeight_40 : decode cX2_tellsHeight 40 = .ok (.ifCond .eq 5, 3) := by decide +kernel
theorem dX2_tellsHeight_43 : decode cX2_tellsHeight 43 = .ok (.iconst 1, 1) := by decide +kernel
theorem dX2_tellsHeight_44 : decode cX2_tellsHeight 44 = .ok (.ireturn, 1) := by decide +kernel
theorem dX2_tellsHeight_45 : decode cX2_tellsHeight 45 = .ok (.iinc 4 1, 3) := by decide +kernel
theorem dX2_tellsHeight_48 : decode cX2_tellsHeight 48 = .ok (.goto (-45), 3) := by decide +kernel
theorem dX2_tellsHeight_51 : decode cX2_tellsHeight 51 = .ok (.iconst 0, 1) := by decide +kernel
theorem dX2_tellsHeight_52 : decode cX2_tellsHeight 52 = .ok (.ireturn, 1) := by decide +kernel
theorem dX2_tellerMostlyRight_0 : decode cX2_tellerMostlyRight 0 = .ok (.iconst (-1), 1) := by decide +kernel
theorem dX2_tellerMostlyRight_1 : decode cX2_tellerMostlyRight 1 = .ok (.istore_n 1, 1) := by decide +kernel
theorem dX2_tellerMostlyRight_2 : decode cX2_tellerMostlyRight 2 = .ok (.iconst 0, 1) := by decide +kernel
theorem dX2_tellerMostlyRight_3 : decode cX2_tellerMostlyRight 3 = .ok (.istore_n 2, 1) := by decide +kernel
theorem dX2_tellerMostlyRight_4 : decode cX2_tellerMostlyRight 4 = .ok (.iload_n 2, 1) := by decide +kernel
theorem dX2_tellerMostlyRight_5 : decode cX2_tellerMostlyRight 5 = .ok (.bipush 6, 2) := by decide +kernel
theorem dX2_tellerMostlyRight_7 : decode cX2_tellerMostlyRight 7 = .ok (.if_icmp .ge 41, 3) := by decide +kernel
theorem dX2_tellerMostlyRight_10 : decode cX2_tellerMostlyRight 10 = .ok (.aload_n 0, 1) := by decide +kernel
theorem dX2_tellerMostlyRight_11 : decode cX2_tellerMostlyRight 11 = .ok (.getfield 18, 3) := by decide +kernel
theorem dX2_tellerMostlyRight_14 : decode cX2_tellerMostlyRight 14 = .ok (.iload_n 2, 1) := by decide +kernel
theorem dX2_tellerMostlyRight_15 : decode cX2_tellerMostlyRight 15 = .ok (.iaload, 1) := by decide +kernel
theorem dX2_tellerMostlyRight_16 : decode cX2_tellerMostlyRight 16 = .ok (.aload_n 0, 1) := by decide +kernel
theorem dX2_tellerMostlyRight_17 : decode cX2_tellerMostlyRight 17 = .ok (.getfield 21, 3) := by decide +kernel
theorem dX2_tellerMostlyRight_20 : decode cX2_tellerMostlyRight 20 = .ok (.iload_n 2, 1) := by decide +kernel
theorem dX2_tellerMostlyRight_21 : decode cX2_tellerMostlyRight 21 = .ok (.iaload, 1) := by decide +kernel
theorem dX2_tellerMostlyRight_22 : decode cX2_tellerMostlyRight 22 = .ok (.iadd, 1) := by decide +kernel
theorem dX2_tellerMostlyRight_23 : decode cX2_tellerMostlyRight 23 = .ok (.ifCond .le 19, 3) := by decide +kernel
theorem dX2_tellerMostlyRight_26 : decode cX2_tellerMostlyRight 26 = .ok (.iload_n 1, 1) := by decide +kernel
theorem dX2_tellerMostlyRight_27 : decode cX2_tellerMostlyRight 27 = .ok (.iconst (-1), 1) := by decide +kernel
theorem dX2_tellerMostlyRight_28 : decode cX2_tellerMostlyRight 28 = .ok (.if_icmp .eq 12, 3) := by decide +kernel
theorem dX2_tellerMostlyRight_31 : decode cX2_tellerMostlyRight 31 = .ok (.aload_n 0, 1) := by decide +kernel
theorem dX2_tellerMostlyRight_32 : decode cX2_tellerMostlyRight 32 = .ok (.iload_n 2, 1) := by decide +kernel
theorem dX2_tellerMostlyRight_33 : decode cX2_tellerMostlyRight 33 = .ok (.iload_n 1, 1) := by decide +kernel
theorem dX2_tellerMostlyRight_34 : decode cX2_tellerMostlyRight 34 = .ok (.invokevirtual 168, 3) := by decide +kernel
theorem dX2_tellerMostlyRight_37 : decode cX2_tellerMostlyRight 37 = .ok (.ifCond .eq 5, 3) := by decide +kernel
theorem dX2_tellerMostlyRight_40 : decode cX2_tellerMostlyRight 40 = .ok (.iload_n 2, 1) := by decide +kernel
theorem dX2_tellerMostlyRight_41 : decode cX2_tellerMostlyRight 41 = .ok (.istore_n 1, 1) := by decide +kernel
theorem dX2_tellerMostlyRight_42 : decode cX2_tellerMostlyRight 42 = .ok (.iinc 2 1, 3) := by decide +kernel
theorem dX2_tellerMostlyRight_45 : decode cX2_tellerMostlyRight 45 = .ok (.goto (-41), 3) := by decide +kernel
theorem dX2_tellerMostlyRight_48 : decode cX2_tellerMostlyRight 48 = .ok (.iload_n 1, 1) := by decide +kernel
theorem dX2_tellerMostlyRight_49 : decode cX2_tellerMostlyRight 49 = .ok (.ireturn, 1) := by decide +kernel
theorem dX2_isTruer_0 : decode cX2_isTruer 0 = .ok (.aload_n 0, 1) := by decide +kernel
theorem dX2_isTruer_1 : decode cX2_isTruer 1 = .ok (.getfield 18, 3) := by decide +kernel
theorem dX2_isTruer_4 : decode cX2_isTruer 4 = .ok (.iload_n 1, 1) := by decide +kernel
theorem dX2_isTruer_5 : decode cX2_isTruer 5 = .ok (.iaload, 1) := by decide +kernel
theorem dX2_isTruer_6 : decode cX2_isTruer 6 = .ok (.aload_n 0, 1) := by decide +kernel
theorem dX2_isTruer_7 : decode cX2_isTruer 7 = .ok (.getfield 21, 3) := by decide +kernel
theorem dX2_isTruer_10 : decode cX2_isTruer 10 = .ok (.iload_n 1, 1) := by decide +kernel
theorem dX2_isTruer_11 : decode cX2_isTruer 11 = .ok (.iaload, 1) := by decide +kernel
theorem dX2_isTruer_12 : decode cX2_isTruer 12 = .ok (.iadd, 1) := by decide +kernel
theorem dX2_isTruer_13 : decode cX2_isTruer 13 = .ok (.istore_n 3, 1) := by decide +kernel
theorem dX2_isTruer_14 : decode cX2_isTruer 14 = .ok (.aload_n 0, 1) := by decide +kernel
theorem dX2_isTruer_15 : decode cX2_isTruer 15 = .ok (.getfield 18, 3) := by decide +kernel
theorem dX2_isTruer_18 : decode cX2_isTruer 18 = .ok (.iload_n 2, 1) := by decide +kernel
theorem dX2_isTruer_19 : decode cX2_isTruer 19 = .ok (.iaload, 1) := by decide +kernel
theorem dX2_isTruer_20 : decode cX2_isTruer 20 = .ok (.aload_n 0, 1) := by decide +kernel
theorem dX2_isTruer_21 : decode cX2_isTruer 21 = .ok (.getfield 21, 3) := by decide +kernel
theorem dX2_isTruer_24 : decode cX2_isTruer 24 = .ok (.iload_n 2, 1) := by decide +kernel
theorem dX2_isTruer_25 : decode cX2_isTruer 25 = .ok (.iaload, 1) := by decide +kernel
theorem dX2_isTruer_26 : decode cX2_isTruer 26 = .ok (.iadd, 1) := by decide +kernel
theorem dX2_isTruer_27 : decode cX2_isTruer 27 = .ok (.istore 4, 2) := by decide +kernel
theorem dX2_isTruer_29 : decode cX2_isTruer 29 = .ok (.aload_n 0, 1) := by decide +kernel
theorem dX2_isTruer_30 : decode cX2_isTruer 30 = .ok (.getfield 18, 3) := by decide +kernel
theorem dX2_isTruer_33 : decode cX2_isTruer 33 = .ok (.iload_n 1, 1) := by decide +kernel
theorem dX2_isTruer_34 : decode cX2_isTruer 34 = .ok (.iaload, 1) := by decide +kernel
theorem dX2_isTruer_35 : decode cX2_isTruer 35 = .ok (.iload 4, 2) := by decide +kernel
theorem dX2_isTruer_37 : decode cX2_isTruer 37 = .ok (.imul, 1) := by decide +kernel
theorem dX2_isTruer_38 : decode cX2_isTruer 38 = .ok (.aload_n 0, 1) := by decide +kernel
theorem dX2_isTruer_39 : decode cX2_isTruer 39 = .ok (.getfield 18, 3) := by decide +kernel
theorem dX2_isTruer_42 : decode cX2_isTruer 42 = .ok (.iload_n 2, 1) := by decide +kernel
theorem dX2_isTruer_43 : decode cX2_isTruer 43 = .ok (.iaload, 1) := by decide +kernel
theorem dX2_isTruer_44 : decode cX2_isTruer 44 = .ok (.iload_n 3, 1) := by decide +kernel
theorem dX2_isTruer_45 : decode cX2_isTruer 45 = .ok (.imul, 1) := by decide +kernel
theorem dX2_isTruer_46 : decode cX2_isTruer 46 = .ok (.isub, 1) := by decide +kernel
theorem dX2_isTruer_47 : decode cX2_isTruer 47 = .ok (.istore 5, 2) := by decide +kernel
theorem dX2_isTruer_49 : decode cX2_isTruer 49 = .ok (.iload 5, 2) := by decide +kernel
theorem dX2_isTruer_51 : decode cX2_isTruer 51 = .ok (.ifCond .eq 16, 3) := by decide +kernel
theorem dX2_isTruer_54 : decode cX2_isTruer 54 = .ok (.iload 5, 2) := by decide +kernel
theorem dX2_isTruer_56 : decode cX2_isTruer 56 = .ok (.ifCond .le 7, 3) := by decide +kernel
theorem dX2_isTruer_59 : decode cX2_isTruer 59 = .ok (.iconst 1, 1) := by decide +kernel
theorem dX2_isTruer_60 : decode cX2_isTruer 60 = .ok (.goto 18, 3) := by decide +kernel
theorem dX2_isTruer_63 : decode cX2_isTruer 63 = .ok (.iconst 0, 1) := by decide +kernel
theorem dX2_isTruer_64 : decode cX2_isTruer 64 = .ok (.goto 14, 3) := by decide +kernel
theorem dX2_isTruer_67 : decode cX2_isTruer 67 = .ok (.iload_n 3, 1) := by decide +kernel
theorem dX2_isTruer_68 : decode cX2_isTruer 68 = .ok (.iload 4, 2) := by decide +kernel
theorem dX2_isTruer_70 : decode cX2_isTruer 70 = .ok (.if_icmp .le 7, 3) := by decide +kernel
theorem dX2_isTruer_73 : decode cX2_isTruer 73 = .ok (.iconst 1, 1) := by decide +kernel
theorem dX2_isTruer_74 : decode cX2_isTruer 74 = .ok (.goto 4, 3) := by decide +kernel
theorem dX2_isTruer_77 : decode cX2_isTruer 77 = .ok (.iconst 0, 1) := by decide +kernel
theorem dX2_isTruer_78 : decode cX2_isTruer 78 = .ok (.ireturn, 1) := by decide +kernel
theorem dX2_heightSurveyed_0 : decode cX2_heightSurveyed 0 = .ok (.aload_n 0, 1) := by decide +kernel
theorem dX2_heightSurveyed_1 : decode cX2_heightSurveyed 1 = .ok (.getfield 24, 3) := by decide +kernel
theorem dX2_heightSurveyed_4 : decode cX2_heightSurveyed 4 = .ok (.iload_n 1, 1) := by decide +kernel
theorem dX2_heightSurveyed_5 : decode cX2_heightSurveyed 5 = .ok (.iaload, 1) := by decide +kernel
theorem dX2_heightSurveyed_6 : decode cX2_heightSurveyed 6 = .ok (.ireturn, 1) := by decide +kernel
theorem dX2_measuresOfSteeple_0 : decode cX2_measuresOfSteeple 0 = .ok (.iconst 0, 1) := by decide +kernel
theorem dX2_measuresOfSteeple_1 : decode cX2_measuresOfSteeple 1 = .ok (.istore_n 2, 1) := by decide +kernel
theorem dX2_measuresOfSteeple_2 : decode cX2_measuresOfSteeple 2 = .ok (.iconst 0, 1) := by decide +kernel
theorem dX2_measuresOfSteeple_3 : decode cX2_measuresOfSteeple 3 = .ok (.istore_n 3, 1) := by decide +kernel
theorem dX2_measuresOfSteeple_4 : decode cX2_measuresOfSteeple 4 = .ok (.iload_n 3, 1) := by decide +kernel
theorem dX2_measuresOfSteeple_5 : decode cX2_measuresOfSteeple 5 = .ok (.aload_n 0, 1) := by decide +kernel
theorem dX2_measuresOfSteeple_6 : decode cX2_measuresOfSteeple 6 = .ok (.getfield 39, 3) := by decide +kernel
theorem dX2_measuresOfSteeple_9 : decode cX2_measuresOfSteeple 9 = .ok (.if_icmp .ge 26, 3) := by decide +kernel
theorem dX2_measuresOfSteeple_12 : decode cX2_measuresOfSteeple 12 = .ok (.iload_n 2, 1) := by decide +kernel
theorem dX2_measuresOfSteeple_13 : decode cX2_measuresOfSteeple 13 = .ok (.aload_n 0, 1) := by decide +kernel
theorem dX2_measuresOfSteeple_14 : decode cX2_measuresOfSteeple 14 = .ok (.iload_n 3, 1) := by decide +kernel
theorem dX2_measuresOfSteeple_15 : decode cX2_measuresOfSteeple 15 = .ok (.iload_n 1, 1) := by decide +kernel
theorem dX2_measuresOfSteeple_16 : decode cX2_measuresOfSteeple 16 = .ok (.invokevirtual 141, 3) := by decide +kernel
theorem dX2_measuresOfSteeple_19 : decode cX2_measuresOfSteeple 19 = .ok (.ifCond .eq 7, 3) := by decide +kernel
theorem dX2_measuresOfSteeple_22 : decode cX2_measuresOfSteeple 22 = .ok (.iconst 1, 1) := by decide +kernel
theorem dX2_measuresOfSteeple_23 : decode cX2_measuresOfSteeple 23 = .ok (.goto 4, 3) := by decide +kernel
theorem dX2_measuresOfSteeple_26 : decode cX2_measuresOfSteeple 26 = .ok (.iconst 0, 1) := by decide +kernel
theorem dX2_measuresOfSteeple_27 : decode cX2_measuresOfSteeple 27 = .ok (.iadd, 1) := by decide +kernel
theorem dX2_measuresOfSteeple_28 : decode cX2_measuresOfSteeple 28 = .ok (.istore_n 2, 1) := by decide +kernel
theorem dX2_measuresOfSteeple_29 : decode cX2_measuresOfSteeple 29 = .ok (.iinc 3 1, 3) := by decide +kernel
theorem dX2_measuresOfSteeple_32 : decode cX2_measuresOfSteeple 32 = .ok (.goto (-28), 3) := by decide +kernel
theorem dX2_measuresOfSteeple_35 : decode cX2_measuresOfSteeple 35 = .ok (.iload_n 2, 1) := by decide +kernel
theorem dX2_measuresOfSteeple_36 : decode cX2_measuresOfSteeple 36 = .ok (.ireturn, 1) := by decide +kernel
theorem dX2_weightOfSteeple_0 : decode cX2_weightOfSteeple 0 = .ok (.iconst 0, 1) := by decide +kernel
theorem dX2_weightOfSteeple_1 : decode cX2_weightOfSteeple 1 = .ok (.istore_n 2, 1) := by decide +kernel
theorem dX2_weightOfSteeple_2 : decode cX2_weightOfSteeple 2 = .ok (.iconst 0, 1) := by decide +kernel
theorem dX2_weightOfSteeple_3 : decode cX2_weightOfSteeple 3 = .ok (.istore_n 3, 1) := by decide +kernel
theorem dX2_weightOfSteeple_4 : decode cX2_weightOfSteeple 4 = .ok (.iload_n 3, 1) := by decide +kernel
theorem dX2_weightOfSteeple_5 : decode cX2_weightOfSteeple 5 = .ok (.aload_n 0, 1) := by decide +kernel
theorem dX2_weightOfSteeple_6 : decode cX2_weightOfSteeple 6 = .ok (.getfield 39, 3) := by decide +kernel
theorem dX2_weightOfSteeple_9 : decode cX2_weightOfSteeple 9 = .ok (.if_icmp .ge 30, 3) := by decide +kernel
theorem dX2_weightOfSteeple_12 : decode cX2_weightOfSteeple 12 = .ok (.iload_n 2, 1) := by decide +kernel
theorem dX2_weightOfSteeple_13 : decode cX2_weightOfSteeple 13 = .ok (.aload_n 0, 1) := by decide +kernel
theorem dX2_weightOfSteeple_14 : decode cX2_weightOfSteeple 14 = .ok (.iload_n 3, 1) := by decide +kernel
theorem dX2_weightOfSteeple_15 : decode cX2_weightOfSteeple 15 = .ok (.iload_n 1, 1) := by decide +kernel
theorem dX2_weightOfSteeple_16 : decode cX2_weightOfSteeple 16 = .ok (.invokevirtual 141, 3) := by decide +kernel
theorem dX2_weightOfSteeple_19 : decode cX2_weightOfSteeple 19 = .ok (.ifCond .eq 11, 3) := by decide +kernel
theorem dX2_weightOfSteeple_22 : decode cX2_weightOfSteeple 22 = .ok (.aload_n 0, 1) := by decide +kernel
theorem dX2_weightOfSteeple_23 : decode cX2_weightOfSteeple 23 = .ok (.iload_n 3, 1) := by decide +kernel
theorem dX2_weightOfSteeple_24 : decode cX2_weightOfSteeple 24 = .ok (.invokevirtual 135, 3) := by decide +kernel
theorem dX2_weightOfSteeple_27 : decode cX2_weightOfSteeple 27 = .ok (.goto 4, 3) := by decide +kernel
theorem dX2_weightOfSteeple_30 : decode cX2_weightOfSteeple 30 = .ok (.iconst 0, 1) := by decide +kernel
theorem dX2_weightOfSteeple_31 : decode cX2_weightOfSteeple 31 = .ok (.iadd, 1) := by decide +kernel
theorem dX2_weightOfSteeple_32 : decode cX2_weightOfSteeple 32 = .ok (.istore_n 2, 1) := by decide +kernel
theorem dX2_weightOfSteeple_33 : decode cX2_weightOfSteeple 33 = .ok (.iinc 3 1, 3) := by decide +kernel
theorem dX2_weightOfSteeple_36 : decode cX2_weightOfSteeple 36 = .ok (.goto (-32), 3) := by decide +kernel
theorem dX2_weightOfSteeple_39 : decode cX2_weightOfSteeple 39 = .ok (.iload_n 2, 1) := by decide +kernel
theorem dX2_weightOfSteeple_40 : decode cX2_weightOfSteeple 40 = .ok (.ireturn, 1) := by decide +kernel
theorem dX2_voteOf_0 : decode cX2_voteOf 0 = .ok (.iconst 0, 1) := by decide +kernel
theorem dX2_voteOf_1 : decode cX2_voteOf 1 = .ok (.istore 4, 2) := by decide +kernel
theorem dX2_voteOf_3 : decode cX2_voteOf 3 = .ok (.iconst 0, 1) := by decide +kernel
theorem dX2_voteOf_4 : decode cX2_voteOf 4 = .ok (.istore 5, 2) := by decide +kernel
theorem dX2_voteOf_6 : decode cX2_voteOf 6 = .ok (.iload 5, 2) := by decide +kernel
theorem dX2_voteOf_8 : decode cX2_voteOf 8 = .ok (.aload_n 0, 1) := by decide +kernel
theorem dX2_voteOf_9 : decode cX2_voteOf 9 = .ok (.getfield 39, 3) := by decide +kernel
theorem dX2_voteOf_12 : decode cX2_voteOf 12 = .ok (.if_icmp .ge 50, 3) := by decide +kernel
theorem dX2_voteOf_15 : decode cX2_voteOf 15 = .ok (.iload 4, 2) := by decide +kernel
theorem dX2_voteOf_17 : decode cX2_voteOf 17 = .ok (.iload 5, 2) := by decide +kernel
theorem dX2_voteOf_19 : decode cX2_voteOf 19 = .ok (.iload_n 3, 1) := by decide +kernel
theorem dX2_voteOf_20 : decode cX2_voteOf 20 = .ok (.if_icmp .eq 32, 3) := by decide +kernel
theorem dX2_voteOf_23 : decode cX2_voteOf 23 = .ok (.aload_n 0, 1) := by decide +kernel
theorem dX2_voteOf_24 : decode cX2_voteOf 24 = .ok (.iload 5, 2) := by decide +kernel
theorem dX2_voteOf_26 : decode cX2_voteOf 26 = .ok (.iload_n 1, 1) := by decide +kernel
theorem dX2_voteOf_27 : decode cX2_voteOf 27 = .ok (.invokevirtual 141, 3) := by decide +kernel
theorem dX2_voteOf_30 : decode cX2_voteOf 30 = .ok (.ifCond .eq 22, 3) := by decide +kernel
theorem dX2_voteOf_33 : decode cX2_voteOf 33 = .ok (.aload_n 0, 1) := by decide +kernel
theorem dX2_voteOf_34 : decode cX2_voteOf 34 = .ok (.iload 5, 2) := by decide +kernel
theorem dX2_voteOf_36 : decode cX2_voteOf 36 = .ok (.iload_n 2, 1) := by decide +kernel
theorem dX2_voteOf_37 : decode cX2_voteOf 37 = .ok (.invokevirtual 144, 3) := by decide +kernel
theorem dX2_voteOf_40 : decode cX2_voteOf 40 = .ok (.ifCond .eq 12, 3) := by decide +kernel
theorem dX2_voteOf_43 : decode cX2_voteOf 43 = .ok (.aload_n 0, 1) := by decide +kernel
theorem dX2_voteOf_44 : decode cX2_voteOf 44 = .ok (.iload 5, 2) := by decide +kernel
theorem dX2_voteOf_46 : decode cX2_voteOf 46 = .ok (.invokevirtual 135, 3) := by decide +kernel
theorem dX2_voteOf_49 : decode cX2_voteOf 49 = .ok (.goto 4, 3) := by decide +kernel
theorem dX2_voteOf_52 : decode cX2_voteOf 52 = .ok (.iconst 0, 1) := by decide +kernel
theorem dX2_voteOf_53 : decode cX2_voteOf 53 = .ok (.iadd, 1) := by decide +kernel
theorem dX2_voteOf_54 : decode cX2_voteOf 54 = .ok (.istore 4, 2) := by decide +kernel
theorem dX2_voteOf_56 : decode cX2_voteOf 56 = .ok (.iinc 5 1, 3) := by decide +kernel
theorem dX2_voteOf_59 : decode cX2_voteOf 59 = .ok (.goto (-53), 3) := by decide +kernel
theorem dX2_voteOf_62 : decode cX2_voteOf 62 = .ok (.iload 4, 2) := by decide +kernel
theorem dX2_voteOf_64 : decode cX2_voteOf 64 = .ok (.ireturn, 1) := by decide +kernel
theorem dX2_loudestAgainst_0 : decode cX2_loudestAgainst 0 = .ok (.iconst (-1), 1) := by decide +kernel
theorem dX2_loudestAgainst_1 : decode cX2_loudestAgainst 1 = .ok (.istore_n 3, 1) := by decide +kernel
theorem dX2_loudestAgainst_2 : decode cX2_loudestAgainst 2 = .ok (.iconst 0, 1) := by decide +kernel
theorem dX2_loudestAgainst_3 : decode cX2_loudestAgainst 3 = .ok (.istore 4, 2) := by decide +kernel
theorem dX2_loudestAgainst_5 : decode cX2_loudestAgainst 5 = .ok (.iload 4, 2) := by decide +kernel
theorem dX2_loudestAgainst_7 : decode cX2_loudestAgainst 7 = .ok (.aload_n 0, 1) := by decide +kernel
theorem dX2_loudestAgainst_8 : decode cX2_loudestAgainst 8 = .ok (.getfield 39, 3) := by decide +kernel
theorem dX2_loudestAgainst_11 : decode cX2_loudestAgainst 11 = .ok (.if_icmp .ge 48, 3) := by decide +kernel
theorem dX2_loudestAgainst_14 : decode cX2_loudestAgainst 14 = .ok (.aload_n 0, 1) := by decide +kernel
theorem dX2_loudestAgainst_15 : decode cX2_loudestAgainst 15 = .ok (.iload 4, 2) := by decide +kernel
theorem dX2_loudestAgainst_17 : decode cX2_loudestAgainst 17 = .ok (.iload_n 1, 1) := by decide +kernel
theorem dX2_loudestAgainst_18 : decode cX2_loudestAgainst 18 = .ok (.invokevirtual 141, 3) := by decide +kernel
theorem dX2_loudestAgainst_21 : decode cX2_loudestAgainst 21 = .ok (.ifCond .eq 32, 3) := by decide +kernel
theorem dX2_loudestAgainst_24 : decode cX2_loudestAgainst 24 = .ok (.aload_n 0, 1) := by decide +kernel
theorem dX2_loudestAgainst_25 : decode cX2_loudestAgainst 25 = .ok (.iload 4, 2) := by decide +kernel
theorem dX2_loudestAgainst_27 : decode cX2_loudestAgainst 27 = .ok (.iload_n 2, 1) := by decide +kernel
theorem dX2_loudestAgainst_28 : decode cX2_loudestAgainst 28 = .ok (.invokevirtual 144, 3) := by decide +kernel
theorem dX2_loudestAgainst_31 : decode cX2_loudestAgainst 31 = .ok (.ifCond .ne 22, 3) := by decide +kernel
theorem dX2_loudestAgainst_34 : decode cX2_loudestAgainst 34 = .ok (.iload_n 3, 1) := by decide +kernel
theorem dX2_loudestAgainst_35 : decode cX2_loudestAgainst 35 = .ok (.iconst (-1), 1) := by decide +kernel
theorem dX2_loudestAgainst_36 : decode cX2_loudestAgainst 36 = .ok (.if_icmp .eq 14, 3) := by decide +kernel
theorem dX2_loudestAgainst_39 : decode cX2_loudestAgainst 39 = .ok (.aload_n 0, 1) := by decide +kernel
theorem dX2_loudestAgainst_40 : decode cX2_loudestAgainst 40 = .ok (.iload 4, 2) := by decide +kernel
theorem dX2_loudestAgainst_42 : decode cX2_loudestAgainst 42 = .ok (.iload_n 3, 1) := by decide +kernel
theorem dX2_loudestAgainst_43 : decode cX2_loudestAgainst 43 = .ok (.iload_n 2, 1) := by decide +kernel
theorem dX2_loudestAgainst_44 : decode cX2_loudestAgainst 44 = .ok (.invokevirtual 171, 3) := by decide +kernel
theorem dX2_loudestAgainst_47 : decode cX2_loudestAgainst 47 = .ok (.ifCond .eq 6, 3) := by decide +kernel
theorem dX2_loudestAgainst_50 : decode cX2_loudestAgainst 50 = .ok (.iload 4, 2) := by decide +kernel
theorem dX2_loudestAgainst_52 : decode cX2_loudestAgainst 52 = .ok (.istore_n 3, 1) := by decide +kernel
theorem dX2_loudestAgainst_53 : decode cX2_loudestAgainst 53 = .ok (.iinc 4 1, 3) := by decide +kernel
theorem dX2_loudestAgainst_56 : decode cX2_loudestAgainst 56 = .ok (.goto (-51), 3) := by decide +kernel
theorem dX2_loudestAgainst_59 : decode cX2_loudestAgainst 59 = .ok (.iload_n 3, 1) := by decide +kernel
theorem dX2_loudestAgainst_60 : decode cX2_loudestAgainst 60 = .ok (.ireturn, 1) := by decide +kernel
theorem dX2_isLouder_0 : decode cX2_isLouder 0 = .ok (.aload_n 0, 1) := by decide +kernel
theorem dX2_isLouder_1 : decode cX2_isLouder 1 = .ok (.iload_n 1, 1) := by decide +kernel
theorem dX2_isLouder_2 : decode cX2_isLouder 2 = .ok (.invokevirtual 135, 3) := by decide +kernel
theorem dX2_isLouder_5 : decode cX2_isLouder 5 = .ok (.aload_n 0, 1) := by decide +kernel
theorem dX2_isLouder_6 : decode cX2_isLouder 6 = .ok (.iload_n 2, 1) := by decide +kernel
theorem dX2_isLouder_7 : decode cX2_isLouder 7 = .ok (.invokevirtual 135, 3) := by decide +kernel
theorem dX2_isLouder_10 : decode cX2_isLouder 10 = .ok (.isub, 1) := by decide +kernel
theorem dX2_isLouder_11 : decode cX2_isLouder 11 = .ok (.istore 4, 2) := by decide +kernel
theorem dX2_isLouder_13 : decode cX2_isLouder 13 = .ok (.iload 4, 2) := by decide +kernel
theorem dX2_isLouder_15 : decode cX2_isLouder 15 = .ok (.ifCond .eq 16, 3) := by decide +kernel
theorem dX2_isLouder_18 : decode cX2_isLouder 18 = .ok (.iload 4, 2) := by decide +kernel
theorem dX2_isLouder_20 : decode cX2_isLouder 20 = .ok (.ifCond .le 7, 3) := by decide +kernel
theorem dX2_isLouder_23 : decode cX2_isLouder 23 = .ok (.iconst 1, 1) := by decide +kernel
theorem dX2_isLouder_24 : decode cX2_isLouder 24 = .ok (.goto 27, 3) := by decide +kernel
theorem dX2_isLouder_27 : decode cX2_isLouder 27 = .ok (.iconst 0, 1) := by decide +kernel
theorem dX2_isLouder_28 : decode cX2_isLouder 28 = .ok (.goto 23, 3) := by decide +kernel
theorem dX2_isLouder_31 : decode cX2_isLouder 31 = .ok (.aload_n 0, 1) := by decide +kernel
theorem dX2_isLouder_32 : decode cX2_isLouder 32 = .ok (.iload_n 1, 1) := by decide +kernel
theorem dX2_isLouder_33 : decode cX2_isLouder 33 = .ok (.iload_n 3, 1) := by decide +kernel
theorem dX2_isLouder_34 : decode cX2_isLouder 34 = .ok (.invokevirtual 175, 3) := by decide +kernel
theorem dX2_isLouder_37 : decode cX2_isLouder 37 = .ok (.aload_n 0, 1) := by decide +kernel
theorem dX2_isLouder_38 : decode cX2_isLouder 38 = .ok (.iload_n 2, 1) := by decide +kernel
theorem dX2_isLouder_39 : decode cX2_isLouder 39 = .ok (.iload_n 3, 1) := by decide +kernel
theorem dX2_isLouder_40 : decode cX2_isLouder 40 = .ok (.invokevirtual 175, 3) := by decide +kernel
theorem dX2_isLouder_43 : decode cX2_isLouder 43 = .ok (.if_icmp .le 7, 3) := by decide +kernel
theorem dX2_isLouder_46 : decode cX2_isLouder 46 = .ok (.iconst 1, 1) := by decide +kernel
theorem dX2_isLouder_47 : decode cX2_isLouder 47 = .ok (.goto 4, 3) := by decide +kernel
theorem dX2_isLouder_50 : decode cX2_isLouder 50 = .ok (.iconst 0, 1) := by decide +kernel
theorem dX2_isLouder_51 : decode cX2_isLouder 51 = .ok (.ireturn, 1) := by decide +kernel
theorem dX2_feetFrom_0 : decode cX2_feetFrom 0 = .ok (.iconst 0, 1) := by decide +kernel
theorem dX2_feetFrom_1 : decode cX2_feetFrom 1 = .ok (.aload_n 0, 1) := by decide +kernel
theorem dX2_feetFrom_2 : decode cX2_feetFrom 2 = .ok (.iload_n 1, 1) := by decide +kernel
theorem dX2_feetFrom_3 : decode cX2_feetFrom 3 = .ok (.bipush 7, 2) := by decide +kernel
theorem dX2_feetFrom_5 : decode cX2_feetFrom 5 = .ok (.invokevirtual 138, 3) := by decide +kernel
theorem dX2_feetFrom_8 : decode cX2_feetFrom 8 = .ok (.iload_n 2, 1) := by decide +kernel
theorem dX2_feetFrom_9 : decode cX2_feetFrom 9 = .ok (.isub, 1) := by decide +kernel
theorem dX2_feetFrom_10 : decode cX2_feetFrom 10 = .ok (.iload_n 2, 1) := by decide +kernel
theorem dX2_feetFrom_11 : decode cX2_feetFrom 11 = .ok (.aload_n 0, 1) := by decide +kernel
theorem dX2_feetFrom_12 : decode cX2_feetFrom 12 = .ok (.iload_n 1, 1) := by decide +kernel
theorem dX2_feetFrom_13 : decode cX2_feetFrom 13 = .ok (.bipush 8, 2) := by decide +kernel
theorem dX2_feetFrom_15 : decode cX2_feetFrom 15 = .ok (.invokevirtual 138, 3) := by decide +kernel
theorem dX2_feetFrom_18 : decode cX2_feetFrom 18 = .ok (.isub, 1) := by decide +kernel
theorem dX2_feetFrom_19 : decode cX2_feetFrom 19 = .ok (.invokestatic 125, 3) := by decide +kernel
theorem dX2_feetFrom_22 : decode cX2_feetFrom 22 = .ok (.invokestatic 125, 3) := by decide +kernel
theorem dX2_feetFrom_25 : decode cX2_feetFrom 25 = .ok (.ireturn, 1) := by decide +kernel
theorem dX3_limit_0 : decode cX3_limit 0 = .ok (.lconst 1, 1) := by decide +kernel
theorem dX3_limit_1 : decode cX3_limit 1 = .ok (.lstore_n 1, 1) := by decide +kernel
theorem dX3_limit_2 : decode cX3_limit 2 = .ok (.iconst 0, 1) := by decide +kernel
theorem dX3_limit_3 : decode cX3_limit 3 = .ok (.istore_n 3, 1) := by decide +kernel
theorem dX3_limit_4 : decode cX3_limit 4 = .ok (.iload_n 3, 1) := by decide +kernel
theorem dX3_limit_5 : decode cX3_limit 5 = .ok (.iload_n 0, 1) := by decide +kernel
theorem dX3_limit_6 : decode cX3_limit 6 = .ok (.if_icmp .ge 15, 3) := by decide +kernel
theorem dX3_limit_9 : decode cX3_limit 9 = .ok (.lload_n 1, 1) := by decide +kernel
theorem dX3_limit_10 : decode cX3_limit 10 = .ok (.ldc2_w 11, 3) := by decide +kernel
theorem dX3_limit_13 : decode cX3_limit 13 = .ok (.lmul, 1) := by decide +kernel
theorem dX3_limit_14 : decode cX3_limit 14 = .ok (.lstore_n 1, 1) := by decide +kernel
theorem dX3_limit_15 : decode cX3_limit 15 = .ok (.iinc 3 1, 3) := by decide +kernel
theorem dX3_limit_18 : decode cX3_limit 18 = .ok (.goto (-14), 3) := by decide +kernel
theorem dX3_limit_21 : decode cX3_limit 21 = .ok (.lload_n 1, 1) := by decide +kernel
theorem dX3_limit_22 : decode cX3_limit 22 = .ok (.lreturn, 1) := by decide +kernel
theorem dX3_group_0 : decode cX3_group 0 = .ok (.lload_n 0, 1) := by decide +kernel
theorem dX3_group_1 : decode cX3_group 1 = .ok (.lstore_n 3, 1) := by decide +kernel
theorem dX3_group_2 : decode cX3_group 2 = .ok (.iconst 0, 1) := by decide +kernel
theorem dX3_group_3 : decode cX3_group 3 = .ok (.istore 5, 2) := by decide +kernel
theorem dX3_group_5 : decode cX3_group 5 = .ok (.iload 5, 2) := by decide +kernel
theorem dX3_group_7 : decode cX3_group 7 = .ok (.iload_n 2, 1) := by decide +kernel
theorem dX3_group_8 : decode cX3_group 8 = .ok (.if_icmp .ge 15, 3) := by decide +kernel
theorem dX3_group_11 : decode cX3_group 11 = .ok (.lload_n 3, 1) := by decide +kernel
theorem dX3_group_12 : decode cX3_group 12 = .ok (.ldc2_w 11, 3) := by decide +kernel
theorem dX3_group_15 : decode cX3_group 15 = .ok (.ldiv, 1) := by decide +kernel
theorem dX3_group_16 : decode cX3_group 16 = .ok (.lstore_n 3, 1) := by decide +kernel
theorem dX3_group_17 : decode cX3_group 17 = .ok (.iinc 5 1, 3) := by decide +kernel
theorem dX3_group_20 : decode cX3_group 20 = .ok (.goto (-15), 3) := by decide +kernel
theorem dX3_group_23 : decode cX3_group 23 = .ok (.lload_n 3, 1) := by decide +kernel
theorem dX3_group_24 : decode cX3_group 24 = .ok (.ldc2_w 11, 3) := by decide +kernel
theorem dX3_group_27 : decode cX3_group 27 = .ok (.lrem, 1) := by decide +kernel
theorem dX3_group_28 : decode cX3_group 28 = .ok (.l2i, 1) := by decide +kernel
theorem dX3_group_29 : decode cX3_group 29 = .ok (.ireturn, 1) := by decide +kernel
theorem dX3_succeeds_0 : decode cX3_succeeds 0 = .ok (.iload_n 2, 1) := by decide +kernel
theorem dX3_succeeds_1 : decode cX3_succeeds 1 = .ok (.sipush 10000, 3) := by decide +kernel
theorem dX3_succeeds_4 : decode cX3_succeeds 4 = .ok (.idiv, 1) := by decide +kernel
theorem dX3_succeeds_5 : decode cX3_succeeds 5 = .ok (.bipush 10, 2) := by decide +kernel
theorem dX3_succeeds_7 : decode cX3_succeeds 7 = .ok (.irem, 1) := by decide +kernel
theorem dX3_succeeds_8 : decode cX3_succeeds 8 = .ok (.istore_n 3, 1) := by decide +kernel
theorem dX3_succeeds_9 : decode cX3_succeeds 9 = .ok (.iload_n 2, 1) := by decide +kernel
theorem dX3_succeeds_10 : decode cX3_succeeds 10 = .ok (.bipush 10, 2) := by decide +kernel
theorem dX3_succeeds_12 : decode cX3_succeeds 12 = .ok (.irem, 1) := by decide +kernel
theorem dX3_succeeds_13 : decode cX3_succeeds 13 = .ok (.istore 4, 2) := by decide +kernel
theorem dX3_succeeds_15 : decode cX3_succeeds 15 = .ok (.iload_n 2, 1) := by decide +kernel
theorem dX3_succeeds_16 : decode cX3_succeeds 16 = .ok (.sipush 1000, 3) := by decide +kernel
theorem dX3_succeeds_19 : decode cX3_succeeds 19 = .ok (.irem, 1) := by decide +kernel
theorem dX3_succeeds_20 : decode cX3_succeeds 20 = .ok (.istore 5, 2) := by decide +kernel
theorem dX3_succeeds_22 : decode cX3_succeeds 22 = .ok (.iload_n 2, 1) := by decide +kernel
theorem dX3_succeeds_23 : decode cX3_succeeds 23 = .ok (.ldc 13, 2) := by decide +kernel
theorem dX3_succeeds_25 : decode cX3_succeeds 25 = .ok (.idiv, 1) := by decide +kernel
theorem dX3_succeeds_26 : decode cX3_succeeds 26 = .ok (.tableswitch 296 1 9 #[50, 71, 97, 124, 150, 177, 205, 234, 268], 50) := by decide +kernel
theorem dX3_succeeds_76 : decode cX3_succeeds 76 = .ok (.aload_n 0, 1) := by decide +kernel
theorem dX3_succeeds_77 : decode cX3_succeeds 77 = .ok (.iload_n 3, 1) := by decide +kernel
theorem dX3_succeeds_78 : decode cX3_succeeds 78 = .ok (.iload_n 2, 1) := by decide +kernel
theorem dX3_succeeds_79 : decode cX3_succeeds 79 = .ok (.sipush 1000, 3) := by decide +kernel
theorem dX3_succeeds_82 : decode cX3_succeeds 82 = .ok (.idiv, 1) := by decide +kernel
theorem dX3_succeeds_83 : decode cX3_succeeds 83 = .ok (.bipush 10, 2) := by decide +kernel
theorem dX3_succeeds_85 : decode cX3_succeeds 85 = .ok (.irem, 1) := by decide +kernel
theorem dX3_succeeds_86 : decode cX3_succeeds 86 = .ok (.iconst 2, 1) := by decide +kernel
theorem dX3_succeeds_87 : decode cX3_succeeds 87 = .ok (.iload 5, 2) := by decide +kernel
theorem dX3_succeeds_89 : decode cX3_succeeds 89 = .ok (.iload 5, 2) := by decide +kernel
theorem dX3_succeeds_91 : decode cX3_succeeds 91 = .ok (.iconst 0, 1) := by decide +kernel
theorem dX3_succeeds_92 : decode cX3_succeeds 92 = .ok (.iconst 0, 1) := by decide +kernel
theorem dX3_succeeds_93 : decode cX3_succeeds 93 = .ok (.invokevirtual 16, 3) := by decide +kernel
theorem dX3_succeeds_96 : decode cX3_succeeds 96 = .ok (.ireturn, 1) := by decide +kernel
theorem dX3_succeeds_97 : decode cX3_succeeds 97 = .ok (.iload 5, 2) := by decide +kernel
theorem dX3_succeeds_99 : decode cX3_succeeds 99 = .ok (.ifCond .ne 22, 3) := by decide +kernel
theorem dX3_succeeds_102 : decode cX3_succeeds 102 = .ok (.aload_n 0, 1) := by decide +kernel
theorem dX3_succeeds_103 : decode cX3_succeeds 103 = .ok (.iload_n 2, 1) := by decide +kernel
theorem dX3_succeeds_104 : decode cX3_succeeds 104 = .ok (.sipush 1000, 3) := by decide +kernel
theorem dX3_succeeds_107 : decode cX3_succeeds 107 = .ok (.idiv, 1) := by decide +kernel
theorem dX3_succeeds_108 : decode cX3_succeeds 108 = .ok (.bipush 100, 2) := by decide +kernel
theorem dX3_succeeds_110 : decode cX3_succeeds 110 = .ok (.irem, 1) := by decide +kernel
theorem dX3_succeeds_111 : decode cX3_succeeds 111 = .ok (.invokevirtual 20, 3) := by decide +kernel
theorem dX3_succeeds_114 : decode cX3_succeeds 114 = .ok (.ifCond .eq 7, 3) := by decide +kernel
theorem dX3_succeeds_117 : decode cX3_succeeds 117 = .ok (.iconst 1, 1) := by decide +kernel
theorem dX3_succeeds_118 : decode cX3_succeeds 118 = .ok (.goto 4, 3) := by decide +kernel
theorem dX3_succeeds_121 : decode cX3_succeeds 121 = .ok (.iconst 0, 1) := by decide +kernel
theorem dX3_succeeds_122 : decode cX3_succeeds 122 = .ok (.ireturn, 1) := by decide +kernel
theorem dX3_succeeds_123 : decode cX3_succeeds 123 = .ok (.iload_n 2, 1) := by decide +kernel
theorem dX3_succeeds_124 : decode cX3_succeeds 124 = .ok (.bipush 10, 2) := by decide +kernel
theorem dX3_succeeds_126 : decode cX3_succeeds 126 = .ok (.idiv, 1) := by decide +kernel
theorem dX3_succeeds_127 : decode cX3_succeeds 127 = .ok (.sipush 1000, 3) := by decide +kernel
theorem dX3_succeeds_130 : decode cX3_succeeds 130 = .ok (.irem, 1) := by decide +kernel
theorem dX3_succeeds_131 : decode cX3_succeeds 131 = .ok (.ifCond .ne 17, 3) := by decide +kernel
theorem dX3_succeeds_134 : decode cX3_succeeds 134 = .ok (.aload_n 0, 1) := by decide +kernel
theorem dX3_succeeds_135 : decode cX3_succeeds 135 = .ok (.iload_n 3, 1) := by decide +kernel
theorem dX3_succeeds_136 : decode cX3_succeeds 136 = .ok (.iload 4, 2) := by decide +kernel
theorem dX3_succeeds_138 : decode cX3_succeeds 138 = .ok (.invokevirtual 24, 3) := by decide +kernel
theorem dX3_succeeds_141 : decode cX3_succeeds 141 = .ok (.ifCond .eq 7, 3) := by decide +kernel
theorem dX3_succeeds_144 : decode cX3_succeeds 144 = .ok (.iconst 1, 1) := by decide +kernel
theorem dX3_succeeds_145 : decode cX3_succeeds 145 = .ok (.goto 4, 3) := by decide +kernel
theorem dX3_succeeds_148 : decode cX3_succeeds 148 = .ok (.iconst 0, 1) := by decide +kernel
theorem dX3_succeeds_149 : decode cX3_succeeds 149 = .ok (.ireturn, 1) := by decide +kernel
theorem dX3_succeeds_150 : decode cX3_succeeds 150 = .ok (.iload_n 2, 1) := by decide +kernel
theorem dX3_succeeds_151 : decode cX3_succeeds 151 = .ok (.bipush 10, 2) := by decide +kernel
theorem dX3_succeeds_153 : decode cX3_succeeds 153 = .ok (.idiv, 1) := by decide +kernel
theorem dX3_succeeds_154 : decode cX3_succeeds 154 = .ok (.sipush 10000, 3) := by decide +kernel
theorem dX3_succeeds_157 : decode cX3_succeeds 157 = .ok (.irem, 1) := by decide +kernel
theorem dX3_succeeds_158 : decode cX3_succeeds 158 = .ok (.ifCond .ne 16, 3) := by decide +kernel
theorem dX3_succeeds_161 : decode cX3_succeeds 161 = .ok (.aload_n 0, 1) := by decide +kernel
theorem dX3_succeeds_162 : decode cX3_succeeds 162 = .ok (.iload 4, 2) := by decide +kernel
theorem dX3_succeeds_164 : decode cX3_succeeds 164 = .ok (.invokestatic 28, 3) := by decide +kernel
theorem dX3_succeeds_167 : decode cX3_succeeds 167 = .ok (.ifCond .eq 7, 3) := by decide +kernel
theorem dX3_succeeds_170 : decode cX3_succeeds 170 = .ok (.iconst 1, 1) := by decide +kernel
theorem dX3_succeeds_171 : decode cX3_succeeds 171 = .ok (.goto 4, 3) := by decide +kernel
theorem dX3_succeeds_174 : decode cX3_succeeds 174 = .ok (.iconst 0, 1) := by decide +kernel
theorem dX3_succeeds_175 : decode cX3_succeeds 175 = .ok (.ireturn, 1) := by decide +kernel
theorem dX3_succeeds_176 : decode cX3_succeeds 176 = .ok (.iload_n 2, 1) := by decide +kernel
theorem dX3_succeeds_177 : decode cX3_succeeds 177 = .ok (.sipush 1000, 3) := by decide +kernel
theorem dX3_succeeds_180 : decode cX3_succeeds 180 = .ok (.idiv, 1) := by decide +kernel
theorem dX3_succeeds_181 : decode cX3_succeeds 181 = .ok (.bipush 10, 2) := by decide +kernel
theorem dX3_succeeds_183 : decode cX3_succeeds 183 = .ok (.irem, 1) := by decide +kernel
theorem dX3_succeeds_184 : decode cX3_succeeds 184 = .ok (.ifCond .ne 17, 3) := by decide +kernel
theorem dX3_succeeds_187 : decode cX3_succeeds 187 = .ok (.aload_n 0, 1) := by decide +kernel
theorem dX3_succeeds_188 : decode cX3_succeeds 188 = .ok (.iload_n 3, 1) := by decide +kernel
theorem dX3_succeeds_189 : decode cX3_succeeds 189 = .ok (.iload 5, 2) := by decide +kernel
theorem dX3_succeeds_191 : decode cX3_succeeds 191 = .ok (.invokevirtual 32, 3) := by decide +kernel
theorem dX3_succeeds_194 : decode cX3_succeeds 194 = .ok (.ifCond .eq 7, 3) := by decide +kernel
theorem dX3_succeeds_197 : decode cX3_succeeds 197 = .ok (.iconst 1, 1) := by decide +kernel
theorem dX3_succeeds_198 : decode cX3_succeeds 198 = .ok (.goto 4, 3) := by decide +kernel
theorem dX3_succeeds_201 : decode cX3_succeeds 201 = .ok (.iconst 0, 1) := by decide +kernel
theorem dX3_succeeds_202 : decode cX3_succeeds 202 = .ok (.ireturn, 1) := by decide +kernel
theorem dX3_succeeds_203 : decode cX3_succeeds 203 = .ok (.iload_n 2, 1) := by decide +kernel
theorem dX3_succeeds_204 : decode cX3_succeeds 204 = .ok (.sipush 1000, 3) := by decide +kernel
theorem dX3_succeeds_207 : decode cX3_succeeds 207 = .ok (.idiv, 1) := by decide +kernel
theorem dX3_succeeds_208 : decode cX3_succeeds 208 = .ok (.bipush 10, 2) := by decide +kernel
theorem dX3_succeeds_210 : decode cX3_succeeds 210 = .ok (.irem, 1) := by decide +kernel
theorem dX3_succeeds_211 : decode cX3_succeeds 211 = .ok (.ifCond .ne 18, 3) := by decide +kernel
theorem dX3_succeeds_214 : decode cX3_succeeds 214 = .ok (.aload_n 0, 1) := by decide +kernel
theorem dX3_succeeds_215 : decode cX3_succeeds 215 = .ok (.aload_n 1, 1) := by decide +kernel
theorem dX3_succeeds_216 : decode cX3_succeeds 216 = .ok (.iload_n 3, 1) := by decide +kernel
theorem dX3_succeeds_217 : decode cX3_succeeds 217 = .ok (.iload 5, 2) := by decide +kernel
theorem dX3_succeeds_219 : decode cX3_succeeds 219 = .ok (.invokestatic 35, 3) := by decide +kernel
theorem dX3_succeeds_222 : decode cX3_succeeds 222 = .ok (.ifCond .eq 7, 3) := by decide +kernel
theorem dX3_succeeds_225 : decode cX3_succeeds 225 = .ok (.iconst 1, 1) := by decide +kernel
theorem dX3_succeeds_226 : decode cX3_succeeds 226 = .ok (.goto 4, 3) := by decide +kernel
theorem dX3_succeeds_229 : decode cX3_succeeds 229 = .ok (.iconst 0, 1) := by decide +kernel
theorem dX3_succeeds_230 : decode cX3_succeeds 230 = .ok (.ireturn, 1) := by decide +kernel
theorem dX3_succeeds_231 : decode cX3_succeeds 231 = .ok (.iload_n 2, 1) := by decide +kernel
theorem dX3_succeeds_232 : decode cX3_succeeds 232 = .ok (.bipush 100, 2) := by decide +kernel
theorem dX3_succeeds_234 : decode cX3_succeeds 234 = .ok (.irem, 1) := by decide +kernel
theorem dX3_succeeds_235 : decode cX3_succeeds 235 = .ok (.ifCond .ne 23, 3) := by decide +kernel
theorem dX3_succeeds_238 : decode cX3_succeeds 238 = .ok (.aload_n 0, 1) := by decide +kernel
theorem dX3_succeeds_239 : decode cX3_succeeds 239 = .ok (.aload_n 1, 1) := by decide +kernel
theorem dX3_succeeds_240 : decode cX3_succeeds 240 = .ok (.iload_n 3, 1) := by decide +kernel
theorem dX3_succeeds_241 : decode cX3_succeeds 241 = .ok (.iload_n 2, 1) := by decide +kernel
theorem dX3_succeeds_242 : decode cX3_succeeds 242 = .ok (.bipush 100, 2) := by decide +kernel
theorem dX3_succeeds_244 : decode cX3_succeeds 244 = .ok (.idiv, 1) := by decide +kernel
theorem dX3_succeeds_245 : decode cX3_succeeds 245 = .ok (.bipush 100, 2) := by decide +kernel
theorem dX3_succeeds_247 : decode cX3_succeeds 247 = .ok (.irem, 1) := by decide +kernel
theorem dX3_succeeds_248 : decode cX3_succeeds 248 = .ok (.invokestatic 39, 3) := by decide +kernel
theorem dX3_succeeds_251 : decode cX3_succeeds 251 = .ok (.ifCond .eq 7, 3) := by decide +kernel
theorem dX3_succeeds_254 : decode cX3_succeeds 254 = .ok (.iconst 1, 1) := by decide +kernel
theorem dX3_succeeds_255 : decode cX3_succeeds 255 = .ok (.goto 4, 3) := by decide +kernel
theorem dX3_succeeds_258 : decode cX3_succeeds 258 = .ok (.iconst 0, 1) := by decide +kernel
theorem dX3_succeeds_259 : decode cX3_succeeds 259 = .ok (.ireturn, 1) := by decide +kernel
theorem dX3_succeeds_260 : decode cX3_succeeds 260 = .ok (.iload_n 2, 1) := by decide +kernel
theorem dX3_succeeds_261 : decode cX3_succeeds 261 = .ok (.bipush 10, 2) := by decide +kernel
theorem dX3_succeeds_263 : decode cX3_succeeds 263 = .ok (.idiv, 1) := by decide +kernel
theorem dX3_succeeds_264 : decode cX3_succeeds 264 = .ok (.sipush 1000, 3) := by decide +kernel
theorem dX3_succeeds_267 : decode cX3_succeeds 267 = .ok (.irem, 1) := by decide +kernel
theorem dX3_succeeds_268 : decode cX3_succeeds 268 = .ok (.ifCond .ne 24, 3) := by decide +kernel
theorem dX3_succeeds_271 : decode cX3_succeeds 271 = .ok (.iload_n 3, 1) := by decide +kernel
theorem dX3_succeeds_272 : decode cX3_succeeds 272 = .ok (.invokestatic 42, 3) := by decide +kernel
theorem dX3_succeeds_275 : decode cX3_succeeds 275 = .ok (.ifCond .eq 17, 3) := by decide +kernel
theorem dX3_succeeds_278 : decode cX3_succeeds 278 = .ok (.aload_n 0, 1) := by decide +kernel
theorem dX3_succeeds_279 : decode cX3_succeeds 279 = .ok (.iload_n 3, 1) := by decide +kernel
theorem dX3_succeeds_280 : decode cX3_succeeds 280 = .ok (.invokevirtual 45, 3) := by decide +kernel
theorem dX3_succeeds_283 : decode cX3_succeeds 283 = .ok (.iload 4, 2) := by decide +kernel
theorem dX3_succeeds_285 : decode cX3_succeeds 285 = .ok (.if_icmp .lt 7, 3) := by decide +kernel
theorem dX3_succeeds_288 : decode cX3_succeeds 288 = .ok (.iconst 1, 1) := by decide +kernel
theorem dX3_succeeds_289 : decode cX3_succeeds 289 = .ok (.goto 4, 3) := by decide +kernel
theorem dX3_succeeds_292 : decode cX3_succeeds 292 = .ok (.iconst 0, 1) := by decide +kernel
theorem dX3_succeeds_293 : decode cX3_succeeds 293 = .ok (.ireturn, 1) := by decide +kernel
theorem dX3_succeeds_294 : decode cX3_succeeds 294 = .ok (.iload_n 2, 1) := by decide +kernel
theorem dX3_succeeds_295 : decode cX3_succeeds 295 = .ok (.bipush 100, 2) := by decide +kernel
theorem dX3_succeeds_297 : decode cX3_succeeds 297 = .ok (.idiv, 1) := by decide +kernel
theorem dX3_succeeds_298 : decode cX3_succeeds 298 = .ok (.sipush 1000, 3) := by decide +kernel
theorem dX3_succeeds_301 : decode cX3_succeeds 301 = .ok (.irem, 1) := by decide +kernel
theorem dX3_succeeds_302 : decode cX3_succeeds 302 = .ok (.ifCond .ne 18, 3) := by decide +kernel
theorem dX3_succeeds_305 : decode cX3_succeeds 305 = .ok (.aload_n 0, 1) := by decide +kernel
theorem dX3_succeeds_306 : decode cX3_succeeds 306 = .ok (.invokevirtual 49, 3) := by decide +kernel
theorem dX3_succeeds_309 : decode cX3_succeeds 309 = .ok (.iload_n 2, 1) := by decide +kernel
theorem dX3_succeeds_310 : decode cX3_succeeds 310 = .ok (.bipush 100, 2) := by decide +kernel
theorem dX3_succeeds_312 : decode cX3_succeeds 312 = .ok (.irem, 1) := by decide +kernel
theorem dX3_succeeds_313 : decode cX3_succeeds 313 = .ok (.if_icmp .gt 7, 3) := by decide +kernel
theorem dX3_succeeds_316 : decode cX3_succeeds 316 = .ok (.iconst 1, 1) := by decide +kernel
theorem dX3_succeeds_317 : decode cX3_succeeds 317 = .ok (.goto 4, 3) := by decide +kernel
theorem dX3_succeeds_320 : decode cX3_succeeds 320 = .ok (.iconst 0, 1) := by decide +kernel
theorem dX3_succeeds_321 : decode cX3_succeeds 321 = .ok (.ireturn, 1) := by decide +kernel
theorem dX3_succeeds_322 : decode cX3_succeeds 322 = .ok (.iconst 0, 1) := by decide +kernel
theorem dX3_succeeds_323 : decode cX3_succeeds 323 = .ok (.ireturn, 1) := by decide +kernel
theorem dX3_passEvenings_0 : decode cX3_passEvenings 0 = .ok (.iconst 0, 1) := by decide +kernel
theorem dX3_passEvenings_1 : decode cX3_passEvenings 1 = .ok (.istore_n 2, 1) := by decide +kernel
theorem dX3_passEvenings_2 : decode cX3_passEvenings 2 = .ok (.iload_n 2, 1) := by decide +kernel
theorem dX3_passEvenings_3 : decode cX3_passEvenings 3 = .ok (.iload_n 1, 1) := by decide +kernel
theorem dX3_passEvenings_4 : decode cX3_passEvenings 4 = .ok (.if_icmp .ge 14, 3) := by decide +kernel
theorem dX3_passEvenings_7 : decode cX3_passEvenings 7 = .ok (.aload_n 0, 1) := by decide +kernel
theorem dX3_passEvenings_8 : decode cX3_passEvenings 8 = .ok (.invokevirtual 53, 3) := by decide +kernel
theorem dX3_passEvenings_11 : decode cX3_passEvenings 11 = .ok (.pop, 1) := by decide +kernel
theorem dX3_passEvenings_12 : decode cX3_passEvenings 12 = .ok (.iinc 2 1, 3) := by decide +kernel
theorem dX3_passEvenings_15 : decode cX3_passEvenings 15 = .ok (.goto (-13), 3) := by decide +kernel
theorem dX3_passEvenings_18 : decode cX3_passEvenings 18 = .ok (.iconst 1, 1) := by decide +kernel
theorem dX3_passEvenings_19 : decode cX3_passEvenings 19 = .ok (.ireturn, 1) := by decide +kernel
theorem dX3_lowestIsAtMost_0 : decode cX3_lowestIsAtMost 0 = .ok (.iload_n 2, 1) := by decide +kernel
theorem dX3_lowestIsAtMost_1 : decode cX3_lowestIsAtMost 1 = .ok (.invokestatic 56, 3) := by decide +kernel
theorem dX3_lowestIsAtMost_4 : decode cX3_lowestIsAtMost 4 = .ok (.ifCond .ne 5, 3) := by decide +kernel
theorem dX3_lowestIsAtMost_7 : decode cX3_lowestIsAtMost 7 = .ok (.iconst 0, 1) := by decide +kernel
theorem dX3_lowestIsAtMost_8 : decode cX3_lowestIsAtMost 8 = .ok (.ireturn, 1) := by decide +kernel
theorem dX3_lowestIsAtMost_9 : decode cX3_lowestIsAtMost 9 = .ok (.aload_n 1, 1) := by decide +kernel
theorem dX3_lowestIsAtMost_10 : decode cX3_lowestIsAtMost 10 = .ok (.aload_n 0, 1) := by decide +kernel
theorem dX3_lowestIsAtMost_11 : decode cX3_lowestIsAtMost 11 = .ok (.iload_n 2, 1) := by decide +kernel
theorem dX3_lowestIsAtMost_12 : decode cX3_lowestIsAtMost 12 = .ok (.iconst (-1), 1) := by decide +kernel
theorem dX3_lowestIsAtMost_13 : decode cX3_lowestIsAtMost 13 = .ok (.invokevirtual 59, 3) := by decide +kernel
theorem dX3_lowestIsAtMost_16 : decode cX3_lowestIsAtMost 16 = .ok (.aload_n 1, 1) := by decide +kernel
theorem dX3_lowestIsAtMost_17 : decode cX3_lowestIsAtMost 17 = .ok (.invokevirtual 65, 3) := by decide +kernel
theorem dX3_lowestIsAtMost_20 : decode cX3_lowestIsAtMost 20 = .ok (.iload_n 3, 1) := by decide +kernel
theorem dX3_lowestIsAtMost_21 : decode cX3_lowestIsAtMost 21 = .ok (.if_icmp .gt 7, 3) := by decide +kernel
theorem dX3_lowestIsAtMost_24 : decode cX3_lowestIsAtMost 24 = .ok (.iconst 1, 1) := by decide +kernel
theorem dX3_lowestIsAtMost_25 : decode cX3_lowestIsAtMost 25 = .ok (.goto 4, 3) := by decide +kernel
end
section
theorem dX3_lowestIsAtMost_28 : decode cX3_lowestIsAtMost 28 = .ok (.iconst 0, 1) := by decide +kernel
theorem dX3_lowestIsAtMost_29 : decode cX3_lowestIsAtMost 29 = .ok (.ireturn, 1) := by decide +kernel
theorem dX3_mostIsAtLeast_0 : decode cX3_mostIsAtLeast 0 = .ok (.iload_n 2, 1) := by decide +kernel
theorem dX3_mostIsAtLeast_1 : decode cX3_mostIsAtLeast 1 = .ok (.invokestatic 56, 3) := by decide +kernel
theorem dX3_mostIsAtLeast_4 : decode cX3_mostIsAtLeast 4 = .ok (.ifCond .ne 5, 3) := by decide +kernel
theorem dX3_mostIsAtLeast_7 : decode cX3_mostIsAtLeast 7 = .ok (.iconst 0, 1) := by decide +kernel
theorem dX3_mostIsAtLeast_8 : decode cX3_mostIsAtLeast 8 = .ok (.ireturn, 1) := by decide +kernel
theorem dX3_mostIsAtLeast_9 : decode cX3_mostIsAtLeast 9 = .ok (.aload_n 1, 1) := by decide +kernel
theorem dX3_mostIsAtLeast_10 : decode cX3_mostIsAtLeast 10 = .ok (.aload_n 0, 1) := by decide +kernel
theorem dX3_mostIsAtLeast_11 : decode cX3_mostIsAtLeast 11 = .ok (.iload_n 2, 1) := by decide +kernel
theorem dX3_mostIsAtLeast_12 : decode cX3_mostIsAtLeast 12 = .ok (.iconst (-1), 1) := by decide +kernel
theorem dX3_mostIsAtLeast_13 : decode cX3_mostIsAtLeast 13 = .ok (.invokevirtual 59, 3) := by decide +kernel
theorem dX3_mostIsAtLeast_16 : decode cX3_mostIsAtLeast 16 = .ok (.aload_n 1, 1) := by decide +kernel
theorem dX3_mostIsAtLeast_17 : decode cX3_mostIsAtLeast 17 = .ok (.invokevirtual 68, 3) := by decide +kernel
theorem dX3_mostIsAtLeast_20 : decode cX3_mostIsAtLeast 20 = .ok (.iload_n 3, 1) := by decide +kernel
theorem dX3_mostIsAtLeast_21 : decode cX3_mostIsAtLeast 21 = .ok (.if_icmp .lt 7, 3) := by decide +kernel
theorem dX3_mostIsAtLeast_24 : decode cX3_mostIsAtLeast 24 = .ok (.iconst 1, 1) := by decide +kernel
theorem dX3_mostIsAtLeast_25 : decode cX3_mostIsAtLeast 25 = .ok (.goto 4, 3) := by decide +kernel
theorem dX3_mostIsAtLeast_28 : decode cX3_mostIsAtLeast 28 = .ok (.iconst 0, 1) := by decide +kernel
theorem dX3_mostIsAtLeast_29 : decode cX3_mostIsAtLeast 29 = .ok (.ireturn, 1) := by decide +kernel
theorem dX4_turn_0 : decode cX4_turn 0 = .ok (.iload_n 1, 1) := by decide +kernel
theorem dX4_turn_1 : decode cX4_turn 1 = .ok (.bipush 16, 2) := by decide +kernel
theorem dX4_turn_3 : decode cX4_turn 3 = .ok (.idiv, 1) := by decide +kernel
theorem dX4_turn_4 : decode cX4_turn 4 = .ok (.istore_n 2, 1) := by decide +kernel
theorem dX4_turn_5 : decode cX4_turn 5 = .ok (.iload_n 2, 1) := by decide +kernel
theorem dX4_turn_6 : decode cX4_turn 6 = .ok (.iconst 3, 1) := by decide +kernel
theorem dX4_turn_7 : decode cX4_turn 7 = .ok (.irem, 1) := by decide +kernel
theorem dX4_turn_8 : decode cX4_turn 8 = .ok (.istore_n 3, 1) := by decide +kernel
theorem dX4_turn_9 : decode cX4_turn 9 = .ok (.iload_n 1, 1) := by decide +kernel
theorem dX4_turn_10 : decode cX4_turn 10 = .ok (.bipush 16, 2) := by decide +kernel
theorem dX4_turn_12 : decode cX4_turn 12 = .ok (.irem, 1) := by decide +kernel
theorem dX4_turn_13 : decode cX4_turn 13 = .ok (.tableswitch 111 0 13 #[71, 71, 71, 71, 71, 71, 71, 71, 71, 83, 95, 95, 95, 103], 71) := by decide +kernel
theorem dX4_turn_84 : decode cX4_turn 84 = .ok (.aload_n 0, 1) := by decide +kernel
theorem dX4_turn_85 : decode cX4_turn 85 = .ok (.iload_n 1, 1) := by decide +kernel
theorem dX4_turn_86 : decode cX4_turn 86 = .ok (.bipush 16, 2) := by decide +kernel
theorem dX4_turn_88 : decode cX4_turn 88 = .ok (.irem, 1) := by decide +kernel
theorem dX4_turn_89 : decode cX4_turn 89 = .ok (.iload_n 2, 1) := by decide +kernel
theorem dX4_turn_90 : decode cX4_turn 90 = .ok (.invokestatic 7, 3) := by decide +kernel
theorem dX4_turn_93 : decode cX4_turn 93 = .ok (.goto 47, 3) := by decide +kernel
theorem dX4_turn_96 : decode cX4_turn 96 = .ok (.aload_n 0, 1) := by decide +kernel
theorem dX4_turn_97 : decode cX4_turn 97 = .ok (.iload_n 2, 1) := by decide +kernel
theorem dX4_turn_98 : decode cX4_turn 98 = .ok (.bipush 16, 2) := by decide +kernel
theorem dX4_turn_100 : decode cX4_turn 100 = .ok (.irem, 1) := by decide +kernel
theorem dX4_turn_101 : decode cX4_turn 101 = .ok (.invokevirtual 13, 3) := by decide +kernel
theorem dX4_turn_104 : decode cX4_turn 104 = .ok (.pop, 1) := by decide +kernel
theorem dX4_turn_105 : decode cX4_turn 105 = .ok (.goto 35, 3) := by decide +kernel
theorem dX4_turn_108 : decode cX4_turn 108 = .ok (.aload_n 0, 1) := by decide +kernel
theorem dX4_turn_109 : decode cX4_turn 109 = .ok (.invokevirtual 19, 3) := by decide +kernel
theorem dX4_turn_112 : decode cX4_turn 112 = .ok (.pop, 1) := by decide +kernel
theorem dX4_turn_113 : decode cX4_turn 113 = .ok (.goto 27, 3) := by decide +kernel
theorem dX4_turn_116 : decode cX4_turn 116 = .ok (.aload_n 0, 1) := by decide +kernel
theorem dX4_turn_117 : decode cX4_turn 117 = .ok (.iload_n 2, 1) := by decide +kernel
theorem dX4_turn_118 : decode cX4_turn 118 = .ok (.invokestatic 23, 3) := by decide +kernel
theorem dX4_turn_121 : decode cX4_turn 121 = .ok (.goto 19, 3) := by decide +kernel
theorem dX4_turn_124 : decode cX4_turn 124 = .ok (.aload_n 0, 1) := by decide +kernel
theorem dX4_turn_125 : decode cX4_turn 125 = .ok (.iload_n 3, 1) := by decide +kernel
theorem dX4_turn_126 : decode cX4_turn 126 = .ok (.iconst 1, 1) := by decide +kernel
theorem dX4_turn_127 : decode cX4_turn 127 = .ok (.iload_n 2, 1) := by decide +kernel
theorem dX4_turn_128 : decode cX4_turn 128 = .ok (.bipush 32, 2) := by decide +kernel
theorem dX4_turn_130 : decode cX4_turn 130 = .ok (.idiv, 1) := by decide +kernel
theorem dX4_turn_131 : decode cX4_turn 131 = .ok (.sipush 999, 3) := by decide +kernel
theorem dX4_turn_134 : decode cX4_turn 134 = .ok (.irem, 1) := by decide +kernel
theorem dX4_turn_135 : decode cX4_turn 135 = .ok (.iadd, 1) := by decide +kernel
theorem dX4_turn_136 : decode cX4_turn 136 = .ok (.invokevirtual 27, 3) := by decide +kernel
theorem dX4_turn_139 : decode cX4_turn 139 = .ok (.pop, 1) := by decide +kernel
theorem dX4_turn_140 : decode cX4_turn 140 = .ok (.return_, 1) := by decide +kernel
theorem dX4_tell_0 : decode cX4_tell 0 = .ok (.iload_n 2, 1) := by decide +kernel
theorem dX4_tell_1 : decode cX4_tell 1 = .ok (.iconst 3, 1) := by decide +kernel
theorem dX4_tell_2 : decode cX4_tell 2 = .ok (.irem, 1) := by decide +kernel
theorem dX4_tell_3 : decode cX4_tell 3 = .ok (.istore_n 3, 1) := by decide +kernel
theorem dX4_tell_4 : decode cX4_tell 4 = .ok (.iload_n 2, 1) := by decide +kernel
theorem dX4_tell_5 : decode cX4_tell 5 = .ok (.iconst 4, 1) := by decide +kernel
theorem dX4_tell_6 : decode cX4_tell 6 = .ok (.idiv, 1) := by decide +kernel
theorem dX4_tell_7 : decode cX4_tell 7 = .ok (.bipush 6, 2) := by decide +kernel
theorem dX4_tell_9 : decode cX4_tell 9 = .ok (.irem, 1) := by decide +kernel
theorem dX4_tell_10 : decode cX4_tell 10 = .ok (.istore 4, 2) := by decide +kernel
theorem dX4_tell_12 : decode cX4_tell 12 = .ok (.iconst 1, 1) := by decide +kernel
theorem dX4_tell_13 : decode cX4_tell 13 = .ok (.iload_n 2, 1) := by decide +kernel
theorem dX4_tell_14 : decode cX4_tell 14 = .ok (.sipush 256, 3) := by decide +kernel
theorem dX4_tell_17 : decode cX4_tell 17 = .ok (.idiv, 1) := by decide +kernel
theorem dX4_tell_18 : decode cX4_tell 18 = .ok (.sipush 400, 3) := by decide +kernel
theorem dX4_tell_21 : decode cX4_tell 21 = .ok (.irem, 1) := by decide +kernel
theorem dX4_tell_22 : decode cX4_tell 22 = .ok (.iadd, 1) := by decide +kernel
theorem dX4_tell_23 : decode cX4_tell 23 = .ok (.istore 5, 2) := by decide +kernel
theorem dX4_tell_25 : decode cX4_tell 25 = .ok (.iload_n 2, 1) := by decide +kernel
theorem dX4_tell_26 : decode cX4_tell 26 = .ok (.bipush 8, 2) := by decide +kernel
theorem dX4_tell_28 : decode cX4_tell 28 = .ok (.idiv, 1) := by decide +kernel
theorem dX4_tell_29 : decode cX4_tell 29 = .ok (.bipush 21, 2) := by decide +kernel
theorem dX4_tell_31 : decode cX4_tell 31 = .ok (.irem, 1) := by decide +kernel
theorem dX4_tell_32 : decode cX4_tell 32 = .ok (.istore 6, 2) := by decide +kernel
theorem dX4_tell_34 : decode cX4_tell 34 = .ok (.iload_n 1, 1) := by decide +kernel
theorem dX4_tell_35 : decode cX4_tell 35 = .ok (.iconst 3, 1) := by decide +kernel
theorem dX4_tell_36 : decode cX4_tell 36 = .ok (.if_icmp .gt 38, 3) := by decide +kernel
theorem dX4_tell_39 : decode cX4_tell 39 = .ok (.aload_n 0, 1) := by decide +kernel
theorem dX4_tell_40 : decode cX4_tell 40 = .ok (.iload_n 3, 1) := by decide +kernel
theorem dX4_tell_41 : decode cX4_tell 41 = .ok (.iload 4, 2) := by decide +kernel
theorem dX4_tell_43 : decode cX4_tell 43 = .ok (.iconst 0, 1) := by decide +kernel
theorem dX4_tell_44 : decode cX4_tell 44 = .ok (.iconst 1, 1) := by decide +kernel
theorem dX4_tell_45 : decode cX4_tell 45 = .ok (.iload_n 2, 1) := by decide +kernel
theorem dX4_tell_46 : decode cX4_tell 46 = .ok (.bipush 32, 2) := by decide +kernel
theorem dX4_tell_48 : decode cX4_tell 48 = .ok (.idiv, 1) := by decide +kernel
theorem dX4_tell_49 : decode cX4_tell 49 = .ok (.bipush 20, 2) := by decide +kernel
theorem dX4_tell_51 : decode cX4_tell 51 = .ok (.irem, 1) := by decide +kernel
theorem dX4_tell_52 : decode cX4_tell 52 = .ok (.iadd, 1) := by decide +kernel
theorem dX4_tell_53 : decode cX4_tell 53 = .ok (.iconst 1, 1) := by decide +kernel
theorem dX4_tell_54 : decode cX4_tell 54 = .ok (.iload_n 2, 1) := by decide +kernel
theorem dX4_tell_55 : decode cX4_tell 55 = .ok (.sipush 640, 3) := by decide +kernel
theorem dX4_tell_58 : decode cX4_tell 58 = .ok (.idiv, 1) := by decide +kernel
theorem dX4_tell_59 : decode cX4_tell 59 = .ok (.bipush 40, 2) := by decide +kernel
theorem dX4_tell_61 : decode cX4_tell 61 = .ok (.irem, 1) := by decide +kernel
theorem dX4_tell_62 : decode cX4_tell 62 = .ok (.iadd, 1) := by decide +kernel
theorem dX4_tell_63 : decode cX4_tell 63 = .ok (.iload 5, 2) := by decide +kernel
theorem dX4_tell_65 : decode cX4_tell 65 = .ok (.iload 6, 2) := by decide +kernel
theorem dX4_tell_67 : decode cX4_tell 67 = .ok (.invokevirtual 31, 3) := by decide +kernel
theorem dX4_tell_70 : decode cX4_tell 70 = .ok (.pop, 1) := by decide +kernel
theorem dX4_tell_71 : decode cX4_tell 71 = .ok (.goto 79, 3) := by decide +kernel
theorem dX4_tell_74 : decode cX4_tell 74 = .ok (.iload_n 1, 1) := by decide +kernel
theorem dX4_tell_75 : decode cX4_tell 75 = .ok (.iconst 5, 1) := by decide +kernel
theorem dX4_tell_76 : decode cX4_tell 76 = .ok (.if_icmp .gt 38, 3) := by decide +kernel
theorem dX4_tell_79 : decode cX4_tell 79 = .ok (.aload_n 0, 1) := by decide +kernel
theorem dX4_tell_80 : decode cX4_tell 80 = .ok (.iload_n 3, 1) := by decide +kernel
theorem dX4_tell_81 : decode cX4_tell 81 = .ok (.iload 4, 2) := by decide +kernel
theorem dX4_tell_83 : decode cX4_tell 83 = .ok (.iconst 1, 1) := by decide +kernel
theorem dX4_tell_84 : decode cX4_tell 84 = .ok (.iconst 1, 1) := by decide +kernel
theorem dX4_tell_85 : decode cX4_tell 85 = .ok (.iload_n 2, 1) := by decide +kernel
theorem dX4_tell_86 : decode cX4_tell 86 = .ok (.bipush 32, 2) := by decide +kernel
theorem dX4_tell_88 : decode cX4_tell 88 = .ok (.idiv, 1) := by decide +kernel
theorem dX4_tell_89 : decode cX4_tell 89 = .ok (.bipush 9, 2) := by decide +kernel
theorem dX4_tell_91 : decode cX4_tell 91 = .ok (.irem, 1) := by decide +kernel
theorem dX4_tell_92 : decode cX4_tell 92 = .ok (.iadd, 1) := by decide +kernel
theorem dX4_tell_93 : decode cX4_tell 93 = .ok (.iconst 1, 1) := by decide +kernel
theorem dX4_tell_94 : decode cX4_tell 94 = .ok (.iload_n 2, 1) := by decide +kernel
theorem dX4_tell_95 : decode cX4_tell 95 = .ok (.sipush 288, 3) := by decide +kernel
theorem dX4_tell_98 : decode cX4_tell 98 = .ok (.idiv, 1) := by decide +kernel
theorem dX4_tell_99 : decode cX4_tell 99 = .ok (.bipush 60, 2) := by decide +kernel
theorem dX4_tell_101 : decode cX4_tell 101 = .ok (.irem, 1) := by decide +kernel
theorem dX4_tell_102 : decode cX4_tell 102 = .ok (.iadd, 1) := by decide +kernel
theorem dX4_tell_103 : decode cX4_tell 103 = .ok (.iload 5, 2) := by decide +kernel
theorem dX4_tell_105 : decode cX4_tell 105 = .ok (.iload 6, 2) := by decide +kernel
theorem dX4_tell_107 : decode cX4_tell 107 = .ok (.invokevirtual 31, 3) := by decide +kernel
theorem dX4_tell_110 : decode cX4_tell 110 = .ok (.pop, 1) := by decide +kernel
theorem dX4_tell_111 : decode cX4_tell 111 = .ok (.goto 39, 3) := by decide +kernel
theorem dX4_tell_114 : decode cX4_tell 114 = .ok (.iconst 1, 1) := by decide +kernel
theorem dX4_tell_115 : decode cX4_tell 115 = .ok (.iload_n 2, 1) := by decide +kernel
theorem dX4_tell_116 : decode cX4_tell 116 = .ok (.bipush 32, 2) := by decide +kernel
theorem dX4_tell_118 : decode cX4_tell 118 = .ok (.idiv, 1) := by decide +kernel
theorem dX4_tell_119 : decode cX4_tell 119 = .ok (.sipush 900, 3) := by decide +kernel
theorem dX4_tell_122 : decode cX4_tell 122 = .ok (.irem, 1) := by decide +kernel
theorem dX4_tell_123 : decode cX4_tell 123 = .ok (.iadd, 1) := by decide +kernel
theorem dX4_tell_124 : decode cX4_tell 124 = .ok (.istore 7, 2) := by decide +kernel
theorem dX4_tell_126 : decode cX4_tell 126 = .ok (.aload_n 0, 1) := by decide +kernel
theorem dX4_tell_127 : decode cX4_tell 127 = .ok (.iload_n 3, 1) := by decide +kernel
theorem dX4_tell_128 : decode cX4_tell 128 = .ok (.iload 4, 2) := by decide +kernel
theorem dX4_tell_130 : decode cX4_tell 130 = .ok (.iconst 2, 1) := by decide +kernel
theorem dX4_tell_131 : decode cX4_tell 131 = .ok (.iload 7, 2) := by decide +kernel
theorem dX4_tell_133 : decode cX4_tell 133 = .ok (.iload 7, 2) := by decide +kernel
theorem dX4_tell_135 : decode cX4_tell 135 = .ok (.iload_n 2, 1) := by decide +kernel
theorem dX4_tell_136 : decode cX4_tell 136 = .ok (.sipush 256, 3) := by decide +kernel
theorem dX4_tell_139 : decode cX4_tell 139 = .ok (.idiv, 1) := by decide +kernel
theorem dX4_tell_140 : decode cX4_tell 140 = .ok (.bipush 90, 2) := by decide +kernel
theorem dX4_tell_142 : decode cX4_tell 142 = .ok (.irem, 1) := by decide +kernel
theorem dX4_tell_143 : decode cX4_tell 143 = .ok (.iadd, 1) := by decide +kernel
theorem dX4_tell_144 : decode cX4_tell 144 = .ok (.iconst 0, 1) := by decide +kernel
theorem dX4_tell_145 : decode cX4_tell 145 = .ok (.iconst 0, 1) := by decide +kernel
theorem dX4_tell_146 : decode cX4_tell 146 = .ok (.invokevirtual 31, 3) := by decide +kernel
theorem dX4_tell_149 : decode cX4_tell 149 = .ok (.pop, 1) := by decide +kernel
theorem dX4_tell_150 : decode cX4_tell 150 = .ok (.return_, 1) := by decide +kernel
theorem dX4_changeSetting_0 : decode cX4_changeSetting 0 = .ok (.iload_n 1, 1) := by decide +kernel
theorem dX4_changeSetting_1 : decode cX4_changeSetting 1 = .ok (.bipush 8, 2) := by decide +kernel
theorem dX4_changeSetting_3 : decode cX4_changeSetting 3 = .ok (.idiv, 1) := by decide +kernel
theorem dX4_changeSetting_4 : decode cX4_changeSetting 4 = .ok (.iconst 2, 1) := by decide +kernel
theorem dX4_changeSetting_5 : decode cX4_changeSetting 5 = .ok (.irem, 1) := by decide +kernel
theorem dX4_changeSetting_6 : decode cX4_changeSetting 6 = .ok (.ifCond .ne 16, 3) := by decide +kernel
theorem dX4_changeSetting_9 : decode cX4_changeSetting 9 = .ok (.aload_n 0, 1) := by decide +kernel
theorem dX4_changeSetting_10 : decode cX4_changeSetting 10 = .ok (.iconst 0, 1) := by decide +kernel
theorem dX4_changeSetting_11 : decode cX4_changeSetting 11 = .ok (.iload_n 1, 1) := by decide +kernel
theorem dX4_changeSetting_12 : decode cX4_changeSetting 12 = .ok (.bipush 6, 2) := by decide +kernel
theorem dX4_changeSetting_14 : decode cX4_changeSetting 14 = .ok (.irem, 1) := by decide +kernel
theorem dX4_changeSetting_15 : decode cX4_changeSetting 15 = .ok (.invokevirtual 35, 3) := by decide +kernel
theorem dX4_changeSetting_18 : decode cX4_changeSetting 18 = .ok (.pop, 1) := by decide +kernel
theorem dX4_changeSetting_19 : decode cX4_changeSetting 19 = .ok (.goto 16, 3) := by decide +kernel
theorem dX4_changeSetting_22 : decode cX4_changeSetting 22 = .ok (.aload_n 0, 1) := by decide +kernel
theorem dX4_changeSetting_23 : decode cX4_changeSetting 23 = .ok (.iconst 1, 1) := by decide +kernel
theorem dX4_changeSetting_24 : decode cX4_changeSetting 24 = .ok (.iload_n 1, 1) := by decide +kernel
theorem dX4_changeSetting_25 : decode cX4_changeSetting 25 = .ok (.bipush 16, 2) := by decide +kernel
theorem dX4_changeSetting_27 : decode cX4_changeSetting 27 = .ok (.idiv, 1) := by decide +kernel
theorem dX4_changeSetting_28 : decode cX4_changeSetting 28 = .ok (.bipush 51, 2) := by decide +kernel
theorem dX4_changeSetting_30 : decode cX4_changeSetting 30 = .ok (.irem, 1) := by decide +kernel
theorem dX4_changeSetting_31 : decode cX4_changeSetting 31 = .ok (.invokevirtual 35, 3) := by decide +kernel
theorem dX4_changeSetting_34 : decode cX4_changeSetting 34 = .ok (.pop, 1) := by decide +kernel
theorem dX4_changeSetting_35 : decode cX4_changeSetting 35 = .ok (.return_, 1) := by decide +kernel
theorem dX5_init_0 : decode cX5_init 0 = .ok (.aload_n 0, 1) := by decide +kernel
theorem dX5_init_1 : decode cX5_init 1 = .ok (.invokespecial 3, 3) := by decide +kernel
theorem dX5_init_4 : decode cX5_init 4 = .ok (.aload_n 0, 1) := by decide +kernel
theorem dX5_init_5 : decode cX5_init 5 = .ok (.bipush 120, 2) := by decide +kernel
theorem dX5_init_7 : decode cX5_init 7 = .ok (.newarray .int, 2) := by decide +kernel
theorem dX5_init_9 : decode cX5_init 9 = .ok (.putfield 11, 3) := by decide +kernel
theorem dX5_init_12 : decode cX5_init 12 = .ok (.aload_n 0, 1) := by decide +kernel
theorem dX5_init_13 : decode cX5_init 13 = .ok (.bipush 6, 2) := by decide +kernel
theorem dX5_init_15 : decode cX5_init 15 = .ok (.newarray .int, 2) := by decide +kernel
theorem dX5_init_17 : decode cX5_init 17 = .ok (.putfield 15, 3) := by decide +kernel
theorem dX5_init_20 : decode cX5_init 20 = .ok (.return_, 1) := by decide +kernel
theorem dX5_isFull_0 : decode cX5_isFull 0 = .ok (.aload_n 0, 1) := by decide +kernel
theorem dX5_isFull_1 : decode cX5_isFull 1 = .ok (.getfield 18, 3) := by decide +kernel
theorem dX5_isFull_4 : decode cX5_isFull 4 = .ok (.bipush 120, 2) := by decide +kernel
theorem dX5_isFull_6 : decode cX5_isFull 6 = .ok (.if_icmp .lt 7, 3) := by decide +kernel
theorem dX5_isFull_9 : decode cX5_isFull 9 = .ok (.iconst 1, 1) := by decide +kernel
theorem dX5_isFull_10 : decode cX5_isFull 10 = .ok (.goto 4, 3) := by decide +kernel
theorem dX5_isFull_13 : decode cX5_isFull 13 = .ok (.iconst 0, 1) := by decide +kernel
theorem dX5_isFull_14 : decode cX5_isFull 14 = .ok (.ireturn, 1) := by decide +kernel
theorem dX5_add_0 : decode cX5_add 0 = .ok (.aload_n 0, 1) := by decide +kernel
theorem dX5_add_1 : decode cX5_add 1 = .ok (.getfield 11, 3) := by decide +kernel
theorem dX5_add_4 : decode cX5_add 4 = .ok (.aload_n 0, 1) := by decide +kernel
theorem dX5_add_5 : decode cX5_add 5 = .ok (.getfield 18, 3) := by decide +kernel
theorem dX5_add_8 : decode cX5_add 8 = .ok (.iload_n 1, 1) := by decide +kernel
theorem dX5_add_9 : decode cX5_add 9 = .ok (.iastore, 1) := by decide +kernel
theorem dX5_add_10 : decode cX5_add 10 = .ok (.aload_n 0, 1) := by decide +kernel
theorem dX5_add_11 : decode cX5_add 11 = .ok (.dup, 1) := by decide +kernel
theorem dX5_add_12 : decode cX5_add 12 = .ok (.getfield 18, 3) := by decide +kernel
theorem dX5_add_15 : decode cX5_add 15 = .ok (.iconst 1, 1) := by decide +kernel
theorem dX5_add_16 : decode cX5_add 16 = .ok (.iadd, 1) := by decide +kernel
theorem dX5_add_17 : decode cX5_add 17 = .ok (.putfield 18, 3) := by decide +kernel
theorem dX5_add_20 : decode cX5_add 20 = .ok (.aload_n 0, 1) := by decide +kernel
theorem dX5_add_21 : decode cX5_add 21 = .ok (.getfield 18, 3) := by decide +kernel
theorem dX5_add_24 : decode cX5_add 24 = .ok (.ireturn, 1) := by decide +kernel
theorem dX5_empty_0 : decode cX5_empty 0 = .ok (.aload_n 0, 1) := by decide +kernel
theorem dX5_empty_1 : decode cX5_empty 1 = .ok (.getfield 18, 3) := by decide +kernel
theorem dX5_empty_4 : decode cX5_empty 4 = .ok (.istore_n 1, 1) := by decide +kernel
theorem dX5_empty_5 : decode cX5_empty 5 = .ok (.aload_n 0, 1) := by decide +kernel
theorem dX5_empty_6 : decode cX5_empty 6 = .ok (.iconst 0, 1) := by decide +kernel
theorem dX5_empty_7 : decode cX5_empty 7 = .ok (.putfield 18, 3) := by decide +kernel
theorem dX5_empty_10 : decode cX5_empty 10 = .ok (.iload_n 1, 1) := by decide +kernel
theorem dX5_empty_11 : decode cX5_empty 11 = .ok (.ireturn, 1) := by decide +kernel
theorem dX5_command_0 : decode cX5_command 0 = .ok (.aload_n 0, 1) := by decide +kernel
theorem dX5_command_1 : decode cX5_command 1 = .ok (.getfield 22, 3) := by decide +kernel
theorem dX5_command_4 : decode cX5_command 4 = .ok (.ireturn, 1) := by decide +kernel
theorem dX5_number_0 : decode cX5_number 0 = .ok (.aload_n 0, 1) := by decide +kernel
theorem dX5_number_1 : decode cX5_number 1 = .ok (.getfield 15, 3) := by decide +kernel
theorem dX5_number_4 : decode cX5_number 4 = .ok (.iload_n 1, 1) := by decide +kernel
theorem dX5_number_5 : decode cX5_number 5 = .ok (.iaload, 1) := by decide +kernel
theorem dX5_number_6 : decode cX5_number 6 = .ok (.ireturn, 1) := by decide +kernel
theorem dX5_findError_0 : decode cX5_findError 0 = .ok (.aload_n 0, 1) := by decide +kernel
theorem dX5_findError_1 : decode cX5_findError 1 = .ok (.invokevirtual 25, 3) := by decide +kernel
theorem dX5_findError_4 : decode cX5_findError 4 = .ok (.ifCond .ne 8, 3) := by decide +kernel
theorem dX5_findError_7 : decode cX5_findError 7 = .ok (.aload_n 0, 1) := by decide +kernel
theorem dX5_findError_8 : decode cX5_findError 8 = .ok (.getfield 29, 3) := by decide +kernel
theorem dX5_findError_11 : decode cX5_findError 11 = .ok (.ireturn, 1) := by decide +kernel
theorem dX5_findError_12 : decode cX5_findError 12 = .ok (.iconst 0, 1) := by decide +kernel
theorem dX5_findError_13 : decode cX5_findError 13 = .ok (.istore_n 1, 1) := by decide +kernel
theorem dX5_findError_14 : decode cX5_findError 14 = .ok (.iload_n 1, 1) := by decide +kernel
theorem dX5_findError_15 : decode cX5_findError 15 = .ok (.bipush 120, 2) := by decide +kernel
theorem dX5_findError_17 : decode cX5_findError 17 = .ok (.if_icmp .ge 32, 3) := by decide +kernel
theorem dX5_findError_20 : decode cX5_findError 20 = .ok (.aload_n 0, 1) := by decide +kernel
theorem dX5_findError_21 : decode cX5_findError 21 = .ok (.getfield 29, 3) := by decide +kernel
theorem dX5_findError_24 : decode cX5_findError 24 = .ok (.aload_n 0, 1) := by decide +kernel
theorem dX5_findError_25 : decode cX5_findError 25 = .ok (.getfield 18, 3) := by decide +kernel
theorem dX5_findError_28 : decode cX5_findError 28 = .ok (.if_icmp .ge 21, 3) := by decide +kernel
theorem dX5_findError_31 : decode cX5_findError 31 = .ok (.aload_n 0, 1) := by decide +kernel
theorem dX5_findError_32 : decode cX5_findError 32 = .ok (.invokevirtual 32, 3) := by decide +kernel
theorem dX5_findError_35 : decode cX5_findError 35 = .ok (.ifCond .ne 8, 3) := by decide +kernel
theorem dX5_findError_38 : decode cX5_findError 38 = .ok (.aload_n 0, 1) := by decide +kernel
theorem dX5_findError_39 : decode cX5_findError 39 = .ok (.getfield 29, 3) := by decide +kernel
theorem dX5_findError_42 : decode cX5_findError 42 = .ok (.ireturn, 1) := by decide +kernel
theorem dX5_findError_43 : decode cX5_findError 43 = .ok (.iinc 1 1, 3) := by decide +kernel
theorem dX5_findError_46 : decode cX5_findError 46 = .ok (.goto (-32), 3) := by decide +kernel
theorem dX5_findError_49 : decode cX5_findError 49 = .ok (.iconst (-1), 1) := by decide +kernel
theorem dX5_findError_50 : decode cX5_findError 50 = .ok (.ireturn, 1) := by decide +kernel
theorem dX5_readHead_0 : decode cX5_readHead 0 = .ok (.aload_n 0, 1) := by decide +kernel
theorem dX5_readHead_1 : decode cX5_readHead 1 = .ok (.iconst 0, 1) := by decide +kernel
theorem dX5_readHead_2 : decode cX5_readHead 2 = .ok (.putfield 29, 3) := by decide +kernel
theorem dX5_readHead_5 : decode cX5_readHead 5 = .ok (.aload_n 0, 1) := by decide +kernel
theorem dX5_readHead_6 : decode cX5_readHead 6 = .ok (.invokevirtual 35, 3) := by decide +kernel
theorem dX5_readHead_9 : decode cX5_readHead 9 = .ok (.bipush 80, 2) := by decide +kernel
theorem dX5_readHead_11 : decode cX5_readHead 11 = .ok (.if_icmp .eq 5, 3) := by decide +kernel
theorem dX5_readHead_14 : decode cX5_readHead 14 = .ok (.iconst 0, 1) := by decide +kernel
theorem dX5_readHead_15 : decode cX5_readHead 15 = .ok (.ireturn, 1) := by decide +kernel
theorem dX5_readHead_16 : decode cX5_readHead 16 = .ok (.aload_n 0, 1) := by decide +kernel
theorem dX5_readHead_17 : decode cX5_readHead 17 = .ok (.iconst 1, 1) := by decide +kernel
theorem dX5_readHead_18 : decode cX5_readHead 18 = .ok (.putfield 29, 3) := by decide +kernel
theorem dX5_readHead_21 : decode cX5_readHead 21 = .ok (.iconst 1, 1) := by decide +kernel
theorem dX5_readHead_22 : decode cX5_readHead 22 = .ok (.ireturn, 1) := by decide +kernel
theorem dX5_readCommand_0 : decode cX5_readCommand 0 = .ok (.aload_n 0, 1) := by decide +kernel
theorem dX5_readCommand_1 : decode cX5_readCommand 1 = .ok (.aload_n 0, 1) := by decide +kernel
theorem dX5_readCommand_2 : decode cX5_readCommand 2 = .ok (.invokevirtual 35, 3) := by decide +kernel
theorem dX5_readCommand_5 : decode cX5_readCommand 5 = .ok (.putfield 22, 3) := by decide +kernel
theorem dX5_readCommand_8 : decode cX5_readCommand 8 = .ok (.aload_n 0, 1) := by decide +kernel
theorem dX5_readCommand_9 : decode cX5_readCommand 9 = .ok (.getfield 22, 3) := by decide +kernel
theorem dX5_readCommand_12 : decode cX5_readCommand 12 = .ok (.tableswitch 152 100 119 #[120, 152, 152, 152, 152, 152, 152, 152, 152, 152, 152, 104, 152, 136, 152, 96, 128, 152, 144, 112], 96) := by decide +kernel
theorem dX5_readCommand_108 : decode cX5_readCommand 108 = .ok (.aload_n 0, 1) := by decide +kernel
theorem dX5_readCommand_109 : decode cX5_readCommand 109 = .ok (.getstatic 39, 3) := by decide +kernel
theorem dX5_readCommand_112 : decode cX5_readCommand 112 = .ok (.invokevirtual 42, 3) := by decide +kernel
theorem dX5_readCommand_115 : decode cX5_readCommand 115 = .ok (.ireturn, 1) := by decide +kernel
theorem dX5_readCommand_116 : decode cX5_readCommand 116 = .ok (.aload_n 0, 1) := by decide +kernel
theorem dX5_readCommand_117 : decode cX5_readCommand 117 = .ok (.getstatic 46, 3) := by decide +kernel
theorem dX5_readCommand_120 : decode cX5_readCommand 120 = .ok (.invokevirtual 42, 3) := by decide +kernel
theorem dX5_readCommand_123 : decode cX5_readCommand 123 = .ok (.ireturn, 1) := by decide +kernel
theorem dX5_readCommand_124 : decode cX5_readCommand 124 = .ok (.aload_n 0, 1) := by decide +kernel
theorem dX5_readCommand_125 : decode cX5_readCommand 125 = .ok (.getstatic 49, 3) := by decide +kernel
theorem dX5_readCommand_128 : decode cX5_readCommand 128 = .ok (.invokevirtual 42, 3) := by decide +kernel
theorem dX5_readCommand_131 : decode cX5_readCommand 131 = .ok (.ireturn, 1) := by decide +kernel
theorem dX5_readCommand_132 : decode cX5_readCommand 132 = .ok (.aload_n 0, 1) := by decide +kernel
theorem dX5_readCommand_133 : decode cX5_readCommand 133 = .ok (.getstatic 52, 3) := by decide +kernel
theorem dX5_readCommand_136 : decode cX5_readCommand 136 = .ok (.invokevirtual 42, 3) := by decide +kernel
theorem dX5_readCommand_139 : decode cX5_readCommand 139 = .ok (.ireturn, 1) := by decide +kernel
theorem dX5_readCommand_140 : decode cX5_readCommand 140 = .ok (.aload_n 0, 1) := by decide +kernel
theorem dX5_readCommand_141 : decode cX5_readCommand 141 = .ok (.getstatic 55, 3) := by decide +kernel
theorem dX5_readCommand_144 : decode cX5_readCommand 144 = .ok (.invokevirtual 42, 3) := by decide +kernel
theorem dX5_readCommand_147 : decode cX5_readCommand 147 = .ok (.ireturn, 1) := by decide +kernel
theorem dX5_readCommand_148 : decode cX5_readCommand 148 = .ok (.aload_n 0, 1) := by decide +kernel
theorem dX5_readCommand_149 : decode cX5_readCommand 149 = .ok (.getstatic 58, 3) := by decide +kernel
theorem dX5_readCommand_152 : decode cX5_readCommand 152 = .ok (.invokevirtual 42, 3) := by decide +kernel
theorem dX5_readCommand_155 : decode cX5_readCommand 155 = .ok (.ireturn, 1) := by decide +kernel
theorem dX5_readCommand_156 : decode cX5_readCommand 156 = .ok (.aload_n 0, 1) := by decide +kernel
theorem dX5_readCommand_157 : decode cX5_readCommand 157 = .ok (.getstatic 61, 3) := by decide +kernel
theorem dX5_readCommand_160 : decode cX5_readCommand 160 = .ok (.invokevirtual 42, 3) := by decide +kernel
theorem dX5_readCommand_163 : decode cX5_readCommand 163 = .ok (.ireturn, 1) := by decide +kernel
theorem dX5_readCommand_164 : decode cX5_readCommand 164 = .ok (.iconst 0, 1) := by decide +kernel
theorem dX5_readCommand_165 : decode cX5_readCommand 165 = .ok (.ireturn, 1) := by decide +kernel
theorem dX5_signHere_0 : decode cX5_signHere 0 = .ok (.aload_n 0, 1) := by decide +kernel
theorem dX5_signHere_1 : decode cX5_signHere 1 = .ok (.getfield 29, 3) := by decide +kernel
theorem dX5_signHere_4 : decode cX5_signHere 4 = .ok (.aload_n 0, 1) := by decide +kernel
theorem dX5_signHere_5 : decode cX5_signHere 5 = .ok (.getfield 18, 3) := by decide +kernel
theorem dX5_signHere_8 : decode cX5_signHere 8 = .ok (.if_icmp .ge 15, 3) := by decide +kernel
theorem dX5_signHere_11 : decode cX5_signHere 11 = .ok (.aload_n 0, 1) := by decide +kernel
theorem dX5_signHere_12 : decode cX5_signHere 12 = .ok (.getfield 11, 3) := by decide +kernel
theorem dX5_signHere_15 : decode cX5_signHere 15 = .ok (.aload_n 0, 1) := by decide +kernel
theorem dX5_signHere_16 : decode cX5_signHere 16 = .ok (.getfield 29, 3) := by decide +kernel
theorem dX5_signHere_19 : decode cX5_signHere 19 = .ok (.iaload, 1) := by decide +kernel
theorem dX5_signHere_20 : decode cX5_signHere 20 = .ok (.goto 4, 3) := by decide +kernel
theorem dX5_signHere_23 : decode cX5_signHere 23 = .ok (.iconst (-1), 1) := by decide +kernel
theorem dX5_signHere_24 : decode cX5_signHere 24 = .ok (.ireturn, 1) := by decide +kernel
theorem dX5_readNumbers_0 : decode cX5_readNumbers 0 = .ok (.aload_n 0, 1) := by decide +kernel
theorem dX5_readNumbers_1 : decode cX5_readNumbers 1 = .ok (.dup, 1) := by decide +kernel
theorem dX5_readNumbers_2 : decode cX5_readNumbers 2 = .ok (.getfield 29, 3) := by decide +kernel
theorem dX5_readNumbers_5 : decode cX5_readNumbers 5 = .ok (.iconst 1, 1) := by decide +kernel
theorem dX5_readNumbers_6 : decode cX5_readNumbers 6 = .ok (.iadd, 1) := by decide +kernel
theorem dX5_readNumbers_7 : decode cX5_readNumbers 7 = .ok (.putfield 29, 3) := by decide +kernel
theorem dX5_readNumbers_10 : decode cX5_readNumbers 10 = .ok (.iconst 0, 1) := by decide +kernel
theorem dX5_readNumbers_11 : decode cX5_readNumbers 11 = .ok (.istore_n 2, 1) := by decide +kernel
theorem dX5_readNumbers_12 : decode cX5_readNumbers 12 = .ok (.iload_n 2, 1) := by decide +kernel
theorem dX5_readNumbers_13 : decode cX5_readNumbers 13 = .ok (.bipush 6, 2) := by decide +kernel
theorem dX5_readNumbers_15 : decode cX5_readNumbers 15 = .ok (.if_icmp .ge 60, 3) := by decide +kernel
theorem dX5_readNumbers_18 : decode cX5_readNumbers 18 = .ok (.iconst 3, 1) := by decide +kernel
theorem dX5_readNumbers_19 : decode cX5_readNumbers 19 = .ok (.iload_n 2, 1) := by decide +kernel
theorem dX5_readNumbers_20 : decode cX5_readNumbers 20 = .ok (.imul, 1) := by decide +kernel
theorem dX5_readNumbers_21 : decode cX5_readNumbers 21 = .ok (.iconst 2, 1) := by decide +kernel
theorem dX5_readNumbers_22 : decode cX5_readNumbers 22 = .ok (.iadd, 1) := by decide +kernel
theorem dX5_readNumbers_23 : decode cX5_readNumbers 23 = .ok (.aload_n 1, 1) := by decide +kernel
theorem dX5_readNumbers_24 : decode cX5_readNumbers 24 = .ok (.arraylength, 1) := by decide +kernel
theorem dX5_readNumbers_25 : decode cX5_readNumbers 25 = .ok (.if_icmp .ge 50, 3) := by decide +kernel
theorem dX5_readNumbers_28 : decode cX5_readNumbers 28 = .ok (.aload_n 0, 1) := by decide +kernel
theorem dX5_readNumbers_29 : decode cX5_readNumbers 29 = .ok (.getfield 15, 3) := by decide +kernel
theorem dX5_readNumbers_32 : decode cX5_readNumbers 32 = .ok (.iload_n 2, 1) := by decide +kernel
theorem dX5_readNumbers_33 : decode cX5_readNumbers 33 = .ok (.aload_n 0, 1) := by decide +kernel
theorem dX5_readNumbers_34 : decode cX5_readNumbers 34 = .ok (.aload_n 1, 1) := by decide +kernel
theorem dX5_readNumbers_35 : decode cX5_readNumbers 35 = .ok (.iconst 3, 1) := by decide +kernel
theorem dX5_readNumbers_36 : decode cX5_readNumbers 36 = .ok (.iload_n 2, 1) := by decide +kernel
theorem dX5_readNumbers_37 : decode cX5_readNumbers 37 = .ok (.imul, 1) := by decide +kernel
theorem dX5_readNumbers_38 : decode cX5_readNumbers 38 = .ok (.iaload, 1) := by decide +kernel
theorem dX5_readNumbers_39 : decode cX5_readNumbers 39 = .ok (.aload_n 1, 1) := by decide +kernel
theorem dX5_readNumbers_40 : decode cX5_readNumbers 40 = .ok (.iconst 3, 1) := by decide +kernel
theorem dX5_readNumbers_41 : decode cX5_readNumbers 41 = .ok (.iload_n 2, 1) := by decide +kernel
theorem dX5_readNumbers_42 : decode cX5_readNumbers 42 = .ok (.imul, 1) := by decide +kernel
theorem dX5_readNumbers_43 : decode cX5_readNumbers 43 = .ok (.iconst 1, 1) := by decide +kernel
theorem dX5_readNumbers_44 : decode cX5_readNumbers 44 = .ok (.iadd, 1) := by decide +kernel
theorem dX5_readNumbers_45 : decode cX5_readNumbers 45 = .ok (.iaload, 1) := by decide +kernel
theorem dX5_readNumbers_46 : decode cX5_readNumbers 46 = .ok (.aload_n 1, 1) := by decide +kernel
theorem dX5_readNumbers_47 : decode cX5_readNumbers 47 = .ok (.iconst 3, 1) := by decide +kernel
theorem dX5_readNumbers_48 : decode cX5_readNumbers 48 = .ok (.iload_n 2, 1) := by decide +kernel
theorem dX5_readNumbers_49 : decode cX5_readNumbers 49 = .ok (.imul, 1) := by decide +kernel
theorem dX5_readNumbers_50 : decode cX5_readNumbers 50 = .ok (.iconst 2, 1) := by decide +kernel
theorem dX5_readNumbers_51 : decode cX5_readNumbers 51 = .ok (.iadd, 1) := by decide +kernel
theorem dX5_readNumbers_52 : decode cX5_readNumbers 52 = .ok (.iaload, 1) := by decide +kernel
theorem dX5_readNumbers_53 : decode cX5_readNumbers 53 = .ok (.invokevirtual 64, 3) := by decide +kernel
theorem dX5_readNumbers_56 : decode cX5_readNumbers 56 = .ok (.iastore, 1) := by decide +kernel
theorem dX5_readNumbers_57 : decode cX5_readNumbers 57 = .ok (.aload_n 0, 1) := by decide +kernel
theorem dX5_readNumbers_58 : decode cX5_readNumbers 58 = .ok (.getfield 15, 3) := by decide +kernel
theorem dX5_readNumbers_61 : decode cX5_readNumbers 61 = .ok (.iload_n 2, 1) := by decide +kernel
theorem dX5_readNumbers_62 : decode cX5_readNumbers 62 = .ok (.iaload, 1) := by decide +kernel
theorem dX5_readNumbers_63 : decode cX5_readNumbers 63 = .ok (.iconst (-1), 1) := by decide +kernel
theorem dX5_readNumbers_64 : decode cX5_readNumbers 64 = .ok (.if_icmp .ne 5, 3) := by decide +kernel
theorem dX5_readNumbers_67 : decode cX5_readNumbers 67 = .ok (.iconst 0, 1) := by decide +kernel
theorem dX5_readNumbers_68 : decode cX5_readNumbers 68 = .ok (.ireturn, 1) := by decide +kernel
theorem dX5_readNumbers_69 : decode cX5_readNumbers 69 = .ok (.iinc 2 1, 3) := by decide +kernel
theorem dX5_readNumbers_72 : decode cX5_readNumbers 72 = .ok (.goto (-60), 3) := by decide +kernel
theorem dX5_readNumbers_75 : decode cX5_readNumbers 75 = .ok (.iconst 1, 1) := by decide +kernel
theorem dX5_readNumbers_76 : decode cX5_readNumbers 76 = .ok (.ireturn, 1) := by decide +kernel
theorem dX5_readNumber_0 : decode cX5_readNumber 0 = .ok (.iconst 0, 1) := by decide +kernel
theorem dX5_readNumber_1 : decode cX5_readNumber 1 = .ok (.istore 4, 2) := by decide +kernel
theorem dX5_readNumber_3 : decode cX5_readNumber 3 = .ok (.iload_n 1, 1) := by decide +kernel
theorem dX5_readNumber_4 : decode cX5_readNumber 4 = .ok (.iconst 1, 1) := by decide +kernel
theorem dX5_readNumber_5 : decode cX5_readNumber 5 = .ok (.isub, 1) := by decide +kernel
theorem dX5_readNumber_6 : decode cX5_readNumber 6 = .ok (.istore 5, 2) := by decide +kernel
theorem dX5_readNumber_8 : decode cX5_readNumber 8 = .ok (.iload 5, 2) := by decide +kernel
theorem dX5_readNumber_10 : decode cX5_readNumber 10 = .ok (.ifCond .lt 75, 3) := by decide +kernel
theorem dX5_readNumber_13 : decode cX5_readNumber 13 = .ok (.aload_n 0, 1) := by decide +kernel
theorem dX5_readNumber_14 : decode cX5_readNumber 14 = .ok (.invokevirtual 35, 3) := by decide +kernel
theorem dX5_readNumber_17 : decode cX5_readNumber 17 = .ok (.istore 6, 2) := by decide +kernel
theorem dX5_readNumber_19 : decode cX5_readNumber 19 = .ok (.iload 6, 2) := by decide +kernel
theorem dX5_readNumber_21 : decode cX5_readNumber 21 = .ok (.bipush 48, 2) := by decide +kernel
theorem dX5_readNumber_23 : decode cX5_readNumber 23 = .ok (.if_icmp .lt 31, 3) := by decide +kernel
theorem dX5_readNumber_26 : decode cX5_readNumber 26 = .ok (.iload 6, 2) := by decide +kernel
theorem dX5_readNumber_28 : decode cX5_readNumber 28 = .ok (.bipush 57, 2) := by decide +kernel
theorem dX5_readNumber_30 : decode cX5_readNumber 30 = .ok (.if_icmp .gt 24, 3) := by decide +kernel
theorem dX5_readNumber_33 : decode cX5_readNumber 33 = .ok (.bipush 10, 2) := by decide +kernel
theorem dX5_readNumber_35 : decode cX5_readNumber 35 = .ok (.iload 4, 2) := by decide +kernel
theorem dX5_readNumber_37 : decode cX5_readNumber 37 = .ok (.imul, 1) := by decide +kernel
theorem dX5_readNumber_38 : decode cX5_readNumber 38 = .ok (.iload 6, 2) := by decide +kernel
theorem dX5_readNumber_40 : decode cX5_readNumber 40 = .ok (.iadd, 1) := by decide +kernel
theorem dX5_readNumber_41 : decode cX5_readNumber 41 = .ok (.bipush 48, 2) := by decide +kernel
theorem dX5_readNumber_43 : decode cX5_readNumber 43 = .ok (.isub, 1) := by decide +kernel
theorem dX5_readNumber_44 : decode cX5_readNumber 44 = .ok (.iload 5, 2) := by decide +kernel
theorem dX5_readNumber_46 : decode cX5_readNumber 46 = .ok (.iload_n 2, 1) := by decide +kernel
theorem dX5_readNumber_47 : decode cX5_readNumber 47 = .ok (.iload_n 3, 1) := by decide +kernel
theorem dX5_readNumber_48 : decode cX5_readNumber 48 = .ok (.invokestatic 68, 3) := by decide +kernel
theorem dX5_readNumber_51 : decode cX5_readNumber 51 = .ok (.ifCond .ne 5, 3) := by decide +kernel
theorem dX5_readNumber_54 : decode cX5_readNumber 54 = .ok (.iconst (-1), 1) := by decide +kernel
theorem dX5_readNumber_55 : decode cX5_readNumber 55 = .ok (.ireturn, 1) := by decide +kernel
theorem dX5_readNumber_56 : decode cX5_readNumber 56 = .ok (.bipush 10, 2) := by decide +kernel
theorem dX5_readNumber_58 : decode cX5_readNumber 58 = .ok (.iload 4, 2) := by decide +kernel
theorem dX5_readNumber_60 : decode cX5_readNumber 60 = .ok (.imul, 1) := by decide +kernel
theorem dX5_readNumber_61 : decode cX5_readNumber 61 = .ok (.iload 6, 2) := by decide +kernel
theorem dX5_readNumber_63 : decode cX5_readNumber 63 = .ok (.iadd, 1) := by decide +kernel
theorem dX5_readNumber_64 : decode cX5_readNumber 64 = .ok (.bipush 48, 2) := by decide +kernel
theorem dX5_readNumber_66 : decode cX5_readNumber 66 = .ok (.isub, 1) := by decide +kernel
theorem dX5_readNumber_67 : decode cX5_readNumber 67 = .ok (.istore 4, 2) := by decide +kernel
theorem dX5_readNumber_69 : decode cX5_readNumber 69 = .ok (.aload_n 0, 1) := by decide +kernel
theorem dX5_readNumber_70 : decode cX5_readNumber 70 = .ok (.dup, 1) := by decide +kernel
theorem dX5_readNumber_71 : decode cX5_readNumber 71 = .ok (.getfield 29, 3) := by decide +kernel
theorem dX5_readNumber_74 : decode cX5_readNumber 74 = .ok (.iconst 1, 1) := by decide +kernel
theorem dX5_readNumber_75 : decode cX5_readNumber 75 = .ok (.iadd, 1) := by decide +kernel
theorem dX5_readNumber_76 : decode cX5_readNumber 76 = .ok (.putfield 29, 3) := by decide +kernel
theorem dX5_readNumber_79 : decode cX5_readNumber 79 = .ok (.iinc 5 (-1), 3) := by decide +kernel
theorem dX5_readNumber_82 : decode cX5_readNumber 82 = .ok (.goto (-74), 3) := by decide +kernel
theorem dX5_readNumber_85 : decode cX5_readNumber 85 = .ok (.iload 4, 2) := by decide +kernel
theorem dX5_readNumber_87 : decode cX5_readNumber 87 = .ok (.ireturn, 1) := by decide +kernel
theorem dX5_leadsInto_0 : decode cX5_leadsInto 0 = .ok (.iload_n 0, 1) := by decide +kernel
theorem dX5_leadsInto_1 : decode cX5_leadsInto 1 = .ok (.istore 4, 2) := by decide +kernel
theorem dX5_leadsInto_3 : decode cX5_leadsInto 3 = .ok (.iload_n 0, 1) := by decide +kernel
theorem dX5_leadsInto_4 : decode cX5_leadsInto 4 = .ok (.istore 5, 2) := by decide +kernel
theorem dX5_leadsInto_6 : decode cX5_leadsInto 6 = .ok (.iconst 0, 1) := by decide +kernel
theorem dX5_leadsInto_7 : decode cX5_leadsInto 7 = .ok (.istore 6, 2) := by decide +kernel
theorem dX5_leadsInto_9 : decode cX5_leadsInto 9 = .ok (.iload 6, 2) := by decide +kernel
theorem dX5_leadsInto_11 : decode cX5_leadsInto 11 = .ok (.iload_n 1, 1) := by decide +kernel
theorem dX5_leadsInto_12 : decode cX5_leadsInto 12 = .ok (.if_icmp .ge 26, 3) := by decide +kernel
theorem dX5_leadsInto_15 : decode cX5_leadsInto 15 = .ok (.bipush 10, 2) := by decide +kernel
theorem dX5_leadsInto_17 : decode cX5_leadsInto 17 = .ok (.iload 4, 2) := by decide +kernel
theorem dX5_leadsInto_19 : decode cX5_leadsInto 19 = .ok (.imul, 1) := by decide +kernel
theorem dX5_leadsInto_20 : decode cX5_leadsInto 20 = .ok (.istore 4, 2) := by decide +kernel
theorem dX5_leadsInto_22 : decode cX5_leadsInto 22 = .ok (.bipush 10, 2) := by decide +kernel
theorem dX5_leadsInto_24 : decode cX5_leadsInto 24 = .ok (.iload 5, 2) := by decide +kernel
theorem dX5_leadsInto_26 : decode cX5_leadsInto 26 = .ok (.imul, 1) := by decide +kernel
theorem dX5_leadsInto_27 : decode cX5_leadsInto 27 = .ok (.bipush 9, 2) := by decide +kernel
theorem dX5_leadsInto_29 : decode cX5_leadsInto 29 = .ok (.iadd, 1) := by decide +kernel
theorem dX5_leadsInto_30 : decode cX5_leadsInto 30 = .ok (.istore 5, 2) := by decide +kernel
theorem dX5_leadsInto_32 : decode cX5_leadsInto 32 = .ok (.iinc 6 1, 3) := by decide +kernel
theorem dX5_leadsInto_35 : decode cX5_leadsInto 35 = .ok (.goto (-26), 3) := by decide +kernel
theorem dX5_leadsInto_38 : decode cX5_leadsInto 38 = .ok (.iload 4, 2) := by decide +kernel
theorem dX5_leadsInto_40 : decode cX5_leadsInto 40 = .ok (.iload_n 3, 1) := by decide +kernel
theorem dX5_leadsInto_41 : decode cX5_leadsInto 41 = .ok (.if_icmp .gt 13, 3) := by decide +kernel
theorem dX5_leadsInto_44 : decode cX5_leadsInto 44 = .ok (.iload_n 2, 1) := by decide +kernel
theorem dX5_leadsInto_45 : decode cX5_leadsInto 45 = .ok (.iload 5, 2) := by decide +kernel
theorem dX5_leadsInto_47 : decode cX5_leadsInto 47 = .ok (.if_icmp .gt 7, 3) := by decide +kernel
theorem dX5_leadsInto_50 : decode cX5_leadsInto 50 = .ok (.iconst 1, 1) := by decide +kernel
theorem dX5_leadsInto_51 : decode cX5_leadsInto 51 = .ok (.goto 4, 3) := by decide +kernel
theorem dX5_leadsInto_54 : decode cX5_leadsInto 54 = .ok (.iconst 0, 1) := by decide +kernel
theorem dX5_leadsInto_55 : decode cX5_leadsInto 55 = .ok (.ireturn, 1) := by decide +kernel
theorem dX6_init_0 : decode cX6_init 0 = .ok (.aload_n 0, 1) := by decide +kernel
theorem dX6_init_1 : decode cX6_init 1 = .ok (.invokespecial 1, 3) := by decide +kernel
theorem dX6_init_4 : decode cX6_init 4 = .ok (.aload_n 0, 1) := by decide +kernel
theorem dX6_init_5 : decode cX6_init 5 = .ok (.new 7, 3) := by decide +kernel
theorem dX6_init_8 : decode cX6_init 8 = .ok (.dup, 1) := by decide +kernel
theorem dX6_init_9 : decode cX6_init 9 = .ok (.invokespecial 9, 3) := by decide +kernel
theorem dX6_init_12 : decode cX6_init 12 = .ok (.putfield 10, 3) := by decide +kernel
theorem dX6_init_15 : decode cX6_init 15 = .ok (.aload_n 0, 1) := by decide +kernel
theorem dX6_init_16 : decode cX6_init 16 = .ok (.new 7, 3) := by decide +kernel
theorem dX6_init_19 : decode cX6_init 19 = .ok (.dup, 1) := by decide +kernel
theorem dX6_init_20 : decode cX6_init 20 = .ok (.invokespecial 9, 3) := by decide +kernel
theorem dX6_init_23 : decode cX6_init 23 = .ok (.putfield 16, 3) := by decide +kernel
theorem dX6_init_26 : decode cX6_init 26 = .ok (.aload_n 0, 1) := by decide +kernel
theorem dX6_init_27 : decode cX6_init 27 = .ok (.iconst 2, 1) := by decide +kernel
theorem dX6_init_28 : decode cX6_init 28 = .ok (.anewarray 7, 3) := by decide +kernel
theorem dX6_init_31 : decode cX6_init 31 = .ok (.putfield 19, 3) := by decide +kernel
theorem dX6_init_34 : decode cX6_init 34 = .ok (.aload_n 0, 1) := by decide +kernel
theorem dX6_init_35 : decode cX6_init 35 = .ok (.iconst 2, 1) := by decide +kernel
theorem dX6_init_36 : decode cX6_init 36 = .ok (.newarray .boolean, 2) := by decide +kernel
theorem dX6_init_38 : decode cX6_init 38 = .ok (.putfield 23, 3) := by decide +kernel
theorem dX6_init_41 : decode cX6_init 41 = .ok (.aload_n 0, 1) := by decide +kernel
theorem dX6_init_42 : decode cX6_init 42 = .ok (.new 27, 3) := by decide +kernel
theorem dX6_init_45 : decode cX6_init 45 = .ok (.dup, 1) := by decide +kernel
theorem dX6_init_46 : decode cX6_init 46 = .ok (.invokespecial 29, 3) := by decide +kernel
theorem dX6_init_49 : decode cX6_init 49 = .ok (.putfield 30, 3) := by decide +kernel
theorem dX6_init_52 : decode cX6_init 52 = .ok (.aload_n 0, 1) := by decide +kernel
theorem dX6_init_53 : decode cX6_init 53 = .ok (.new 34, 3) := by decide +kernel
theorem dX6_init_56 : decode cX6_init 56 = .ok (.dup, 1) := by decide +kernel
theorem dX6_init_57 : decode cX6_init 57 = .ok (.invokespecial 36, 3) := by decide +kernel
theorem dX6_init_60 : decode cX6_init 60 = .ok (.putfield 37, 3) := by decide +kernel
theorem dX6_init_63 : decode cX6_init 63 = .ok (.aload_n 0, 1) := by decide +kernel
theorem dX6_init_64 : decode cX6_init 64 = .ok (.new 41, 3) := by decide +kernel
theorem dX6_init_67 : decode cX6_init 67 = .ok (.dup, 1) := by decide +kernel
theorem dX6_init_68 : decode cX6_init 68 = .ok (.invokespecial 43, 3) := by decide +kernel
theorem dX6_init_71 : decode cX6_init 71 = .ok (.putfield 44, 3) := by decide +kernel
theorem dX6_init_74 : decode cX6_init 74 = .ok (.iconst 0, 1) := by decide +kernel
theorem dX6_init_75 : decode cX6_init 75 = .ok (.istore_n 1, 1) := by decide +kernel
theorem dX6_init_76 : decode cX6_init 76 = .ok (.iload_n 1, 1) := by decide +kernel
theorem dX6_init_77 : decode cX6_init 77 = .ok (.aload_n 0, 1) := by decide +kernel
theorem dX6_init_78 : decode cX6_init 78 = .ok (.getfield 19, 3) := by decide +kernel
theorem dX6_init_81 : decode cX6_init 81 = .ok (.arraylength, 1) := by decide +kernel
theorem dX6_init_82 : decode cX6_init 82 = .ok (.if_icmp .ge 22, 3) := by decide +kernel
theorem dX6_init_85 : decode cX6_init 85 = .ok (.aload_n 0, 1) := by decide +kernel
theorem dX6_init_86 : decode cX6_init 86 = .ok (.getfield 19, 3) := by decide +kernel
theorem dX6_init_89 : decode cX6_init 89 = .ok (.iload_n 1, 1) := by decide +kernel
theorem dX6_init_90 : decode cX6_init 90 = .ok (.new 7, 3) := by decide +kernel
theorem dX6_init_93 : decode cX6_init 93 = .ok (.dup, 1) := by decide +kernel
theorem dX6_init_94 : decode cX6_init 94 = .ok (.invokespecial 9, 3) := by decide +kernel
theorem dX6_init_97 : decode cX6_init 97 = .ok (.aastore, 1) := by decide +kernel
theorem dX6_init_98 : decode cX6_init 98 = .ok (.iinc 1 1, 3) := by decide +kernel
theorem dX6_init_101 : decode cX6_init 101 = .ok (.goto (-25), 3) := by decide +kernel
theorem dX6_init_104 : decode cX6_init 104 = .ok (.return_, 1) := by decide +kernel
theorem dX6_append_0 : decode cX6_append 0 = .ok (.iconst 0, 1) := by decide +kernel
theorem dX6_append_1 : decode cX6_append 1 = .ok (.iload_n 1, 1) := by decide +kernel
theorem dX6_append_2 : decode cX6_append 2 = .ok (.if_icmp .gt 14, 3) := by decide +kernel
theorem dX6_append_5 : decode cX6_append 5 = .ok (.iload_n 1, 1) := by decide +kernel
theorem dX6_append_6 : decode cX6_append 6 = .ok (.sipush 255, 3) := by decide +kernel
theorem dX6_append_9 : decode cX6_append 9 = .ok (.if_icmp .gt 7, 3) := by decide +kernel
theorem dX6_append_12 : decode cX6_append 12 = .ok (.iconst 1, 1) := by decide +kernel
theorem dX6_append_13 : decode cX6_append 13 = .ok (.goto 4, 3) := by decide +kernel
theorem dX6_append_16 : decode cX6_append 16 = .ok (.iconst 0, 1) := by decide +kernel
theorem dX6_append_17 : decode cX6_append 17 = .ok (.invokestatic 48, 3) := by decide +kernel
theorem dX6_append_20 : decode cX6_append 20 = .ok (.aload_n 0, 1) := by decide +kernel
theorem dX6_append_21 : decode cX6_append 21 = .ok (.getfield 37, 3) := by decide +kernel
theorem dX6_append_24 : decode cX6_append 24 = .ok (.invokevirtual 52, 3) := by decide +kernel
theorem dX6_append_27 : decode cX6_append 27 = .ok (.ifCond .eq 13, 3) := by decide +kernel
theorem dX6_append_30 : decode cX6_append 30 = .ok (.new 56, 3) := by decide +kernel
theorem dX6_append_33 : decode cX6_append 33 = .ok (.dup, 1) := by decide +kernel
theorem dX6_append_34 : decode cX6_append 34 = .ok (.ldc 58, 2) := by decide +kernel
theorem dX6_append_36 : decode cX6_append 36 = .ok (.invokespecial 60, 3) := by decide +kernel
theorem dX6_append_39 : decode cX6_append 39 = .ok (.athrow, 1) := by decide +kernel
theorem dX6_append_40 : decode cX6_append 40 = .ok (.aload_n 0, 1) := by decide +kernel
theorem dX6_append_41 : decode cX6_append 41 = .ok (.getfield 37, 3) := by decide +kernel
theorem dX6_append_44 : decode cX6_append 44 = .ok (.iload_n 1, 1) := by decide +kernel
theorem dX6_append_45 : decode cX6_append 45 = .ok (.invokevirtual 63, 3) := by decide +kernel
theorem dX6_append_48 : decode cX6_append 48 = .ok (.ireturn, 1) := by decide +kernel
theorem dX6_clearText_0 : decode cX6_clearText 0 = .ok (.aload_n 0, 1) := by decide +kernel
theorem dX6_clearText_1 : decode cX6_clearText 1 = .ok (.getfield 37, 3) := by decide +kernel
theorem dX6_clearText_4 : decode cX6_clearText 4 = .ok (.invokevirtual 67, 3) := by decide +kernel
theorem dX6_clearText_7 : decode cX6_clearText 7 = .ok (.ireturn, 1) := by decide +kernel
theorem dX6_errorPosition_0 : decode cX6_errorPosition 0 = .ok (.aload_n 0, 1) := by decide +kernel
theorem dX6_errorPosition_1 : decode cX6_errorPosition 1 = .ok (.getfield 37, 3) := by decide +kernel
theorem dX6_errorPosition_4 : decode cX6_errorPosition 4 = .ok (.invokevirtual 71, 3) := by decide +kernel
theorem dX6_errorPosition_7 : decode cX6_errorPosition 7 = .ok (.ireturn, 1) := by decide +kernel
theorem dX6_load_0 : decode cX6_load 0 = .ok (.aload_n 0, 1) := by decide +kernel
theorem dX6_load_1 : decode cX6_load 1 = .ok (.getfield 37, 3) := by decide +kernel
theorem dX6_load_4 : decode cX6_load 4 = .ok (.invokevirtual 71, 3) := by decide +kernel
theorem dX6_load_7 : decode cX6_load 7 = .ok (.iconst (-1), 1) := by decide +kernel
theorem dX6_load_8 : decode cX6_load 8 = .ok (.if_icmp .eq 13, 3) := by decide +kernel
theorem dX6_load_11 : decode cX6_load 11 = .ok (.new 56, 3) := by decide +kernel
theorem dX6_load_14 : decode cX6_load 14 = .ok (.dup, 1) := by decide +kernel
theorem dX6_load_15 : decode cX6_load 15 = .ok (.ldc 74, 2) := by decide +kernel
theorem dX6_load_17 : decode cX6_load 17 = .ok (.invokespecial 60, 3) := by decide +kernel
theorem dX6_load_20 : decode cX6_load 20 = .ok (.athrow, 1) := by decide +kernel
theorem dX6_load_21 : decode cX6_load 21 = .ok (.aload_n 0, 1) := by decide +kernel
theorem dX6_load_22 : decode cX6_load 22 = .ok (.getfield 10, 3) := by decide +kernel
theorem dX6_load_25 : decode cX6_load 25 = .ok (.invokevirtual 76, 3) := by decide +kernel
theorem dX6_load_28 : decode cX6_load 28 = .ok (.aload_n 0, 1) := by decide +kernel
theorem dX6_load_29 : decode cX6_load 29 = .ok (.getfield 30, 3) := by decide +kernel
theorem dX6_load_32 : decode cX6_load 32 = .ok (.invokevirtual 79, 3) := by decide +kernel
theorem dX6_load_35 : decode cX6_load 35 = .ok (.iconst 0, 1) := by decide +kernel
theorem dX6_load_36 : decode cX6_load 36 = .ok (.istore_n 1, 1) := by decide +kernel
theorem dX6_load_37 : decode cX6_load 37 = .ok (.iload_n 1, 1) := by decide +kernel
theorem dX6_load_38 : decode cX6_load 38 = .ok (.aload_n 0, 1) := by decide +kernel
theorem dX6_load_39 : decode cX6_load 39 = .ok (.getfield 23, 3) := by decide +kernel
theorem dX6_load_42 : decode cX6_load 42 = .ok (.arraylength, 1) := by decide +kernel
theorem dX6_load_43 : decode cX6_load 43 = .ok (.if_icmp .ge 16, 3) := by decide +kernel
theorem dX6_load_46 : decode cX6_load 46 = .ok (.aload_n 0, 1) := by decide +kernel
theorem dX6_load_47 : decode cX6_load 47 = .ok (.getfield 23, 3) := by decide +kernel
theorem dX6_load_50 : decode cX6_load 50 = .ok (.iload_n 1, 1) := by decide +kernel
theorem dX6_load_51 : decode cX6_load 51 = .ok (.iconst 0, 1) := by decide +kernel
theorem dX6_load_52 : decode cX6_load 52 = .ok (.bastore, 1) := by decide +kernel
theorem dX6_load_53 : decode cX6_load 53 = .ok (.iinc 1 1, 3) := by decide +kernel
theorem dX6_load_56 : decode cX6_load 56 = .ok (.goto (-19), 3) := by decide +kernel
theorem dX6_load_59 : decode cX6_load 59 = .ok (.iconst 0, 1) := by decide +kernel
theorem dX6_load_60 : decode cX6_load 60 = .ok (.istore_n 1, 1) := by decide +kernel
theorem dX6_load_61 : decode cX6_load 61 = .ok (.aload_n 0, 1) := by decide +kernel
theorem dX6_load_62 : decode cX6_load 62 = .ok (.getfield 37, 3) := by decide +kernel
theorem dX6_load_65 : decode cX6_load 65 = .ok (.invokevirtual 82, 3) := by decide +kernel
theorem dX6_load_68 : decode cX6_load 68 = .ok (.pop, 1) := by decide +kernel
theorem dX6_load_69 : decode cX6_load 69 = .ok (.iconst 0, 1) := by decide +kernel
theorem dX6_load_70 : decode cX6_load 70 = .ok (.istore_n 2, 1) := by decide +kernel
theorem dX6_load_71 : decode cX6_load 71 = .ok (.iload_n 2, 1) := by decide +kernel
theorem dX6_load_72 : decode cX6_load 72 = .ok (.bipush 120, 2) := by decide +kernel
theorem dX6_load_74 : decode cX6_load 74 = .ok (.if_icmp .ge 29, 3) := by decide +kernel
theorem dX6_load_77 : decode cX6_load 77 = .ok (.aload_n 0, 1) := by decide +kernel
theorem dX6_load_78 : decode cX6_load 78 = .ok (.getfield 37, 3) := by decide +kernel
theorem dX6_load_81 : decode cX6_load 81 = .ok (.invokevirtual 85, 3) := by decide +kernel
theorem dX6_load_84 : decode cX6_load 84 = .ok (.ifCond .eq 19, 3) := by decide +kernel
theorem dX6_load_87 : decode cX6_load 87 = .ok (.aload_n 0, 1) := by decide +kernel
theorem dX6_load_88 : decode cX6_load 88 = .ok (.invokevirtual 88, 3) := by decide +kernel
theorem dX6_load_91 : decode cX6_load 91 = .ok (.ifCond .ne 6, 3) := by decide +kernel
theorem dX6_load_94 : decode cX6_load 94 = .ok (.iinc 1 1, 3) := by decide +kernel
theorem dX6_load_97 : decode cX6_load 97 = .ok (.iinc 2 1, 3) := by decide +kernel
theorem dX6_load_100 : decode cX6_load 100 = .ok (.goto (-29), 3) := by decide +kernel
theorem dX6_load_103 : decode cX6_load 103 = .ok (.iload_n 1, 1) := by decide +kernel
theorem dX6_load_104 : decode cX6_load 104 = .ok (.ireturn, 1) := by decide +kernel
theorem dX6_doCommandOfText_0 : decode cX6_doCommandOfText 0 = .ok (.aload_n 0, 1) := by decide +kernel
theorem dX6_doCommandOfText_1 : decode cX6_doCommandOfText 1 = .ok (.getfield 37, 3) := by decide +kernel
theorem dX6_doCommandOfText_4 : decode cX6_doCommandOfText 4 = .ok (.iconst 0, 1) := by decide +kernel
theorem dX6_doCommandOfText_5 : decode cX6_doCommandOfText 5 = .ok (.invokevirtual 91, 3) := by decide +kernel
theorem dX6_doCommandOfText_8 : decode cX6_doCommandOfText 8 = .ok (.istore_n 1, 1) := by decide +kernel
theorem dX6_doCommandOfText_9 : decode cX6_doCommandOfText 9 = .ok (.aload_n 0, 1) := by decide +kernel
theorem dX6_doCommandOfText_10 : decode cX6_doCommandOfText 10 = .ok (.getfield 37, 3) := by decide +kernel
theorem dX6_doCommandOfText_13 : decode cX6_doCommandOfText 13 = .ok (.iconst 1, 1) := by decide +kernel
theorem dX6_doCommandOfText_14 : decode cX6_doCommandOfText 14 = .ok (.invokevirtual 91, 3) := by decide +kernel
theorem dX6_doCommandOfText_17 : decode cX6_doCommandOfText 17 = .ok (.istore_n 2, 1) := by decide +kernel
theorem dX6_doCommandOfText_18 : decode cX6_doCommandOfText 18 = .ok (.aload_n 0, 1) := by decide +kernel
theorem dX6_doCommandOfText_19 : decode cX6_doCommandOfText 19 = .ok (.getfield 37, 3) := by decide +kernel
theorem dX6_doCommandOfText_22 : decode cX6_doCommandOfText 22 = .ok (.invokevirtual 94, 3) := by decide +kernel
theorem dX6_doCommandOfText_25 : decode cX6_doCommandOfText 25 = .ok (.tableswitch 249 100 119 #[210, 249, 249, 249, 249, 249, 249, 249, 249, 249, 249, 138, 249, 229, 249, 95, 219, 249, 239, 181], 95) := by decide +kernel
theorem dX6_doCommandOfText_120 : decode cX6_doCommandOfText 120 = .ok (.aload_n 0, 1) := by decide +kernel
theorem dX6_doCommandOfText_121 : decode cX6_doCommandOfText 121 = .ok (.getfield 10, 3) := by decide +kernel
theorem dX6_doCommandOfText_124 : decode cX6_doCommandOfText 124 = .ok (.iload_n 1, 1) := by decide +kernel
theorem dX6_doCommandOfText_125 : decode cX6_doCommandOfText 125 = .ok (.iload_n 2, 1) := by decide +kernel
theorem dX6_doCommandOfText_126 : decode cX6_doCommandOfText 126 = .ok (.iconst 0, 1) := by decide +kernel
theorem dX6_doCommandOfText_127 : decode cX6_doCommandOfText 127 = .ok (.aload_n 0, 1) := by decide +kernel
theorem dX6_doCommandOfText_128 : decode cX6_doCommandOfText 128 = .ok (.getfield 37, 3) := by decide +kernel
theorem dX6_doCommandOfText_131 : decode cX6_doCommandOfText 131 = .ok (.iconst 2, 1) := by decide +kernel
theorem dX6_doCommandOfText_132 : decode cX6_doCommandOfText 132 = .ok (.invokevirtual 91, 3) := by decide +kernel
theorem dX6_doCommandOfText_135 : decode cX6_doCommandOfText 135 = .ok (.aload_n 0, 1) := by decide +kernel
theorem dX6_doCommandOfText_136 : decode cX6_doCommandOfText 136 = .ok (.getfield 37, 3) := by decide +kernel
theorem dX6_doCommandOfText_139 : decode cX6_doCommandOfText 139 = .ok (.iconst 3, 1) := by decide +kernel
theorem dX6_doCommandOfText_140 : decode cX6_doCommandOfText 140 = .ok (.invokevirtual 91, 3) := by decide +kernel
theorem dX6_doCommandOfText_143 : decode cX6_doCommandOfText 143 = .ok (.aload_n 0, 1) := by decide +kernel
theorem dX6_doCommandOfText_144 : decode cX6_doCommandOfText 144 = .ok (.getfield 37, 3) := by decide +kernel
theorem dX6_doCommandOfText_147 : decode cX6_doCommandOfText 147 = .ok (.iconst 4, 1) := by decide +kernel
theorem dX6_doCommandOfText_148 : decode cX6_doCommandOfText 148 = .ok (.invokevirtual 91, 3) := by decide +kernel
theorem dX6_doCommandOfText_151 : decode cX6_doCommandOfText 151 = .ok (.aload_n 0, 1) := by decide +kernel
theorem dX6_doCommandOfText_152 : decode cX6_doCommandOfText 152 = .ok (.getfield 37, 3) := by decide +kernel
theorem dX6_doCommandOfText_155 : decode cX6_doCommandOfText 155 = .ok (.iconst 5, 1) := by decide +kernel
theorem dX6_doCommandOfText_156 : decode cX6_doCommandOfText 156 = .ok (.invokevirtual 91, 3) := by decide +kernel
theorem dX6_doCommandOfText_159 : decode cX6_doCommandOfText 159 = .ok (.invokevirtual 97, 3) := by decide +kernel
theorem dX6_doCommandOfText_162 : decode cX6_doCommandOfText 162 = .ok (.ireturn, 1) := by decide +kernel
theorem dX6_doCommandOfText_163 : decode cX6_doCommandOfText 163 = .ok (.aload_n 0, 1) := by decide +kernel
theorem dX6_doCommandOfText_164 : decode cX6_doCommandOfText 164 = .ok (.getfield 10, 3) := by decide +kernel
theorem dX6_doCommandOfText_167 : decode cX6_doCommandOfText 167 = .ok (.iload_n 1, 1) := by decide +kernel
theorem dX6_doCommandOfText_168 : decode cX6_doCommandOfText 168 = .ok (.iload_n 2, 1) := by decide +kernel
theorem dX6_doCommandOfText_169 : decode cX6_doCommandOfText 169 = .ok (.iconst 1, 1) := by decide +kernel
theorem dX6_doCommandOfText_170 : decode cX6_doCommandOfText 170 = .ok (.aload_n 0, 1) := by decide +kernel
theorem dX6_doCommandOfText_171 : decode cX6_doCommandOfText 171 = .ok (.getfield 37, 3) := by decide +kernel
theorem dX6_doCommandOfText_174 : decode cX6_doCommandOfText 174 = .ok (.iconst 2, 1) := by decide +kernel
theorem dX6_doCommandOfText_175 : decode cX6_doCommandOfText 175 = .ok (.invokevirtual 91, 3) := by decide +kernel
theorem dX6_doCommandOfText_178 : decode cX6_doCommandOfText 178 = .ok (.aload_n 0, 1) := by decide +kernel
theorem dX6_doCommandOfText_179 : decode cX6_doCommandOfText 179 = .ok (.getfield 37, 3) := by decide +kernel
theorem dX6_doCommandOfText_182 : decode cX6_doCommandOfText 182 = .ok (.iconst 3, 1) := by decide +kernel
theorem dX6_doCommandOfText_183 : decode cX6_doCommandOfText 183 = .ok (.invokevirtual 91, 3) := by decide +kernel
theorem dX6_doCommandOfText_186 : decode cX6_doCommandOfText 186 = .ok (.aload_n 0, 1) := by decide +kernel
theorem dX6_doCommandOfText_187 : decode cX6_doCommandOfText 187 = .ok (.getfield 37, 3) := by decide +kernel
theorem dX6_doCommandOfText_190 : decode cX6_doCommandOfText 190 = .ok (.iconst 4, 1) := by decide +kernel
theorem dX6_doCommandOfText_191 : decode cX6_doCommandOfText 191 = .ok (.invokevirtual 91, 3) := by decide +kernel
theorem dX6_doCommandOfText_194 : decode cX6_doCommandOfText 194 = .ok (.aload_n 0, 1) := by decide +kernel
theorem dX6_doCommandOfText_195 : decode cX6_doCommandOfText 195 = .ok (.getfield 37, 3) := by decide +kernel
theorem dX6_doCommandOfText_198 : decode cX6_doCommandOfText 198 = .ok (.iconst 5, 1) := by decide +kernel
theorem dX6_doCommandOfText_199 : decode cX6_doCommandOfText 199 = .ok (.invokevirtual 91, 3) := by decide +kernel
theorem dX6_doCommandOfText_202 : decode cX6_doCommandOfText 202 = .ok (.invokevirtual 97, 3) := by decide +kernel
theorem dX6_doCommandOfText_205 : decode cX6_doCommandOfText 205 = .ok (.ireturn, 1) := by decide +kernel
theorem dX6_doCommandOfText_206 : decode cX6_doCommandOfText 206 = .ok (.aload_n 0, 1) := by decide +kernel
theorem dX6_doCommandOfText_207 : decode cX6_doCommandOfText 207 = .ok (.getfield 10, 3) := by decide +kernel
theorem dX6_doCommandOfText_210 : decode cX6_doCommandOfText 210 = .ok (.iload_n 1, 1) := by decide +kernel
theorem dX6_doCommandOfText_211 : decode cX6_doCommandOfText 211 = .ok (.iload_n 2, 1) := by decide +kernel
theorem dX6_doCommandOfText_212 : decode cX6_doCommandOfText 212 = .ok (.iconst 2, 1) := by decide +kernel
theorem dX6_doCommandOfText_213 : decode cX6_doCommandOfText 213 = .ok (.aload_n 0, 1) := by decide +kernel
theorem dX6_doCommandOfText_214 : decode cX6_doCommandOfText 214 = .ok (.getfield 37, 3) := by decide +kernel
theorem dX6_doCommandOfText_217 : decode cX6_doCommandOfText 217 = .ok (.iconst 2, 1) := by decide +kernel
theorem dX6_doCommandOfText_218 : decode cX6_doCommandOfText 218 = .ok (.invokevirtual 91, 3) := by decide +kernel
theorem dX6_doCommandOfText_221 : decode cX6_doCommandOfText 221 = .ok (.aload_n 0, 1) := by decide +kernel
theorem dX6_doCommandOfText_222 : decode cX6_doCommandOfText 222 = .ok (.getfield 37, 3) := by decide +kernel
theorem dX6_doCommandOfText_225 : decode cX6_doCommandOfText 225 = .ok (.iconst 3, 1) := by decide +kernel
theorem dX6_doCommandOfText_226 : decode cX6_doCommandOfText 226 = .ok (.invokevirtual 91, 3) := by decide +kernel
theorem dX6_doCommandOfText_229 : decode cX6_doCommandOfText 229 = .ok (.iconst 0, 1) := by decide +kernel
theorem dX6_doCommandOfText_230 : decode cX6_doCommandOfText 230 = .ok (.iconst 0, 1) := by decide +kernel
theorem dX6_doCommandOfText_231 : decode cX6_doCommandOfText 231 = .ok (.invokevirtual 97, 3) := by decide +kernel
theorem dX6_doCommandOfText_234 : decode cX6_doCommandOfText 234 = .ok (.ireturn, 1) := by decide +kernel
theorem dX6_doCommandOfText_235 : decode cX6_doCommandOfText 235 = .ok (.aload_n 0, 1) := by decide +kernel
theorem dX6_doCommandOfText_236 : decode cX6_doCommandOfText 236 = .ok (.getfield 10, 3) := by decide +kernel
theorem dX6_doCommandOfText_239 : decode cX6_doCommandOfText 239 = .ok (.iload_n 1, 1) := by decide +kernel
theorem dX6_doCommandOfText_240 : decode cX6_doCommandOfText 240 = .ok (.invokevirtual 101, 3) := by decide +kernel
theorem dX6_doCommandOfText_243 : decode cX6_doCommandOfText 243 = .ok (.ireturn, 1) := by decide +kernel
theorem dX6_doCommandOfText_244 : decode cX6_doCommandOfText 244 = .ok (.aload_n 0, 1) := by decide +kernel
theorem dX6_doCommandOfText_245 : decode cX6_doCommandOfText 245 = .ok (.getfield 10, 3) := by decide +kernel
theorem dX6_doCommandOfText_248 : decode cX6_doCommandOfText 248 = .ok (.iload_n 1, 1) := by decide +kernel
theorem dX6_doCommandOfText_249 : decode cX6_doCommandOfText 249 = .ok (.iload_n 2, 1) := by decide +kernel
theorem dX6_doCommandOfText_250 : decode cX6_doCommandOfText 250 = .ok (.invokevirtual 105, 3) := by decide +kernel
theorem dX6_doCommandOfText_253 : decode cX6_doCommandOfText 253 = .ok (.ireturn, 1) := by decide +kernel
theorem dX6_doCommandOfText_254 : decode cX6_doCommandOfText 254 = .ok (.aload_n 0, 1) := by decide +kernel
theorem dX6_doCommandOfText_255 : decode cX6_doCommandOfText 255 = .ok (.getfield 10, 3) := by decide +kernel
theorem dX6_doCommandOfText_258 : decode cX6_doCommandOfText 258 = .ok (.invokevirtual 109, 3) := by decide +kernel
theorem dX6_doCommandOfText_261 : decode cX6_doCommandOfText 261 = .ok (.pop, 1) := by decide +kernel
theorem dX6_doCommandOfText_262 : decode cX6_doCommandOfText 262 = .ok (.iconst 1, 1) := by decide +kernel
theorem dX6_doCommandOfText_263 : decode cX6_doCommandOfText 263 = .ok (.ireturn, 1) := by decide +kernel
theorem dX6_doCommandOfText_264 : decode cX6_doCommandOfText 264 = .ok (.aload_n 0, 1) := by decide +kernel
theorem dX6_doCommandOfText_265 : decode cX6_doCommandOfText 265 = .ok (.getfield 10, 3) := by decide +kernel
theorem dX6_doCommandOfText_268 : decode cX6_doCommandOfText 268 = .ok (.iload_n 1, 1) := by decide +kernel
theorem dX6_doCommandOfText_269 : decode cX6_doCommandOfText 269 = .ok (.iload_n 2, 1) := by decide +kernel
theorem dX6_doCommandOfText_270 : decode cX6_doCommandOfText 270 = .ok (.invokevirtual 112, 3) := by decide +kernel
theorem dX6_doCommandOfText_273 : decode cX6_doCommandOfText 273 = .ok (.ireturn, 1) := by decide +kernel
theorem dX6_doCommandOfText_274 : decode cX6_doCommandOfText 274 = .ok (.iconst 0, 1) := by decide +kernel
theorem dX6_doCommandOfText_275 : decode cX6_doCommandOfText 275 = .ok (.ireturn, 1) := by decide +kernel
theorem dX6_about_0 : decode cX6_about 0 = .ok (.iconst 0, 1) := by decide +kernel
theorem dX6_about_1 : decode cX6_about 1 = .ok (.iload_n 1, 1) := by decide +kernel
theorem dX6_about_2 : decode cX6_about 2 = .ok (.if_icmp .gt 13, 3) := by decide +kernel
theorem dX6_about_5 : decode cX6_about 5 = .ok (.iload_n 1, 1) := by decide +kernel
theorem dX6_about_6 : decode cX6_about 6 = .ok (.bipush 9, 2) := by decide +kernel
theorem dX6_about_8 : decode cX6_about 8 = .ok (.if_icmp .gt 7, 3) := by decide +kernel
theorem dX6_about_11 : decode cX6_about 11 = .ok (.iconst 1, 1) := by decide +kernel
theorem dX6_about_12 : decode cX6_about 12 = .ok (.goto 4, 3) := by decide +kernel
theorem dX6_about_15 : decode cX6_about 15 = .ok (.iconst 0, 1) := by decide +kernel
theorem dX6_about_16 : decode cX6_about 16 = .ok (.invokestatic 48, 3) := by decide +kernel
theorem dX6_about_19 : decode cX6_about 19 = .ok (.iload_n 1, 1) := by decide +kernel
theorem dX6_about_20 : decode cX6_about 20 = .ok (.tableswitch 124 0 8 #[52, 60, 68, 76, 84, 92, 100, 108, 116], 52) := by decide +kernel
theorem dX6_about_72 : decode cX6_about 72 = .ok (.aload_n 0, 1) := by decide +kernel
theorem dX6_about_73 : decode cX6_about 73 = .ok (.getfield 10, 3) := by decide +kernel
theorem dX6_about_76 : decode cX6_about 76 = .ok (.invokevirtual 115, 3) := by decide +kernel
theorem dX6_about_79 : decode cX6_about 79 = .ok (.ireturn, 1) := by decide +kernel
theorem dX6_about_80 : decode cX6_about 80 = .ok (.aload_n 0, 1) := by decide +kernel
theorem dX6_about_81 : decode cX6_about 81 = .ok (.getfield 10, 3) := by decide +kernel
theorem dX6_about_84 : decode cX6_about 84 = .ok (.invokevirtual 118, 3) := by decide +kernel
theorem dX6_about_87 : decode cX6_about 87 = .ok (.ireturn, 1) := by decide +kernel
theorem dX6_about_88 : decode cX6_about 88 = .ok (.aload_n 0, 1) := by decide +kernel
theorem dX6_about_89 : decode cX6_about 89 = .ok (.getfield 10, 3) := by decide +kernel
theorem dX6_about_92 : decode cX6_about 92 = .ok (.invokevirtual 121, 3) := by decide +kernel
theorem dX6_about_95 : decode cX6_about 95 = .ok (.ireturn, 1) := by decide +kernel
theorem dX6_about_96 : decode cX6_about 96 = .ok (.aload_n 0, 1) := by decide +kernel
theorem dX6_about_97 : decode cX6_about 97 = .ok (.getfield 10, 3) := by decide +kernel
theorem dX6_about_100 : decode cX6_about 100 = .ok (.invokevirtual 124, 3) := by decide +kernel
theorem dX6_about_103 : decode cX6_about 103 = .ok (.ireturn, 1) := by decide +kernel
theorem dX6_about_104 : decode cX6_about 104 = .ok (.aload_n 0, 1) := by decide +kernel
theorem dX6_about_105 : decode cX6_about 105 = .ok (.getfield 10, 3) := by decide +kernel
theorem dX6_about_108 : decode cX6_about 108 = .ok (.invokevirtual 127, 3) := by decide +kernel
theorem dX6_about_111 : decode cX6_about 111 = .ok (.ireturn, 1) := by decide +kernel
theorem dX6_about_112 : decode cX6_about 112 = .ok (.aload_n 0, 1) := by decide +kernel
theorem dX6_about_113 : decode cX6_about 113 = .ok (.getfield 10, 3) := by decide +kernel
theorem dX6_about_116 : decode cX6_about 116 = .ok (.invokevirtual 130, 3) := by decide +kernel
theorem dX6_about_119 : decode cX6_about 119 = .ok (.ireturn, 1) := by decide +kernel
theorem dX6_about_120 : decode cX6_about 120 = .ok (.aload_n 0, 1) := by decide +kernel
theorem dX6_about_121 : decode cX6_about 121 = .ok (.getfield 10, 3) := by decide +kernel
theorem dX6_about_124 : decode cX6_about 124 = .ok (.invokevirtual 133, 3) := by decide +kernel
theorem dX6_about_127 : decode cX6_about 127 = .ok (.ireturn, 1) := by decide +kernel
theorem dX6_about_128 : decode cX6_about 128 = .ok (.aload_n 0, 1) := by decide +kernel
theorem dX6_about_129 : decode cX6_about 129 = .ok (.getfield 10, 3) := by decide +kernel
theorem dX6_about_132 : decode cX6_about 132 = .ok (.invokevirtual 136, 3) := by decide +kernel
theorem dX6_about_135 : decode cX6_about 135 = .ok (.ireturn, 1) := by decide +kernel
theorem dX6_about_136 : decode cX6_about 136 = .ok (.aload_n 0, 1) := by decide +kernel
theorem dX6_about_137 : decode cX6_about 137 = .ok (.getfield 10, 3) := by decide +kernel
theorem dX6_about_140 : decode cX6_about 140 = .ok (.invokevirtual 139, 3) := by decide +kernel
theorem dX6_about_143 : decode cX6_about 143 = .ok (.ireturn, 1) := by decide +kernel
theorem dX6_about_144 : decode cX6_about 144 = .ok (.aload_n 0, 1) := by decide +kernel
theorem dX6_about_145 : decode cX6_about 145 = .ok (.getfield 10, 3) := by decide +kernel
theorem dX6_about_148 : decode cX6_about 148 = .ok (.invokevirtual 142, 3) := by decide +kernel
theorem dX6_about_151 : decode cX6_about 151 = .ok (.ireturn, 1) := by decide +kernel
theorem dX6_measureOf_0 : decode cX6_measureOf 0 = .ok (.aload_n 0, 1) := by decide +kernel
theorem dX6_measureOf_1 : decode cX6_measureOf 1 = .ok (.iload_n 1, 1) := by decide +kernel
theorem dX6_measureOf_2 : decode cX6_measureOf 2 = .ok (.invokevirtual 145, 3) := by decide +kernel
theorem dX6_measureOf_5 : decode cX6_measureOf 5 = .ok (.iconst 0, 1) := by decide +kernel
theorem dX6_measureOf_6 : decode cX6_measureOf 6 = .ok (.iload_n 2, 1) := by decide +kernel
theorem dX6_measureOf_7 : decode cX6_measureOf 7 = .ok (.if_icmp .gt 13, 3) := by decide +kernel
theorem dX6_measureOf_10 : decode cX6_measureOf 10 = .ok (.iload_n 2, 1) := by decide +kernel
theorem dX6_measureOf_11 : decode cX6_measureOf 11 = .ok (.bipush 10, 2) := by decide +kernel
theorem dX6_measureOf_13 : decode cX6_measureOf 13 = .ok (.if_icmp .gt 7, 3) := by decide +kernel
theorem dX6_measureOf_16 : decode cX6_measureOf 16 = .ok (.iconst 1, 1) := by decide +kernel
theorem dX6_measureOf_17 : decode cX6_measureOf 17 = .ok (.goto 4, 3) := by decide +kernel
theorem dX6_measureOf_20 : decode cX6_measureOf 20 = .ok (.iconst 0, 1) := by decide +kernel
theorem dX6_measureOf_21 : decode cX6_measureOf 21 = .ok (.invokestatic 48, 3) := by decide +kernel
theorem dX6_measureOf_24 : decode cX6_measureOf 24 = .ok (.iload_n 2, 1) := by decide +kernel
theorem dX6_measureOf_25 : decode cX6_measureOf 25 = .ok (.lookupswitch 45 #[(9, 27), (10, 36)], 27) := by decide +kernel
theorem dX6_measureOf_52 : decode cX6_measureOf 52 = .ok (.aload_n 0, 1) := by decide +kernel
theorem dX6_measureOf_53 : decode cX6_measureOf 53 = .ok (.getfield 10, 3) := by decide +kernel
theorem dX6_measureOf_56 : decode cX6_measureOf 56 = .ok (.iload_n 1, 1) := by decide +kernel
theorem dX6_measureOf_57 : decode cX6_measureOf 57 = .ok (.invokevirtual 149, 3) := by decide +kernel
theorem dX6_measureOf_60 : decode cX6_measureOf 60 = .ok (.ireturn, 1) := by decide +kernel
theorem dX6_measureOf_61 : decode cX6_measureOf 61 = .ok (.aload_n 0, 1) := by decide +kernel
theorem dX6_measureOf_62 : decode cX6_measureOf 62 = .ok (.getfield 10, 3) := by decide +kernel
theorem dX6_measureOf_65 : decode cX6_measureOf 65 = .ok (.iload_n 1, 1) := by decide +kernel
theorem dX6_measureOf_66 : decode cX6_measureOf 66 = .ok (.invokevirtual 152, 3) := by decide +kernel
theorem dX6_measureOf_69 : decode cX6_measureOf 69 = .ok (.ireturn, 1) := by decide +kernel
theorem dX6_measureOf_70 : decode cX6_measureOf 70 = .ok (.aload_n 0, 1) := by decide +kernel
theorem dX6_measureOf_71 : decode cX6_measureOf 71 = .ok (.getfield 10, 3) := by decide +kernel
theorem dX6_measureOf_74 : decode cX6_measureOf 74 = .ok (.iload_n 1, 1) := by decide +kernel
theorem dX6_measureOf_75 : decode cX6_measureOf 75 = .ok (.iload_n 2, 1) := by decide +kernel
theorem dX6_measureOf_76 : decode cX6_measureOf 76 = .ok (.invokevirtual 155, 3) := by decide +kernel
theorem dX6_measureOf_79 : decode cX6_measureOf 79 = .ok (.ireturn, 1) := by decide +kernel
theorem dX6_tellerOf_0 : decode cX6_tellerOf 0 = .ok (.iload_n 1, 1) := by decide +kernel
theorem dX6_tellerOf_1 : decode cX6_tellerOf 1 = .ok (.invokestatic 158, 3) := by decide +kernel
theorem dX6_tellerOf_4 : decode cX6_tellerOf 4 = .ok (.iconst 0, 1) := by decide +kernel
theorem dX6_tellerOf_5 : decode cX6_tellerOf 5 = .ok (.iload_n 2, 1) := by decide +kernel
theorem dX6_tellerOf_6 : decode cX6_tellerOf 6 = .ok (.if_icmp .gt 12, 3) := by decide +kernel
theorem dX6_tellerOf_9 : decode cX6_tellerOf 9 = .ok (.iload_n 2, 1) := by decide +kernel
theorem dX6_tellerOf_10 : decode cX6_tellerOf 10 = .ok (.iconst 4, 1) := by decide +kernel
theorem dX6_tellerOf_11 : decode cX6_tellerOf 11 = .ok (.if_icmp .gt 7, 3) := by decide +kernel
theorem dX6_tellerOf_14 : decode cX6_tellerOf 14 = .ok (.iconst 1, 1) := by decide +kernel
theorem dX6_tellerOf_15 : decode cX6_tellerOf 15 = .ok (.goto 4, 3) := by decide +kernel
theorem dX6_tellerOf_18 : decode cX6_tellerOf 18 = .ok (.iconst 0, 1) := by decide +kernel
theorem dX6_tellerOf_19 : decode cX6_tellerOf 19 = .ok (.invokestatic 48, 3) := by decide +kernel
theorem dX6_tellerOf_22 : decode cX6_tellerOf 22 = .ok (.iload_n 2, 1) := by decide +kernel
theorem dX6_tellerOf_23 : decode cX6_tellerOf 23 = .ok (.tableswitch 65 0 3 #[29, 38, 47, 56], 29) := by decide +kernel
theorem dX6_tellerOf_52 : decode cX6_tellerOf 52 = .ok (.aload_n 0, 1) := by decide +kernel
theorem dX6_tellerOf_53 : decode cX6_tellerOf 53 = .ok (.getfield 10, 3) := by decide +kernel
theorem dX6_tellerOf_56 : decode cX6_tellerOf 56 = .ok (.iload_n 1, 1) := by decide +kernel
theorem dX6_tellerOf_57 : decode cX6_tellerOf 57 = .ok (.invokevirtual 161, 3) := by decide +kernel
theorem dX6_tellerOf_60 : decode cX6_tellerOf 60 = .ok (.ireturn, 1) := by decide +kernel
theorem dX6_tellerOf_61 : decode cX6_tellerOf 61 = .ok (.aload_n 0, 1) := by decide +kernel
theorem dX6_tellerOf_62 : decode cX6_tellerOf 62 = .ok (.getfield 10, 3) := by decide +kernel
theorem dX6_tellerOf_65 : decode cX6_tellerOf 65 = .ok (.iload_n 1, 1) := by decide +kernel
theorem dX6_tellerOf_66 : decode cX6_tellerOf 66 = .ok (.invokevirtual 164, 3) := by decide +kernel
theorem dX6_tellerOf_69 : decode cX6_tellerOf 69 = .ok (.ireturn, 1) := by decide +kernel
theorem dX6_tellerOf_70 : decode cX6_tellerOf 70 = .ok (.aload_n 0, 1) := by decide +kernel
theorem dX6_tellerOf_71 : decode cX6_tellerOf 71 = .ok (.getfield 10, 3) := by decide +kernel
theorem dX6_tellerOf_74 : decode cX6_tellerOf 74 = .ok (.iload_n 1, 1) := by decide +kernel
theorem dX6_tellerOf_75 : decode cX6_tellerOf 75 = .ok (.invokevirtual 167, 3) := by decide +kernel
theorem dX6_tellerOf_78 : decode cX6_tellerOf 78 = .ok (.ireturn, 1) := by decide +kernel
theorem dX6_tellerOf_79 : decode cX6_tellerOf 79 = .ok (.aload_n 0, 1) := by decide +kernel
theorem dX6_tellerOf_80 : decode cX6_tellerOf 80 = .ok (.getfield 10, 3) := by decide +kernel
theorem dX6_tellerOf_83 : decode cX6_tellerOf 83 = .ok (.iload_n 1, 1) := by decide +kernel
theorem dX6_tellerOf_84 : decode cX6_tellerOf 84 = .ok (.invokevirtual 170, 3) := by decide +kernel
theorem dX6_tellerOf_87 : decode cX6_tellerOf 87 = .ok (.ireturn, 1) := by decide +kernel
theorem dX6_tellerOf_88 : decode cX6_tellerOf 88 = .ok (.aload_n 0, 1) := by decide +kernel
theorem dX6_tellerOf_89 : decode cX6_tellerOf 89 = .ok (.getfield 10, 3) := by decide +kernel
theorem dX6_tellerOf_92 : decode cX6_tellerOf 92 = .ok (.iload_n 1, 1) := by decide +kernel
theorem dX6_tellerOf_93 : decode cX6_tellerOf 93 = .ok (.invokevirtual 173, 3) := by decide +kernel
theorem dX6_tellerOf_96 : decode cX6_tellerOf 96 = .ok (.ireturn, 1) := by decide +kernel
theorem dX6_steepleOf_0 : decode cX6_steepleOf 0 = .ok (.iload_n 1, 1) := by decide +kernel
theorem dX6_steepleOf_1 : decode cX6_steepleOf 1 = .ok (.invokestatic 176, 3) := by decide +kernel
theorem dX6_steepleOf_4 : decode cX6_steepleOf 4 = .ok (.iconst 0, 1) := by decide +kernel
theorem dX6_steepleOf_5 : decode cX6_steepleOf 5 = .ok (.iload_n 2, 1) := by decide +kernel
theorem dX6_steepleOf_6 : decode cX6_steepleOf 6 = .ok (.if_icmp .gt 12, 3) := by decide +kernel
theorem dX6_steepleOf_9 : decode cX6_steepleOf 9 = .ok (.iload_n 2, 1) := by decide +kernel
theorem dX6_steepleOf_10 : decode cX6_steepleOf 10 = .ok (.iconst 2, 1) := by decide +kernel
theorem dX6_steepleOf_11 : decode cX6_steepleOf 11 = .ok (.if_icmp .gt 7, 3) := by decide +kernel
theorem dX6_steepleOf_14 : decode cX6_steepleOf 14 = .ok (.iconst 1, 1) := by decide +kernel
theorem dX6_steepleOf_15 : decode cX6_steepleOf 15 = .ok (.goto 4, 3) := by decide +kernel
theorem dX6_steepleOf_18 : decode cX6_steepleOf 18 = .ok (.iconst 0, 1) := by decide +kernel
theorem dX6_steepleOf_19 : decode cX6_steepleOf 19 = .ok (.invokestatic 48, 3) := by decide +kernel
theorem dX6_steepleOf_22 : decode cX6_steepleOf 22 = .ok (.iload_n 2, 1) := by decide +kernel
theorem dX6_steepleOf_23 : decode cX6_steepleOf 23 = .ok (.lookupswitch 43 #[(0, 25), (1, 34)], 25) := by decide +kernel
theorem dX6_steepleOf_48 : decode cX6_steepleOf 48 = .ok (.aload_n 0, 1) := by decide +kernel
theorem dX6_steepleOf_49 : decode cX6_steepleOf 49 = .ok (.getfield 10, 3) := by decide +kernel
theorem dX6_steepleOf_52 : decode cX6_steepleOf 52 = .ok (.iload_n 1, 1) := by decide +kernel
theorem dX6_steepleOf_53 : decode cX6_steepleOf 53 = .ok (.invokevirtual 179, 3) := by decide +kernel
theorem dX6_steepleOf_56 : decode cX6_steepleOf 56 = .ok (.ireturn, 1) := by decide +kernel
theorem dX6_steepleOf_57 : decode cX6_steepleOf 57 = .ok (.aload_n 0, 1) := by decide +kernel
theorem dX6_steepleOf_58 : decode cX6_steepleOf 58 = .ok (.getfield 10, 3) := by decide +kernel
theorem dX6_steepleOf_61 : decode cX6_steepleOf 61 = .ok (.iload_n 1, 1) := by decide +kernel
theorem dX6_steepleOf_62 : decode cX6_steepleOf 62 = .ok (.invokevirtual 182, 3) := by decide +kernel
theorem dX6_steepleOf_65 : decode cX6_steepleOf 65 = .ok (.ireturn, 1) := by decide +kernel
theorem dX6_steepleOf_66 : decode cX6_steepleOf 66 = .ok (.aload_n 0, 1) := by decide +kernel
theorem dX6_steepleOf_67 : decode cX6_steepleOf 67 = .ok (.getfield 10, 3) := by decide +kernel
theorem dX6_steepleOf_70 : decode cX6_steepleOf 70 = .ok (.iload_n 1, 1) := by decide +kernel
theorem dX6_steepleOf_71 : decode cX6_steepleOf 71 = .ok (.invokevirtual 185, 3) := by decide +kernel
theorem dX6_steepleOf_74 : decode cX6_steepleOf 74 = .ok (.ireturn, 1) := by decide +kernel
theorem dX6_vote_0 : decode cX6_vote 0 = .ok (.iload_n 1, 1) := by decide +kernel
theorem dX6_vote_1 : decode cX6_vote 1 = .ok (.invokestatic 176, 3) := by decide +kernel
theorem dX6_vote_4 : decode cX6_vote 4 = .ok (.iload_n 2, 1) := by decide +kernel
theorem dX6_vote_5 : decode cX6_vote 5 = .ok (.invokestatic 188, 3) := by decide +kernel
theorem dX6_vote_8 : decode cX6_vote 8 = .ok (.invokestatic 48, 3) := by decide +kernel
theorem dX6_vote_11 : decode cX6_vote 11 = .ok (.aload_n 0, 1) := by decide +kernel
theorem dX6_vote_12 : decode cX6_vote 12 = .ok (.getfield 10, 3) := by decide +kernel
theorem dX6_vote_15 : decode cX6_vote 15 = .ok (.iload_n 1, 1) := by decide +kernel
theorem dX6_vote_16 : decode cX6_vote 16 = .ok (.iload_n 2, 1) := by decide +kernel
theorem dX6_vote_17 : decode cX6_vote 17 = .ok (.iconst (-1), 1) := by decide +kernel
theorem dX6_vote_18 : decode cX6_vote 18 = .ok (.invokevirtual 191, 3) := by decide +kernel
theorem dX6_vote_21 : decode cX6_vote 21 = .ok (.ireturn, 1) := by decide +kernel
theorem dX6_best_0 : decode cX6_best 0 = .ok (.iload_n 1, 1) := by decide +kernel
theorem dX6_best_1 : decode cX6_best 1 = .ok (.invokestatic 176, 3) := by decide +kernel
theorem dX6_best_4 : decode cX6_best 4 = .ok (.iconst 0, 1) := by decide +kernel
theorem dX6_best_5 : decode cX6_best 5 = .ok (.iload_n 2, 1) := by decide +kernel
theorem dX6_best_6 : decode cX6_best 6 = .ok (.if_icmp .gt 22, 3) := by decide +kernel
theorem dX6_best_9 : decode cX6_best 9 = .ok (.iload_n 2, 1) := by decide +kernel
theorem dX6_best_10 : decode cX6_best 10 = .ok (.iconst 2, 1) := by decide +kernel
theorem dX6_best_11 : decode cX6_best 11 = .ok (.if_icmp .gt 17, 3) := by decide +kernel
theorem dX6_best_14 : decode cX6_best 14 = .ok (.iconst 0, 1) := by decide +kernel
theorem dX6_best_15 : decode cX6_best 15 = .ok (.iload_n 3, 1) := by decide +kernel
theorem dX6_best_16 : decode cX6_best 16 = .ok (.if_icmp .gt 12, 3) := by decide +kernel
theorem dX6_best_19 : decode cX6_best 19 = .ok (.iload_n 3, 1) := by decide +kernel
theorem dX6_best_20 : decode cX6_best 20 = .ok (.iconst 1, 1) := by decide +kernel
theorem dX6_best_21 : decode cX6_best 21 = .ok (.if_icmp .gt 7, 3) := by decide +kernel
theorem dX6_best_24 : decode cX6_best 24 = .ok (.iconst 1, 1) := by decide +kernel
theorem dX6_best_25 : decode cX6_best 25 = .ok (.goto 4, 3) := by decide +kernel
theorem dX6_best_28 : decode cX6_best 28 = .ok (.iconst 0, 1) := by decide +kernel
theorem dX6_best_29 : decode cX6_best 29 = .ok (.invokestatic 48, 3) := by decide +kernel
theorem dX6_best_32 : decode cX6_best 32 = .ok (.iload_n 3, 1) := by decide +kernel
theorem dX6_best_33 : decode cX6_best 33 = .ok (.ifCond .ne 18, 3) := by decide +kernel
theorem dX6_best_36 : decode cX6_best 36 = .ok (.aload_n 0, 1) := by decide +kernel
theorem dX6_best_37 : decode cX6_best 37 = .ok (.getfield 44, 3) := by decide +kernel
theorem dX6_best_40 : decode cX6_best 40 = .ok (.aload_n 0, 1) := by decide +kernel
theorem dX6_best_41 : decode cX6_best 41 = .ok (.getfield 10, 3) := by decide +kernel
theorem dX6_best_44 : decode cX6_best 44 = .ok (.iload_n 1, 1) := by decide +kernel
theorem dX6_best_45 : decode cX6_best 45 = .ok (.invokevirtual 195, 3) := by decide +kernel
theorem dX6_best_48 : decode cX6_best 48 = .ok (.goto 16, 3) := by decide +kernel
theorem dX6_best_51 : decode cX6_best 51 = .ok (.aload_n 0, 1) := by decide +kernel
theorem dX6_best_52 : decode cX6_best 52 = .ok (.getfield 44, 3) := by decide +kernel
theorem dX6_best_55 : decode cX6_best 55 = .ok (.aload_n 0, 1) := by decide +kernel
theorem dX6_best_56 : decode cX6_best 56 = .ok (.getfield 10, 3) := by decide +kernel
theorem dX6_best_59 : decode cX6_best 59 = .ok (.iload_n 1, 1) := by decide +kernel
theorem dX6_best_60 : decode cX6_best 60 = .ok (.iconst (-1), 1) := by decide +kernel
theorem dX6_best_61 : decode cX6_best 61 = .ok (.invokevirtual 199, 3) := by decide +kernel
theorem dX6_best_64 : decode cX6_best 64 = .ok (.aload_n 0, 1) := by decide +kernel
theorem dX6_best_65 : decode cX6_best 65 = .ok (.getfield 44, 3) := by decide +kernel
theorem dX6_best_68 : decode cX6_best 68 = .ok (.iload_n 2, 1) := by decide +kernel
theorem dX6_best_69 : decode cX6_best 69 = .ok (.invokevirtual 203, 3) := by decide +kernel
theorem dX6_best_72 : decode cX6_best 72 = .ok (.ireturn, 1) := by decide +kernel
theorem dX6_setting_0 : decode cX6_setting 0 = .ok (.iload_n 1, 1) := by decide +kernel
theorem dX6_setting_1 : decode cX6_setting 1 = .ok (.invokestatic 206, 3) := by decide +kernel
theorem dX6_setting_4 : decode cX6_setting 4 = .ok (.invokestatic 48, 3) := by decide +kernel
theorem dX6_setting_7 : decode cX6_setting 7 = .ok (.aload_n 0, 1) := by decide +kernel
theorem dX6_setting_8 : decode cX6_setting 8 = .ok (.getfield 10, 3) := by decide +kernel
theorem dX6_setting_11 : decode cX6_setting 11 = .ok (.iload_n 1, 1) := by decide +kernel
theorem dX6_setting_12 : decode cX6_setting 12 = .ok (.invokevirtual 209, 3) := by decide +kernel
theorem dX6_setting_15 : decode cX6_setting 15 = .ok (.ireturn, 1) := by decide +kernel
theorem dX6_measure_0 : decode cX6_measure 0 = .ok (.iload_n 1, 1) := by decide +kernel
theorem dX6_measure_1 : decode cX6_measure 1 = .ok (.invokestatic 176, 3) := by decide +kernel
theorem dX6_measure_4 : decode cX6_measure 4 = .ok (.iload_n 2, 1) := by decide +kernel
theorem dX6_measure_5 : decode cX6_measure 5 = .ok (.invokestatic 158, 3) := by decide +kernel
theorem dX6_measure_8 : decode cX6_measure 8 = .ok (.iload_n 3, 1) := by decide +kernel
theorem dX6_measure_9 : decode cX6_measure 9 = .ok (.iload 4, 2) := by decide +kernel
theorem dX6_measure_11 : decode cX6_measure 11 = .ok (.iload 5, 2) := by decide +kernel
theorem dX6_measure_13 : decode cX6_measure 13 = .ok (.iload 6, 2) := by decide +kernel
theorem dX6_measure_15 : decode cX6_measure 15 = .ok (.iload 7, 2) := by decide +kernel
theorem dX6_measure_17 : decode cX6_measure 17 = .ok (.invokestatic 212, 3) := by decide +kernel
theorem dX6_measure_20 : decode cX6_measure 20 = .ok (.invokestatic 48, 3) := by decide +kernel
theorem dX6_measure_23 : decode cX6_measure 23 = .ok (.aload_n 0, 1) := by decide +kernel
theorem dX6_measure_24 : decode cX6_measure 24 = .ok (.getfield 10, 3) := by decide +kernel
theorem dX6_measure_27 : decode cX6_measure 27 = .ok (.invokevirtual 216, 3) := by decide +kernel
theorem dX6_measure_30 : decode cX6_measure 30 = .ok (.ifCond .eq 13, 3) := by decide +kernel
theorem dX6_measure_33 : decode cX6_measure 33 = .ok (.new 56, 3) := by decide +kernel
theorem dX6_measure_36 : decode cX6_measure 36 = .ok (.dup, 1) := by decide +kernel
theorem dX6_measure_37 : decode cX6_measure 37 = .ok (.ldc 217, 2) := by decide +kernel
theorem dX6_measure_39 : decode cX6_measure 39 = .ok (.invokespecial 60, 3) := by decide +kernel
theorem dX6_measure_42 : decode cX6_measure 42 = .ok (.athrow, 1) := by decide +kernel
theorem dX6_measure_43 : decode cX6_measure 43 = .ok (.aload_n 0, 1) := by decide +kernel
theorem dX6_measure_44 : decode cX6_measure 44 = .ok (.getfield 30, 3) := by decide +kernel
theorem dX6_measure_47 : decode cX6_measure 47 = .ok (.aload_n 0, 1) := by decide +kernel
theorem dX6_measure_48 : decode cX6_measure 48 = .ok (.getfield 10, 3) := by decide +kernel
theorem dX6_measure_51 : decode cX6_measure 51 = .ok (.invokevirtual 219, 3) := by decide +kernel
theorem dX6_measure_54 : decode cX6_measure 54 = .ok (.aload_n 0, 1) := by decide +kernel
theorem dX6_measure_55 : decode cX6_measure 55 = .ok (.getfield 10, 3) := by decide +kernel
theorem dX6_measure_58 : decode cX6_measure 58 = .ok (.iload_n 1, 1) := by decide +kernel
theorem dX6_measure_59 : decode cX6_measure 59 = .ok (.iload_n 2, 1) := by decide +kernel
theorem dX6_measure_60 : decode cX6_measure 60 = .ok (.iload_n 3, 1) := by decide +kernel
theorem dX6_measure_61 : decode cX6_measure 61 = .ok (.iload 4, 2) := by decide +kernel
theorem dX6_measure_63 : decode cX6_measure 63 = .ok (.iload 5, 2) := by decide +kernel
theorem dX6_measure_65 : decode cX6_measure 65 = .ok (.iload 6, 2) := by decide +kernel
theorem dX6_measure_67 : decode cX6_measure 67 = .ok (.iload 7, 2) := by decide +kernel
theorem dX6_measure_69 : decode cX6_measure 69 = .ok (.invokevirtual 223, 3) := by decide +kernel
theorem dX6_measure_72 : decode cX6_measure 72 = .ok (.ireturn, 1) := by decide +kernel
theorem dX6_drop_0 : decode cX6_drop 0 = .ok (.aload_n 0, 1) := by decide +kernel
theorem dX6_drop_1 : decode cX6_drop 1 = .ok (.iload_n 1, 1) := by decide +kernel
theorem dX6_drop_2 : decode cX6_drop 2 = .ok (.invokevirtual 145, 3) := by decide +kernel
theorem dX6_drop_5 : decode cX6_drop 5 = .ok (.aload_n 0, 1) := by decide +kernel
theorem dX6_drop_6 : decode cX6_drop 6 = .ok (.getfield 30, 3) := by decide +kernel
theorem dX6_drop_9 : decode cX6_drop 9 = .ok (.aload_n 0, 1) := by decide +kernel
theorem dX6_drop_10 : decode cX6_drop 10 = .ok (.getfield 10, 3) := by decide +kernel
theorem dX6_drop_13 : decode cX6_drop 13 = .ok (.invokevirtual 219, 3) := by decide +kernel
theorem dX6_drop_16 : decode cX6_drop 16 = .ok (.aload_n 0, 1) := by decide +kernel
theorem dX6_drop_17 : decode cX6_drop 17 = .ok (.getfield 10, 3) := by decide +kernel
theorem dX6_drop_20 : decode cX6_drop 20 = .ok (.iload_n 1, 1) := by decide +kernel
theorem dX6_drop_21 : decode cX6_drop 21 = .ok (.invokevirtual 227, 3) := by decide +kernel
theorem dX6_drop_24 : decode cX6_drop 24 = .ok (.ireturn, 1) := by decide +kernel
theorem dX6_trust_0 : decode cX6_trust 0 = .ok (.iload_n 1, 1) := by decide +kernel
theorem dX6_trust_1 : decode cX6_trust 1 = .ok (.invokestatic 158, 3) := by decide +kernel
theorem dX6_trust_4 : decode cX6_trust 4 = .ok (.iload_n 2, 1) := by decide +kernel
theorem dX6_trust_5 : decode cX6_trust 5 = .ok (.invokestatic 230, 3) := by decide +kernel
theorem dX6_trust_8 : decode cX6_trust 8 = .ok (.invokestatic 48, 3) := by decide +kernel
theorem dX6_trust_11 : decode cX6_trust 11 = .ok (.aload_n 0, 1) := by decide +kernel
theorem dX6_trust_12 : decode cX6_trust 12 = .ok (.getfield 30, 3) := by decide +kernel
theorem dX6_trust_15 : decode cX6_trust 15 = .ok (.aload_n 0, 1) := by decide +kernel
theorem dX6_trust_16 : decode cX6_trust 16 = .ok (.getfield 10, 3) := by decide +kernel
theorem dX6_trust_19 : decode cX6_trust 19 = .ok (.invokevirtual 219, 3) := by decide +kernel
theorem dX6_trust_22 : decode cX6_trust 22 = .ok (.aload_n 0, 1) := by decide +kernel
theorem dX6_trust_23 : decode cX6_trust 23 = .ok (.getfield 10, 3) := by decide +kernel
theorem dX6_trust_26 : decode cX6_trust 26 = .ok (.iload_n 1, 1) := by decide +kernel
theorem dX6_trust_27 : decode cX6_trust 27 = .ok (.iload_n 2, 1) := by decide +kernel
theorem dX6_trust_28 : decode cX6_trust 28 = .ok (.invokevirtual 233, 3) := by decide +kernel
theorem dX6_trust_31 : decode cX6_trust 31 = .ok (.ireturn, 1) := by decide +kernel
theorem dX6_evening_0 : decode cX6_evening 0 = .ok (.aload_n 0, 1) := by decide +kernel
theorem dX6_evening_1 : decode cX6_evening 1 = .ok (.getfield 30, 3) := by decide +kernel
theorem dX6_evening_4 : decode cX6_evening 4 = .ok (.aload_n 0, 1) := by decide +kernel
theorem dX6_evening_5 : decode cX6_evening 5 = .ok (.getfield 10, 3) := by decide +kernel
theorem dX6_evening_8 : decode cX6_evening 8 = .ok (.invokevirtual 219, 3) := by decide +kernel
theorem dX6_evening_11 : decode cX6_evening 11 = .ok (.aload_n 0, 1) := by decide +kernel
theorem dX6_evening_12 : decode cX6_evening 12 = .ok (.getfield 10, 3) := by decide +kernel
theorem dX6_evening_15 : decode cX6_evening 15 = .ok (.invokevirtual 109, 3) := by decide +kernel
theorem dX6_evening_18 : decode cX6_evening 18 = .ok (.ireturn, 1) := by decide +kernel
theorem dX6_survey_0 : decode cX6_survey 0 = .ok (.iload_n 1, 1) := by decide +kernel
theorem dX6_survey_1 : decode cX6_survey 1 = .ok (.invokestatic 176, 3) := by decide +kernel
theorem dX6_survey_4 : decode cX6_survey 4 = .ok (.iload_n 2, 1) := by decide +kernel
theorem dX6_survey_5 : decode cX6_survey 5 = .ok (.invokestatic 188, 3) := by decide +kernel
theorem dX6_survey_8 : decode cX6_survey 8 = .ok (.invokestatic 48, 3) := by decide +kernel
theorem dX6_survey_11 : decode cX6_survey 11 = .ok (.aload_n 0, 1) := by decide +kernel
theorem dX6_survey_12 : decode cX6_survey 12 = .ok (.getfield 30, 3) := by decide +kernel
theorem dX6_survey_15 : decode cX6_survey 15 = .ok (.aload_n 0, 1) := by decide +kernel
theorem dX6_survey_16 : decode cX6_survey 16 = .ok (.getfield 10, 3) := by decide +kernel
theorem dX6_survey_19 : decode cX6_survey 19 = .ok (.invokevirtual 219, 3) := by decide +kernel
theorem dX6_survey_22 : decode cX6_survey 22 = .ok (.aload_n 0, 1) := by decide +kernel
theorem dX6_survey_23 : decode cX6_survey 23 = .ok (.getfield 10, 3) := by decide +kernel
theorem dX6_survey_26 : decode cX6_survey 26 = .ok (.iload_n 1, 1) := by decide +kernel
theorem dX6_survey_27 : decode cX6_survey 27 = .ok (.iload_n 2, 1) := by decide +kernel
theorem dX6_survey_28 : decode cX6_survey 28 = .ok (.invokevirtual 236, 3) := by decide +kernel
theorem dX6_survey_31 : decode cX6_survey 31 = .ok (.ireturn, 1) := by decide +kernel
theorem dX6_set_0 : decode cX6_set 0 = .ok (.iload_n 1, 1) := by decide +kernel
theorem dX6_set_1 : decode cX6_set 1 = .ok (.iload_n 2, 1) := by decide +kernel
theorem dX6_set_2 : decode cX6_set 2 = .ok (.invokestatic 239, 3) := by decide +kernel
theorem dX6_set_5 : decode cX6_set 5 = .ok (.invokestatic 48, 3) := by decide +kernel
theorem dX6_set_8 : decode cX6_set 8 = .ok (.aload_n 0, 1) := by decide +kernel
theorem dX6_set_9 : decode cX6_set 9 = .ok (.getfield 30, 3) := by decide +kernel
theorem dX6_set_12 : decode cX6_set 12 = .ok (.aload_n 0, 1) := by decide +kernel
theorem dX6_set_13 : decode cX6_set 13 = .ok (.getfield 10, 3) := by decide +kernel
theorem dX6_set_16 : decode cX6_set 16 = .ok (.invokevirtual 219, 3) := by decide +kernel
theorem dX6_set_19 : decode cX6_set 19 = .ok (.aload_n 0, 1) := by decide +kernel
theorem dX6_set_20 : decode cX6_set 20 = .ok (.getfield 10, 3) := by decide +kernel
theorem dX6_set_23 : decode cX6_set 23 = .ok (.iload_n 1, 1) := by decide +kernel
theorem dX6_set_24 : decode cX6_set 24 = .ok (.iload_n 2, 1) := by decide +kernel
theorem dX6_set_25 : decode cX6_set 25 = .ok (.invokevirtual 242, 3) := by decide +kernel
theorem dX6_set_28 : decode cX6_set 28 = .ok (.ireturn, 1) := by decide +kernel
theorem dX6_undo_0 : decode cX6_undo 0 = .ok (.aload_n 0, 1) := by decide +kernel
theorem dX6_undo_1 : decode cX6_undo 1 = .ok (.getfield 30, 3) := by decide +kernel
theorem dX6_undo_4 : decode cX6_undo 4 = .ok (.invokevirtual 245, 3) := by decide +kernel
theorem dX6_undo_7 : decode cX6_undo 7 = .ok (.ifCond .eq 13, 3) := by decide +kernel
theorem dX6_undo_10 : decode cX6_undo 10 = .ok (.new 56, 3) := by decide +kernel
theorem dX6_undo_13 : decode cX6_undo 13 = .ok (.dup, 1) := by decide +kernel
theorem dX6_undo_14 : decode cX6_undo 14 = .ok (.ldc 248, 2) := by decide +kernel
theorem dX6_undo_16 : decode cX6_undo 16 = .ok (.invokespecial 60, 3) := by decide +kernel
theorem dX6_undo_19 : decode cX6_undo 19 = .ok (.athrow, 1) := by decide +kernel
theorem dX6_undo_20 : decode cX6_undo 20 = .ok (.aload_n 0, 1) := by decide +kernel
theorem dX6_undo_21 : decode cX6_undo 21 = .ok (.getfield 30, 3) := by decide +kernel
theorem dX6_undo_24 : decode cX6_undo 24 = .ok (.aload_n 0, 1) := by decide +kernel
theorem dX6_undo_25 : decode cX6_undo 25 = .ok (.getfield 10, 3) := by decide +kernel
theorem dX6_undo_28 : decode cX6_undo 28 = .ok (.invokevirtual 250, 3) := by decide +kernel
theorem dX6_undo_31 : decode cX6_undo 31 = .ok (.ireturn, 1) := by decide +kernel
theorem dX6_apart_0 : decode cX6_apart 0 = .ok (.aload_n 0, 1) := by decide +kernel
theorem dX6_apart_1 : decode cX6_apart 1 = .ok (.iload_n 1, 1) := by decide +kernel
theorem dX6_apart_2 : decode cX6_apart 2 = .ok (.invokevirtual 145, 3) := by decide +kernel
theorem dX6_apart_5 : decode cX6_apart 5 = .ok (.aload_n 0, 1) := by decide +kernel
theorem dX6_apart_6 : decode cX6_apart 6 = .ok (.iload_n 2, 1) := by decide +kernel
theorem dX6_apart_7 : decode cX6_apart 7 = .ok (.invokevirtual 145, 3) := by decide +kernel
theorem dX6_apart_10 : decode cX6_apart 10 = .ok (.aload_n 0, 1) := by decide +kernel
theorem dX6_apart_11 : decode cX6_apart 11 = .ok (.getfield 10, 3) := by decide +kernel
theorem dX6_apart_14 : decode cX6_apart 14 = .ok (.iload_n 1, 1) := by decide +kernel
theorem dX6_apart_15 : decode cX6_apart 15 = .ok (.iload_n 2, 1) := by decide +kernel
theorem dX6_apart_16 : decode cX6_apart 16 = .ok (.invokevirtual 254, 3) := by decide +kernel
theorem dX6_apart_19 : decode cX6_apart 19 = .ok (.ireturn, 1) := by decide +kernel
theorem dX6_against_0 : decode cX6_against 0 = .ok (.iload_n 1, 1) := by decide +kernel
theorem dX6_against_1 : decode cX6_against 1 = .ok (.invokestatic 176, 3) := by decide +kernel
theorem dX6_against_4 : decode cX6_against 4 = .ok (.aload_n 0, 1) := by decide +kernel
theorem dX6_against_5 : decode cX6_against 5 = .ok (.getfield 44, 3) := by decide +kernel
theorem dX6_against_8 : decode cX6_against 8 = .ok (.aload_n 0, 1) := by decide +kernel
theorem dX6_against_9 : decode cX6_against 9 = .ok (.getfield 10, 3) := by decide +kernel
theorem dX6_against_12 : decode cX6_against 12 = .ok (.iload_n 1, 1) := by decide +kernel
theorem dX6_against_13 : decode cX6_against 13 = .ok (.iconst (-1), 1) := by decide +kernel
theorem dX6_against_14 : decode cX6_against 14 = .ok (.invokevirtual 199, 3) := by decide +kernel
theorem dX6_against_17 : decode cX6_against 17 = .ok (.aload_n 0, 1) := by decide +kernel
theorem dX6_against_18 : decode cX6_against 18 = .ok (.getfield 10, 3) := by decide +kernel
theorem dX6_against_21 : decode cX6_against 21 = .ok (.iload_n 1, 1) := by decide +kernel
theorem dX6_against_22 : decode cX6_against 22 = .ok (.aload_n 0, 1) := by decide +kernel
theorem dX6_against_23 : decode cX6_against 23 = .ok (.getfield 44, 3) := by decide +kernel
theorem dX6_against_26 : decode cX6_against 26 = .ok (.invokevirtual 257, 3) := by decide +kernel
theorem dX6_against_29 : decode cX6_against 29 = .ok (.invokevirtual 260, 3) := by decide +kernel
theorem dX6_against_32 : decode cX6_against 32 = .ok (.ireturn, 1) := by decide +kernel
theorem dX6_without_0 : decode cX6_without 0 = .ok (.aload_n 0, 1) := by decide +kernel
theorem dX6_without_1 : decode cX6_without 1 = .ok (.iload_n 1, 1) := by decide +kernel
theorem dX6_without_2 : decode cX6_without 2 = .ok (.invokevirtual 145, 3) := by decide +kernel
theorem dX6_without_5 : decode cX6_without 5 = .ok (.iconst 0, 1) := by decide +kernel
theorem dX6_without_6 : decode cX6_without 6 = .ok (.iload_n 2, 1) := by decide +kernel
theorem dX6_without_7 : decode cX6_without 7 = .ok (.if_icmp .gt 12, 3) := by decide +kernel
theorem dX6_without_10 : decode cX6_without 10 = .ok (.iload_n 2, 1) := by decide +kernel
theorem dX6_without_11 : decode cX6_without 11 = .ok (.iconst 2, 1) := by decide +kernel
theorem dX6_without_12 : decode cX6_without 12 = .ok (.if_icmp .gt 7, 3) := by decide +kernel
theorem dX6_without_15 : decode cX6_without 15 = .ok (.iconst 1, 1) := by decide +kernel
theorem dX6_without_16 : decode cX6_without 16 = .ok (.goto 4, 3) := by decide +kernel
theorem dX6_without_19 : decode cX6_without 19 = .ok (.iconst 0, 1) := by decide +kernel
theorem dX6_without_20 : decode cX6_without 20 = .ok (.invokestatic 48, 3) := by decide +kernel
theorem dX6_without_23 : decode cX6_without 23 = .ok (.aload_n 0, 1) := by decide +kernel
theorem dX6_without_24 : decode cX6_without 24 = .ok (.getfield 44, 3) := by decide +kernel
theorem dX6_without_27 : decode cX6_without 27 = .ok (.aload_n 0, 1) := by decide +kernel
theorem dX6_without_28 : decode cX6_without 28 = .ok (.getfield 10, 3) := by decide +kernel
theorem dX6_without_31 : decode cX6_without 31 = .ok (.aload_n 0, 1) := by decide +kernel
theorem dX6_without_32 : decode cX6_without 32 = .ok (.getfield 10, 3) := by decide +kernel
theorem dX6_without_35 : decode cX6_without 35 = .ok (.iload_n 1, 1) := by decide +kernel
theorem dX6_without_36 : decode cX6_without 36 = .ok (.iconst 0, 1) := by decide +kernel
theorem dX6_without_37 : decode cX6_without 37 = .ok (.invokevirtual 155, 3) := by decide +kernel
theorem dX6_without_40 : decode cX6_without 40 = .ok (.iload_n 1, 1) := by decide +kernel
theorem dX6_without_41 : decode cX6_without 41 = .ok (.invokevirtual 199, 3) := by decide +kernel
theorem dX6_without_44 : decode cX6_without 44 = .ok (.aload_n 0, 1) := by decide +kernel
theorem dX6_without_45 : decode cX6_without 45 = .ok (.getfield 44, 3) := by decide +kernel
theorem dX6_without_48 : decode cX6_without 48 = .ok (.iload_n 2, 1) := by decide +kernel
theorem dX6_without_49 : decode cX6_without 49 = .ok (.invokevirtual 203, 3) := by decide +kernel
theorem dX6_without_52 : decode cX6_without 52 = .ok (.ireturn, 1) := by decide +kernel
theorem dX6_swings_0 : decode cX6_swings 0 = .ok (.iload_n 1, 1) := by decide +kernel
theorem dX6_swings_1 : decode cX6_swings 1 = .ok (.invokestatic 158, 3) := by decide +kernel
theorem dX6_swings_4 : decode cX6_swings 4 = .ok (.iload_n 2, 1) := by decide +kernel
theorem dX6_swings_5 : decode cX6_swings 5 = .ok (.invokestatic 176, 3) := by decide +kernel
theorem dX6_swings_8 : decode cX6_swings 8 = .ok (.aload_n 0, 1) := by decide +kernel
theorem dX6_swings_9 : decode cX6_swings 9 = .ok (.getfield 16, 3) := by decide +kernel
theorem dX6_swings_12 : decode cX6_swings 12 = .ok (.aload_n 0, 1) := by decide +kernel
theorem dX6_swings_13 : decode cX6_swings 13 = .ok (.getfield 10, 3) := by decide +kernel
theorem dX6_swings_16 : decode cX6_swings 16 = .ok (.invokevirtual 263, 3) := by decide +kernel
theorem dX6_swings_19 : decode cX6_swings 19 = .ok (.iconst 0, 1) := by decide +kernel
theorem dX6_swings_20 : decode cX6_swings 20 = .ok (.istore_n 3, 1) := by decide +kernel
theorem dX6_swings_21 : decode cX6_swings 21 = .ok (.iload_n 3, 1) := by decide +kernel
theorem dX6_swings_22 : decode cX6_swings 22 = .ok (.bipush 9, 2) := by decide +kernel
theorem dX6_swings_24 : decode cX6_swings 24 = .ok (.if_icmp .gt 53, 3) := by decide +kernel
theorem dX6_swings_27 : decode cX6_swings 27 = .ok (.aload_n 0, 1) := by decide +kernel
theorem dX6_swings_28 : decode cX6_swings 28 = .ok (.getfield 16, 3) := by decide +kernel
theorem dX6_swings_31 : decode cX6_swings 31 = .ok (.iload_n 1, 1) := by decide +kernel
theorem dX6_swings_32 : decode cX6_swings 32 = .ok (.iload_n 3, 1) := by decide +kernel
theorem dX6_swings_33 : decode cX6_swings 33 = .ok (.invokevirtual 233, 3) := by decide +kernel
theorem dX6_swings_36 : decode cX6_swings 36 = .ok (.pop, 1) := by decide +kernel
theorem dX6_swings_37 : decode cX6_swings 37 = .ok (.aload_n 0, 1) := by decide +kernel
theorem dX6_swings_38 : decode cX6_swings 38 = .ok (.getfield 44, 3) := by decide +kernel
theorem dX6_swings_41 : decode cX6_swings 41 = .ok (.aload_n 0, 1) := by decide +kernel
theorem dX6_swings_42 : decode cX6_swings 42 = .ok (.getfield 16, 3) := by decide +kernel
theorem dX6_swings_45 : decode cX6_swings 45 = .ok (.iload_n 2, 1) := by decide +kernel
theorem dX6_swings_46 : decode cX6_swings 46 = .ok (.iconst (-1), 1) := by decide +kernel
theorem dX6_swings_47 : decode cX6_swings 47 = .ok (.invokevirtual 199, 3) := by decide +kernel
theorem dX6_swings_50 : decode cX6_swings 50 = .ok (.aload_n 0, 1) := by decide +kernel
theorem dX6_swings_51 : decode cX6_swings 51 = .ok (.getfield 16, 3) := by decide +kernel
theorem dX6_swings_54 : decode cX6_swings 54 = .ok (.iload_n 1, 1) := by decide +kernel
theorem dX6_swings_55 : decode cX6_swings 55 = .ok (.iload_n 2, 1) := by decide +kernel
theorem dX6_swings_56 : decode cX6_swings 56 = .ok (.aload_n 0, 1) := by decide +kernel
theorem dX6_swings_57 : decode cX6_swings 57 = .ok (.getfield 44, 3) := by decide +kernel
theorem dX6_swings_60 : decode cX6_swings 60 = .ok (.invokevirtual 257, 3) := by decide +kernel
theorem dX6_swings_63 : decode cX6_swings 63 = .ok (.invokevirtual 266, 3) := by decide +kernel
theorem dX6_swings_66 : decode cX6_swings 66 = .ok (.ifCond .eq 5, 3) := by decide +kernel
theorem dX6_swings_69 : decode cX6_swings 69 = .ok (.iload_n 3, 1) := by decide +kernel
theorem dX6_swings_70 : decode cX6_swings 70 = .ok (.ireturn, 1) := by decide +kernel
theorem dX6_swings_71 : decode cX6_swings 71 = .ok (.iinc 3 1, 3) := by decide +kernel
theorem dX6_swings_74 : decode cX6_swings 74 = .ok (.goto (-53), 3) := by decide +kernel
theorem dX6_swings_77 : decode cX6_swings 77 = .ok (.iconst (-1), 1) := by decide +kernel
theorem dX6_swings_78 : decode cX6_swings 78 = .ok (.ireturn, 1) := by decide +kernel
theorem dX6_truest_0 : decode cX6_truest 0 = .ok (.aload_n 0, 1) := by decide +kernel
theorem dX6_truest_1 : decode cX6_truest 1 = .ok (.getfield 10, 3) := by decide +kernel
theorem dX6_truest_4 : decode cX6_truest 4 = .ok (.invokevirtual 270, 3) := by decide +kernel
theorem dX6_truest_7 : decode cX6_truest 7 = .ok (.ireturn, 1) := by decide +kernel
theorem dX6_runScript_0 : decode cX6_runScript 0 = .ok (.iconst 1, 1) := by decide +kernel
theorem dX6_runScript_1 : decode cX6_runScript 1 = .ok (.iload_n 1, 1) := by decide +kernel
theorem dX6_runScript_2 : decode cX6_runScript 2 = .ok (.if_icmp .gt 12, 3) := by decide +kernel
theorem dX6_runScript_5 : decode cX6_runScript 5 = .ok (.iload_n 1, 1) := by decide +kernel
theorem dX6_runScript_6 : decode cX6_runScript 6 = .ok (.iconst 3, 1) := by decide +kernel
theorem dX6_runScript_7 : decode cX6_runScript 7 = .ok (.if_icmp .gt 7, 3) := by decide +kernel
theorem dX6_runScript_10 : decode cX6_runScript 10 = .ok (.iconst 1, 1) := by decide +kernel
theorem dX6_runScript_11 : decode cX6_runScript 11 = .ok (.goto 4, 3) := by decide +kernel
theorem dX6_runScript_14 : decode cX6_runScript 14 = .ok (.iconst 0, 1) := by decide +kernel
theorem dX6_runScript_15 : decode cX6_runScript 15 = .ok (.invokestatic 48, 3) := by decide +kernel
theorem dX6_runScript_18 : decode cX6_runScript 18 = .ok (.lconst 0, 1) := by decide +kernel
theorem dX6_runScript_19 : decode cX6_runScript 19 = .ok (.lload_n 2, 1) := by decide +kernel
theorem dX6_runScript_20 : decode cX6_runScript 20 = .ok (.lcmp, 1) := by decide +kernel
theorem dX6_runScript_21 : decode cX6_runScript 21 = .ok (.ifCond .gt 16, 3) := by decide +kernel
theorem dX6_runScript_24 : decode cX6_runScript 24 = .ok (.lload_n 2, 1) := by decide +kernel
theorem dX6_runScript_25 : decode cX6_runScript 25 = .ok (.iload_n 1, 1) := by decide +kernel
theorem dX6_runScript_26 : decode cX6_runScript 26 = .ok (.invokestatic 275, 3) := by decide +kernel
theorem dX6_runScript_29 : decode cX6_runScript 29 = .ok (.lcmp, 1) := by decide +kernel
theorem dX6_runScript_30 : decode cX6_runScript 30 = .ok (.ifCond .ge 7, 3) := by decide +kernel
theorem dX6_runScript_33 : decode cX6_runScript 33 = .ok (.iconst 1, 1) := by decide +kernel
theorem dX6_runScript_34 : decode cX6_runScript 34 = .ok (.goto 4, 3) := by decide +kernel
theorem dX6_runScript_37 : decode cX6_runScript 37 = .ok (.iconst 0, 1) := by decide +kernel
theorem dX6_runScript_38 : decode cX6_runScript 38 = .ok (.invokestatic 48, 3) := by decide +kernel
theorem dX6_runScript_41 : decode cX6_runScript 41 = .ok (.aload_n 0, 1) := by decide +kernel
theorem dX6_runScript_42 : decode cX6_runScript 42 = .ok (.getfield 16, 3) := by decide +kernel
theorem dX6_runScript_45 : decode cX6_runScript 45 = .ok (.aload_n 0, 1) := by decide +kernel
theorem dX6_runScript_46 : decode cX6_runScript 46 = .ok (.getfield 10, 3) := by decide +kernel
theorem dX6_runScript_49 : decode cX6_runScript 49 = .ok (.invokevirtual 263, 3) := by decide +kernel
theorem dX6_runScript_52 : decode cX6_runScript 52 = .ok (.iconst 0, 1) := by decide +kernel
theorem dX6_runScript_53 : decode cX6_runScript 53 = .ok (.istore 4, 2) := by decide +kernel
theorem dX6_runScript_55 : decode cX6_runScript 55 = .ok (.iload 4, 2) := by decide +kernel
theorem dX6_runScript_57 : decode cX6_runScript 57 = .ok (.iload_n 1, 1) := by decide +kernel
theorem dX6_runScript_58 : decode cX6_runScript 58 = .ok (.if_icmp .ge 36, 3) := by decide +kernel
theorem dX6_runScript_61 : decode cX6_runScript 61 = .ok (.aload_n 0, 1) := by decide +kernel
theorem dX6_runScript_62 : decode cX6_runScript 62 = .ok (.getfield 16, 3) := by decide +kernel
theorem dX6_runScript_65 : decode cX6_runScript 65 = .ok (.aload_n 0, 1) := by decide +kernel
theorem dX6_runScript_66 : decode cX6_runScript 66 = .ok (.getfield 44, 3) := by decide +kernel
theorem dX6_runScript_69 : decode cX6_runScript 69 = .ok (.lload_n 2, 1) := by decide +kernel
theorem dX6_runScript_70 : decode cX6_runScript 70 = .ok (.iload_n 1, 1) := by decide +kernel
theorem dX6_runScript_71 : decode cX6_runScript 71 = .ok (.iconst 1, 1) := by decide +kernel
theorem dX6_runScript_72 : decode cX6_runScript 72 = .ok (.isub, 1) := by decide +kernel
theorem dX6_runScript_73 : decode cX6_runScript 73 = .ok (.iload 4, 2) := by decide +kernel
theorem dX6_runScript_75 : decode cX6_runScript 75 = .ok (.isub, 1) := by decide +kernel
theorem dX6_runScript_76 : decode cX6_runScript 76 = .ok (.invokestatic 279, 3) := by decide +kernel
theorem dX6_runScript_79 : decode cX6_runScript 79 = .ok (.invokestatic 283, 3) := by decide +kernel
theorem dX6_runScript_82 : decode cX6_runScript 82 = .ok (.ifCond .ne 6, 3) := by decide +kernel
theorem dX6_runScript_85 : decode cX6_runScript 85 = .ok (.iload 4, 2) := by decide +kernel
theorem dX6_runScript_87 : decode cX6_runScript 87 = .ok (.ireturn, 1) := by decide +kernel
theorem dX6_runScript_88 : decode cX6_runScript 88 = .ok (.iinc 4 1, 3) := by decide +kernel
theorem dX6_runScript_91 : decode cX6_runScript 91 = .ok (.goto (-36), 3) := by decide +kernel
theorem dX6_runScript_94 : decode cX6_runScript 94 = .ok (.iconst (-1), 1) := by decide +kernel
theorem dX6_runScript_95 : decode cX6_runScript 95 = .ok (.ireturn, 1) := by decide +kernel
theorem dX6_simulate_0 : decode cX6_simulate 0 = .ok (.iconst 1, 1) := by decide +kernel
theorem dX6_simulate_1 : decode cX6_simulate 1 = .ok (.iload_n 3, 1) := by decide +kernel
theorem dX6_simulate_2 : decode cX6_simulate 2 = .ok (.if_icmp .gt 13, 3) := by decide +kernel
theorem dX6_simulate_5 : decode cX6_simulate 5 = .ok (.iload_n 3, 1) := by decide +kernel
theorem dX6_simulate_6 : decode cX6_simulate 6 = .ok (.bipush 60, 2) := by decide +kernel
theorem dX6_simulate_8 : decode cX6_simulate 8 = .ok (.if_icmp .gt 7, 3) := by decide +kernel
theorem dX6_simulate_11 : decode cX6_simulate 11 = .ok (.iconst 1, 1) := by decide +kernel
theorem dX6_simulate_12 : decode cX6_simulate 12 = .ok (.goto 4, 3) := by decide +kernel
theorem dX6_simulate_15 : decode cX6_simulate 15 = .ok (.iconst 0, 1) := by decide +kernel
theorem dX6_simulate_16 : decode cX6_simulate 16 = .ok (.invokestatic 48, 3) := by decide +kernel
theorem dX6_simulate_19 : decode cX6_simulate 19 = .ok (.aload_n 0, 1) := by decide +kernel
theorem dX6_simulate_20 : decode cX6_simulate 20 = .ok (.getfield 16, 3) := by decide +kernel
theorem dX6_simulate_23 : decode cX6_simulate 23 = .ok (.aload_n 0, 1) := by decide +kernel
theorem dX6_simulate_24 : decode cX6_simulate 24 = .ok (.getfield 10, 3) := by decide +kernel
theorem dX6_simulate_27 : decode cX6_simulate 27 = .ok (.invokevirtual 263, 3) := by decide +kernel
theorem dX6_simulate_30 : decode cX6_simulate 30 = .ok (.lload_n 1, 1) := by decide +kernel
theorem dX6_simulate_31 : decode cX6_simulate 31 = .ok (.lstore 4, 2) := by decide +kernel
theorem dX6_simulate_33 : decode cX6_simulate 33 = .ok (.iconst 0, 1) := by decide +kernel
theorem dX6_simulate_34 : decode cX6_simulate 34 = .ok (.istore 6, 2) := by decide +kernel
theorem dX6_simulate_36 : decode cX6_simulate 36 = .ok (.iload 6, 2) := by decide +kernel
theorem dX6_simulate_38 : decode cX6_simulate 38 = .ok (.iload_n 3, 1) := by decide +kernel
theorem dX6_simulate_39 : decode cX6_simulate 39 = .ok (.if_icmp .ge 34, 3) := by decide +kernel
theorem dX6_simulate_42 : decode cX6_simulate 42 = .ok (.lload 4, 2) := by decide +kernel
theorem dX6_simulate_44 : decode cX6_simulate 44 = .ok (.ldc2_w 287, 3) := by decide +kernel
theorem dX6_simulate_47 : decode cX6_simulate 47 = .ok (.lmul, 1) := by decide +kernel
theorem dX6_simulate_48 : decode cX6_simulate 48 = .ok (.ldc2_w 289, 3) := by decide +kernel
theorem dX6_simulate_51 : decode cX6_simulate 51 = .ok (.ladd, 1) := by decide +kernel
theorem dX6_simulate_52 : decode cX6_simulate 52 = .ok (.lstore 4, 2) := by decide +kernel
theorem dX6_simulate_54 : decode cX6_simulate 54 = .ok (.aload_n 0, 1) := by decide +kernel
theorem dX6_simulate_55 : decode cX6_simulate 55 = .ok (.getfield 16, 3) := by decide +kernel
theorem dX6_simulate_58 : decode cX6_simulate 58 = .ok (.lload 4, 2) := by decide +kernel
theorem dX6_simulate_60 : decode cX6_simulate 60 = .ok (.bipush 33, 2) := by decide +kernel
theorem dX6_simulate_62 : decode cX6_simulate 62 = .ok (.lushr, 1) := by decide +kernel
theorem dX6_simulate_63 : decode cX6_simulate 63 = .ok (.l2i, 1) := by decide +kernel
theorem dX6_simulate_64 : decode cX6_simulate 64 = .ok (.invokestatic 291, 3) := by decide +kernel
theorem dX6_simulate_67 : decode cX6_simulate 67 = .ok (.iinc 6 1, 3) := by decide +kernel
theorem dX6_simulate_70 : decode cX6_simulate 70 = .ok (.goto (-34), 3) := by decide +kernel
theorem dX6_simulate_73 : decode cX6_simulate 73 = .ok (.aload_n 0, 1) := by decide +kernel
theorem dX6_simulate_74 : decode cX6_simulate 74 = .ok (.getfield 16, 3) := by decide +kernel
theorem dX6_simulate_77 : decode cX6_simulate 77 = .ok (.invokevirtual 139, 3) := by decide +kernel
theorem dX6_simulate_80 : decode cX6_simulate 80 = .ok (.aload_n 0, 1) := by decide +kernel
theorem dX6_simulate_81 : decode cX6_simulate 81 = .ok (.getfield 10, 3) := by decide +kernel
theorem dX6_simulate_84 : decode cX6_simulate 84 = .ok (.invokevirtual 139, 3) := by decide +kernel
theorem dX6_simulate_87 : decode cX6_simulate 87 = .ok (.isub, 1) := by decide +kernel
theorem dX6_simulate_88 : decode cX6_simulate 88 = .ok (.istore 6, 2) := by decide +kernel
theorem dX6_simulate_90 : decode cX6_simulate 90 = .ok (.sipush 10000, 3) := by decide +kernel
theorem dX6_simulate_93 : decode cX6_simulate 93 = .ok (.aload_n 0, 1) := by decide +kernel
theorem dX6_simulate_94 : decode cX6_simulate 94 = .ok (.getfield 16, 3) := by decide +kernel
theorem dX6_simulate_97 : decode cX6_simulate 97 = .ok (.invokevirtual 115, 3) := by decide +kernel
theorem dX6_simulate_100 : decode cX6_simulate 100 = .ok (.imul, 1) := by decide +kernel
theorem dX6_simulate_101 : decode cX6_simulate 101 = .ok (.bipush 100, 2) := by decide +kernel
theorem dX6_simulate_103 : decode cX6_simulate 103 = .ok (.aload_n 0, 1) := by decide +kernel
theorem dX6_simulate_104 : decode cX6_simulate 104 = .ok (.getfield 16, 3) := by decide +kernel
theorem dX6_simulate_107 : decode cX6_simulate 107 = .ok (.invokevirtual 133, 3) := by decide +kernel
theorem dX6_simulate_110 : decode cX6_simulate 110 = .ok (.imul, 1) := by decide +kernel
theorem dX6_simulate_111 : decode cX6_simulate 111 = .ok (.iadd, 1) := by decide +kernel
theorem dX6_simulate_112 : decode cX6_simulate 112 = .ok (.iload 6, 2) := by decide +kernel
theorem dX6_simulate_114 : decode cX6_simulate 114 = .ok (.bipush 100, 2) := by decide +kernel
theorem dX6_simulate_116 : decode cX6_simulate 116 = .ok (.irem, 1) := by decide +kernel
theorem dX6_simulate_117 : decode cX6_simulate 117 = .ok (.iadd, 1) := by decide +kernel
theorem dX6_simulate_118 : decode cX6_simulate 118 = .ok (.ireturn, 1) := by decide +kernel
theorem dX6_save_0 : decode cX6_save 0 = .ok (.iload_n 1, 1) := by decide +kernel
theorem dX6_save_1 : decode cX6_save 1 = .ok (.invokestatic 296, 3) := by decide +kernel
theorem dX6_save_4 : decode cX6_save 4 = .ok (.aload_n 0, 1) := by decide +kernel
theorem dX6_save_5 : decode cX6_save 5 = .ok (.getfield 19, 3) := by decide +kernel
theorem dX6_save_8 : decode cX6_save 8 = .ok (.iload_n 1, 1) := by decide +kernel
theorem dX6_save_9 : decode cX6_save 9 = .ok (.aaload, 1) := by decide +kernel
theorem dX6_save_10 : decode cX6_save 10 = .ok (.aload_n 0, 1) := by decide +kernel
theorem dX6_save_11 : decode cX6_save 11 = .ok (.getfield 10, 3) := by decide +kernel
theorem dX6_save_14 : decode cX6_save 14 = .ok (.invokevirtual 263, 3) := by decide +kernel
theorem dX6_save_17 : decode cX6_save 17 = .ok (.aload_n 0, 1) := by decide +kernel
theorem dX6_save_18 : decode cX6_save 18 = .ok (.getfield 23, 3) := by decide +kernel
theorem dX6_save_21 : decode cX6_save 21 = .ok (.iload_n 1, 1) := by decide +kernel
theorem dX6_save_22 : decode cX6_save 22 = .ok (.iconst 1, 1) := by decide +kernel
theorem dX6_save_23 : decode cX6_save 23 = .ok (.bastore, 1) := by decide +kernel
theorem dX6_save_24 : decode cX6_save 24 = .ok (.aload_n 0, 1) := by decide +kernel
theorem dX6_save_25 : decode cX6_save 25 = .ok (.getfield 10, 3) := by decide +kernel
theorem dX6_save_28 : decode cX6_save 28 = .ok (.invokevirtual 115, 3) := by decide +kernel
theorem dX6_save_31 : decode cX6_save 31 = .ok (.ireturn, 1) := by decide +kernel
theorem dX6_restore_0 : decode cX6_restore 0 = .ok (.iload_n 1, 1) := by decide +kernel
theorem dX6_restore_1 : decode cX6_restore 1 = .ok (.invokestatic 296, 3) := by decide +kernel
theorem dX6_restore_4 : decode cX6_restore 4 = .ok (.aload_n 0, 1) := by decide +kernel
theorem dX6_restore_5 : decode cX6_restore 5 = .ok (.getfield 23, 3) := by decide +kernel
theorem dX6_restore_8 : decode cX6_restore 8 = .ok (.iload_n 1, 1) := by decide +kernel
theorem dX6_restore_9 : decode cX6_restore 9 = .ok (.baload, 1) := by decide +kernel
theorem dX6_restore_10 : decode cX6_restore 10 = .ok (.ifCond .ne 14, 3) := by decide +kernel
theorem dX6_restore_13 : decode cX6_restore 13 = .ok (.new 56, 3) := by decide +kernel
theorem dX6_restore_16 : decode cX6_restore 16 = .ok (.dup, 1) := by decide +kernel
theorem dX6_restore_17 : decode cX6_restore 17 = .ok (.ldc_w 299, 3) := by decide +kernel
theorem dX6_restore_20 : decode cX6_restore 20 = .ok (.invokespecial 60, 3) := by decide +kernel
theorem dX6_restore_23 : decode cX6_restore 23 = .ok (.athrow, 1) := by decide +kernel
theorem dX6_restore_24 : decode cX6_restore 24 = .ok (.aload_n 0, 1) := by decide +kernel
theorem dX6_restore_25 : decode cX6_restore 25 = .ok (.getfield 10, 3) := by decide +kernel
theorem dX6_restore_28 : decode cX6_restore 28 = .ok (.aload_n 0, 1) := by decide +kernel
theorem dX6_restore_29 : decode cX6_restore 29 = .ok (.getfield 19, 3) := by decide +kernel
theorem dX6_restore_32 : decode cX6_restore 32 = .ok (.iload_n 1, 1) := by decide +kernel
theorem dX6_restore_33 : decode cX6_restore 33 = .ok (.aaload, 1) := by decide +kernel
theorem dX6_restore_34 : decode cX6_restore 34 = .ok (.invokevirtual 263, 3) := by decide +kernel
theorem dX6_restore_37 : decode cX6_restore 37 = .ok (.aload_n 0, 1) := by decide +kernel
theorem dX6_restore_38 : decode cX6_restore 38 = .ok (.getfield 30, 3) := by decide +kernel
theorem dX6_restore_41 : decode cX6_restore 41 = .ok (.invokevirtual 79, 3) := by decide +kernel
theorem dX6_restore_44 : decode cX6_restore 44 = .ok (.aload_n 0, 1) := by decide +kernel
theorem dX6_restore_45 : decode cX6_restore 45 = .ok (.getfield 10, 3) := by decide +kernel
theorem dX6_restore_48 : decode cX6_restore 48 = .ok (.invokevirtual 115, 3) := by decide +kernel
theorem dX6_restore_51 : decode cX6_restore 51 = .ok (.ireturn, 1) := by decide +kernel
theorem dX6_need_0 : decode cX6_need 0 = .ok (.iload_n 0, 1) := by decide +kernel
theorem dX6_need_1 : decode cX6_need 1 = .ok (.ifCond .ne 14, 3) := by decide +kernel
theorem dX6_need_4 : decode cX6_need 4 = .ok (.new 301, 3) := by decide +kernel
theorem dX6_need_7 : decode cX6_need 7 = .ok (.dup, 1) := by decide +kernel
theorem dX6_need_8 : decode cX6_need 8 = .ok (.ldc_w 303, 3) := by decide +kernel
theorem dX6_need_11 : decode cX6_need 11 = .ok (.invokespecial 305, 3) := by decide +kernel
theorem dX6_need_14 : decode cX6_need 14 = .ok (.athrow, 1) := by decide +kernel
theorem dX6_need_15 : decode cX6_need 15 = .ok (.return_, 1) := by decide +kernel
theorem dX6_needSteeple_0 : decode cX6_needSteeple 0 = .ok (.iload_n 0, 1) := by decide +kernel
theorem dX6_needSteeple_1 : decode cX6_needSteeple 1 = .ok (.invokestatic 306, 3) := by decide +kernel
theorem dX6_needSteeple_4 : decode cX6_needSteeple 4 = .ok (.ifCond .ne 14, 3) := by decide +kernel
theorem dX6_needSteeple_7 : decode cX6_needSteeple 7 = .ok (.new 309, 3) := by decide +kernel
theorem dX6_needSteeple_10 : decode cX6_needSteeple 10 = .ok (.dup, 1) := by decide +kernel
theorem dX6_needSteeple_11 : decode cX6_needSteeple 11 = .ok (.ldc_w 311, 3) := by decide +kernel
theorem dX6_needSteeple_14 : decode cX6_needSteeple 14 = .ok (.invokespecial 313, 3) := by decide +kernel
theorem dX6_needSteeple_17 : decode cX6_needSteeple 17 = .ok (.athrow, 1) := by decide +kernel
theorem dX6_needSteeple_18 : decode cX6_needSteeple 18 = .ok (.return_, 1) := by decide +kernel
theorem dX6_needTeller_0 : decode cX6_needTeller 0 = .ok (.iload_n 0, 1) := by decide +kernel
theorem dX6_needTeller_1 : decode cX6_needTeller 1 = .ok (.invokestatic 314, 3) := by decide +kernel
theorem dX6_needTeller_4 : decode cX6_needTeller 4 = .ok (.ifCond .ne 14, 3) := by decide +kernel
theorem dX6_needTeller_7 : decode cX6_needTeller 7 = .ok (.new 309, 3) := by decide +kernel
theorem dX6_needTeller_10 : decode cX6_needTeller 10 = .ok (.dup, 1) := by decide +kernel
theorem dX6_needTeller_11 : decode cX6_needTeller 11 = .ok (.ldc_w 317, 3) := by decide +kernel
theorem dX6_needTeller_14 : decode cX6_needTeller 14 = .ok (.invokespecial 313, 3) := by decide +kernel
theorem dX6_needTeller_17 : decode cX6_needTeller 17 = .ok (.athrow, 1) := by decide +kernel
theorem dX6_needTeller_18 : decode cX6_needTeller 18 = .ok (.return_, 1) := by decide +kernel
theorem dX6_needMeasure_0 : decode cX6_needMeasure 0 = .ok (.aload_n 0, 1) := by decide +kernel
theorem dX6_needMeasure_1 : decode cX6_needMeasure 1 = .ok (.getfield 10, 3) := by decide +kernel
theorem dX6_needMeasure_4 : decode cX6_needMeasure 4 = .ok (.iload_n 1, 1) := by decide +kernel
theorem dX6_needMeasure_5 : decode cX6_needMeasure 5 = .ok (.invokevirtual 319, 3) := by decide +kernel
theorem dX6_needMeasure_8 : decode cX6_needMeasure 8 = .ok (.ifCond .ne 14, 3) := by decide +kernel
theorem dX6_needMeasure_11 : decode cX6_needMeasure 11 = .ok (.new 309, 3) := by decide +kernel
theorem dX6_needMeasure_14 : decode cX6_needMeasure 14 = .ok (.dup, 1) := by decide +kernel
theorem dX6_needMeasure_15 : decode cX6_needMeasure 15 = .ok (.ldc_w 322, 3) := by decide +kernel
theorem dX6_needMeasure_18 : decode cX6_needMeasure 18 = .ok (.invokespecial 313, 3) := by decide +kernel
theorem dX6_needMeasure_21 : decode cX6_needMeasure 21 = .ok (.athrow, 1) := by decide +kernel
theorem dX6_needMeasure_22 : decode cX6_needMeasure 22 = .ok (.return_, 1) := by decide +kernel
theorem dX6_needSlot_0 : decode cX6_needSlot 0 = .ok (.iload_n 0, 1) := by decide +kernel
theorem dX6_needSlot_1 : decode cX6_needSlot 1 = .ok (.ifCond .lt 8, 3) := by decide +kernel
theorem dX6_needSlot_4 : decode cX6_needSlot 4 = .ok (.iload_n 0, 1) := by decide +kernel
theorem dX6_needSlot_5 : decode cX6_needSlot 5 = .ok (.iconst 2, 1) := by decide +kernel
theorem dX6_needSlot_6 : decode cX6_needSlot 6 = .ok (.if_icmp .lt 14, 3) := by decide +kernel
theorem dX6_needSlot_9 : decode cX6_needSlot 9 = .ok (.new 309, 3) := by decide +kernel
theorem dX6_needSlot_12 : decode cX6_needSlot 12 = .ok (.dup, 1) := by decide +kernel
theorem dX6_needSlot_13 : decode cX6_needSlot 13 = .ok (.ldc_w 324, 3) := by decide +kernel
theorem dX6_needSlot_16 : decode cX6_needSlot 16 = .ok (.invokespecial 313, 3) := by decide +kernel
theorem dX6_needSlot_19 : decode cX6_needSlot 19 = .ok (.athrow, 1) := by decide +kernel
theorem dX6_needSlot_20 : decode cX6_needSlot 20 = .ok (.return_, 1) := by decide +kernel
theorem dX7_init_0 : decode cX7_init 0 = .ok (.aload_n 0, 1) := by decide +kernel
theorem dX7_init_1 : decode cX7_init 1 = .ok (.invokespecial 1, 3) := by decide +kernel
theorem dX7_init_4 : decode cX7_init 4 = .ok (.aload_n 0, 1) := by decide +kernel
theorem dX7_init_5 : decode cX7_init 5 = .ok (.bipush 120, 2) := by decide +kernel
theorem dX7_init_7 : decode cX7_init 7 = .ok (.newarray .int, 2) := by decide +kernel
theorem dX7_init_9 : decode cX7_init 9 = .ok (.putfield 7, 3) := by decide +kernel
theorem dX7_init_12 : decode cX7_init 12 = .ok (.aload_n 0, 1) := by decide +kernel
theorem dX7_init_13 : decode cX7_init 13 = .ok (.sipush 142, 3) := by decide +kernel
theorem dX7_init_16 : decode cX7_init 16 = .ok (.newarray .int, 2) := by decide +kernel
theorem dX7_init_18 : decode cX7_init 18 = .ok (.putfield 13, 3) := by decide +kernel
theorem dX7_init_21 : decode cX7_init 21 = .ok (.aload_n 0, 1) := by decide +kernel
theorem dX7_init_22 : decode cX7_init 22 = .ok (.sipush 142, 3) := by decide +kernel
theorem dX7_init_25 : decode cX7_init 25 = .ok (.newarray .int, 2) := by decide +kernel
theorem dX7_init_27 : decode cX7_init 27 = .ok (.putfield 16, 3) := by decide +kernel
theorem dX7_init_30 : decode cX7_init 30 = .ok (.aload_n 0, 1) := by decide +kernel
theorem dX7_init_31 : decode cX7_init 31 = .ok (.sipush 1988, 3) := by decide +kernel
theorem dX7_init_34 : decode cX7_init 34 = .ok (.newarray .int, 2) := by decide +kernel
theorem dX7_init_36 : decode cX7_init 36 = .ok (.putfield 19, 3) := by decide +kernel
theorem dX7_init_39 : decode cX7_init 39 = .ok (.aload_n 0, 1) := by decide +kernel
theorem dX7_init_40 : decode cX7_init 40 = .ok (.sipush 284, 3) := by decide +kernel
theorem dX7_init_43 : decode cX7_init 43 = .ok (.newarray .int, 2) := by decide +kernel
theorem dX7_init_45 : decode cX7_init 45 = .ok (.putfield 22, 3) := by decide +kernel
theorem dX7_init_48 : decode cX7_init 48 = .ok (.aload_n 0, 1) := by decide +kernel
theorem dX7_init_49 : decode cX7_init 49 = .ok (.iconst 2, 1) := by decide +kernel
theorem dX7_init_50 : decode cX7_init 50 = .ok (.newarray .boolean, 2) := by decide +kernel
theorem dX7_init_52 : decode cX7_init 52 = .ok (.putfield 25, 3) := by decide +kernel
theorem dX7_init_55 : decode cX7_init 55 = .ok (.aload_n 0, 1) := by decide +kernel
theorem dX7_init_56 : decode cX7_init 56 = .ok (.getfield 13, 3) := by decide +kernel
theorem dX7_init_59 : decode cX7_init 59 = .ok (.invokestatic 29, 3) := by decide +kernel
theorem dX7_init_62 : decode cX7_init 62 = .ok (.return_, 1) := by decide +kernel
theorem dX7_thrown_0 : decode cX7_thrown 0 = .ok (.aload_n 0, 1) := by decide +kernel
theorem dX7_thrown_1 : decode cX7_thrown 1 = .ok (.getfield 33, 3) := by decide +kernel
theorem dX7_thrown_4 : decode cX7_thrown 4 = .ok (.ireturn, 1) := by decide +kernel
theorem dX7_refused_0 : decode cX7_refused 0 = .ok (.aload_n 0, 1) := by decide +kernel
theorem dX7_refused_1 : decode cX7_refused 1 = .ok (.iload_n 1, 1) := by decide +kernel
theorem dX7_refused_2 : decode cX7_refused 2 = .ok (.putfield 33, 3) := by decide +kernel
theorem dX7_refused_5 : decode cX7_refused 5 = .ok (.iload_n 1, 1) := by decide +kernel
theorem dX7_refused_6 : decode cX7_refused 6 = .ok (.ifCond .le 7, 3) := by decide +kernel
theorem dX7_refused_9 : decode cX7_refused 9 = .ok (.iconst 1, 1) := by decide +kernel
theorem dX7_refused_10 : decode cX7_refused 10 = .ok (.goto 4, 3) := by decide +kernel
theorem dX7_refused_13 : decode cX7_refused 13 = .ok (.iconst 0, 1) := by decide +kernel
theorem dX7_refused_14 : decode cX7_refused 14 = .ok (.ireturn, 1) := by decide +kernel
theorem dX7_in_0 : decode cX7_in 0 = .ok (.lload_n 0, 1) := by decide +kernel
theorem dX7_in_1 : decode cX7_in 1 = .ok (.lload_n 2, 1) := by decide +kernel
theorem dX7_in_2 : decode cX7_in 2 = .ok (.lcmp, 1) := by decide +kernel
theorem dX7_in_3 : decode cX7_in 3 = .ok (.ifCond .lt 14, 3) := by decide +kernel
theorem dX7_in_6 : decode cX7_in 6 = .ok (.lload_n 0, 1) := by decide +kernel
theorem dX7_in_7 : decode cX7_in 7 = .ok (.lload 4, 2) := by decide +kernel
theorem dX7_in_9 : decode cX7_in 9 = .ok (.lcmp, 1) := by decide +kernel
theorem dX7_in_10 : decode cX7_in 10 = .ok (.ifCond .gt 7, 3) := by decide +kernel
theorem dX7_in_13 : decode cX7_in 13 = .ok (.iconst 1, 1) := by decide +kernel
theorem dX7_in_14 : decode cX7_in 14 = .ok (.goto 4, 3) := by decide +kernel
theorem dX7_in_17 : decode cX7_in 17 = .ok (.iconst 0, 1) := by decide +kernel
theorem dX7_in_18 : decode cX7_in 18 = .ok (.ireturn, 1) := by decide +kernel
theorem dX7_copyState_0 : decode cX7_copyState 0 = .ok (.iconst 0, 1) := by decide +kernel
theorem dX7_copyState_1 : decode cX7_copyState 1 = .ok (.istore 4, 2) := by decide +kernel
theorem dX7_copyState_3 : decode cX7_copyState 3 = .ok (.iload 4, 2) := by decide +kernel
theorem dX7_copyState_5 : decode cX7_copyState 5 = .ok (.sipush 142, 3) := by decide +kernel
theorem dX7_copyState_8 : decode cX7_copyState 8 = .ok (.if_icmp .ge 21, 3) := by decide +kernel
theorem dX7_copyState_11 : decode cX7_copyState 11 = .ok (.aload_n 2, 1) := by decide +kernel
theorem dX7_copyState_12 : decode cX7_copyState 12 = .ok (.iload_n 3, 1) := by decide +kernel
theorem dX7_copyState_13 : decode cX7_copyState 13 = .ok (.iload 4, 2) := by decide +kernel
theorem dX7_copyState_15 : decode cX7_copyState 15 = .ok (.iadd, 1) := by decide +kernel
theorem dX7_copyState_16 : decode cX7_copyState 16 = .ok (.aload_n 0, 1) := by decide +kernel
theorem dX7_copyState_17 : decode cX7_copyState 17 = .ok (.iload_n 1, 1) := by decide +kernel
theorem dX7_copyState_18 : decode cX7_copyState 18 = .ok (.iload 4, 2) := by decide +kernel
theorem dX7_copyState_20 : decode cX7_copyState 20 = .ok (.iadd, 1) := by decide +kernel
theorem dX7_copyState_21 : decode cX7_copyState 21 = .ok (.iaload, 1) := by decide +kernel
theorem dX7_copyState_22 : decode cX7_copyState 22 = .ok (.iastore, 1) := by decide +kernel
theorem dX7_copyState_23 : decode cX7_copyState 23 = .ok (.iinc 4 1, 3) := by decide +kernel
theorem dX7_copyState_26 : decode cX7_copyState 26 = .ok (.goto (-23), 3) := by decide +kernel
theorem dX7_copyState_29 : decode cX7_copyState 29 = .ok (.return_, 1) := by decide +kernel
theorem dX7_clear_0 : decode cX7_clear 0 = .ok (.iconst 0, 1) := by decide +kernel
theorem dX7_clear_1 : decode cX7_clear 1 = .ok (.istore_n 1, 1) := by decide +kernel
theorem dX7_clear_2 : decode cX7_clear 2 = .ok (.iload_n 1, 1) := by decide +kernel
theorem dX7_clear_3 : decode cX7_clear 3 = .ok (.sipush 142, 3) := by decide +kernel
theorem dX7_clear_6 : decode cX7_clear 6 = .ok (.if_icmp .ge 45, 3) := by decide +kernel
theorem dX7_clear_9 : decode cX7_clear 9 = .ok (.aload_n 0, 1) := by decide +kernel
theorem dX7_clear_10 : decode cX7_clear 10 = .ok (.iload_n 1, 1) := by decide +kernel
theorem dX7_clear_11 : decode cX7_clear 11 = .ok (.iload_n 1, 1) := by decide +kernel
theorem dX7_clear_12 : decode cX7_clear 12 = .ok (.bipush 9, 2) := by decide +kernel
theorem dX7_clear_14 : decode cX7_clear 14 = .ok (.if_icmp .lt 13, 3) := by decide +kernel
theorem dX7_clear_17 : decode cX7_clear 17 = .ok (.iload_n 1, 1) := by decide +kernel
theorem dX7_clear_18 : decode cX7_clear 18 = .ok (.bipush 15, 2) := by decide +kernel
theorem dX7_clear_20 : decode cX7_clear 20 = .ok (.if_icmp .ge 7, 3) := by decide +kernel
theorem dX7_clear_23 : decode cX7_clear 23 = .ok (.iconst 5, 1) := by decide +kernel
theorem dX7_clear_24 : decode cX7_clear 24 = .ok (.goto 20, 3) := by decide +kernel
theorem dX7_clear_27 : decode cX7_clear 27 = .ok (.iload_n 1, 1) := by decide +kernel
theorem dX7_clear_28 : decode cX7_clear 28 = .ok (.bipush 27, 2) := by decide +kernel
theorem dX7_clear_30 : decode cX7_clear 30 = .ok (.if_icmp .lt 13, 3) := by decide +kernel
theorem dX7_clear_33 : decode cX7_clear 33 = .ok (.iload_n 1, 1) := by decide +kernel
theorem dX7_clear_34 : decode cX7_clear 34 = .ok (.bipush 30, 2) := by decide +kernel
theorem dX7_clear_36 : decode cX7_clear 36 = .ok (.if_icmp .ge 7, 3) := by decide +kernel
theorem dX7_clear_39 : decode cX7_clear 39 = .ok (.iconst (-1), 1) := by decide +kernel
theorem dX7_clear_40 : decode cX7_clear 40 = .ok (.goto 4, 3) := by decide +kernel
theorem dX7_clear_43 : decode cX7_clear 43 = .ok (.iconst 0, 1) := by decide +kernel
theorem dX7_clear_44 : decode cX7_clear 44 = .ok (.iastore, 1) := by decide +kernel
theorem dX7_clear_45 : decode cX7_clear 45 = .ok (.iinc 1 1, 3) := by decide +kernel
theorem dX7_clear_48 : decode cX7_clear 48 = .ok (.goto (-46), 3) := by decide +kernel
theorem dX7_clear_51 : decode cX7_clear 51 = .ok (.aload_n 0, 1) := by decide +kernel
theorem dX7_clear_52 : decode cX7_clear 52 = .ok (.bipush 7, 2) := by decide +kernel
theorem dX7_clear_54 : decode cX7_clear 54 = .ok (.iconst 1, 1) := by decide +kernel
theorem dX7_clear_55 : decode cX7_clear 55 = .ok (.iastore, 1) := by decide +kernel
theorem dX7_clear_56 : decode cX7_clear 56 = .ok (.aload_n 0, 1) := by decide +kernel
theorem dX7_clear_57 : decode cX7_clear 57 = .ok (.bipush 8, 2) := by decide +kernel
theorem dX7_clear_59 : decode cX7_clear 59 = .ok (.iconst 5, 1) := by decide +kernel
theorem dX7_clear_60 : decode cX7_clear 60 = .ok (.iastore, 1) := by decide +kernel
theorem dX7_clear_61 : decode cX7_clear 61 = .ok (.return_, 1) := by decide +kernel
theorem dX7_of_0 : decode cX7_of 0 = .ok (.aload_n 0, 1) := by decide +kernel
theorem dX7_of_1 : decode cX7_of 1 = .ok (.bipush 30, 2) := by decide +kernel
theorem dX7_of_3 : decode cX7_of 3 = .ok (.bipush 7, 2) := by decide +kernel
theorem dX7_of_5 : decode cX7_of 5 = .ok (.iload_n 1, 1) := by decide +kernel
theorem dX7_of_6 : decode cX7_of 6 = .ok (.imul, 1) := by decide +kernel
theorem dX7_of_7 : decode cX7_of 7 = .ok (.iadd, 1) := by decide +kernel
theorem dX7_of_8 : decode cX7_of 8 = .ok (.iload_n 2, 1) := by decide +kernel
theorem dX7_of_9 : decode cX7_of 9 = .ok (.iadd, 1) := by decide +kernel
theorem dX7_of_10 : decode cX7_of 10 = .ok (.iaload, 1) := by decide +kernel
theorem dX7_of_11 : decode cX7_of 11 = .ok (.ireturn, 1) := by decide +kernel
theorem dX7_isMeasure_0 : decode cX7_isMeasure 0 = .ok (.iload_n 1, 1) := by decide +kernel
theorem dX7_isMeasure_1 : decode cX7_isMeasure 1 = .ok (.i2l, 1) := by decide +kernel
theorem dX7_isMeasure_2 : decode cX7_isMeasure 2 = .ok (.lconst 0, 1) := by decide +kernel
theorem dX7_isMeasure_3 : decode cX7_isMeasure 3 = .ok (.aload_n 0, 1) := by decide +kernel
theorem dX7_isMeasure_4 : decode cX7_isMeasure 4 = .ok (.iconst 0, 1) := by decide +kernel
theorem dX7_isMeasure_5 : decode cX7_isMeasure 5 = .ok (.iaload, 1) := by decide +kernel
theorem dX7_isMeasure_6 : decode cX7_isMeasure 6 = .ok (.iconst 1, 1) := by decide +kernel
theorem dX7_isMeasure_7 : decode cX7_isMeasure 7 = .ok (.isub, 1) := by decide +kernel
theorem dX7_isMeasure_8 : decode cX7_isMeasure 8 = .ok (.i2l, 1) := by decide +kernel
theorem dX7_isMeasure_9 : decode cX7_isMeasure 9 = .ok (.invokestatic 37, 3) := by decide +kernel
theorem dX7_isMeasure_12 : decode cX7_isMeasure 12 = .ok (.ireturn, 1) := by decide +kernel
theorem dX7_isSteeple_0 : decode cX7_isSteeple 0 = .ok (.iload_n 0, 1) := by decide +kernel
theorem dX7_isSteeple_1 : decode cX7_isSteeple 1 = .ok (.i2l, 1) := by decide +kernel
theorem dX7_isSteeple_2 : decode cX7_isSteeple 2 = .ok (.lconst 0, 1) := by decide +kernel
theorem dX7_isSteeple_3 : decode cX7_isSteeple 3 = .ok (.ldc2_w 41, 3) := by decide +kernel
theorem dX7_isSteeple_6 : decode cX7_isSteeple 6 = .ok (.invokestatic 37, 3) := by decide +kernel
theorem dX7_isSteeple_9 : decode cX7_isSteeple 9 = .ok (.ireturn, 1) := by decide +kernel
theorem dX7_isTeller_0 : decode cX7_isTeller 0 = .ok (.iload_n 0, 1) := by decide +kernel
theorem dX7_isTeller_1 : decode cX7_isTeller 1 = .ok (.i2l, 1) := by decide +kernel
theorem dX7_isTeller_2 : decode cX7_isTeller 2 = .ok (.lconst 0, 1) := by decide +kernel
theorem dX7_isTeller_3 : decode cX7_isTeller 3 = .ok (.ldc2_w 43, 3) := by decide +kernel
theorem dX7_isTeller_6 : decode cX7_isTeller 6 = .ok (.invokestatic 37, 3) := by decide +kernel
theorem dX7_isTeller_9 : decode cX7_isTeller 9 = .ok (.ireturn, 1) := by decide +kernel
theorem dX7_isSetting_0 : decode cX7_isSetting 0 = .ok (.iload_n 0, 1) := by decide +kernel
theorem dX7_isSetting_1 : decode cX7_isSetting 1 = .ok (.ifCond .ne 15, 3) := by decide +kernel
theorem dX7_isSetting_4 : decode cX7_isSetting 4 = .ok (.iload_n 1, 1) := by decide +kernel
theorem dX7_isSetting_5 : decode cX7_isSetting 5 = .ok (.i2l, 1) := by decide +kernel
theorem dX7_isSetting_6 : decode cX7_isSetting 6 = .ok (.lconst 0, 1) := by decide +kernel
theorem dX7_isSetting_7 : decode cX7_isSetting 7 = .ok (.ldc2_w 43, 3) := by decide +kernel
theorem dX7_isSetting_10 : decode cX7_isSetting 10 = .ok (.invokestatic 37, 3) := by decide +kernel
theorem dX7_isSetting_13 : decode cX7_isSetting 13 = .ok (.ifCond .ne 20, 3) := by decide +kernel
theorem dX7_isSetting_16 : decode cX7_isSetting 16 = .ok (.iload_n 0, 1) := by decide +kernel
theorem dX7_isSetting_17 : decode cX7_isSetting 17 = .ok (.iconst 1, 1) := by decide +kernel
theorem dX7_isSetting_18 : decode cX7_isSetting 18 = .ok (.if_icmp .ne 19, 3) := by decide +kernel
theorem dX7_isSetting_21 : decode cX7_isSetting 21 = .ok (.iload_n 1, 1) := by decide +kernel
theorem dX7_isSetting_22 : decode cX7_isSetting 22 = .ok (.i2l, 1) := by decide +kernel
theorem dX7_isSetting_23 : decode cX7_isSetting 23 = .ok (.lconst 0, 1) := by decide +kernel
theorem dX7_isSetting_24 : decode cX7_isSetting 24 = .ok (.ldc2_w 45, 3) := by decide +kernel
theorem dX7_isSetting_27 : decode cX7_isSetting 27 = .ok (.invokestatic 37, 3) := by decide +kernel
theorem dX7_isSetting_30 : decode cX7_isSetting 30 = .ok (.ifCond .eq 7, 3) := by decide +kernel
theorem dX7_isSetting_33 : decode cX7_isSetting 33 = .ok (.iconst 1, 1) := by decide +kernel
theorem dX7_isSetting_34 : decode cX7_isSetting 34 = .ok (.goto 4, 3) := by decide +kernel
theorem dX7_isSetting_37 : decode cX7_isSetting 37 = .ok (.iconst 0, 1) := by decide +kernel
theorem dX7_isSetting_38 : decode cX7_isSetting 38 = .ok (.ireturn, 1) := by decide +kernel
theorem dX7_areFine_0 : decode cX7_areFine 0 = .ok (.iload_n 0, 1) := by decide +kernel
theorem dX7_areFine_1 : decode cX7_areFine 1 = .ok (.tableswitch 177 0 2 #[27, 82, 137], 27) := by decide +kernel
theorem dX7_areFine_28 : decode cX7_areFine 28 = .ok (.iload_n 1, 1) := by decide +kernel
theorem dX7_areFine_29 : decode cX7_areFine 29 = .ok (.i2l, 1) := by decide +kernel
theorem dX7_areFine_30 : decode cX7_areFine 30 = .ok (.lconst 1, 1) := by decide +kernel
theorem dX7_areFine_31 : decode cX7_areFine 31 = .ok (.ldc2_w 47, 3) := by decide +kernel
theorem dX7_areFine_34 : decode cX7_areFine 34 = .ok (.invokestatic 37, 3) := by decide +kernel
theorem dX7_areFine_37 : decode cX7_areFine 37 = .ok (.ifCond .eq 44, 3) := by decide +kernel
theorem dX7_areFine_40 : decode cX7_areFine 40 = .ok (.iload_n 2, 1) := by decide +kernel
theorem dX7_areFine_41 : decode cX7_areFine 41 = .ok (.i2l, 1) := by decide +kernel
theorem dX7_areFine_42 : decode cX7_areFine 42 = .ok (.lconst 1, 1) := by decide +kernel
theorem dX7_areFine_43 : decode cX7_areFine 43 = .ok (.ldc2_w 49, 3) := by decide +kernel
theorem dX7_areFine_46 : decode cX7_areFine 46 = .ok (.invokestatic 37, 3) := by decide +kernel
theorem dX7_areFine_49 : decode cX7_areFine 49 = .ok (.ifCond .eq 32, 3) := by decide +kernel
theorem dX7_areFine_52 : decode cX7_areFine 52 = .ok (.iload_n 3, 1) := by decide +kernel
theorem dX7_areFine_53 : decode cX7_areFine 53 = .ok (.i2l, 1) := by decide +kernel
theorem dX7_areFine_54 : decode cX7_areFine 54 = .ok (.lconst 1, 1) := by decide +kernel
theorem dX7_areFine_55 : decode cX7_areFine 55 = .ok (.ldc2_w 51, 3) := by decide +kernel
theorem dX7_areFine_58 : decode cX7_areFine 58 = .ok (.invokestatic 37, 3) := by decide +kernel
theorem dX7_areFine_61 : decode cX7_areFine 61 = .ok (.ifCond .eq 20, 3) := by decide +kernel
theorem dX7_areFine_64 : decode cX7_areFine 64 = .ok (.iload 4, 2) := by decide +kernel
theorem dX7_areFine_66 : decode cX7_areFine 66 = .ok (.i2l, 1) := by decide +kernel
theorem dX7_areFine_67 : decode cX7_areFine 67 = .ok (.lconst 0, 1) := by decide +kernel
theorem dX7_areFine_68 : decode cX7_areFine 68 = .ok (.ldc2_w 47, 3) := by decide +kernel
theorem dX7_areFine_71 : decode cX7_areFine 71 = .ok (.invokestatic 37, 3) := by decide +kernel
theorem dX7_areFine_74 : decode cX7_areFine 74 = .ok (.ifCond .eq 7, 3) := by decide +kernel
theorem dX7_areFine_77 : decode cX7_areFine 77 = .ok (.iconst 1, 1) := by decide +kernel
theorem dX7_areFine_78 : decode cX7_areFine 78 = .ok (.goto 4, 3) := by decide +kernel
theorem dX7_areFine_81 : decode cX7_areFine 81 = .ok (.iconst 0, 1) := by decide +kernel
theorem dX7_areFine_82 : decode cX7_areFine 82 = .ok (.ireturn, 1) := by decide +kernel
theorem dX7_areFine_83 : decode cX7_areFine 83 = .ok (.iload_n 1, 1) := by decide +kernel
theorem dX7_areFine_84 : decode cX7_areFine 84 = .ok (.i2l, 1) := by decide +kernel
theorem dX7_areFine_85 : decode cX7_areFine 85 = .ok (.lconst 1, 1) := by decide +kernel
theorem dX7_areFine_86 : decode cX7_areFine 86 = .ok (.ldc2_w 53, 3) := by decide +kernel
theorem dX7_areFine_89 : decode cX7_areFine 89 = .ok (.invokestatic 37, 3) := by decide +kernel
theorem dX7_areFine_92 : decode cX7_areFine 92 = .ok (.ifCond .eq 44, 3) := by decide +kernel
theorem dX7_areFine_95 : decode cX7_areFine 95 = .ok (.iload_n 2, 1) := by decide +kernel
theorem dX7_areFine_96 : decode cX7_areFine 96 = .ok (.i2l, 1) := by decide +kernel
theorem dX7_areFine_97 : decode cX7_areFine 97 = .ok (.lconst 1, 1) := by decide +kernel
theorem dX7_areFine_98 : decode cX7_areFine 98 = .ok (.ldc2_w 55, 3) := by decide +kernel
theorem dX7_areFine_101 : decode cX7_areFine 101 = .ok (.invokestatic 37, 3) := by decide +kernel
theorem dX7_areFine_104 : decode cX7_areFine 104 = .ok (.ifCond .eq 32, 3) := by decide +kernel
theorem dX7_areFine_107 : decode cX7_areFine 107 = .ok (.iload_n 3, 1) := by decide +kernel
theorem dX7_areFine_108 : decode cX7_areFine 108 = .ok (.i2l, 1) := by decide +kernel
theorem dX7_areFine_109 : decode cX7_areFine 109 = .ok (.lconst 1, 1) := by decide +kernel
theorem dX7_areFine_110 : decode cX7_areFine 110 = .ok (.ldc2_w 51, 3) := by decide +kernel
theorem dX7_areFine_113 : decode cX7_areFine 113 = .ok (.invokestatic 37, 3) := by decide +kernel
theorem dX7_areFine_116 : decode cX7_areFine 116 = .ok (.ifCond .eq 20, 3) := by decide +kernel
theorem dX7_areFine_119 : decode cX7_areFine 119 = .ok (.iload 4, 2) := by decide +kernel
theorem dX7_areFine_121 : decode cX7_areFine 121 = .ok (.i2l, 1) := by decide +kernel
theorem dX7_areFine_122 : decode cX7_areFine 122 = .ok (.lconst 0, 1) := by decide +kernel
theorem dX7_areFine_123 : decode cX7_areFine 123 = .ok (.ldc2_w 47, 3) := by decide +kernel
theorem dX7_areFine_126 : decode cX7_areFine 126 = .ok (.invokestatic 37, 3) := by decide +kernel
theorem dX7_areFine_129 : decode cX7_areFine 129 = .ok (.ifCond .eq 7, 3) := by decide +kernel
theorem dX7_areFine_132 : decode cX7_areFine 132 = .ok (.iconst 1, 1) := by decide +kernel
theorem dX7_areFine_133 : decode cX7_areFine 133 = .ok (.goto 4, 3) := by decide +kernel
theorem dX7_areFine_136 : decode cX7_areFine 136 = .ok (.iconst 0, 1) := by decide +kernel
theorem dX7_areFine_137 : decode cX7_areFine 137 = .ok (.ireturn, 1) := by decide +kernel
theorem dX7_areFine_138 : decode cX7_areFine 138 = .ok (.iload_n 1, 1) := by decide +kernel
theorem dX7_areFine_139 : decode cX7_areFine 139 = .ok (.i2l, 1) := by decide +kernel
theorem dX7_areFine_140 : decode cX7_areFine 140 = .ok (.lconst 1, 1) := by decide +kernel
theorem dX7_areFine_141 : decode cX7_areFine 141 = .ok (.ldc2_w 57, 3) := by decide +kernel
theorem dX7_areFine_144 : decode cX7_areFine 144 = .ok (.invokestatic 37, 3) := by decide +kernel
theorem dX7_areFine_147 : decode cX7_areFine 147 = .ok (.ifCond .eq 29, 3) := by decide +kernel
theorem dX7_areFine_150 : decode cX7_areFine 150 = .ok (.iload_n 2, 1) := by decide +kernel
theorem dX7_areFine_151 : decode cX7_areFine 151 = .ok (.i2l, 1) := by decide +kernel
theorem dX7_areFine_152 : decode cX7_areFine 152 = .ok (.iload_n 1, 1) := by decide +kernel
theorem dX7_areFine_153 : decode cX7_areFine 153 = .ok (.i2l, 1) := by decide +kernel
theorem dX7_areFine_154 : decode cX7_areFine 154 = .ok (.ldc2_w 57, 3) := by decide +kernel
theorem dX7_areFine_157 : decode cX7_areFine 157 = .ok (.invokestatic 37, 3) := by decide +kernel
theorem dX7_areFine_160 : decode cX7_areFine 160 = .ok (.ifCond .eq 16, 3) := by decide +kernel
theorem dX7_areFine_163 : decode cX7_areFine 163 = .ok (.iload_n 3, 1) := by decide +kernel
theorem dX7_areFine_164 : decode cX7_areFine 164 = .ok (.ifCond .ne 12, 3) := by decide +kernel
theorem dX7_areFine_167 : decode cX7_areFine 167 = .ok (.iload 4, 2) := by decide +kernel
theorem dX7_areFine_169 : decode cX7_areFine 169 = .ok (.ifCond .ne 7, 3) := by decide +kernel
theorem dX7_areFine_172 : decode cX7_areFine 172 = .ok (.iconst 1, 1) := by decide +kernel
theorem dX7_areFine_173 : decode cX7_areFine 173 = .ok (.goto 4, 3) := by decide +kernel
theorem dX7_areFine_176 : decode cX7_areFine 176 = .ok (.iconst 0, 1) := by decide +kernel
theorem dX7_areFine_177 : decode cX7_areFine 177 = .ok (.ireturn, 1) := by decide +kernel
theorem dX7_areFine_178 : decode cX7_areFine 178 = .ok (.iconst 0, 1) := by decide +kernel
theorem dX7_areFine_179 : decode cX7_areFine 179 = .ok (.ireturn, 1) := by decide +kernel
theorem dX7_bounded_0 : decode cX7_bounded 0 = .ok (.iload_n 0, 1) := by decide +kernel
theorem dX7_bounded_1 : decode cX7_bounded 1 = .ok (.iconst 1, 1) := by decide +kernel
theorem dX7_bounded_2 : decode cX7_bounded 2 = .ok (.if_icmp .ge 7, 3) := by decide +kernel
theorem dX7_bounded_5 : decode cX7_bounded 5 = .ok (.iconst 1, 1) := by decide +kernel
theorem dX7_bounded_6 : decode cX7_bounded 6 = .ok (.goto 17, 3) := by decide +kernel
theorem dX7_bounded_9 : decode cX7_bounded 9 = .ok (.iload_n 0, 1) := by decide +kernel
theorem dX7_bounded_10 : decode cX7_bounded 10 = .ok (.sipush 999, 3) := by decide +kernel
theorem dX7_bounded_13 : decode cX7_bounded 13 = .ok (.if_icmp .le 9, 3) := by decide +kernel
theorem dX7_bounded_16 : decode cX7_bounded 16 = .ok (.sipush 999, 3) := by decide +kernel
theorem dX7_bounded_19 : decode cX7_bounded 19 = .ok (.goto 4, 3) := by decide +kernel
theorem dX7_bounded_22 : decode cX7_bounded 22 = .ok (.iload_n 0, 1) := by decide +kernel
theorem dX7_bounded_23 : decode cX7_bounded 23 = .ok (.ireturn, 1) := by decide +kernel
theorem dX7_least_0 : decode cX7_least 0 = .ok (.aload_n 0, 1) := by decide +kernel
theorem dX7_least_1 : decode cX7_least 1 = .ok (.iload_n 1, 1) := by decide +kernel
theorem dX7_least_2 : decode cX7_least 2 = .ok (.iconst 3, 1) := by decide +kernel
theorem dX7_least_3 : decode cX7_least 3 = .ok (.invokestatic 59, 3) := by decide +kernel
theorem dX7_least_6 : decode cX7_least 6 = .ok (.istore_n 2, 1) := by decide +kernel
theorem dX7_least_7 : decode cX7_least 7 = .ok (.aload_n 0, 1) := by decide +kernel
theorem dX7_least_8 : decode cX7_least 8 = .ok (.iload_n 1, 1) := by decide +kernel
theorem dX7_least_9 : decode cX7_least 9 = .ok (.iconst 5, 1) := by decide +kernel
theorem dX7_least_10 : decode cX7_least 10 = .ok (.invokestatic 59, 3) := by decide +kernel
theorem dX7_least_13 : decode cX7_least 13 = .ok (.aload_n 0, 1) := by decide +kernel
theorem dX7_least_14 : decode cX7_least 14 = .ok (.iload_n 1, 1) := by decide +kernel
theorem dX7_least_15 : decode cX7_least 15 = .ok (.bipush 6, 2) := by decide +kernel
theorem dX7_least_17 : decode cX7_least 17 = .ok (.invokestatic 59, 3) := by decide +kernel
theorem dX7_least_20 : decode cX7_least 20 = .ok (.isub, 1) := by decide +kernel
theorem dX7_least_21 : decode cX7_least 21 = .ok (.istore_n 3, 1) := by decide +kernel
theorem dX7_least_22 : decode cX7_least 22 = .ok (.aload_n 0, 1) := by decide +kernel
theorem dX7_least_23 : decode cX7_least 23 = .ok (.iload_n 1, 1) := by decide +kernel
theorem dX7_least_24 : decode cX7_least 24 = .ok (.iconst 2, 1) := by decide +kernel
theorem dX7_least_25 : decode cX7_least 25 = .ok (.invokestatic 59, 3) := by decide +kernel
theorem dX7_least_28 : decode cX7_least 28 = .ok (.iconst 2, 1) := by decide +kernel
theorem dX7_least_29 : decode cX7_least 29 = .ok (.if_icmp .ne 7, 3) := by decide +kernel
theorem dX7_least_32 : decode cX7_least 32 = .ok (.iload_n 2, 1) := by decide +kernel
theorem dX7_least_33 : decode cX7_least 33 = .ok (.goto 25, 3) := by decide +kernel
theorem dX7_least_36 : decode cX7_least 36 = .ok (.iload_n 3, 1) := by decide +kernel
theorem dX7_least_37 : decode cX7_least 37 = .ok (.iconst 1, 1) := by decide +kernel
theorem dX7_least_38 : decode cX7_least 38 = .ok (.if_icmp .ge 7, 3) := by decide +kernel
theorem dX7_least_41 : decode cX7_least 41 = .ok (.iconst 1, 1) := by decide +kernel
theorem dX7_least_42 : decode cX7_least 42 = .ok (.goto 16, 3) := by decide +kernel
theorem dX7_least_45 : decode cX7_least 45 = .ok (.iload_n 2, 1) := by decide +kernel
theorem dX7_least_46 : decode cX7_least 46 = .ok (.iload_n 3, 1) := by decide +kernel
theorem dX7_least_47 : decode cX7_least 47 = .ok (.imul, 1) := by decide +kernel
theorem dX7_least_48 : decode cX7_least 48 = .ok (.aload_n 0, 1) := by decide +kernel
theorem dX7_least_49 : decode cX7_least 49 = .ok (.iload_n 1, 1) := by decide +kernel
theorem dX7_least_50 : decode cX7_least 50 = .ok (.iconst 4, 1) := by decide +kernel
theorem dX7_least_51 : decode cX7_least 51 = .ok (.invokestatic 59, 3) := by decide +kernel
theorem dX7_least_54 : decode cX7_least 54 = .ok (.idiv, 1) := by decide +kernel
theorem dX7_least_55 : decode cX7_least 55 = .ok (.invokestatic 63, 3) := by decide +kernel
theorem dX7_least_58 : decode cX7_least 58 = .ok (.ireturn, 1) := by decide +kernel
theorem dX7_greatest_0 : decode cX7_greatest 0 = .ok (.aload_n 0, 1) := by decide +kernel
theorem dX7_greatest_1 : decode cX7_greatest 1 = .ok (.iload_n 1, 1) := by decide +kernel
theorem dX7_greatest_2 : decode cX7_greatest 2 = .ok (.iconst 4, 1) := by decide +kernel
theorem dX7_greatest_3 : decode cX7_greatest 3 = .ok (.invokestatic 59, 3) := by decide +kernel
theorem dX7_greatest_6 : decode cX7_greatest 6 = .ok (.istore_n 2, 1) := by decide +kernel
theorem dX7_greatest_7 : decode cX7_greatest 7 = .ok (.aload_n 0, 1) := by decide +kernel
theorem dX7_greatest_8 : decode cX7_greatest 8 = .ok (.iload_n 1, 1) := by decide +kernel
theorem dX7_greatest_9 : decode cX7_greatest 9 = .ok (.iconst 2, 1) := by decide +kernel
theorem dX7_greatest_10 : decode cX7_greatest 10 = .ok (.invokestatic 59, 3) := by decide +kernel
theorem dX7_greatest_13 : decode cX7_greatest 13 = .ok (.iconst 2, 1) := by decide +kernel
theorem dX7_greatest_14 : decode cX7_greatest 14 = .ok (.if_icmp .ne 7, 3) := by decide +kernel
theorem dX7_greatest_17 : decode cX7_greatest 17 = .ok (.iload_n 2, 1) := by decide +kernel
theorem dX7_greatest_18 : decode cX7_greatest 18 = .ok (.goto 33, 3) := by decide +kernel
theorem dX7_greatest_21 : decode cX7_greatest 21 = .ok (.aload_n 0, 1) := by decide +kernel
theorem dX7_greatest_22 : decode cX7_greatest 22 = .ok (.iload_n 1, 1) := by decide +kernel
theorem dX7_greatest_23 : decode cX7_greatest 23 = .ok (.iconst 3, 1) := by decide +kernel
theorem dX7_greatest_24 : decode cX7_greatest 24 = .ok (.invokestatic 59, 3) := by decide +kernel
theorem dX7_greatest_27 : decode cX7_greatest 27 = .ok (.aload_n 0, 1) := by decide +kernel
theorem dX7_greatest_28 : decode cX7_greatest 28 = .ok (.iload_n 1, 1) := by decide +kernel
theorem dX7_greatest_29 : decode cX7_greatest 29 = .ok (.iconst 5, 1) := by decide +kernel
theorem dX7_greatest_30 : decode cX7_greatest 30 = .ok (.invokestatic 59, 3) := by decide +kernel
theorem dX7_greatest_33 : decode cX7_greatest 33 = .ok (.aload_n 0, 1) := by decide +kernel
theorem dX7_greatest_34 : decode cX7_greatest 34 = .ok (.iload_n 1, 1) := by decide +kernel
theorem dX7_greatest_35 : decode cX7_greatest 35 = .ok (.bipush 6, 2) := by decide +kernel
theorem dX7_greatest_37 : decode cX7_greatest 37 = .ok (.invokestatic 59, 3) := by decide +kernel
theorem dX7_greatest_40 : decode cX7_greatest 40 = .ok (.iadd, 1) := by decide +kernel
theorem dX7_greatest_41 : decode cX7_greatest 41 = .ok (.imul, 1) := by decide +kernel
theorem dX7_greatest_42 : decode cX7_greatest 42 = .ok (.iload_n 2, 1) := by decide +kernel
theorem dX7_greatest_43 : decode cX7_greatest 43 = .ok (.iadd, 1) := by decide +kernel
theorem dX7_greatest_44 : decode cX7_greatest 44 = .ok (.iconst 1, 1) := by decide +kernel
theorem dX7_greatest_45 : decode cX7_greatest 45 = .ok (.isub, 1) := by decide +kernel
theorem dX7_greatest_46 : decode cX7_greatest 46 = .ok (.iload_n 2, 1) := by decide +kernel
theorem dX7_greatest_47 : decode cX7_greatest 47 = .ok (.idiv, 1) := by decide +kernel
theorem dX7_greatest_48 : decode cX7_greatest 48 = .ok (.invokestatic 63, 3) := by decide +kernel
theorem dX7_greatest_51 : decode cX7_greatest 51 = .ok (.ireturn, 1) := by decide +kernel
theorem dX7_tells_0 : decode cX7_tells 0 = .ok (.iload_n 2, 1) := by decide +kernel
theorem dX7_tells_1 : decode cX7_tells 1 = .ok (.i2l, 1) := by decide +kernel
theorem dX7_tells_2 : decode cX7_tells 2 = .ok (.aload_n 0, 1) := by decide +kernel
theorem dX7_tells_3 : decode cX7_tells 3 = .ok (.iload_n 1, 1) := by decide +kernel
theorem dX7_tells_4 : decode cX7_tells 4 = .ok (.invokestatic 67, 3) := by decide +kernel
theorem dX7_tells_7 : decode cX7_tells 7 = .ok (.i2l, 1) := by decide +kernel
theorem dX7_tells_8 : decode cX7_tells 8 = .ok (.aload_n 0, 1) := by decide +kernel
theorem dX7_tells_9 : decode cX7_tells 9 = .ok (.iload_n 1, 1) := by decide +kernel
theorem dX7_tells_10 : decode cX7_tells 10 = .ok (.invokestatic 71, 3) := by decide +kernel
theorem dX7_tells_13 : decode cX7_tells 13 = .ok (.i2l, 1) := by decide +kernel
theorem dX7_tells_14 : decode cX7_tells 14 = .ok (.invokestatic 37, 3) := by decide +kernel
theorem dX7_tells_17 : decode cX7_tells 17 = .ok (.ireturn, 1) := by decide +kernel
theorem dX7_weight_0 : decode cX7_weight 0 = .ok (.aload_n 0, 1) := by decide +kernel
theorem dX7_weight_1 : decode cX7_weight 1 = .ok (.bipush 9, 2) := by decide +kernel
theorem dX7_weight_3 : decode cX7_weight 3 = .ok (.aload_n 0, 1) := by decide +kernel
theorem dX7_weight_4 : decode cX7_weight 4 = .ok (.iload_n 1, 1) := by decide +kernel
theorem dX7_weight_5 : decode cX7_weight 5 = .ok (.iconst 1, 1) := by decide +kernel
theorem dX7_weight_6 : decode cX7_weight 6 = .ok (.invokestatic 59, 3) := by decide +kernel
theorem dX7_weight_9 : decode cX7_weight 9 = .ok (.iadd, 1) := by decide +kernel
theorem dX7_weight_10 : decode cX7_weight 10 = .ok (.iaload, 1) := by decide +kernel
theorem dX7_weight_11 : decode cX7_weight 11 = .ok (.aload_n 0, 1) := by decide +kernel
theorem dX7_weight_12 : decode cX7_weight 12 = .ok (.iload_n 1, 1) := by decide +kernel
theorem dX7_weight_13 : decode cX7_weight 13 = .ok (.iconst 2, 1) := by decide +kernel
theorem dX7_weight_14 : decode cX7_weight 14 = .ok (.invokestatic 59, 3) := by decide +kernel
theorem dX7_weight_17 : decode cX7_weight 17 = .ok (.iconst 2, 1) := by decide +kernel
theorem dX7_weight_18 : decode cX7_weight 18 = .ok (.if_icmp .ge 10, 3) := by decide +kernel
theorem dX7_weight_21 : decode cX7_weight 21 = .ok (.aload_n 0, 1) := by decide +kernel
theorem dX7_weight_22 : decode cX7_weight 22 = .ok (.bipush 7, 2) := by decide +kernel
theorem dX7_weight_24 : decode cX7_weight 24 = .ok (.iaload, 1) := by decide +kernel
theorem dX7_weight_25 : decode cX7_weight 25 = .ok (.goto 4, 3) := by decide +kernel
theorem dX7_weight_28 : decode cX7_weight 28 = .ok (.iconst 0, 1) := by decide +kernel
theorem dX7_weight_29 : decode cX7_weight 29 = .ok (.iadd, 1) := by decide +kernel
theorem dX7_weight_30 : decode cX7_weight 30 = .ok (.ireturn, 1) := by decide +kernel
theorem dX7_gap_0 : decode cX7_gap 0 = .ok (.aload_n 0, 1) := by decide +kernel
theorem dX7_gap_1 : decode cX7_gap 1 = .ok (.iload_n 1, 1) := by decide +kernel
theorem dX7_gap_2 : decode cX7_gap 2 = .ok (.invokestatic 67, 3) := by decide +kernel
theorem dX7_gap_5 : decode cX7_gap 5 = .ok (.aload_n 0, 1) := by decide +kernel
theorem dX7_gap_6 : decode cX7_gap 6 = .ok (.iload_n 2, 1) := by decide +kernel
theorem dX7_gap_7 : decode cX7_gap 7 = .ok (.invokestatic 71, 3) := by decide +kernel
theorem dX7_gap_10 : decode cX7_gap 10 = .ok (.isub, 1) := by decide +kernel
theorem dX7_gap_11 : decode cX7_gap 11 = .ok (.istore_n 3, 1) := by decide +kernel
theorem dX7_gap_12 : decode cX7_gap 12 = .ok (.aload_n 0, 1) := by decide +kernel
theorem dX7_gap_13 : decode cX7_gap 13 = .ok (.iload_n 2, 1) := by decide +kernel
theorem dX7_gap_14 : decode cX7_gap 14 = .ok (.invokestatic 67, 3) := by decide +kernel
theorem dX7_gap_17 : decode cX7_gap 17 = .ok (.aload_n 0, 1) := by decide +kernel
theorem dX7_gap_18 : decode cX7_gap 18 = .ok (.iload_n 1, 1) := by decide +kernel
theorem dX7_gap_19 : decode cX7_gap 19 = .ok (.invokestatic 71, 3) := by decide +kernel
theorem dX7_gap_22 : decode cX7_gap 22 = .ok (.isub, 1) := by decide +kernel
theorem dX7_gap_23 : decode cX7_gap 23 = .ok (.istore 4, 2) := by decide +kernel
theorem dX7_gap_25 : decode cX7_gap 25 = .ok (.iload_n 3, 1) := by decide +kernel
theorem dX7_gap_26 : decode cX7_gap 26 = .ok (.iload 4, 2) := by decide +kernel
theorem dX7_gap_28 : decode cX7_gap 28 = .ok (.if_icmp .le 7, 3) := by decide +kernel
theorem dX7_gap_31 : decode cX7_gap 31 = .ok (.iload_n 3, 1) := by decide +kernel
theorem dX7_gap_32 : decode cX7_gap 32 = .ok (.goto 5, 3) := by decide +kernel
theorem dX7_gap_35 : decode cX7_gap 35 = .ok (.iload 4, 2) := by decide +kernel
theorem dX7_gap_37 : decode cX7_gap 37 = .ok (.istore 5, 2) := by decide +kernel
theorem dX7_gap_39 : decode cX7_gap 39 = .ok (.iload 5, 2) := by decide +kernel
theorem dX7_gap_41 : decode cX7_gap 41 = .ok (.ifCond .le 8, 3) := by decide +kernel
theorem dX7_gap_44 : decode cX7_gap 44 = .ok (.iload 5, 2) := by decide +kernel
theorem dX7_gap_46 : decode cX7_gap 46 = .ok (.goto 4, 3) := by decide +kernel
theorem dX7_gap_49 : decode cX7_gap 49 = .ok (.iconst 0, 1) := by decide +kernel
theorem dX7_gap_50 : decode cX7_gap 50 = .ok (.ireturn, 1) := by decide +kernel
theorem dX7_quarrel_0 : decode cX7_quarrel 0 = .ok (.aload_n 0, 1) := by decide +kernel
theorem dX7_quarrel_1 : decode cX7_quarrel 1 = .ok (.iload_n 1, 1) := by decide +kernel
theorem dX7_quarrel_2 : decode cX7_quarrel 2 = .ok (.iconst 0, 1) := by decide +kernel
theorem dX7_quarrel_3 : decode cX7_quarrel 3 = .ok (.invokestatic 59, 3) := by decide +kernel
theorem dX7_quarrel_6 : decode cX7_quarrel 6 = .ok (.aload_n 0, 1) := by decide +kernel
theorem dX7_quarrel_7 : decode cX7_quarrel 7 = .ok (.iload_n 2, 1) := by decide +kernel
theorem dX7_quarrel_8 : decode cX7_quarrel 8 = .ok (.iconst 0, 1) := by decide +kernel
theorem dX7_quarrel_9 : decode cX7_quarrel 9 = .ok (.invokestatic 59, 3) := by decide +kernel
theorem dX7_quarrel_12 : decode cX7_quarrel 12 = .ok (.if_icmp .ne 31, 3) := by decide +kernel
theorem dX7_quarrel_15 : decode cX7_quarrel 15 = .ok (.aload_n 0, 1) := by decide +kernel
theorem dX7_quarrel_16 : decode cX7_quarrel 16 = .ok (.iload_n 1, 1) := by decide +kernel
theorem dX7_quarrel_17 : decode cX7_quarrel 17 = .ok (.iconst 1, 1) := by decide +kernel
theorem dX7_quarrel_18 : decode cX7_quarrel 18 = .ok (.invokestatic 59, 3) := by decide +kernel
theorem dX7_quarrel_21 : decode cX7_quarrel 21 = .ok (.aload_n 0, 1) := by decide +kernel
theorem dX7_quarrel_22 : decode cX7_quarrel 22 = .ok (.iload_n 2, 1) := by decide +kernel
theorem dX7_quarrel_23 : decode cX7_quarrel 23 = .ok (.iconst 1, 1) := by decide +kernel
theorem dX7_quarrel_24 : decode cX7_quarrel 24 = .ok (.invokestatic 59, 3) := by decide +kernel
theorem dX7_quarrel_27 : decode cX7_quarrel 27 = .ok (.if_icmp .eq 16, 3) := by decide +kernel
theorem dX7_quarrel_30 : decode cX7_quarrel 30 = .ok (.aload_n 0, 1) := by decide +kernel
theorem dX7_quarrel_31 : decode cX7_quarrel 31 = .ok (.iload_n 1, 1) := by decide +kernel
theorem dX7_quarrel_32 : decode cX7_quarrel 32 = .ok (.iload_n 2, 1) := by decide +kernel
theorem dX7_quarrel_33 : decode cX7_quarrel 33 = .ok (.invokestatic 74, 3) := by decide +kernel
theorem dX7_quarrel_36 : decode cX7_quarrel 36 = .ok (.ifCond .le 7, 3) := by decide +kernel
theorem dX7_quarrel_39 : decode cX7_quarrel 39 = .ok (.iconst 1, 1) := by decide +kernel
theorem dX7_quarrel_40 : decode cX7_quarrel 40 = .ok (.goto 4, 3) := by decide +kernel
theorem dX7_quarrel_43 : decode cX7_quarrel 43 = .ok (.iconst 0, 1) := by decide +kernel
theorem dX7_quarrel_44 : decode cX7_quarrel 44 = .ok (.ireturn, 1) := by decide +kernel
theorem dX7_quarrelsOf_0 : decode cX7_quarrelsOf 0 = .ok (.iconst 0, 1) := by decide +kernel
theorem dX7_quarrelsOf_1 : decode cX7_quarrelsOf 1 = .ok (.istore_n 2, 1) := by decide +kernel
theorem dX7_quarrelsOf_2 : decode cX7_quarrelsOf 2 = .ok (.iconst 0, 1) := by decide +kernel
theorem dX7_quarrelsOf_3 : decode cX7_quarrelsOf 3 = .ok (.istore_n 3, 1) := by decide +kernel
theorem dX7_quarrelsOf_4 : decode cX7_quarrelsOf 4 = .ok (.iload_n 3, 1) := by decide +kernel
theorem dX7_quarrelsOf_5 : decode cX7_quarrelsOf 5 = .ok (.aload_n 0, 1) := by decide +kernel
theorem dX7_quarrelsOf_6 : decode cX7_quarrelsOf 6 = .ok (.iconst 0, 1) := by decide +kernel
theorem dX7_quarrelsOf_7 : decode cX7_quarrelsOf 7 = .ok (.iaload, 1) := by decide +kernel
theorem dX7_quarrelsOf_8 : decode cX7_quarrelsOf 8 = .ok (.if_icmp .ge 26, 3) := by decide +kernel
theorem dX7_quarrelsOf_11 : decode cX7_quarrelsOf 11 = .ok (.iload_n 2, 1) := by decide +kernel
theorem dX7_quarrelsOf_12 : decode cX7_quarrelsOf 12 = .ok (.aload_n 0, 1) := by decide +kernel
theorem dX7_quarrelsOf_13 : decode cX7_quarrelsOf 13 = .ok (.iload_n 1, 1) := by decide +kernel
theorem dX7_quarrelsOf_14 : decode cX7_quarrelsOf 14 = .ok (.iload_n 3, 1) := by decide +kernel
theorem dX7_quarrelsOf_15 : decode cX7_quarrelsOf 15 = .ok (.invokestatic 77, 3) := by decide +kernel
theorem dX7_quarrelsOf_18 : decode cX7_quarrelsOf 18 = .ok (.ifCond .eq 7, 3) := by decide +kernel
theorem dX7_quarrelsOf_21 : decode cX7_quarrelsOf 21 = .ok (.iconst 1, 1) := by decide +kernel
theorem dX7_quarrelsOf_22 : decode cX7_quarrelsOf 22 = .ok (.goto 4, 3) := by decide +kernel
theorem dX7_quarrelsOf_25 : decode cX7_quarrelsOf 25 = .ok (.iconst 0, 1) := by decide +kernel
theorem dX7_quarrelsOf_26 : decode cX7_quarrelsOf 26 = .ok (.iadd, 1) := by decide +kernel
theorem dX7_quarrelsOf_27 : decode cX7_quarrelsOf 27 = .ok (.istore_n 2, 1) := by decide +kernel
theorem dX7_quarrelsOf_28 : decode cX7_quarrelsOf 28 = .ok (.iinc 3 1, 3) := by decide +kernel
theorem dX7_quarrelsOf_31 : decode cX7_quarrelsOf 31 = .ok (.goto (-27), 3) := by decide +kernel
theorem dX7_quarrelsOf_34 : decode cX7_quarrelsOf 34 = .ok (.iload_n 2, 1) := by decide +kernel
theorem dX7_quarrelsOf_35 : decode cX7_quarrelsOf 35 = .ok (.ireturn, 1) := by decide +kernel
theorem dX7_pairs_0 : decode cX7_pairs 0 = .ok (.iconst 0, 1) := by decide +kernel
theorem dX7_pairs_1 : decode cX7_pairs 1 = .ok (.istore_n 2, 1) := by decide +kernel
theorem dX7_pairs_2 : decode cX7_pairs 2 = .ok (.iconst 0, 1) := by decide +kernel
theorem dX7_pairs_3 : decode cX7_pairs 3 = .ok (.istore_n 3, 1) := by decide +kernel
theorem dX7_pairs_4 : decode cX7_pairs 4 = .ok (.iload_n 3, 1) := by decide +kernel
theorem dX7_pairs_5 : decode cX7_pairs 5 = .ok (.aload_n 0, 1) := by decide +kernel
theorem dX7_pairs_6 : decode cX7_pairs 6 = .ok (.iconst 0, 1) := by decide +kernel
theorem dX7_pairs_7 : decode cX7_pairs 7 = .ok (.iaload, 1) := by decide +kernel
theorem dX7_pairs_8 : decode cX7_pairs 8 = .ok (.if_icmp .ge 57, 3) := by decide +kernel
theorem dX7_pairs_11 : decode cX7_pairs 11 = .ok (.iload_n 3, 1) := by decide +kernel
theorem dX7_pairs_12 : decode cX7_pairs 12 = .ok (.iconst 1, 1) := by decide +kernel
theorem dX7_pairs_13 : decode cX7_pairs 13 = .ok (.iadd, 1) := by decide +kernel
theorem dX7_pairs_14 : decode cX7_pairs 14 = .ok (.istore 4, 2) := by decide +kernel
theorem dX7_pairs_16 : decode cX7_pairs 16 = .ok (.iload 4, 2) := by decide +kernel
theorem dX7_pairs_18 : decode cX7_pairs 18 = .ok (.aload_n 0, 1) := by decide +kernel
theorem dX7_pairs_19 : decode cX7_pairs 19 = .ok (.iconst 0, 1) := by decide +kernel
theorem dX7_pairs_20 : decode cX7_pairs 20 = .ok (.iaload, 1) := by decide +kernel
theorem dX7_pairs_21 : decode cX7_pairs 21 = .ok (.if_icmp .ge 38, 3) := by decide +kernel
theorem dX7_pairs_24 : decode cX7_pairs 24 = .ok (.iload_n 2, 1) := by decide +kernel
theorem dX7_pairs_25 : decode cX7_pairs 25 = .ok (.aload_n 0, 1) := by decide +kernel
theorem dX7_pairs_26 : decode cX7_pairs 26 = .ok (.iload_n 3, 1) := by decide +kernel
theorem dX7_pairs_27 : decode cX7_pairs 27 = .ok (.iload 4, 2) := by decide +kernel
theorem dX7_pairs_29 : decode cX7_pairs 29 = .ok (.invokestatic 77, 3) := by decide +kernel
theorem dX7_pairs_32 : decode cX7_pairs 32 = .ok (.ifCond .eq 18, 3) := by decide +kernel
theorem dX7_pairs_35 : decode cX7_pairs 35 = .ok (.aload_n 0, 1) := by decide +kernel
theorem dX7_pairs_36 : decode cX7_pairs 36 = .ok (.iload_n 3, 1) := by decide +kernel
theorem dX7_pairs_37 : decode cX7_pairs 37 = .ok (.iload 4, 2) := by decide +kernel
theorem dX7_pairs_39 : decode cX7_pairs 39 = .ok (.invokestatic 74, 3) := by decide +kernel
theorem dX7_pairs_42 : decode cX7_pairs 42 = .ok (.iload_n 1, 1) := by decide +kernel
theorem dX7_pairs_43 : decode cX7_pairs 43 = .ok (.if_icmp .le 7, 3) := by decide +kernel
theorem dX7_pairs_46 : decode cX7_pairs 46 = .ok (.iconst 1, 1) := by decide +kernel
theorem dX7_pairs_47 : decode cX7_pairs 47 = .ok (.goto 4, 3) := by decide +kernel
theorem dX7_pairs_50 : decode cX7_pairs 50 = .ok (.iconst 0, 1) := by decide +kernel
theorem dX7_pairs_51 : decode cX7_pairs 51 = .ok (.iadd, 1) := by decide +kernel
theorem dX7_pairs_52 : decode cX7_pairs 52 = .ok (.istore_n 2, 1) := by decide +kernel
theorem dX7_pairs_53 : decode cX7_pairs 53 = .ok (.iinc 4 1, 3) := by decide +kernel
theorem dX7_pairs_56 : decode cX7_pairs 56 = .ok (.goto (-40), 3) := by decide +kernel
theorem dX7_pairs_59 : decode cX7_pairs 59 = .ok (.iinc 3 1, 3) := by decide +kernel
theorem dX7_pairs_62 : decode cX7_pairs 62 = .ok (.goto (-58), 3) := by decide +kernel
theorem dX7_pairs_65 : decode cX7_pairs 65 = .ok (.iload_n 2, 1) := by decide +kernel
theorem dX7_pairs_66 : decode cX7_pairs 66 = .ok (.ireturn, 1) := by decide +kernel
theorem dX7_voteOf_0 : decode cX7_voteOf 0 = .ok (.iconst 0, 1) := by decide +kernel
theorem dX7_voteOf_1 : decode cX7_voteOf 1 = .ok (.istore_n 3, 1) := by decide +kernel
theorem dX7_voteOf_2 : decode cX7_voteOf 2 = .ok (.iconst 0, 1) := by decide +kernel
theorem dX7_voteOf_3 : decode cX7_voteOf 3 = .ok (.istore 4, 2) := by decide +kernel
theorem dX7_voteOf_5 : decode cX7_voteOf 5 = .ok (.iload 4, 2) := by decide +kernel
theorem dX7_voteOf_7 : decode cX7_voteOf 7 = .ok (.aload_n 0, 1) := by decide +kernel
theorem dX7_voteOf_8 : decode cX7_voteOf 8 = .ok (.iconst 0, 1) := by decide +kernel
theorem dX7_voteOf_9 : decode cX7_voteOf 9 = .ok (.iaload, 1) := by decide +kernel
theorem dX7_voteOf_10 : decode cX7_voteOf 10 = .ok (.if_icmp .ge 43, 3) := by decide +kernel
theorem dX7_voteOf_13 : decode cX7_voteOf 13 = .ok (.iload_n 3, 1) := by decide +kernel
theorem dX7_voteOf_14 : decode cX7_voteOf 14 = .ok (.aload_n 0, 1) := by decide +kernel
theorem dX7_voteOf_15 : decode cX7_voteOf 15 = .ok (.iload 4, 2) := by decide +kernel
theorem dX7_voteOf_17 : decode cX7_voteOf 17 = .ok (.iconst 0, 1) := by decide +kernel
theorem dX7_voteOf_18 : decode cX7_voteOf 18 = .ok (.invokestatic 59, 3) := by decide +kernel
theorem dX7_voteOf_21 : decode cX7_voteOf 21 = .ok (.iload_n 1, 1) := by decide +kernel
theorem dX7_voteOf_22 : decode cX7_voteOf 22 = .ok (.if_icmp .ne 22, 3) := by decide +kernel
theorem dX7_voteOf_25 : decode cX7_voteOf 25 = .ok (.aload_n 0, 1) := by decide +kernel
theorem dX7_voteOf_26 : decode cX7_voteOf 26 = .ok (.iload 4, 2) := by decide +kernel
theorem dX7_voteOf_28 : decode cX7_voteOf 28 = .ok (.iload_n 2, 1) := by decide +kernel
theorem dX7_voteOf_29 : decode cX7_voteOf 29 = .ok (.invokestatic 81, 3) := by decide +kernel
theorem dX7_voteOf_32 : decode cX7_voteOf 32 = .ok (.ifCond .eq 12, 3) := by decide +kernel
theorem dX7_voteOf_35 : decode cX7_voteOf 35 = .ok (.aload_n 0, 1) := by decide +kernel
theorem dX7_voteOf_36 : decode cX7_voteOf 36 = .ok (.iload 4, 2) := by decide +kernel
theorem dX7_voteOf_38 : decode cX7_voteOf 38 = .ok (.invokestatic 84, 3) := by decide +kernel
theorem dX7_voteOf_41 : decode cX7_voteOf 41 = .ok (.goto 4, 3) := by decide +kernel
theorem dX7_voteOf_44 : decode cX7_voteOf 44 = .ok (.iconst 0, 1) := by decide +kernel
theorem dX7_voteOf_45 : decode cX7_voteOf 45 = .ok (.iadd, 1) := by decide +kernel
theorem dX7_voteOf_46 : decode cX7_voteOf 46 = .ok (.istore_n 3, 1) := by decide +kernel
theorem dX7_voteOf_47 : decode cX7_voteOf 47 = .ok (.iinc 4 1, 3) := by decide +kernel
theorem dX7_voteOf_50 : decode cX7_voteOf 50 = .ok (.goto (-45), 3) := by decide +kernel
theorem dX7_voteOf_53 : decode cX7_voteOf 53 = .ok (.iload_n 3, 1) := by decide +kernel
theorem dX7_voteOf_54 : decode cX7_voteOf 54 = .ok (.ireturn, 1) := by decide +kernel
theorem dX7_lowestBest_0 : decode cX7_lowestBest 0 = .ok (.iconst 1, 1) := by decide +kernel
theorem dX7_lowestBest_1 : decode cX7_lowestBest 1 = .ok (.istore_n 2, 1) := by decide +kernel
theorem dX7_lowestBest_2 : decode cX7_lowestBest 2 = .ok (.aload_n 0, 1) := by decide +kernel
theorem dX7_lowestBest_3 : decode cX7_lowestBest 3 = .ok (.iload_n 1, 1) := by decide +kernel
theorem dX7_lowestBest_4 : decode cX7_lowestBest 4 = .ok (.iconst 1, 1) := by decide +kernel
theorem dX7_lowestBest_5 : decode cX7_lowestBest 5 = .ok (.invokestatic 87, 3) := by decide +kernel
theorem dX7_lowestBest_8 : decode cX7_lowestBest 8 = .ok (.istore_n 3, 1) := by decide +kernel
theorem dX7_lowestBest_9 : decode cX7_lowestBest 9 = .ok (.iconst 2, 1) := by decide +kernel
theorem dX7_lowestBest_10 : decode cX7_lowestBest 10 = .ok (.istore 4, 2) := by decide +kernel
theorem dX7_lowestBest_12 : decode cX7_lowestBest 12 = .ok (.iload 4, 2) := by decide +kernel
theorem dX7_lowestBest_14 : decode cX7_lowestBest 14 = .ok (.sipush 999, 3) := by decide +kernel
theorem dX7_lowestBest_17 : decode cX7_lowestBest 17 = .ok (.if_icmp .gt 44, 3) := by decide +kernel
theorem dX7_lowestBest_20 : decode cX7_lowestBest 20 = .ok (.aload_n 0, 1) := by decide +kernel
theorem dX7_lowestBest_21 : decode cX7_lowestBest 21 = .ok (.iload_n 1, 1) := by decide +kernel
theorem dX7_lowestBest_22 : decode cX7_lowestBest 22 = .ok (.iload 4, 2) := by decide +kernel
theorem dX7_lowestBest_24 : decode cX7_lowestBest 24 = .ok (.invokestatic 87, 3) := by decide +kernel
theorem dX7_lowestBest_27 : decode cX7_lowestBest 27 = .ok (.istore 5, 2) := by decide +kernel
theorem dX7_lowestBest_29 : decode cX7_lowestBest 29 = .ok (.iload 5, 2) := by decide +kernel
theorem dX7_lowestBest_31 : decode cX7_lowestBest 31 = .ok (.iload_n 3, 1) := by decide +kernel
theorem dX7_lowestBest_32 : decode cX7_lowestBest 32 = .ok (.if_icmp .le 8, 3) := by decide +kernel
theorem dX7_lowestBest_35 : decode cX7_lowestBest 35 = .ok (.iload 4, 2) := by decide +kernel
theorem dX7_lowestBest_37 : decode cX7_lowestBest 37 = .ok (.goto 4, 3) := by decide +kernel
theorem dX7_lowestBest_40 : decode cX7_lowestBest 40 = .ok (.iload_n 2, 1) := by decide +kernel
theorem dX7_lowestBest_41 : decode cX7_lowestBest 41 = .ok (.istore_n 2, 1) := by decide +kernel
theorem dX7_lowestBest_42 : decode cX7_lowestBest 42 = .ok (.iload 5, 2) := by decide +kernel
theorem dX7_lowestBest_44 : decode cX7_lowestBest 44 = .ok (.iload_n 3, 1) := by decide +kernel
theorem dX7_lowestBest_45 : decode cX7_lowestBest 45 = .ok (.if_icmp .le 8, 3) := by decide +kernel
theorem dX7_lowestBest_48 : decode cX7_lowestBest 48 = .ok (.iload 5, 2) := by decide +kernel
theorem dX7_lowestBest_50 : decode cX7_lowestBest 50 = .ok (.goto 4, 3) := by decide +kernel
theorem dX7_lowestBest_53 : decode cX7_lowestBest 53 = .ok (.iload_n 3, 1) := by decide +kernel
theorem dX7_lowestBest_54 : decode cX7_lowestBest 54 = .ok (.istore_n 3, 1) := by decide +kernel
theorem dX7_lowestBest_55 : decode cX7_lowestBest 55 = .ok (.iinc 4 1, 3) := by decide +kernel
theorem dX7_lowestBest_58 : decode cX7_lowestBest 58 = .ok (.goto (-46), 3) := by decide +kernel
theorem dX7_lowestBest_61 : decode cX7_lowestBest 61 = .ok (.iload_n 2, 1) := by decide +kernel
theorem dX7_lowestBest_62 : decode cX7_lowestBest 62 = .ok (.ireturn, 1) := by decide +kernel
theorem dX7_bestOf_0 : decode cX7_bestOf 0 = .ok (.aload_n 0, 1) := by decide +kernel
theorem dX7_bestOf_1 : decode cX7_bestOf 1 = .ok (.iload_n 1, 1) := by decide +kernel
theorem dX7_bestOf_2 : decode cX7_bestOf 2 = .ok (.invokestatic 90, 3) := by decide +kernel
theorem dX7_bestOf_5 : decode cX7_bestOf 5 = .ok (.istore_n 3, 1) := by decide +kernel
theorem dX7_bestOf_6 : decode cX7_bestOf 6 = .ok (.aload_n 0, 1) := by decide +kernel
theorem dX7_bestOf_7 : decode cX7_bestOf 7 = .ok (.iload_n 1, 1) := by decide +kernel
theorem dX7_bestOf_8 : decode cX7_bestOf 8 = .ok (.iload_n 3, 1) := by decide +kernel
theorem dX7_bestOf_9 : decode cX7_bestOf 9 = .ok (.invokestatic 87, 3) := by decide +kernel
theorem dX7_bestOf_12 : decode cX7_bestOf 12 = .ok (.istore 4, 2) := by decide +kernel
theorem dX7_bestOf_14 : decode cX7_bestOf 14 = .ok (.iload_n 3, 1) := by decide +kernel
theorem dX7_bestOf_15 : decode cX7_bestOf 15 = .ok (.istore 5, 2) := by decide +kernel
theorem dX7_bestOf_17 : decode cX7_bestOf 17 = .ok (.iload 5, 2) := by decide +kernel
theorem dX7_bestOf_19 : decode cX7_bestOf 19 = .ok (.sipush 999, 3) := by decide +kernel
theorem dX7_bestOf_22 : decode cX7_bestOf 22 = .ok (.if_icmp .ge 23, 3) := by decide +kernel
theorem dX7_bestOf_25 : decode cX7_bestOf 25 = .ok (.aload_n 0, 1) := by decide +kernel
theorem dX7_bestOf_26 : decode cX7_bestOf 26 = .ok (.iload_n 1, 1) := by decide +kernel
theorem dX7_bestOf_27 : decode cX7_bestOf 27 = .ok (.iload 5, 2) := by decide +kernel
theorem dX7_bestOf_29 : decode cX7_bestOf 29 = .ok (.iconst 1, 1) := by decide +kernel
theorem dX7_bestOf_30 : decode cX7_bestOf 30 = .ok (.iadd, 1) := by decide +kernel
theorem dX7_bestOf_31 : decode cX7_bestOf 31 = .ok (.invokestatic 87, 3) := by decide +kernel
theorem dX7_bestOf_34 : decode cX7_bestOf 34 = .ok (.iload 4, 2) := by decide +kernel
theorem dX7_bestOf_36 : decode cX7_bestOf 36 = .ok (.if_icmp .ne 9, 3) := by decide +kernel
theorem dX7_bestOf_39 : decode cX7_bestOf 39 = .ok (.iinc 5 1, 3) := by decide +kernel
theorem dX7_bestOf_42 : decode cX7_bestOf 42 = .ok (.goto (-25), 3) := by decide +kernel
theorem dX7_bestOf_45 : decode cX7_bestOf 45 = .ok (.iload_n 2, 1) := by decide +kernel
theorem dX7_bestOf_46 : decode cX7_bestOf 46 = .ok (.ifCond .ne 7, 3) := by decide +kernel
theorem dX7_bestOf_49 : decode cX7_bestOf 49 = .ok (.iload_n 3, 1) := by decide +kernel
theorem dX7_bestOf_50 : decode cX7_bestOf 50 = .ok (.goto 15, 3) := by decide +kernel
theorem dX7_bestOf_53 : decode cX7_bestOf 53 = .ok (.iload_n 2, 1) := by decide +kernel
theorem dX7_bestOf_54 : decode cX7_bestOf 54 = .ok (.iconst 1, 1) := by decide +kernel
theorem dX7_bestOf_55 : decode cX7_bestOf 55 = .ok (.if_icmp .ne 8, 3) := by decide +kernel
theorem dX7_bestOf_58 : decode cX7_bestOf 58 = .ok (.iload 5, 2) := by decide +kernel
theorem dX7_bestOf_60 : decode cX7_bestOf 60 = .ok (.goto 5, 3) := by decide +kernel
theorem dX7_bestOf_63 : decode cX7_bestOf 63 = .ok (.iload 4, 2) := by decide +kernel
end
section
theorem dX7_bestOf_65 : decode cX7_bestOf 65 = .ok (.ireturn, 1) := by decide +kernel
theorem dX7_measureOn_0 : decode cX7_measureOn 0 = .ok (.bipush 30, 2) := by decide +kernel
theorem dX7_measureOn_2 : decode cX7_measureOn 2 = .ok (.bipush 7, 2) := by decide +kernel
theorem dX7_measureOn_4 : decode cX7_measureOn 4 = .ok (.aload_n 0, 1) := by decide +kernel
theorem dX7_measureOn_5 : decode cX7_measureOn 5 = .ok (.iconst 0, 1) := by decide +kernel
theorem dX7_measureOn_6 : decode cX7_measureOn 6 = .ok (.iaload, 1) := by decide +kernel
theorem dX7_measureOn_7 : decode cX7_measureOn 7 = .ok (.imul, 1) := by decide +kernel
theorem dX7_measureOn_8 : decode cX7_measureOn 8 = .ok (.iadd, 1) := by decide +kernel
theorem dX7_measureOn_9 : decode cX7_measureOn 9 = .ok (.istore 8, 2) := by decide +kernel
theorem dX7_measureOn_11 : decode cX7_measureOn 11 = .ok (.aload_n 0, 1) := by decide +kernel
theorem dX7_measureOn_12 : decode cX7_measureOn 12 = .ok (.iload 8, 2) := by decide +kernel
theorem dX7_measureOn_14 : decode cX7_measureOn 14 = .ok (.iload_n 1, 1) := by decide +kernel
theorem dX7_measureOn_15 : decode cX7_measureOn 15 = .ok (.iastore, 1) := by decide +kernel
theorem dX7_measureOn_16 : decode cX7_measureOn 16 = .ok (.aload_n 0, 1) := by decide +kernel
theorem dX7_measureOn_17 : decode cX7_measureOn 17 = .ok (.iload 8, 2) := by decide +kernel
theorem dX7_measureOn_19 : decode cX7_measureOn 19 = .ok (.iconst 1, 1) := by decide +kernel
theorem dX7_measureOn_20 : decode cX7_measureOn 20 = .ok (.iadd, 1) := by decide +kernel
theorem dX7_measureOn_21 : decode cX7_measureOn 21 = .ok (.iload_n 2, 1) := by decide +kernel
theorem dX7_measureOn_22 : decode cX7_measureOn 22 = .ok (.iastore, 1) := by decide +kernel
theorem dX7_measureOn_23 : decode cX7_measureOn 23 = .ok (.aload_n 0, 1) := by decide +kernel
theorem dX7_measureOn_24 : decode cX7_measureOn 24 = .ok (.iload 8, 2) := by decide +kernel
theorem dX7_measureOn_26 : decode cX7_measureOn 26 = .ok (.iconst 2, 1) := by decide +kernel
theorem dX7_measureOn_27 : decode cX7_measureOn 27 = .ok (.iadd, 1) := by decide +kernel
theorem dX7_measureOn_28 : decode cX7_measureOn 28 = .ok (.iload_n 3, 1) := by decide +kernel
theorem dX7_measureOn_29 : decode cX7_measureOn 29 = .ok (.iastore, 1) := by decide +kernel
theorem dX7_measureOn_30 : decode cX7_measureOn 30 = .ok (.aload_n 0, 1) := by decide +kernel
theorem dX7_measureOn_31 : decode cX7_measureOn 31 = .ok (.iload 8, 2) := by decide +kernel
theorem dX7_measureOn_33 : decode cX7_measureOn 33 = .ok (.iconst 3, 1) := by decide +kernel
theorem dX7_measureOn_34 : decode cX7_measureOn 34 = .ok (.iadd, 1) := by decide +kernel
theorem dX7_measureOn_35 : decode cX7_measureOn 35 = .ok (.iload 4, 2) := by decide +kernel
theorem dX7_measureOn_37 : decode cX7_measureOn 37 = .ok (.iastore, 1) := by decide +kernel
theorem dX7_measureOn_38 : decode cX7_measureOn 38 = .ok (.aload_n 0, 1) := by decide +kernel
theorem dX7_measureOn_39 : decode cX7_measureOn 39 = .ok (.iload 8, 2) := by decide +kernel
theorem dX7_measureOn_41 : decode cX7_measureOn 41 = .ok (.iconst 4, 1) := by decide +kernel
theorem dX7_measureOn_42 : decode cX7_measureOn 42 = .ok (.iadd, 1) := by decide +kernel
theorem dX7_measureOn_43 : decode cX7_measureOn 43 = .ok (.iload 5, 2) := by decide +kernel
theorem dX7_measureOn_45 : decode cX7_measureOn 45 = .ok (.iastore, 1) := by decide +kernel
theorem dX7_measureOn_46 : decode cX7_measureOn 46 = .ok (.aload_n 0, 1) := by decide +kernel
theorem dX7_measureOn_47 : decode cX7_measureOn 47 = .ok (.iload 8, 2) := by decide +kernel
theorem dX7_measureOn_49 : decode cX7_measureOn 49 = .ok (.iconst 5, 1) := by decide +kernel
theorem dX7_measureOn_50 : decode cX7_measureOn 50 = .ok (.iadd, 1) := by decide +kernel
theorem dX7_measureOn_51 : decode cX7_measureOn 51 = .ok (.iload 6, 2) := by decide +kernel
theorem dX7_measureOn_53 : decode cX7_measureOn 53 = .ok (.iastore, 1) := by decide +kernel
theorem dX7_measureOn_54 : decode cX7_measureOn 54 = .ok (.aload_n 0, 1) := by decide +kernel
theorem dX7_measureOn_55 : decode cX7_measureOn 55 = .ok (.iload 8, 2) := by decide +kernel
theorem dX7_measureOn_57 : decode cX7_measureOn 57 = .ok (.bipush 6, 2) := by decide +kernel
theorem dX7_measureOn_59 : decode cX7_measureOn 59 = .ok (.iadd, 1) := by decide +kernel
theorem dX7_measureOn_60 : decode cX7_measureOn 60 = .ok (.iload 7, 2) := by decide +kernel
theorem dX7_measureOn_62 : decode cX7_measureOn 62 = .ok (.iastore, 1) := by decide +kernel
theorem dX7_measureOn_63 : decode cX7_measureOn 63 = .ok (.aload_n 0, 1) := by decide +kernel
theorem dX7_measureOn_64 : decode cX7_measureOn 64 = .ok (.iconst 0, 1) := by decide +kernel
theorem dX7_measureOn_65 : decode cX7_measureOn 65 = .ok (.dup2, 1) := by decide +kernel
theorem dX7_measureOn_66 : decode cX7_measureOn 66 = .ok (.iaload, 1) := by decide +kernel
theorem dX7_measureOn_67 : decode cX7_measureOn 67 = .ok (.iconst 1, 1) := by decide +kernel
theorem dX7_measureOn_68 : decode cX7_measureOn 68 = .ok (.iadd, 1) := by decide +kernel
theorem dX7_measureOn_69 : decode cX7_measureOn 69 = .ok (.iastore, 1) := by decide +kernel
theorem dX7_measureOn_70 : decode cX7_measureOn 70 = .ok (.aload_n 0, 1) := by decide +kernel
theorem dX7_measureOn_71 : decode cX7_measureOn 71 = .ok (.iconst 1, 1) := by decide +kernel
theorem dX7_measureOn_72 : decode cX7_measureOn 72 = .ok (.dup2, 1) := by decide +kernel
theorem dX7_measureOn_73 : decode cX7_measureOn 73 = .ok (.iaload, 1) := by decide +kernel
theorem dX7_measureOn_74 : decode cX7_measureOn 74 = .ok (.iconst 1, 1) := by decide +kernel
theorem dX7_measureOn_75 : decode cX7_measureOn 75 = .ok (.iadd, 1) := by decide +kernel
theorem dX7_measureOn_76 : decode cX7_measureOn 76 = .ok (.iastore, 1) := by decide +kernel
theorem dX7_measureOn_77 : decode cX7_measureOn 77 = .ok (.aload_n 0, 1) := by decide +kernel
theorem dX7_measureOn_78 : decode cX7_measureOn 78 = .ok (.iconst 0, 1) := by decide +kernel
theorem dX7_measureOn_79 : decode cX7_measureOn 79 = .ok (.iaload, 1) := by decide +kernel
theorem dX7_measureOn_80 : decode cX7_measureOn 80 = .ok (.iconst 1, 1) := by decide +kernel
theorem dX7_measureOn_81 : decode cX7_measureOn 81 = .ok (.isub, 1) := by decide +kernel
theorem dX7_measureOn_82 : decode cX7_measureOn 82 = .ok (.ireturn, 1) := by decide +kernel
theorem dX7_dropOn_0 : decode cX7_dropOn 0 = .ok (.bipush 30, 2) := by decide +kernel
theorem dX7_dropOn_2 : decode cX7_dropOn 2 = .ok (.bipush 7, 2) := by decide +kernel
theorem dX7_dropOn_4 : decode cX7_dropOn 4 = .ok (.iload_n 1, 1) := by decide +kernel
theorem dX7_dropOn_5 : decode cX7_dropOn 5 = .ok (.imul, 1) := by decide +kernel
theorem dX7_dropOn_6 : decode cX7_dropOn 6 = .ok (.iadd, 1) := by decide +kernel
theorem dX7_dropOn_7 : decode cX7_dropOn 7 = .ok (.istore_n 2, 1) := by decide +kernel
theorem dX7_dropOn_8 : decode cX7_dropOn 8 = .ok (.iload_n 2, 1) := by decide +kernel
theorem dX7_dropOn_9 : decode cX7_dropOn 9 = .ok (.bipush 30, 2) := by decide +kernel
theorem dX7_dropOn_11 : decode cX7_dropOn 11 = .ok (.bipush 7, 2) := by decide +kernel
theorem dX7_dropOn_13 : decode cX7_dropOn 13 = .ok (.aload_n 0, 1) := by decide +kernel
theorem dX7_dropOn_14 : decode cX7_dropOn 14 = .ok (.iconst 0, 1) := by decide +kernel
theorem dX7_dropOn_15 : decode cX7_dropOn 15 = .ok (.iaload, 1) := by decide +kernel
theorem dX7_dropOn_16 : decode cX7_dropOn 16 = .ok (.iconst 1, 1) := by decide +kernel
theorem dX7_dropOn_17 : decode cX7_dropOn 17 = .ok (.isub, 1) := by decide +kernel
theorem dX7_dropOn_18 : decode cX7_dropOn 18 = .ok (.imul, 1) := by decide +kernel
theorem dX7_dropOn_19 : decode cX7_dropOn 19 = .ok (.iadd, 1) := by decide +kernel
theorem dX7_dropOn_20 : decode cX7_dropOn 20 = .ok (.if_icmp .ge 18, 3) := by decide +kernel
theorem dX7_dropOn_23 : decode cX7_dropOn 23 = .ok (.aload_n 0, 1) := by decide +kernel
theorem dX7_dropOn_24 : decode cX7_dropOn 24 = .ok (.iload_n 2, 1) := by decide +kernel
theorem dX7_dropOn_25 : decode cX7_dropOn 25 = .ok (.aload_n 0, 1) := by decide +kernel
theorem dX7_dropOn_26 : decode cX7_dropOn 26 = .ok (.iload_n 2, 1) := by decide +kernel
theorem dX7_dropOn_27 : decode cX7_dropOn 27 = .ok (.bipush 7, 2) := by decide +kernel
theorem dX7_dropOn_29 : decode cX7_dropOn 29 = .ok (.iadd, 1) := by decide +kernel
theorem dX7_dropOn_30 : decode cX7_dropOn 30 = .ok (.iaload, 1) := by decide +kernel
theorem dX7_dropOn_31 : decode cX7_dropOn 31 = .ok (.iastore, 1) := by decide +kernel
theorem dX7_dropOn_32 : decode cX7_dropOn 32 = .ok (.iinc 2 1, 3) := by decide +kernel
theorem dX7_dropOn_35 : decode cX7_dropOn 35 = .ok (.goto (-27), 3) := by decide +kernel
theorem dX7_dropOn_38 : decode cX7_dropOn 38 = .ok (.aload_n 0, 1) := by decide +kernel
theorem dX7_dropOn_39 : decode cX7_dropOn 39 = .ok (.iconst 0, 1) := by decide +kernel
theorem dX7_dropOn_40 : decode cX7_dropOn 40 = .ok (.dup2, 1) := by decide +kernel
theorem dX7_dropOn_41 : decode cX7_dropOn 41 = .ok (.iaload, 1) := by decide +kernel
theorem dX7_dropOn_42 : decode cX7_dropOn 42 = .ok (.iconst 1, 1) := by decide +kernel
theorem dX7_dropOn_43 : decode cX7_dropOn 43 = .ok (.isub, 1) := by decide +kernel
theorem dX7_dropOn_44 : decode cX7_dropOn 44 = .ok (.iastore, 1) := by decide +kernel
theorem dX7_dropOn_45 : decode cX7_dropOn 45 = .ok (.aload_n 0, 1) := by decide +kernel
theorem dX7_dropOn_46 : decode cX7_dropOn 46 = .ok (.iconst 0, 1) := by decide +kernel
theorem dX7_dropOn_47 : decode cX7_dropOn 47 = .ok (.iaload, 1) := by decide +kernel
theorem dX7_dropOn_48 : decode cX7_dropOn 48 = .ok (.ireturn, 1) := by decide +kernel
theorem dX7_trustOn_0 : decode cX7_trustOn 0 = .ok (.aload_n 0, 1) := by decide +kernel
theorem dX7_trustOn_1 : decode cX7_trustOn 1 = .ok (.bipush 9, 2) := by decide +kernel
theorem dX7_trustOn_3 : decode cX7_trustOn 3 = .ok (.iload_n 1, 1) := by decide +kernel
theorem dX7_trustOn_4 : decode cX7_trustOn 4 = .ok (.iadd, 1) := by decide +kernel
theorem dX7_trustOn_5 : decode cX7_trustOn 5 = .ok (.iaload, 1) := by decide +kernel
theorem dX7_trustOn_6 : decode cX7_trustOn 6 = .ok (.istore_n 3, 1) := by decide +kernel
theorem dX7_trustOn_7 : decode cX7_trustOn 7 = .ok (.aload_n 0, 1) := by decide +kernel
theorem dX7_trustOn_8 : decode cX7_trustOn 8 = .ok (.bipush 9, 2) := by decide +kernel
theorem dX7_trustOn_10 : decode cX7_trustOn 10 = .ok (.iload_n 1, 1) := by decide +kernel
theorem dX7_trustOn_11 : decode cX7_trustOn 11 = .ok (.iadd, 1) := by decide +kernel
theorem dX7_trustOn_12 : decode cX7_trustOn 12 = .ok (.iload_n 2, 1) := by decide +kernel
theorem dX7_trustOn_13 : decode cX7_trustOn 13 = .ok (.iastore, 1) := by decide +kernel
theorem dX7_trustOn_14 : decode cX7_trustOn 14 = .ok (.iload_n 3, 1) := by decide +kernel
theorem dX7_trustOn_15 : decode cX7_trustOn 15 = .ok (.ireturn, 1) := by decide +kernel
theorem dX7_eveningOn_0 : decode cX7_eveningOn 0 = .ok (.aload_n 0, 1) := by decide +kernel
theorem dX7_eveningOn_1 : decode cX7_eveningOn 1 = .ok (.iconst 4, 1) := by decide +kernel
theorem dX7_eveningOn_2 : decode cX7_eveningOn 2 = .ok (.iaload, 1) := by decide +kernel
theorem dX7_eveningOn_3 : decode cX7_eveningOn 3 = .ok (.istore_n 1, 1) := by decide +kernel
theorem dX7_eveningOn_4 : decode cX7_eveningOn 4 = .ok (.aload_n 0, 1) := by decide +kernel
theorem dX7_eveningOn_5 : decode cX7_eveningOn 5 = .ok (.iconst 2, 1) := by decide +kernel
theorem dX7_eveningOn_6 : decode cX7_eveningOn 6 = .ok (.dup2, 1) := by decide +kernel
theorem dX7_eveningOn_7 : decode cX7_eveningOn 7 = .ok (.iaload, 1) := by decide +kernel
theorem dX7_eveningOn_8 : decode cX7_eveningOn 8 = .ok (.iconst 1, 1) := by decide +kernel
theorem dX7_eveningOn_9 : decode cX7_eveningOn 9 = .ok (.iadd, 1) := by decide +kernel
theorem dX7_eveningOn_10 : decode cX7_eveningOn 10 = .ok (.iastore, 1) := by decide +kernel
theorem dX7_eveningOn_11 : decode cX7_eveningOn 11 = .ok (.iconst 0, 1) := by decide +kernel
theorem dX7_eveningOn_12 : decode cX7_eveningOn 12 = .ok (.istore_n 2, 1) := by decide +kernel
theorem dX7_eveningOn_13 : decode cX7_eveningOn 13 = .ok (.iload_n 2, 1) := by decide +kernel
theorem dX7_eveningOn_14 : decode cX7_eveningOn 14 = .ok (.aload_n 0, 1) := by decide +kernel
theorem dX7_eveningOn_15 : decode cX7_eveningOn 15 = .ok (.iconst 0, 1) := by decide +kernel
theorem dX7_eveningOn_16 : decode cX7_eveningOn 16 = .ok (.iaload, 1) := by decide +kernel
theorem dX7_eveningOn_17 : decode cX7_eveningOn 17 = .ok (.if_icmp .ge 111, 3) := by decide +kernel
theorem dX7_eveningOn_20 : decode cX7_eveningOn 20 = .ok (.iload_n 2, 1) := by decide +kernel
theorem dX7_eveningOn_21 : decode cX7_eveningOn 21 = .ok (.iconst 1, 1) := by decide +kernel
theorem dX7_eveningOn_22 : decode cX7_eveningOn 22 = .ok (.iadd, 1) := by decide +kernel
theorem dX7_eveningOn_23 : decode cX7_eveningOn 23 = .ok (.istore_n 3, 1) := by decide +kernel
theorem dX7_eveningOn_24 : decode cX7_eveningOn 24 = .ok (.iload_n 3, 1) := by decide +kernel
theorem dX7_eveningOn_25 : decode cX7_eveningOn 25 = .ok (.aload_n 0, 1) := by decide +kernel
theorem dX7_eveningOn_26 : decode cX7_eveningOn 26 = .ok (.iconst 0, 1) := by decide +kernel
theorem dX7_eveningOn_27 : decode cX7_eveningOn 27 = .ok (.iaload, 1) := by decide +kernel
theorem dX7_eveningOn_28 : decode cX7_eveningOn 28 = .ok (.if_icmp .ge 94, 3) := by decide +kernel
theorem dX7_eveningOn_31 : decode cX7_eveningOn 31 = .ok (.aload_n 0, 1) := by decide +kernel
theorem dX7_eveningOn_32 : decode cX7_eveningOn 32 = .ok (.iload_n 2, 1) := by decide +kernel
theorem dX7_eveningOn_33 : decode cX7_eveningOn 33 = .ok (.invokestatic 84, 3) := by decide +kernel
theorem dX7_eveningOn_36 : decode cX7_eveningOn 36 = .ok (.aload_n 0, 1) := by decide +kernel
theorem dX7_eveningOn_37 : decode cX7_eveningOn 37 = .ok (.iload_n 3, 1) := by decide +kernel
theorem dX7_eveningOn_38 : decode cX7_eveningOn 38 = .ok (.invokestatic 84, 3) := by decide +kernel
theorem dX7_eveningOn_41 : decode cX7_eveningOn 41 = .ok (.isub, 1) := by decide +kernel
theorem dX7_eveningOn_42 : decode cX7_eveningOn 42 = .ok (.istore 4, 2) := by decide +kernel
theorem dX7_eveningOn_44 : decode cX7_eveningOn 44 = .ok (.aload_n 0, 1) := by decide +kernel
theorem dX7_eveningOn_45 : decode cX7_eveningOn 45 = .ok (.iload 4, 2) := by decide +kernel
theorem dX7_eveningOn_47 : decode cX7_eveningOn 47 = .ok (.ifCond .ge 7, 3) := by decide +kernel
theorem dX7_eveningOn_50 : decode cX7_eveningOn 50 = .ok (.iload_n 2, 1) := by decide +kernel
theorem dX7_eveningOn_51 : decode cX7_eveningOn 51 = .ok (.goto 4, 3) := by decide +kernel
theorem dX7_eveningOn_54 : decode cX7_eveningOn 54 = .ok (.iload_n 3, 1) := by decide +kernel
theorem dX7_eveningOn_55 : decode cX7_eveningOn 55 = .ok (.iconst 1, 1) := by decide +kernel
theorem dX7_eveningOn_56 : decode cX7_eveningOn 56 = .ok (.invokestatic 59, 3) := by decide +kernel
theorem dX7_eveningOn_59 : decode cX7_eveningOn 59 = .ok (.istore 5, 2) := by decide +kernel
theorem dX7_eveningOn_61 : decode cX7_eveningOn 61 = .ok (.aload_n 0, 1) := by decide +kernel
theorem dX7_eveningOn_62 : decode cX7_eveningOn 62 = .ok (.iload_n 2, 1) := by decide +kernel
theorem dX7_eveningOn_63 : decode cX7_eveningOn 63 = .ok (.iload_n 3, 1) := by decide +kernel
theorem dX7_eveningOn_64 : decode cX7_eveningOn 64 = .ok (.invokestatic 77, 3) := by decide +kernel
theorem dX7_eveningOn_67 : decode cX7_eveningOn 67 = .ok (.ifCond .eq 49, 3) := by decide +kernel
theorem dX7_eveningOn_70 : decode cX7_eveningOn 70 = .ok (.aload_n 0, 1) := by decide +kernel
theorem dX7_eveningOn_71 : decode cX7_eveningOn 71 = .ok (.iload_n 2, 1) := by decide +kernel
theorem dX7_eveningOn_72 : decode cX7_eveningOn 72 = .ok (.iload_n 3, 1) := by decide +kernel
theorem dX7_eveningOn_73 : decode cX7_eveningOn 73 = .ok (.invokestatic 74, 3) := by decide +kernel
theorem dX7_eveningOn_76 : decode cX7_eveningOn 76 = .ok (.aload_n 0, 1) := by decide +kernel
theorem dX7_eveningOn_77 : decode cX7_eveningOn 77 = .ok (.bipush 8, 2) := by decide +kernel
theorem dX7_eveningOn_79 : decode cX7_eveningOn 79 = .ok (.iaload, 1) := by decide +kernel
theorem dX7_eveningOn_80 : decode cX7_eveningOn 80 = .ok (.if_icmp .le 36, 3) := by decide +kernel
theorem dX7_eveningOn_83 : decode cX7_eveningOn 83 = .ok (.iload 4, 2) := by decide +kernel
theorem dX7_eveningOn_85 : decode cX7_eveningOn 85 = .ok (.ifCond .eq 31, 3) := by decide +kernel
theorem dX7_eveningOn_88 : decode cX7_eveningOn 88 = .ok (.aload_n 0, 1) := by decide +kernel
theorem dX7_eveningOn_89 : decode cX7_eveningOn 89 = .ok (.bipush 9, 2) := by decide +kernel
theorem dX7_eveningOn_91 : decode cX7_eveningOn 91 = .ok (.iload 5, 2) := by decide +kernel
theorem dX7_eveningOn_93 : decode cX7_eveningOn 93 = .ok (.iadd, 1) := by decide +kernel
theorem dX7_eveningOn_94 : decode cX7_eveningOn 94 = .ok (.iaload, 1) := by decide +kernel
theorem dX7_eveningOn_95 : decode cX7_eveningOn 95 = .ok (.ifCond .le 21, 3) := by decide +kernel
theorem dX7_eveningOn_98 : decode cX7_eveningOn 98 = .ok (.aload_n 0, 1) := by decide +kernel
theorem dX7_eveningOn_99 : decode cX7_eveningOn 99 = .ok (.bipush 9, 2) := by decide +kernel
theorem dX7_eveningOn_101 : decode cX7_eveningOn 101 = .ok (.iload 5, 2) := by decide +kernel
theorem dX7_eveningOn_103 : decode cX7_eveningOn 103 = .ok (.iadd, 1) := by decide +kernel
theorem dX7_eveningOn_104 : decode cX7_eveningOn 104 = .ok (.dup2, 1) := by decide +kernel
theorem dX7_eveningOn_105 : decode cX7_eveningOn 105 = .ok (.iaload, 1) := by decide +kernel
theorem dX7_eveningOn_106 : decode cX7_eveningOn 106 = .ok (.iconst 1, 1) := by decide +kernel
theorem dX7_eveningOn_107 : decode cX7_eveningOn 107 = .ok (.isub, 1) := by decide +kernel
theorem dX7_eveningOn_108 : decode cX7_eveningOn 108 = .ok (.iastore, 1) := by decide +kernel
theorem dX7_eveningOn_109 : decode cX7_eveningOn 109 = .ok (.aload_n 0, 1) := by decide +kernel
theorem dX7_eveningOn_110 : decode cX7_eveningOn 110 = .ok (.iconst 4, 1) := by decide +kernel
theorem dX7_eveningOn_111 : decode cX7_eveningOn 111 = .ok (.dup2, 1) := by decide +kernel
theorem dX7_eveningOn_112 : decode cX7_eveningOn 112 = .ok (.iaload, 1) := by decide +kernel
theorem dX7_eveningOn_113 : decode cX7_eveningOn 113 = .ok (.iconst 1, 1) := by decide +kernel
theorem dX7_eveningOn_114 : decode cX7_eveningOn 114 = .ok (.iadd, 1) := by decide +kernel
theorem dX7_eveningOn_115 : decode cX7_eveningOn 115 = .ok (.iastore, 1) := by decide +kernel
theorem dX7_eveningOn_116 : decode cX7_eveningOn 116 = .ok (.iinc 3 1, 3) := by decide +kernel
theorem dX7_eveningOn_119 : decode cX7_eveningOn 119 = .ok (.goto (-95), 3) := by decide +kernel
theorem dX7_eveningOn_122 : decode cX7_eveningOn 122 = .ok (.iinc 2 1, 3) := by decide +kernel
theorem dX7_eveningOn_125 : decode cX7_eveningOn 125 = .ok (.goto (-112), 3) := by decide +kernel
theorem dX7_eveningOn_128 : decode cX7_eveningOn 128 = .ok (.aload_n 0, 1) := by decide +kernel
theorem dX7_eveningOn_129 : decode cX7_eveningOn 129 = .ok (.iconst 4, 1) := by decide +kernel
theorem dX7_eveningOn_130 : decode cX7_eveningOn 130 = .ok (.iaload, 1) := by decide +kernel
theorem dX7_eveningOn_131 : decode cX7_eveningOn 131 = .ok (.iload_n 1, 1) := by decide +kernel
theorem dX7_eveningOn_132 : decode cX7_eveningOn 132 = .ok (.isub, 1) := by decide +kernel
theorem dX7_eveningOn_133 : decode cX7_eveningOn 133 = .ok (.ireturn, 1) := by decide +kernel
theorem dX7_sees_0 : decode cX7_sees 0 = .ok (.aload_n 0, 1) := by decide +kernel
theorem dX7_sees_1 : decode cX7_sees 1 = .ok (.bipush 9, 2) := by decide +kernel
theorem dX7_sees_3 : decode cX7_sees 3 = .ok (.iload_n 1, 1) := by decide +kernel
theorem dX7_sees_4 : decode cX7_sees 4 = .ok (.iadd, 1) := by decide +kernel
theorem dX7_sees_5 : decode cX7_sees 5 = .ok (.iaload, 1) := by decide +kernel
theorem dX7_sees_6 : decode cX7_sees 6 = .ok (.iload_n 2, 1) := by decide +kernel
theorem dX7_sees_7 : decode cX7_sees 7 = .ok (.ifCond .eq 7, 3) := by decide +kernel
theorem dX7_sees_10 : decode cX7_sees 10 = .ok (.iconst 1, 1) := by decide +kernel
theorem dX7_sees_11 : decode cX7_sees 11 = .ok (.goto 4, 3) := by decide +kernel
theorem dX7_sees_14 : decode cX7_sees 14 = .ok (.iconst (-1), 1) := by decide +kernel
theorem dX7_sees_15 : decode cX7_sees 15 = .ok (.iadd, 1) := by decide +kernel
theorem dX7_sees_16 : decode cX7_sees 16 = .ok (.istore_n 3, 1) := by decide +kernel
theorem dX7_sees_17 : decode cX7_sees 17 = .ok (.aload_n 0, 1) := by decide +kernel
theorem dX7_sees_18 : decode cX7_sees 18 = .ok (.bipush 9, 2) := by decide +kernel
theorem dX7_sees_20 : decode cX7_sees 20 = .ok (.iload_n 1, 1) := by decide +kernel
theorem dX7_sees_21 : decode cX7_sees 21 = .ok (.iadd, 1) := by decide +kernel
theorem dX7_sees_22 : decode cX7_sees 22 = .ok (.iload_n 3, 1) := by decide +kernel
theorem dX7_sees_23 : decode cX7_sees 23 = .ok (.ifCond .ge 7, 3) := by decide +kernel
theorem dX7_sees_26 : decode cX7_sees 26 = .ok (.iconst 0, 1) := by decide +kernel
theorem dX7_sees_27 : decode cX7_sees 27 = .ok (.goto 15, 3) := by decide +kernel
theorem dX7_sees_30 : decode cX7_sees 30 = .ok (.iload_n 3, 1) := by decide +kernel
theorem dX7_sees_31 : decode cX7_sees 31 = .ok (.bipush 9, 2) := by decide +kernel
theorem dX7_sees_33 : decode cX7_sees 33 = .ok (.if_icmp .le 8, 3) := by decide +kernel
theorem dX7_sees_36 : decode cX7_sees 36 = .ok (.bipush 9, 2) := by decide +kernel
theorem dX7_sees_38 : decode cX7_sees 38 = .ok (.goto 4, 3) := by decide +kernel
theorem dX7_sees_41 : decode cX7_sees 41 = .ok (.iload_n 3, 1) := by decide +kernel
theorem dX7_sees_42 : decode cX7_sees 42 = .ok (.iastore, 1) := by decide +kernel
theorem dX7_sees_43 : decode cX7_sees 43 = .ok (.aload_n 0, 1) := by decide +kernel
theorem dX7_sees_44 : decode cX7_sees 44 = .ok (.iload_n 2, 1) := by decide +kernel
theorem dX7_sees_45 : decode cX7_sees 45 = .ok (.ifCond .eq 7, 3) := by decide +kernel
theorem dX7_sees_48 : decode cX7_sees 48 = .ok (.iconst 5, 1) := by decide +kernel
theorem dX7_sees_49 : decode cX7_sees 49 = .ok (.goto 5, 3) := by decide +kernel
theorem dX7_sees_52 : decode cX7_sees 52 = .ok (.bipush 6, 2) := by decide +kernel
theorem dX7_sees_54 : decode cX7_sees 54 = .ok (.dup2, 1) := by decide +kernel
theorem dX7_sees_55 : decode cX7_sees 55 = .ok (.iaload, 1) := by decide +kernel
theorem dX7_sees_56 : decode cX7_sees 56 = .ok (.iconst 1, 1) := by decide +kernel
theorem dX7_sees_57 : decode cX7_sees 57 = .ok (.iadd, 1) := by decide +kernel
theorem dX7_sees_58 : decode cX7_sees 58 = .ok (.iastore, 1) := by decide +kernel
theorem dX7_sees_59 : decode cX7_sees 59 = .ok (.aload_n 0, 1) := by decide +kernel
theorem dX7_sees_60 : decode cX7_sees 60 = .ok (.iload_n 2, 1) := by decide +kernel
theorem dX7_sees_61 : decode cX7_sees 61 = .ok (.ifCond .eq 8, 3) := by decide +kernel
theorem dX7_sees_64 : decode cX7_sees 64 = .ok (.bipush 15, 2) := by decide +kernel
theorem dX7_sees_66 : decode cX7_sees 66 = .ok (.goto 5, 3) := by decide +kernel
theorem dX7_sees_69 : decode cX7_sees 69 = .ok (.bipush 21, 2) := by decide +kernel
theorem dX7_sees_71 : decode cX7_sees 71 = .ok (.iload_n 1, 1) := by decide +kernel
theorem dX7_sees_72 : decode cX7_sees 72 = .ok (.iadd, 1) := by decide +kernel
theorem dX7_sees_73 : decode cX7_sees 73 = .ok (.dup2, 1) := by decide +kernel
theorem dX7_sees_74 : decode cX7_sees 74 = .ok (.iaload, 1) := by decide +kernel
theorem dX7_sees_75 : decode cX7_sees 75 = .ok (.iconst 1, 1) := by decide +kernel
theorem dX7_sees_76 : decode cX7_sees 76 = .ok (.iadd, 1) := by decide +kernel
theorem dX7_sees_77 : decode cX7_sees 77 = .ok (.iastore, 1) := by decide +kernel
theorem dX7_sees_78 : decode cX7_sees 78 = .ok (.return_, 1) := by decide +kernel
theorem dX7_surveyOn_0 : decode cX7_surveyOn 0 = .ok (.iconst 0, 1) := by decide +kernel
theorem dX7_surveyOn_1 : decode cX7_surveyOn 1 = .ok (.istore_n 3, 1) := by decide +kernel
theorem dX7_surveyOn_2 : decode cX7_surveyOn 2 = .ok (.iconst 0, 1) := by decide +kernel
theorem dX7_surveyOn_3 : decode cX7_surveyOn 3 = .ok (.istore 4, 2) := by decide +kernel
theorem dX7_surveyOn_5 : decode cX7_surveyOn 5 = .ok (.iload 4, 2) := by decide +kernel
theorem dX7_surveyOn_7 : decode cX7_surveyOn 7 = .ok (.aload_n 0, 1) := by decide +kernel
theorem dX7_surveyOn_8 : decode cX7_surveyOn 8 = .ok (.iconst 0, 1) := by decide +kernel
theorem dX7_surveyOn_9 : decode cX7_surveyOn 9 = .ok (.iaload, 1) := by decide +kernel
theorem dX7_surveyOn_10 : decode cX7_surveyOn 10 = .ok (.if_icmp .ge 65, 3) := by decide +kernel
theorem dX7_surveyOn_13 : decode cX7_surveyOn 13 = .ok (.aload_n 0, 1) := by decide +kernel
theorem dX7_surveyOn_14 : decode cX7_surveyOn 14 = .ok (.iload 4, 2) := by decide +kernel
theorem dX7_surveyOn_16 : decode cX7_surveyOn 16 = .ok (.iconst 0, 1) := by decide +kernel
theorem dX7_surveyOn_17 : decode cX7_surveyOn 17 = .ok (.invokestatic 59, 3) := by decide +kernel
theorem dX7_surveyOn_20 : decode cX7_surveyOn 20 = .ok (.iload_n 1, 1) := by decide +kernel
theorem dX7_surveyOn_21 : decode cX7_surveyOn 21 = .ok (.if_icmp .ne 48, 3) := by decide +kernel
theorem dX7_surveyOn_24 : decode cX7_surveyOn 24 = .ok (.aload_n 0, 1) := by decide +kernel
theorem dX7_surveyOn_25 : decode cX7_surveyOn 25 = .ok (.iload 4, 2) := by decide +kernel
theorem dX7_surveyOn_27 : decode cX7_surveyOn 27 = .ok (.iload_n 2, 1) := by decide +kernel
theorem dX7_surveyOn_28 : decode cX7_surveyOn 28 = .ok (.invokestatic 81, 3) := by decide +kernel
theorem dX7_surveyOn_31 : decode cX7_surveyOn 31 = .ok (.istore 5, 2) := by decide +kernel
theorem dX7_surveyOn_33 : decode cX7_surveyOn 33 = .ok (.aload_n 0, 1) := by decide +kernel
theorem dX7_surveyOn_34 : decode cX7_surveyOn 34 = .ok (.aload_n 0, 1) := by decide +kernel
theorem dX7_surveyOn_35 : decode cX7_surveyOn 35 = .ok (.iload 4, 2) := by decide +kernel
theorem dX7_surveyOn_37 : decode cX7_surveyOn 37 = .ok (.iconst 1, 1) := by decide +kernel
theorem dX7_surveyOn_38 : decode cX7_surveyOn 38 = .ok (.invokestatic 59, 3) := by decide +kernel
theorem dX7_surveyOn_41 : decode cX7_surveyOn 41 = .ok (.iload 5, 2) := by decide +kernel
theorem dX7_surveyOn_43 : decode cX7_surveyOn 43 = .ok (.invokestatic 93, 3) := by decide +kernel
theorem dX7_surveyOn_46 : decode cX7_surveyOn 46 = .ok (.iload_n 3, 1) := by decide +kernel
theorem dX7_surveyOn_47 : decode cX7_surveyOn 47 = .ok (.iload 5, 2) := by decide +kernel
theorem dX7_surveyOn_49 : decode cX7_surveyOn 49 = .ok (.ifCond .eq 7, 3) := by decide +kernel
theorem dX7_surveyOn_52 : decode cX7_surveyOn 52 = .ok (.iconst 1, 1) := by decide +kernel
theorem dX7_surveyOn_53 : decode cX7_surveyOn 53 = .ok (.goto 4, 3) := by decide +kernel
theorem dX7_surveyOn_56 : decode cX7_surveyOn 56 = .ok (.iconst 0, 1) := by decide +kernel
theorem dX7_surveyOn_57 : decode cX7_surveyOn 57 = .ok (.iadd, 1) := by decide +kernel
theorem dX7_surveyOn_58 : decode cX7_surveyOn 58 = .ok (.istore_n 3, 1) := by decide +kernel
theorem dX7_surveyOn_59 : decode cX7_surveyOn 59 = .ok (.aload_n 0, 1) := by decide +kernel
theorem dX7_surveyOn_60 : decode cX7_surveyOn 60 = .ok (.iload 4, 2) := by decide +kernel
theorem dX7_surveyOn_62 : decode cX7_surveyOn 62 = .ok (.invokestatic 97, 3) := by decide +kernel
theorem dX7_surveyOn_65 : decode cX7_surveyOn 65 = .ok (.pop, 1) := by decide +kernel
theorem dX7_surveyOn_66 : decode cX7_surveyOn 66 = .ok (.goto (-61), 3) := by decide +kernel
theorem dX7_surveyOn_69 : decode cX7_surveyOn 69 = .ok (.iinc 4 1, 3) := by decide +kernel
theorem dX7_surveyOn_72 : decode cX7_surveyOn 72 = .ok (.goto (-67), 3) := by decide +kernel
theorem dX7_surveyOn_75 : decode cX7_surveyOn 75 = .ok (.aload_n 0, 1) := by decide +kernel
theorem dX7_surveyOn_76 : decode cX7_surveyOn 76 = .ok (.iconst 3, 1) := by decide +kernel
theorem dX7_surveyOn_77 : decode cX7_surveyOn 77 = .ok (.dup2, 1) := by decide +kernel
theorem dX7_surveyOn_78 : decode cX7_surveyOn 78 = .ok (.iaload, 1) := by decide +kernel
theorem dX7_surveyOn_79 : decode cX7_surveyOn 79 = .ok (.iconst 1, 1) := by decide +kernel
theorem dX7_surveyOn_80 : decode cX7_surveyOn 80 = .ok (.iadd, 1) := by decide +kernel
theorem dX7_surveyOn_81 : decode cX7_surveyOn 81 = .ok (.iastore, 1) := by decide +kernel
theorem dX7_surveyOn_82 : decode cX7_surveyOn 82 = .ok (.aload_n 0, 1) := by decide +kernel
theorem dX7_surveyOn_83 : decode cX7_surveyOn 83 = .ok (.bipush 27, 2) := by decide +kernel
theorem dX7_surveyOn_85 : decode cX7_surveyOn 85 = .ok (.iload_n 1, 1) := by decide +kernel
theorem dX7_surveyOn_86 : decode cX7_surveyOn 86 = .ok (.iadd, 1) := by decide +kernel
theorem dX7_surveyOn_87 : decode cX7_surveyOn 87 = .ok (.iload_n 2, 1) := by decide +kernel
theorem dX7_surveyOn_88 : decode cX7_surveyOn 88 = .ok (.iastore, 1) := by decide +kernel
theorem dX7_surveyOn_89 : decode cX7_surveyOn 89 = .ok (.iload_n 3, 1) := by decide +kernel
theorem dX7_surveyOn_90 : decode cX7_surveyOn 90 = .ok (.ireturn, 1) := by decide +kernel
theorem dX7_change_0 : decode cX7_change 0 = .ok (.aload_n 0, 1) := by decide +kernel
theorem dX7_change_1 : decode cX7_change 1 = .ok (.bipush 7, 2) := by decide +kernel
theorem dX7_change_3 : decode cX7_change 3 = .ok (.iload_n 1, 1) := by decide +kernel
theorem dX7_change_4 : decode cX7_change 4 = .ok (.iadd, 1) := by decide +kernel
theorem dX7_change_5 : decode cX7_change 5 = .ok (.iaload, 1) := by decide +kernel
theorem dX7_change_6 : decode cX7_change 6 = .ok (.istore_n 3, 1) := by decide +kernel
theorem dX7_change_7 : decode cX7_change 7 = .ok (.aload_n 0, 1) := by decide +kernel
theorem dX7_change_8 : decode cX7_change 8 = .ok (.bipush 7, 2) := by decide +kernel
theorem dX7_change_10 : decode cX7_change 10 = .ok (.iload_n 1, 1) := by decide +kernel
theorem dX7_change_11 : decode cX7_change 11 = .ok (.iadd, 1) := by decide +kernel
theorem dX7_change_12 : decode cX7_change 12 = .ok (.iload_n 2, 1) := by decide +kernel
theorem dX7_change_13 : decode cX7_change 13 = .ok (.iastore, 1) := by decide +kernel
theorem dX7_change_14 : decode cX7_change 14 = .ok (.iload_n 3, 1) := by decide +kernel
theorem dX7_change_15 : decode cX7_change 15 = .ok (.ireturn, 1) := by decide +kernel
theorem dX7_allTrust_0 : decode cX7_allTrust 0 = .ok (.iconst 0, 1) := by decide +kernel
theorem dX7_allTrust_1 : decode cX7_allTrust 1 = .ok (.istore_n 1, 1) := by decide +kernel
theorem dX7_allTrust_2 : decode cX7_allTrust 2 = .ok (.iconst 0, 1) := by decide +kernel
theorem dX7_allTrust_3 : decode cX7_allTrust 3 = .ok (.istore_n 2, 1) := by decide +kernel
theorem dX7_allTrust_4 : decode cX7_allTrust 4 = .ok (.iload_n 2, 1) := by decide +kernel
theorem dX7_allTrust_5 : decode cX7_allTrust 5 = .ok (.bipush 6, 2) := by decide +kernel
theorem dX7_allTrust_7 : decode cX7_allTrust 7 = .ok (.if_icmp .ge 18, 3) := by decide +kernel
theorem dX7_allTrust_10 : decode cX7_allTrust 10 = .ok (.iload_n 1, 1) := by decide +kernel
theorem dX7_allTrust_11 : decode cX7_allTrust 11 = .ok (.aload_n 0, 1) := by decide +kernel
theorem dX7_allTrust_12 : decode cX7_allTrust 12 = .ok (.bipush 9, 2) := by decide +kernel
theorem dX7_allTrust_14 : decode cX7_allTrust 14 = .ok (.iload_n 2, 1) := by decide +kernel
theorem dX7_allTrust_15 : decode cX7_allTrust 15 = .ok (.iadd, 1) := by decide +kernel
theorem dX7_allTrust_16 : decode cX7_allTrust 16 = .ok (.iaload, 1) := by decide +kernel
theorem dX7_allTrust_17 : decode cX7_allTrust 17 = .ok (.iadd, 1) := by decide +kernel
theorem dX7_allTrust_18 : decode cX7_allTrust 18 = .ok (.istore_n 1, 1) := by decide +kernel
theorem dX7_allTrust_19 : decode cX7_allTrust 19 = .ok (.iinc 2 1, 3) := by decide +kernel
theorem dX7_allTrust_22 : decode cX7_allTrust 22 = .ok (.goto (-18), 3) := by decide +kernel
theorem dX7_allTrust_25 : decode cX7_allTrust 25 = .ok (.iload_n 1, 1) := by decide +kernel
theorem dX7_allTrust_26 : decode cX7_allTrust 26 = .ok (.ireturn, 1) := by decide +kernel
theorem dX7_append_0 : decode cX7_append 0 = .ok (.aload_n 0, 1) := by decide +kernel
theorem dX7_append_1 : decode cX7_append 1 = .ok (.iload_n 1, 1) := by decide +kernel
theorem dX7_append_2 : decode cX7_append 2 = .ok (.i2l, 1) := by decide +kernel
theorem dX7_append_3 : decode cX7_append 3 = .ok (.lconst 0, 1) := by decide +kernel
theorem dX7_append_4 : decode cX7_append 4 = .ok (.ldc2_w 100, 3) := by decide +kernel
theorem dX7_append_7 : decode cX7_append 7 = .ok (.invokestatic 37, 3) := by decide +kernel
theorem dX7_append_10 : decode cX7_append 10 = .ok (.ifCond .ne 7, 3) := by decide +kernel
theorem dX7_append_13 : decode cX7_append 13 = .ok (.iconst 1, 1) := by decide +kernel
theorem dX7_append_14 : decode cX7_append 14 = .ok (.goto 17, 3) := by decide +kernel
theorem dX7_append_17 : decode cX7_append 17 = .ok (.aload_n 0, 1) := by decide +kernel
theorem dX7_append_18 : decode cX7_append 18 = .ok (.getfield 102, 3) := by decide +kernel
theorem dX7_append_21 : decode cX7_append 21 = .ok (.bipush 120, 2) := by decide +kernel
theorem dX7_append_23 : decode cX7_append 23 = .ok (.if_icmp .ne 7, 3) := by decide +kernel
theorem dX7_append_26 : decode cX7_append 26 = .ok (.iconst 2, 1) := by decide +kernel
theorem dX7_append_27 : decode cX7_append 27 = .ok (.goto 4, 3) := by decide +kernel
theorem dX7_append_30 : decode cX7_append 30 = .ok (.iconst 0, 1) := by decide +kernel
theorem dX7_append_31 : decode cX7_append 31 = .ok (.invokevirtual 105, 3) := by decide +kernel
theorem dX7_append_34 : decode cX7_append 34 = .ok (.ifCond .eq 5, 3) := by decide +kernel
theorem dX7_append_37 : decode cX7_append 37 = .ok (.iconst 0, 1) := by decide +kernel
theorem dX7_append_38 : decode cX7_append 38 = .ok (.ireturn, 1) := by decide +kernel
theorem dX7_append_39 : decode cX7_append 39 = .ok (.aload_n 0, 1) := by decide +kernel
theorem dX7_append_40 : decode cX7_append 40 = .ok (.getfield 7, 3) := by decide +kernel
theorem dX7_append_43 : decode cX7_append 43 = .ok (.aload_n 0, 1) := by decide +kernel
theorem dX7_append_44 : decode cX7_append 44 = .ok (.getfield 102, 3) := by decide +kernel
theorem dX7_append_47 : decode cX7_append 47 = .ok (.iload_n 1, 1) := by decide +kernel
theorem dX7_append_48 : decode cX7_append 48 = .ok (.iastore, 1) := by decide +kernel
theorem dX7_append_49 : decode cX7_append 49 = .ok (.aload_n 0, 1) := by decide +kernel
theorem dX7_append_50 : decode cX7_append 50 = .ok (.dup, 1) := by decide +kernel
theorem dX7_append_51 : decode cX7_append 51 = .ok (.getfield 102, 3) := by decide +kernel
theorem dX7_append_54 : decode cX7_append 54 = .ok (.iconst 1, 1) := by decide +kernel
theorem dX7_append_55 : decode cX7_append 55 = .ok (.iadd, 1) := by decide +kernel
theorem dX7_append_56 : decode cX7_append 56 = .ok (.putfield 102, 3) := by decide +kernel
theorem dX7_append_59 : decode cX7_append 59 = .ok (.aload_n 0, 1) := by decide +kernel
theorem dX7_append_60 : decode cX7_append 60 = .ok (.getfield 102, 3) := by decide +kernel
theorem dX7_append_63 : decode cX7_append 63 = .ok (.ireturn, 1) := by decide +kernel
theorem dX7_clearText_0 : decode cX7_clearText 0 = .ok (.aload_n 0, 1) := by decide +kernel
theorem dX7_clearText_1 : decode cX7_clearText 1 = .ok (.iconst 0, 1) := by decide +kernel
theorem dX7_clearText_2 : decode cX7_clearText 2 = .ok (.putfield 33, 3) := by decide +kernel
theorem dX7_clearText_5 : decode cX7_clearText 5 = .ok (.aload_n 0, 1) := by decide +kernel
theorem dX7_clearText_6 : decode cX7_clearText 6 = .ok (.getfield 102, 3) := by decide +kernel
theorem dX7_clearText_9 : decode cX7_clearText 9 = .ok (.istore_n 1, 1) := by decide +kernel
theorem dX7_clearText_10 : decode cX7_clearText 10 = .ok (.aload_n 0, 1) := by decide +kernel
theorem dX7_clearText_11 : decode cX7_clearText 11 = .ok (.iconst 0, 1) := by decide +kernel
theorem dX7_clearText_12 : decode cX7_clearText 12 = .ok (.putfield 102, 3) := by decide +kernel
theorem dX7_clearText_15 : decode cX7_clearText 15 = .ok (.iload_n 1, 1) := by decide +kernel
theorem dX7_clearText_16 : decode cX7_clearText 16 = .ok (.ireturn, 1) := by decide +kernel
theorem dX7_figures_0 : decode cX7_figures 0 = .ok (.iconst 0, 1) := by decide +kernel
theorem dX7_figures_1 : decode cX7_figures 1 = .ok (.istore 5, 2) := by decide +kernel
theorem dX7_figures_3 : decode cX7_figures 3 = .ok (.iload_n 2, 1) := by decide +kernel
theorem dX7_figures_4 : decode cX7_figures 4 = .ok (.istore 6, 2) := by decide +kernel
theorem dX7_figures_6 : decode cX7_figures 6 = .ok (.iload 6, 2) := by decide +kernel
theorem dX7_figures_8 : decode cX7_figures 8 = .ok (.ifCond .le 104, 3) := by decide +kernel
theorem dX7_figures_11 : decode cX7_figures 11 = .ok (.iload_n 1, 1) := by decide +kernel
theorem dX7_figures_12 : decode cX7_figures 12 = .ok (.iconst (-1), 1) := by decide +kernel
theorem dX7_figures_13 : decode cX7_figures 13 = .ok (.if_icmp .eq 99, 3) := by decide +kernel
theorem dX7_figures_16 : decode cX7_figures 16 = .ok (.aload_n 0, 1) := by decide +kernel
theorem dX7_figures_17 : decode cX7_figures 17 = .ok (.getfield 109, 3) := by decide +kernel
theorem dX7_figures_20 : decode cX7_figures 20 = .ok (.aload_n 0, 1) := by decide +kernel
theorem dX7_figures_21 : decode cX7_figures 21 = .ok (.getfield 102, 3) := by decide +kernel
theorem dX7_figures_24 : decode cX7_figures 24 = .ok (.if_icmp .ge 18, 3) := by decide +kernel
theorem dX7_figures_27 : decode cX7_figures 27 = .ok (.aload_n 0, 1) := by decide +kernel
theorem dX7_figures_28 : decode cX7_figures 28 = .ok (.getfield 7, 3) := by decide +kernel
theorem dX7_figures_31 : decode cX7_figures 31 = .ok (.aload_n 0, 1) := by decide +kernel
theorem dX7_figures_32 : decode cX7_figures 32 = .ok (.getfield 109, 3) := by decide +kernel
theorem dX7_figures_35 : decode cX7_figures 35 = .ok (.iaload, 1) := by decide +kernel
theorem dX7_figures_36 : decode cX7_figures 36 = .ok (.bipush 48, 2) := by decide +kernel
theorem dX7_figures_38 : decode cX7_figures 38 = .ok (.isub, 1) := by decide +kernel
theorem dX7_figures_39 : decode cX7_figures 39 = .ok (.goto 4, 3) := by decide +kernel
theorem dX7_figures_42 : decode cX7_figures 42 = .ok (.iconst (-1), 1) := by decide +kernel
theorem dX7_figures_43 : decode cX7_figures 43 = .ok (.istore 7, 2) := by decide +kernel
theorem dX7_figures_45 : decode cX7_figures 45 = .ok (.iload 5, 2) := by decide +kernel
theorem dX7_figures_47 : decode cX7_figures 47 = .ok (.iload 7, 2) := by decide +kernel
theorem dX7_figures_49 : decode cX7_figures 49 = .ok (.iload 6, 2) := by decide +kernel
theorem dX7_figures_51 : decode cX7_figures 51 = .ok (.imul, 1) := by decide +kernel
theorem dX7_figures_52 : decode cX7_figures 52 = .ok (.iadd, 1) := by decide +kernel
theorem dX7_figures_53 : decode cX7_figures 53 = .ok (.istore 8, 2) := by decide +kernel
theorem dX7_figures_55 : decode cX7_figures 55 = .ok (.iload 7, 2) := by decide +kernel
theorem dX7_figures_57 : decode cX7_figures 57 = .ok (.i2l, 1) := by decide +kernel
theorem dX7_figures_58 : decode cX7_figures 58 = .ok (.lconst 0, 1) := by decide +kernel
theorem dX7_figures_59 : decode cX7_figures 59 = .ok (.ldc2_w 53, 3) := by decide +kernel
theorem dX7_figures_62 : decode cX7_figures 62 = .ok (.invokestatic 37, 3) := by decide +kernel
theorem dX7_figures_65 : decode cX7_figures 65 = .ok (.ifCond .eq 21, 3) := by decide +kernel
theorem dX7_figures_68 : decode cX7_figures 68 = .ok (.iload 8, 2) := by decide +kernel
theorem dX7_figures_70 : decode cX7_figures 70 = .ok (.iload 4, 2) := by decide +kernel
theorem dX7_figures_72 : decode cX7_figures 72 = .ok (.if_icmp .gt 14, 3) := by decide +kernel
theorem dX7_figures_75 : decode cX7_figures 75 = .ok (.iload 8, 2) := by decide +kernel
theorem dX7_figures_77 : decode cX7_figures 77 = .ok (.iload 6, 2) := by decide +kernel
theorem dX7_figures_79 : decode cX7_figures 79 = .ok (.iadd, 1) := by decide +kernel
theorem dX7_figures_80 : decode cX7_figures 80 = .ok (.iconst 1, 1) := by decide +kernel
theorem dX7_figures_81 : decode cX7_figures 81 = .ok (.isub, 1) := by decide +kernel
theorem dX7_figures_82 : decode cX7_figures 82 = .ok (.iload_n 3, 1) := by decide +kernel
theorem dX7_figures_83 : decode cX7_figures 83 = .ok (.if_icmp .ge 5, 3) := by decide +kernel
theorem dX7_figures_86 : decode cX7_figures 86 = .ok (.iconst (-1), 1) := by decide +kernel
theorem dX7_figures_87 : decode cX7_figures 87 = .ok (.ireturn, 1) := by decide +kernel
theorem dX7_figures_88 : decode cX7_figures 88 = .ok (.iload 8, 2) := by decide +kernel
theorem dX7_figures_90 : decode cX7_figures 90 = .ok (.istore 5, 2) := by decide +kernel
theorem dX7_figures_92 : decode cX7_figures 92 = .ok (.aload_n 0, 1) := by decide +kernel
theorem dX7_figures_93 : decode cX7_figures 93 = .ok (.dup, 1) := by decide +kernel
theorem dX7_figures_94 : decode cX7_figures 94 = .ok (.getfield 109, 3) := by decide +kernel
theorem dX7_figures_97 : decode cX7_figures 97 = .ok (.iconst 1, 1) := by decide +kernel
theorem dX7_figures_98 : decode cX7_figures 98 = .ok (.iadd, 1) := by decide +kernel
theorem dX7_figures_99 : decode cX7_figures 99 = .ok (.putfield 109, 3) := by decide +kernel
theorem dX7_figures_102 : decode cX7_figures 102 = .ok (.iload 6, 2) := by decide +kernel
theorem dX7_figures_104 : decode cX7_figures 104 = .ok (.bipush 10, 2) := by decide +kernel
theorem dX7_figures_106 : decode cX7_figures 106 = .ok (.idiv, 1) := by decide +kernel
theorem dX7_figures_107 : decode cX7_figures 107 = .ok (.istore 6, 2) := by decide +kernel
theorem dX7_figures_109 : decode cX7_figures 109 = .ok (.goto (-103), 3) := by decide +kernel
theorem dX7_figures_112 : decode cX7_figures 112 = .ok (.iload_n 1, 1) := by decide +kernel
theorem dX7_figures_113 : decode cX7_figures 113 = .ok (.iconst (-1), 1) := by decide +kernel
theorem dX7_figures_114 : decode cX7_figures 114 = .ok (.if_icmp .ne 7, 3) := by decide +kernel
theorem dX7_figures_117 : decode cX7_figures 117 = .ok (.iconst (-1), 1) := by decide +kernel
theorem dX7_figures_118 : decode cX7_figures 118 = .ok (.goto 5, 3) := by decide +kernel
theorem dX7_figures_121 : decode cX7_figures 121 = .ok (.iload 5, 2) := by decide +kernel
theorem dX7_figures_123 : decode cX7_figures 123 = .ok (.ireturn, 1) := by decide +kernel
theorem dX7_done_0 : decode cX7_done 0 = .ok (.aload_n 0, 1) := by decide +kernel
theorem dX7_done_1 : decode cX7_done 1 = .ok (.dup, 1) := by decide +kernel
theorem dX7_done_2 : decode cX7_done 2 = .ok (.getfield 112, 3) := by decide +kernel
theorem dX7_done_5 : decode cX7_done 5 = .ok (.iload_n 1, 1) := by decide +kernel
theorem dX7_done_6 : decode cX7_done 6 = .ok (.ifCond .eq 7, 3) := by decide +kernel
theorem dX7_done_9 : decode cX7_done 9 = .ok (.iconst 0, 1) := by decide +kernel
theorem dX7_done_10 : decode cX7_done 10 = .ok (.goto 4, 3) := by decide +kernel
theorem dX7_done_13 : decode cX7_done 13 = .ok (.iconst 1, 1) := by decide +kernel
theorem dX7_done_14 : decode cX7_done 14 = .ok (.iadd, 1) := by decide +kernel
theorem dX7_done_15 : decode cX7_done 15 = .ok (.putfield 112, 3) := by decide +kernel
theorem dX7_done_18 : decode cX7_done 18 = .ok (.iconst 1, 1) := by decide +kernel
theorem dX7_done_19 : decode cX7_done 19 = .ok (.ireturn, 1) := by decide +kernel
theorem dX7_readMeasure_0 : decode cX7_readMeasure 0 = .ok (.aload_n 0, 1) := by decide +kernel
theorem dX7_readMeasure_1 : decode cX7_readMeasure 1 = .ok (.iconst 0, 1) := by decide +kernel
theorem dX7_readMeasure_2 : decode cX7_readMeasure 2 = .ok (.iconst 1, 1) := by decide +kernel
theorem dX7_readMeasure_3 : decode cX7_readMeasure 3 = .ok (.iconst 0, 1) := by decide +kernel
theorem dX7_readMeasure_4 : decode cX7_readMeasure 4 = .ok (.iconst 2, 1) := by decide +kernel
theorem dX7_readMeasure_5 : decode cX7_readMeasure 5 = .ok (.invokevirtual 115, 3) := by decide +kernel
theorem dX7_readMeasure_8 : decode cX7_readMeasure 8 = .ok (.istore_n 3, 1) := by decide +kernel
theorem dX7_readMeasure_9 : decode cX7_readMeasure 9 = .ok (.aload_n 0, 1) := by decide +kernel
theorem dX7_readMeasure_10 : decode cX7_readMeasure 10 = .ok (.iload_n 3, 1) := by decide +kernel
theorem dX7_readMeasure_11 : decode cX7_readMeasure 11 = .ok (.iconst 1, 1) := by decide +kernel
theorem dX7_readMeasure_12 : decode cX7_readMeasure 12 = .ok (.iconst 0, 1) := by decide +kernel
theorem dX7_readMeasure_13 : decode cX7_readMeasure 13 = .ok (.iconst 5, 1) := by decide +kernel
theorem dX7_readMeasure_14 : decode cX7_readMeasure 14 = .ok (.invokevirtual 115, 3) := by decide +kernel
theorem dX7_readMeasure_17 : decode cX7_readMeasure 17 = .ok (.istore 4, 2) := by decide +kernel
theorem dX7_readMeasure_19 : decode cX7_readMeasure 19 = .ok (.iload_n 2, 1) := by decide +kernel
theorem dX7_readMeasure_20 : decode cX7_readMeasure 20 = .ok (.ifCond .ne 17, 3) := by decide +kernel
theorem dX7_readMeasure_23 : decode cX7_readMeasure 23 = .ok (.aload_n 0, 1) := by decide +kernel
theorem dX7_readMeasure_24 : decode cX7_readMeasure 24 = .ok (.iload 4, 2) := by decide +kernel
theorem dX7_readMeasure_26 : decode cX7_readMeasure 26 = .ok (.bipush 10, 2) := by decide +kernel
theorem dX7_readMeasure_28 : decode cX7_readMeasure 28 = .ok (.iconst 1, 1) := by decide +kernel
theorem dX7_readMeasure_29 : decode cX7_readMeasure 29 = .ok (.bipush 20, 2) := by decide +kernel
theorem dX7_readMeasure_31 : decode cX7_readMeasure 31 = .ok (.invokevirtual 115, 3) := by decide +kernel
theorem dX7_readMeasure_34 : decode cX7_readMeasure 34 = .ok (.goto 33, 3) := by decide +kernel
theorem dX7_readMeasure_37 : decode cX7_readMeasure 37 = .ok (.iload_n 2, 1) := by decide +kernel
theorem dX7_readMeasure_38 : decode cX7_readMeasure 38 = .ok (.iconst 1, 1) := by decide +kernel
theorem dX7_readMeasure_39 : decode cX7_readMeasure 39 = .ok (.if_icmp .ne 16, 3) := by decide +kernel
theorem dX7_readMeasure_42 : decode cX7_readMeasure 42 = .ok (.aload_n 0, 1) := by decide +kernel
theorem dX7_readMeasure_43 : decode cX7_readMeasure 43 = .ok (.iload 4, 2) := by decide +kernel
theorem dX7_readMeasure_45 : decode cX7_readMeasure 45 = .ok (.iconst 1, 1) := by decide +kernel
theorem dX7_readMeasure_46 : decode cX7_readMeasure 46 = .ok (.iconst 1, 1) := by decide +kernel
theorem dX7_readMeasure_47 : decode cX7_readMeasure 47 = .ok (.bipush 9, 2) := by decide +kernel
theorem dX7_readMeasure_49 : decode cX7_readMeasure 49 = .ok (.invokevirtual 115, 3) := by decide +kernel
theorem dX7_readMeasure_52 : decode cX7_readMeasure 52 = .ok (.goto 15, 3) := by decide +kernel
theorem dX7_readMeasure_55 : decode cX7_readMeasure 55 = .ok (.aload_n 0, 1) := by decide +kernel
theorem dX7_readMeasure_56 : decode cX7_readMeasure 56 = .ok (.iload 4, 2) := by decide +kernel
theorem dX7_readMeasure_58 : decode cX7_readMeasure 58 = .ok (.bipush 100, 2) := by decide +kernel
theorem dX7_readMeasure_60 : decode cX7_readMeasure 60 = .ok (.iconst 1, 1) := by decide +kernel
theorem dX7_readMeasure_61 : decode cX7_readMeasure 61 = .ok (.sipush 999, 3) := by decide +kernel
theorem dX7_readMeasure_64 : decode cX7_readMeasure 64 = .ok (.invokevirtual 115, 3) := by decide +kernel
theorem dX7_readMeasure_67 : decode cX7_readMeasure 67 = .ok (.istore 5, 2) := by decide +kernel
theorem dX7_readMeasure_69 : decode cX7_readMeasure 69 = .ok (.iload_n 2, 1) := by decide +kernel
theorem dX7_readMeasure_70 : decode cX7_readMeasure 70 = .ok (.iconst 2, 1) := by decide +kernel
theorem dX7_readMeasure_71 : decode cX7_readMeasure 71 = .ok (.if_icmp .ne 18, 3) := by decide +kernel
theorem dX7_readMeasure_74 : decode cX7_readMeasure 74 = .ok (.aload_n 0, 1) := by decide +kernel
theorem dX7_readMeasure_75 : decode cX7_readMeasure 75 = .ok (.iload 5, 2) := by decide +kernel
theorem dX7_readMeasure_77 : decode cX7_readMeasure 77 = .ok (.bipush 100, 2) := by decide +kernel
theorem dX7_readMeasure_79 : decode cX7_readMeasure 79 = .ok (.iconst 1, 1) := by decide +kernel
theorem dX7_readMeasure_80 : decode cX7_readMeasure 80 = .ok (.sipush 999, 3) := by decide +kernel
theorem dX7_readMeasure_83 : decode cX7_readMeasure 83 = .ok (.invokevirtual 115, 3) := by decide +kernel
theorem dX7_readMeasure_86 : decode cX7_readMeasure 86 = .ok (.goto 23, 3) := by decide +kernel
theorem dX7_readMeasure_89 : decode cX7_readMeasure 89 = .ok (.aload_n 0, 1) := by decide +kernel
theorem dX7_readMeasure_90 : decode cX7_readMeasure 90 = .ok (.iload 5, 2) := by decide +kernel
theorem dX7_readMeasure_92 : decode cX7_readMeasure 92 = .ok (.bipush 10, 2) := by decide +kernel
theorem dX7_readMeasure_94 : decode cX7_readMeasure 94 = .ok (.iconst 1, 1) := by decide +kernel
theorem dX7_readMeasure_95 : decode cX7_readMeasure 95 = .ok (.iload_n 2, 1) := by decide +kernel
theorem dX7_readMeasure_96 : decode cX7_readMeasure 96 = .ok (.ifCond .ne 8, 3) := by decide +kernel
theorem dX7_readMeasure_99 : decode cX7_readMeasure 99 = .ok (.bipush 40, 2) := by decide +kernel
theorem dX7_readMeasure_101 : decode cX7_readMeasure 101 = .ok (.goto 5, 3) := by decide +kernel
theorem dX7_readMeasure_104 : decode cX7_readMeasure 104 = .ok (.bipush 60, 2) := by decide +kernel
theorem dX7_readMeasure_106 : decode cX7_readMeasure 106 = .ok (.invokevirtual 115, 3) := by decide +kernel
theorem dX7_readMeasure_109 : decode cX7_readMeasure 109 = .ok (.istore 6, 2) := by decide +kernel
theorem dX7_readMeasure_111 : decode cX7_readMeasure 111 = .ok (.iload_n 2, 1) := by decide +kernel
theorem dX7_readMeasure_112 : decode cX7_readMeasure 112 = .ok (.iconst 2, 1) := by decide +kernel
theorem dX7_readMeasure_113 : decode cX7_readMeasure 113 = .ok (.if_icmp .ne 17, 3) := by decide +kernel
theorem dX7_readMeasure_116 : decode cX7_readMeasure 116 = .ok (.iload 6, 2) := by decide +kernel
theorem dX7_readMeasure_118 : decode cX7_readMeasure 118 = .ok (.iconst (-1), 1) := by decide +kernel
theorem dX7_readMeasure_119 : decode cX7_readMeasure 119 = .ok (.if_icmp .ne 7, 3) := by decide +kernel
theorem dX7_readMeasure_122 : decode cX7_readMeasure 122 = .ok (.iconst (-1), 1) := by decide +kernel
theorem dX7_readMeasure_123 : decode cX7_readMeasure 123 = .ok (.goto 19, 3) := by decide +kernel
theorem dX7_readMeasure_126 : decode cX7_readMeasure 126 = .ok (.iconst 0, 1) := by decide +kernel
theorem dX7_readMeasure_127 : decode cX7_readMeasure 127 = .ok (.goto 15, 3) := by decide +kernel
theorem dX7_readMeasure_130 : decode cX7_readMeasure 130 = .ok (.aload_n 0, 1) := by decide +kernel
theorem dX7_readMeasure_131 : decode cX7_readMeasure 131 = .ok (.iload 6, 2) := by decide +kernel
theorem dX7_readMeasure_133 : decode cX7_readMeasure 133 = .ok (.bipush 100, 2) := by decide +kernel
theorem dX7_readMeasure_135 : decode cX7_readMeasure 135 = .ok (.iconst 1, 1) := by decide +kernel
theorem dX7_readMeasure_136 : decode cX7_readMeasure 136 = .ok (.sipush 400, 3) := by decide +kernel
theorem dX7_readMeasure_139 : decode cX7_readMeasure 139 = .ok (.invokevirtual 115, 3) := by decide +kernel
theorem dX7_readMeasure_142 : decode cX7_readMeasure 142 = .ok (.istore 7, 2) := by decide +kernel
theorem dX7_readMeasure_144 : decode cX7_readMeasure 144 = .ok (.iload_n 2, 1) := by decide +kernel
theorem dX7_readMeasure_145 : decode cX7_readMeasure 145 = .ok (.iconst 2, 1) := by decide +kernel
theorem dX7_readMeasure_146 : decode cX7_readMeasure 146 = .ok (.if_icmp .ne 8, 3) := by decide +kernel
theorem dX7_readMeasure_149 : decode cX7_readMeasure 149 = .ok (.iload 7, 2) := by decide +kernel
theorem dX7_readMeasure_151 : decode cX7_readMeasure 151 = .ok (.goto 14, 3) := by decide +kernel
theorem dX7_readMeasure_154 : decode cX7_readMeasure 154 = .ok (.aload_n 0, 1) := by decide +kernel
theorem dX7_readMeasure_155 : decode cX7_readMeasure 155 = .ok (.iload 7, 2) := by decide +kernel
theorem dX7_readMeasure_157 : decode cX7_readMeasure 157 = .ok (.bipush 10, 2) := by decide +kernel
theorem dX7_readMeasure_159 : decode cX7_readMeasure 159 = .ok (.iconst 0, 1) := by decide +kernel
theorem dX7_readMeasure_160 : decode cX7_readMeasure 160 = .ok (.bipush 20, 2) := by decide +kernel
theorem dX7_readMeasure_162 : decode cX7_readMeasure 162 = .ok (.invokevirtual 115, 3) := by decide +kernel
theorem dX7_readMeasure_165 : decode cX7_readMeasure 165 = .ok (.istore 8, 2) := by decide +kernel
theorem dX7_readMeasure_167 : decode cX7_readMeasure 167 = .ok (.iload 8, 2) := by decide +kernel
theorem dX7_readMeasure_169 : decode cX7_readMeasure 169 = .ok (.iconst (-1), 1) := by decide +kernel
theorem dX7_readMeasure_170 : decode cX7_readMeasure 170 = .ok (.if_icmp .eq 61, 3) := by decide +kernel
theorem dX7_readMeasure_173 : decode cX7_readMeasure 173 = .ok (.aload_n 0, 1) := by decide +kernel
theorem dX7_readMeasure_174 : decode cX7_readMeasure 174 = .ok (.iload_n 2, 1) := by decide +kernel
theorem dX7_readMeasure_175 : decode cX7_readMeasure 175 = .ok (.iload 5, 2) := by decide +kernel
theorem dX7_readMeasure_177 : decode cX7_readMeasure 177 = .ok (.iload 6, 2) := by decide +kernel
theorem dX7_readMeasure_179 : decode cX7_readMeasure 179 = .ok (.iload 7, 2) := by decide +kernel
theorem dX7_readMeasure_181 : decode cX7_readMeasure 181 = .ok (.iload 8, 2) := by decide +kernel
theorem dX7_readMeasure_183 : decode cX7_readMeasure 183 = .ok (.invokestatic 119, 3) := by decide +kernel
theorem dX7_readMeasure_186 : decode cX7_readMeasure 186 = .ok (.ifCond .eq 34, 3) := by decide +kernel
theorem dX7_readMeasure_189 : decode cX7_readMeasure 189 = .ok (.aload_n 1, 1) := by decide +kernel
theorem dX7_readMeasure_190 : decode cX7_readMeasure 190 = .ok (.iconst 0, 1) := by decide +kernel
theorem dX7_readMeasure_191 : decode cX7_readMeasure 191 = .ok (.iaload, 1) := by decide +kernel
theorem dX7_readMeasure_192 : decode cX7_readMeasure 192 = .ok (.bipush 16, 2) := by decide +kernel
theorem dX7_readMeasure_194 : decode cX7_readMeasure 194 = .ok (.if_icmp .ge 26, 3) := by decide +kernel
theorem dX7_readMeasure_197 : decode cX7_readMeasure 197 = .ok (.aload_n 1, 1) := by decide +kernel
theorem dX7_readMeasure_198 : decode cX7_readMeasure 198 = .ok (.iload_n 3, 1) := by decide +kernel
theorem dX7_readMeasure_199 : decode cX7_readMeasure 199 = .ok (.iload 4, 2) := by decide +kernel
theorem dX7_readMeasure_201 : decode cX7_readMeasure 201 = .ok (.iload_n 2, 1) := by decide +kernel
theorem dX7_readMeasure_202 : decode cX7_readMeasure 202 = .ok (.iload 5, 2) := by decide +kernel
theorem dX7_readMeasure_204 : decode cX7_readMeasure 204 = .ok (.iload 6, 2) := by decide +kernel
theorem dX7_readMeasure_206 : decode cX7_readMeasure 206 = .ok (.iload 7, 2) := by decide +kernel
theorem dX7_readMeasure_208 : decode cX7_readMeasure 208 = .ok (.iload 8, 2) := by decide +kernel
theorem dX7_readMeasure_210 : decode cX7_readMeasure 210 = .ok (.invokestatic 123, 3) := by decide +kernel
theorem dX7_readMeasure_213 : decode cX7_readMeasure 213 = .ok (.ifCond .lt 7, 3) := by decide +kernel
theorem dX7_readMeasure_216 : decode cX7_readMeasure 216 = .ok (.iconst 1, 1) := by decide +kernel
theorem dX7_readMeasure_217 : decode cX7_readMeasure 217 = .ok (.goto 4, 3) := by decide +kernel
theorem dX7_readMeasure_220 : decode cX7_readMeasure 220 = .ok (.iconst 0, 1) := by decide +kernel
theorem dX7_readMeasure_221 : decode cX7_readMeasure 221 = .ok (.invokevirtual 127, 3) := by decide +kernel
theorem dX7_readMeasure_224 : decode cX7_readMeasure 224 = .ok (.ifCond .eq 7, 3) := by decide +kernel
theorem dX7_readMeasure_227 : decode cX7_readMeasure 227 = .ok (.iconst 1, 1) := by decide +kernel
theorem dX7_readMeasure_228 : decode cX7_readMeasure 228 = .ok (.goto 4, 3) := by decide +kernel
theorem dX7_readMeasure_231 : decode cX7_readMeasure 231 = .ok (.iconst 0, 1) := by decide +kernel
theorem dX7_readMeasure_232 : decode cX7_readMeasure 232 = .ok (.ireturn, 1) := by decide +kernel
theorem dX7_readCommand_0 : decode cX7_readCommand 0 = .ok (.aload_n 0, 1) := by decide +kernel
theorem dX7_readCommand_1 : decode cX7_readCommand 1 = .ok (.getfield 7, 3) := by decide +kernel
theorem dX7_readCommand_4 : decode cX7_readCommand 4 = .ok (.aload_n 0, 1) := by decide +kernel
theorem dX7_readCommand_5 : decode cX7_readCommand 5 = .ok (.getfield 109, 3) := by decide +kernel
theorem dX7_readCommand_8 : decode cX7_readCommand 8 = .ok (.iaload, 1) := by decide +kernel
theorem dX7_readCommand_9 : decode cX7_readCommand 9 = .ok (.istore_n 2, 1) := by decide +kernel
theorem dX7_readCommand_10 : decode cX7_readCommand 10 = .ok (.aload_n 0, 1) := by decide +kernel
theorem dX7_readCommand_11 : decode cX7_readCommand 11 = .ok (.dup, 1) := by decide +kernel
theorem dX7_readCommand_12 : decode cX7_readCommand 12 = .ok (.getfield 109, 3) := by decide +kernel
theorem dX7_readCommand_15 : decode cX7_readCommand 15 = .ok (.iconst 1, 1) := by decide +kernel
theorem dX7_readCommand_16 : decode cX7_readCommand 16 = .ok (.iadd, 1) := by decide +kernel
theorem dX7_readCommand_17 : decode cX7_readCommand 17 = .ok (.putfield 109, 3) := by decide +kernel
theorem dX7_readCommand_20 : decode cX7_readCommand 20 = .ok (.iload_n 2, 1) := by decide +kernel
theorem dX7_readCommand_21 : decode cX7_readCommand 21 = .ok (.tableswitch 293 100 119 #[116, 293, 293, 293, 293, 293, 293, 293, 293, 293, 293, 102, 293, 220, 293, 95, 166, 293, 237, 109], 95) := by decide +kernel
theorem dX7_readCommand_116 : decode cX7_readCommand 116 = .ok (.aload_n 0, 1) := by decide +kernel
theorem dX7_readCommand_117 : decode cX7_readCommand 117 = .ok (.aload_n 1, 1) := by decide +kernel
theorem dX7_readCommand_118 : decode cX7_readCommand 118 = .ok (.iconst 0, 1) := by decide +kernel
theorem dX7_readCommand_119 : decode cX7_readCommand 119 = .ok (.invokevirtual 131, 3) := by decide +kernel
theorem dX7_readCommand_122 : decode cX7_readCommand 122 = .ok (.ireturn, 1) := by decide +kernel
theorem dX7_readCommand_123 : decode cX7_readCommand 123 = .ok (.aload_n 0, 1) := by decide +kernel
theorem dX7_readCommand_124 : decode cX7_readCommand 124 = .ok (.aload_n 1, 1) := by decide +kernel
theorem dX7_readCommand_125 : decode cX7_readCommand 125 = .ok (.iconst 1, 1) := by decide +kernel
theorem dX7_readCommand_126 : decode cX7_readCommand 126 = .ok (.invokevirtual 131, 3) := by decide +kernel
theorem dX7_readCommand_129 : decode cX7_readCommand 129 = .ok (.ireturn, 1) := by decide +kernel
theorem dX7_readCommand_130 : decode cX7_readCommand 130 = .ok (.aload_n 0, 1) := by decide +kernel
theorem dX7_readCommand_131 : decode cX7_readCommand 131 = .ok (.aload_n 1, 1) := by decide +kernel
theorem dX7_readCommand_132 : decode cX7_readCommand 132 = .ok (.iconst 2, 1) := by decide +kernel
theorem dX7_readCommand_133 : decode cX7_readCommand 133 = .ok (.invokevirtual 131, 3) := by decide +kernel
theorem dX7_readCommand_136 : decode cX7_readCommand 136 = .ok (.ireturn, 1) := by decide +kernel
theorem dX7_readCommand_137 : decode cX7_readCommand 137 = .ok (.aload_n 0, 1) := by decide +kernel
theorem dX7_readCommand_138 : decode cX7_readCommand 138 = .ok (.iconst 0, 1) := by decide +kernel
theorem dX7_readCommand_139 : decode cX7_readCommand 139 = .ok (.bipush 10, 2) := by decide +kernel
theorem dX7_readCommand_141 : decode cX7_readCommand 141 = .ok (.iconst 0, 1) := by decide +kernel
theorem dX7_readCommand_142 : decode cX7_readCommand 142 = .ok (.bipush 15, 2) := by decide +kernel
theorem dX7_readCommand_144 : decode cX7_readCommand 144 = .ok (.invokevirtual 115, 3) := by decide +kernel
theorem dX7_readCommand_147 : decode cX7_readCommand 147 = .ok (.istore_n 3, 1) := by decide +kernel
theorem dX7_readCommand_148 : decode cX7_readCommand 148 = .ok (.iload_n 3, 1) := by decide +kernel
theorem dX7_readCommand_149 : decode cX7_readCommand 149 = .ok (.iconst (-1), 1) := by decide +kernel
theorem dX7_readCommand_150 : decode cX7_readCommand 150 = .ok (.if_icmp .eq 35, 3) := by decide +kernel
theorem dX7_readCommand_153 : decode cX7_readCommand 153 = .ok (.aload_n 0, 1) := by decide +kernel
theorem dX7_readCommand_154 : decode cX7_readCommand 154 = .ok (.aload_n 1, 1) := by decide +kernel
theorem dX7_readCommand_155 : decode cX7_readCommand 155 = .ok (.iload_n 3, 1) := by decide +kernel
theorem dX7_readCommand_156 : decode cX7_readCommand 156 = .ok (.invokestatic 135, 3) := by decide +kernel
theorem dX7_readCommand_159 : decode cX7_readCommand 159 = .ok (.ifCond .eq 15, 3) := by decide +kernel
theorem dX7_readCommand_162 : decode cX7_readCommand 162 = .ok (.aload_n 1, 1) := by decide +kernel
theorem dX7_readCommand_163 : decode cX7_readCommand 163 = .ok (.iload_n 3, 1) := by decide +kernel
theorem dX7_readCommand_164 : decode cX7_readCommand 164 = .ok (.invokestatic 97, 3) := by decide +kernel
theorem dX7_readCommand_167 : decode cX7_readCommand 167 = .ok (.ifCond .lt 7, 3) := by decide +kernel
theorem dX7_readCommand_170 : decode cX7_readCommand 170 = .ok (.iconst 1, 1) := by decide +kernel
theorem dX7_readCommand_171 : decode cX7_readCommand 171 = .ok (.goto 4, 3) := by decide +kernel
theorem dX7_readCommand_174 : decode cX7_readCommand 174 = .ok (.iconst 0, 1) := by decide +kernel
theorem dX7_readCommand_175 : decode cX7_readCommand 175 = .ok (.invokevirtual 127, 3) := by decide +kernel
theorem dX7_readCommand_178 : decode cX7_readCommand 178 = .ok (.ifCond .eq 7, 3) := by decide +kernel
theorem dX7_readCommand_181 : decode cX7_readCommand 181 = .ok (.iconst 1, 1) := by decide +kernel
theorem dX7_readCommand_182 : decode cX7_readCommand 182 = .ok (.goto 4, 3) := by decide +kernel
theorem dX7_readCommand_185 : decode cX7_readCommand 185 = .ok (.iconst 0, 1) := by decide +kernel
theorem dX7_readCommand_186 : decode cX7_readCommand 186 = .ok (.ireturn, 1) := by decide +kernel
theorem dX7_readCommand_187 : decode cX7_readCommand 187 = .ok (.aload_n 0, 1) := by decide +kernel
theorem dX7_readCommand_188 : decode cX7_readCommand 188 = .ok (.iconst 0, 1) := by decide +kernel
theorem dX7_readCommand_189 : decode cX7_readCommand 189 = .ok (.iconst 1, 1) := by decide +kernel
theorem dX7_readCommand_190 : decode cX7_readCommand 190 = .ok (.iconst 0, 1) := by decide +kernel
theorem dX7_readCommand_191 : decode cX7_readCommand 191 = .ok (.iconst 5, 1) := by decide +kernel
theorem dX7_readCommand_192 : decode cX7_readCommand 192 = .ok (.invokevirtual 115, 3) := by decide +kernel
theorem dX7_readCommand_195 : decode cX7_readCommand 195 = .ok (.istore_n 3, 1) := by decide +kernel
theorem dX7_readCommand_196 : decode cX7_readCommand 196 = .ok (.aload_n 0, 1) := by decide +kernel
theorem dX7_readCommand_197 : decode cX7_readCommand 197 = .ok (.iload_n 3, 1) := by decide +kernel
theorem dX7_readCommand_198 : decode cX7_readCommand 198 = .ok (.iconst 1, 1) := by decide +kernel
theorem dX7_readCommand_199 : decode cX7_readCommand 199 = .ok (.iconst 0, 1) := by decide +kernel
theorem dX7_readCommand_200 : decode cX7_readCommand 200 = .ok (.bipush 9, 2) := by decide +kernel
theorem dX7_readCommand_202 : decode cX7_readCommand 202 = .ok (.invokevirtual 115, 3) := by decide +kernel
theorem dX7_readCommand_205 : decode cX7_readCommand 205 = .ok (.istore 4, 2) := by decide +kernel
theorem dX7_readCommand_207 : decode cX7_readCommand 207 = .ok (.iload 4, 2) := by decide +kernel
theorem dX7_readCommand_209 : decode cX7_readCommand 209 = .ok (.iconst (-1), 1) := by decide +kernel
theorem dX7_readCommand_210 : decode cX7_readCommand 210 = .ok (.if_icmp .eq 29, 3) := by decide +kernel
theorem dX7_readCommand_213 : decode cX7_readCommand 213 = .ok (.aload_n 0, 1) := by decide +kernel
theorem dX7_readCommand_214 : decode cX7_readCommand 214 = .ok (.aload_n 1, 1) := by decide +kernel
theorem dX7_readCommand_215 : decode cX7_readCommand 215 = .ok (.iload_n 3, 1) := by decide +kernel
theorem dX7_readCommand_216 : decode cX7_readCommand 216 = .ok (.iload 4, 2) := by decide +kernel
theorem dX7_readCommand_218 : decode cX7_readCommand 218 = .ok (.invokestatic 138, 3) := by decide +kernel
theorem dX7_readCommand_221 : decode cX7_readCommand 221 = .ok (.ifCond .lt 7, 3) := by decide +kernel
theorem dX7_readCommand_224 : decode cX7_readCommand 224 = .ok (.iconst 1, 1) := by decide +kernel
theorem dX7_readCommand_225 : decode cX7_readCommand 225 = .ok (.goto 4, 3) := by decide +kernel
theorem dX7_readCommand_228 : decode cX7_readCommand 228 = .ok (.iconst 0, 1) := by decide +kernel
theorem dX7_readCommand_229 : decode cX7_readCommand 229 = .ok (.invokevirtual 127, 3) := by decide +kernel
theorem dX7_readCommand_232 : decode cX7_readCommand 232 = .ok (.ifCond .eq 7, 3) := by decide +kernel
theorem dX7_readCommand_235 : decode cX7_readCommand 235 = .ok (.iconst 1, 1) := by decide +kernel
theorem dX7_readCommand_236 : decode cX7_readCommand 236 = .ok (.goto 4, 3) := by decide +kernel
theorem dX7_readCommand_239 : decode cX7_readCommand 239 = .ok (.iconst 0, 1) := by decide +kernel
theorem dX7_readCommand_240 : decode cX7_readCommand 240 = .ok (.ireturn, 1) := by decide +kernel
theorem dX7_readCommand_241 : decode cX7_readCommand 241 = .ok (.aload_n 0, 1) := by decide +kernel
theorem dX7_readCommand_242 : decode cX7_readCommand 242 = .ok (.aload_n 1, 1) := by decide +kernel
theorem dX7_readCommand_243 : decode cX7_readCommand 243 = .ok (.invokestatic 141, 3) := by decide +kernel
theorem dX7_readCommand_246 : decode cX7_readCommand 246 = .ok (.ifCond .lt 7, 3) := by decide +kernel
theorem dX7_readCommand_249 : decode cX7_readCommand 249 = .ok (.iconst 1, 1) := by decide +kernel
theorem dX7_readCommand_250 : decode cX7_readCommand 250 = .ok (.goto 4, 3) := by decide +kernel
theorem dX7_readCommand_253 : decode cX7_readCommand 253 = .ok (.iconst 0, 1) := by decide +kernel
theorem dX7_readCommand_254 : decode cX7_readCommand 254 = .ok (.invokevirtual 127, 3) := by decide +kernel
theorem dX7_readCommand_257 : decode cX7_readCommand 257 = .ok (.ireturn, 1) := by decide +kernel
theorem dX7_readCommand_258 : decode cX7_readCommand 258 = .ok (.aload_n 0, 1) := by decide +kernel
theorem dX7_readCommand_259 : decode cX7_readCommand 259 = .ok (.iconst 0, 1) := by decide +kernel
theorem dX7_readCommand_260 : decode cX7_readCommand 260 = .ok (.iconst 1, 1) := by decide +kernel
theorem dX7_readCommand_261 : decode cX7_readCommand 261 = .ok (.iconst 0, 1) := by decide +kernel
theorem dX7_readCommand_262 : decode cX7_readCommand 262 = .ok (.iconst 2, 1) := by decide +kernel
theorem dX7_readCommand_263 : decode cX7_readCommand 263 = .ok (.invokevirtual 115, 3) := by decide +kernel
theorem dX7_readCommand_266 : decode cX7_readCommand 266 = .ok (.istore_n 3, 1) := by decide +kernel
theorem dX7_readCommand_267 : decode cX7_readCommand 267 = .ok (.aload_n 0, 1) := by decide +kernel
theorem dX7_readCommand_268 : decode cX7_readCommand 268 = .ok (.iload_n 3, 1) := by decide +kernel
theorem dX7_readCommand_269 : decode cX7_readCommand 269 = .ok (.bipush 100, 2) := by decide +kernel
theorem dX7_readCommand_271 : decode cX7_readCommand 271 = .ok (.iconst 1, 1) := by decide +kernel
theorem dX7_readCommand_272 : decode cX7_readCommand 272 = .ok (.sipush 999, 3) := by decide +kernel
theorem dX7_readCommand_275 : decode cX7_readCommand 275 = .ok (.invokevirtual 115, 3) := by decide +kernel
theorem dX7_readCommand_278 : decode cX7_readCommand 278 = .ok (.istore 4, 2) := by decide +kernel
theorem dX7_readCommand_280 : decode cX7_readCommand 280 = .ok (.iload 4, 2) := by decide +kernel
theorem dX7_readCommand_282 : decode cX7_readCommand 282 = .ok (.iconst (-1), 1) := by decide +kernel
theorem dX7_readCommand_283 : decode cX7_readCommand 283 = .ok (.if_icmp .eq 29, 3) := by decide +kernel
theorem dX7_readCommand_286 : decode cX7_readCommand 286 = .ok (.aload_n 0, 1) := by decide +kernel
theorem dX7_readCommand_287 : decode cX7_readCommand 287 = .ok (.aload_n 1, 1) := by decide +kernel
theorem dX7_readCommand_288 : decode cX7_readCommand 288 = .ok (.iload_n 3, 1) := by decide +kernel
theorem dX7_readCommand_289 : decode cX7_readCommand 289 = .ok (.iload 4, 2) := by decide +kernel
theorem dX7_readCommand_291 : decode cX7_readCommand 291 = .ok (.invokestatic 145, 3) := by decide +kernel
theorem dX7_readCommand_294 : decode cX7_readCommand 294 = .ok (.ifCond .lt 7, 3) := by decide +kernel
theorem dX7_readCommand_297 : decode cX7_readCommand 297 = .ok (.iconst 1, 1) := by decide +kernel
theorem dX7_readCommand_298 : decode cX7_readCommand 298 = .ok (.goto 4, 3) := by decide +kernel
theorem dX7_readCommand_301 : decode cX7_readCommand 301 = .ok (.iconst 0, 1) := by decide +kernel
theorem dX7_readCommand_302 : decode cX7_readCommand 302 = .ok (.invokevirtual 127, 3) := by decide +kernel
theorem dX7_readCommand_305 : decode cX7_readCommand 305 = .ok (.ifCond .eq 7, 3) := by decide +kernel
theorem dX7_readCommand_308 : decode cX7_readCommand 308 = .ok (.iconst 1, 1) := by decide +kernel
theorem dX7_readCommand_309 : decode cX7_readCommand 309 = .ok (.goto 4, 3) := by decide +kernel
theorem dX7_readCommand_312 : decode cX7_readCommand 312 = .ok (.iconst 0, 1) := by decide +kernel
theorem dX7_readCommand_313 : decode cX7_readCommand 313 = .ok (.ireturn, 1) := by decide +kernel
theorem dX7_readCommand_314 : decode cX7_readCommand 314 = .ok (.aload_n 0, 1) := by decide +kernel
theorem dX7_readCommand_315 : decode cX7_readCommand 315 = .ok (.dup, 1) := by decide +kernel
theorem dX7_readCommand_316 : decode cX7_readCommand 316 = .ok (.getfield 109, 3) := by decide +kernel
theorem dX7_readCommand_319 : decode cX7_readCommand 319 = .ok (.iconst 1, 1) := by decide +kernel
theorem dX7_readCommand_320 : decode cX7_readCommand 320 = .ok (.isub, 1) := by decide +kernel
theorem dX7_readCommand_321 : decode cX7_readCommand 321 = .ok (.putfield 109, 3) := by decide +kernel
theorem dX7_readCommand_324 : decode cX7_readCommand 324 = .ok (.iconst 0, 1) := by decide +kernel
theorem dX7_readCommand_325 : decode cX7_readCommand 325 = .ok (.ireturn, 1) := by decide +kernel
theorem dX7_readText_0 : decode cX7_readText 0 = .ok (.aload_n 1, 1) := by decide +kernel
theorem dX7_readText_1 : decode cX7_readText 1 = .ok (.invokestatic 29, 3) := by decide +kernel
theorem dX7_readText_4 : decode cX7_readText 4 = .ok (.aload_n 0, 1) := by decide +kernel
theorem dX7_readText_5 : decode cX7_readText 5 = .ok (.iconst 0, 1) := by decide +kernel
theorem dX7_readText_6 : decode cX7_readText 6 = .ok (.putfield 112, 3) := by decide +kernel
theorem dX7_readText_9 : decode cX7_readText 9 = .ok (.aload_n 0, 1) := by decide +kernel
theorem dX7_readText_10 : decode cX7_readText 10 = .ok (.iconst 0, 1) := by decide +kernel
theorem dX7_readText_11 : decode cX7_readText 11 = .ok (.putfield 109, 3) := by decide +kernel
theorem dX7_readText_14 : decode cX7_readText 14 = .ok (.aload_n 0, 1) := by decide +kernel
theorem dX7_readText_15 : decode cX7_readText 15 = .ok (.getfield 102, 3) := by decide +kernel
theorem dX7_readText_18 : decode cX7_readText 18 = .ok (.ifCond .eq 14, 3) := by decide +kernel
theorem dX7_readText_21 : decode cX7_readText 21 = .ok (.aload_n 0, 1) := by decide +kernel
theorem dX7_readText_22 : decode cX7_readText 22 = .ok (.getfield 7, 3) := by decide +kernel
theorem dX7_readText_25 : decode cX7_readText 25 = .ok (.iconst 0, 1) := by decide +kernel
theorem dX7_readText_26 : decode cX7_readText 26 = .ok (.iaload, 1) := by decide +kernel
theorem dX7_readText_27 : decode cX7_readText 27 = .ok (.bipush 80, 2) := by decide +kernel
theorem dX7_readText_29 : decode cX7_readText 29 = .ok (.if_icmp .eq 5, 3) := by decide +kernel
theorem dX7_readText_32 : decode cX7_readText 32 = .ok (.iconst 0, 1) := by decide +kernel
theorem dX7_readText_33 : decode cX7_readText 33 = .ok (.ireturn, 1) := by decide +kernel
theorem dX7_readText_34 : decode cX7_readText 34 = .ok (.aload_n 0, 1) := by decide +kernel
theorem dX7_readText_35 : decode cX7_readText 35 = .ok (.iconst 1, 1) := by decide +kernel
theorem dX7_readText_36 : decode cX7_readText 36 = .ok (.putfield 109, 3) := by decide +kernel
theorem dX7_readText_39 : decode cX7_readText 39 = .ok (.aload_n 0, 1) := by decide +kernel
theorem dX7_readText_40 : decode cX7_readText 40 = .ok (.getfield 109, 3) := by decide +kernel
theorem dX7_readText_43 : decode cX7_readText 43 = .ok (.aload_n 0, 1) := by decide +kernel
theorem dX7_readText_44 : decode cX7_readText 44 = .ok (.getfield 102, 3) := by decide +kernel
theorem dX7_readText_47 : decode cX7_readText 47 = .ok (.if_icmp .ge 16, 3) := by decide +kernel
theorem dX7_readText_50 : decode cX7_readText 50 = .ok (.aload_n 0, 1) := by decide +kernel
theorem dX7_readText_51 : decode cX7_readText 51 = .ok (.aload_n 1, 1) := by decide +kernel
theorem dX7_readText_52 : decode cX7_readText 52 = .ok (.invokevirtual 148, 3) := by decide +kernel
theorem dX7_readText_55 : decode cX7_readText 55 = .ok (.ifCond .ne (-16), 3) := by decide +kernel
theorem dX7_readText_58 : decode cX7_readText 58 = .ok (.aload_n 0, 1) := by decide +kernel
theorem dX7_readText_59 : decode cX7_readText 59 = .ok (.getfield 109, 3) := by decide +kernel
theorem dX7_readText_62 : decode cX7_readText 62 = .ok (.ireturn, 1) := by decide +kernel
theorem dX7_readText_63 : decode cX7_readText 63 = .ok (.iconst (-1), 1) := by decide +kernel
theorem dX7_readText_64 : decode cX7_readText 64 = .ok (.ireturn, 1) := by decide +kernel
theorem dX7_errorPosition_0 : decode cX7_errorPosition 0 = .ok (.aload_n 0, 1) := by decide +kernel
theorem dX7_errorPosition_1 : decode cX7_errorPosition 1 = .ok (.iconst 0, 1) := by decide +kernel
theorem dX7_errorPosition_2 : decode cX7_errorPosition 2 = .ok (.putfield 33, 3) := by decide +kernel
theorem dX7_errorPosition_5 : decode cX7_errorPosition 5 = .ok (.aload_n 0, 1) := by decide +kernel
theorem dX7_errorPosition_6 : decode cX7_errorPosition 6 = .ok (.aload_n 0, 1) := by decide +kernel
theorem dX7_errorPosition_7 : decode cX7_errorPosition 7 = .ok (.getfield 16, 3) := by decide +kernel
theorem dX7_errorPosition_10 : decode cX7_errorPosition 10 = .ok (.invokevirtual 152, 3) := by decide +kernel
theorem dX7_errorPosition_13 : decode cX7_errorPosition 13 = .ok (.ireturn, 1) := by decide +kernel
theorem dX7_load_0 : decode cX7_load 0 = .ok (.aload_n 0, 1) := by decide +kernel
theorem dX7_load_1 : decode cX7_load 1 = .ok (.aload_n 0, 1) := by decide +kernel
theorem dX7_load_2 : decode cX7_load 2 = .ok (.aload_n 0, 1) := by decide +kernel
theorem dX7_load_3 : decode cX7_load 3 = .ok (.getfield 16, 3) := by decide +kernel
theorem dX7_load_6 : decode cX7_load 6 = .ok (.invokevirtual 152, 3) := by decide +kernel
theorem dX7_load_9 : decode cX7_load 9 = .ok (.iconst (-1), 1) := by decide +kernel
theorem dX7_load_10 : decode cX7_load 10 = .ok (.if_icmp .ne 7, 3) := by decide +kernel
theorem dX7_load_13 : decode cX7_load 13 = .ok (.iconst 0, 1) := by decide +kernel
theorem dX7_load_14 : decode cX7_load 14 = .ok (.goto 4, 3) := by decide +kernel
theorem dX7_load_17 : decode cX7_load 17 = .ok (.iconst 1, 1) := by decide +kernel
theorem dX7_load_18 : decode cX7_load 18 = .ok (.invokevirtual 105, 3) := by decide +kernel
theorem dX7_load_21 : decode cX7_load 21 = .ok (.ifCond .eq 5, 3) := by decide +kernel
theorem dX7_load_24 : decode cX7_load 24 = .ok (.iconst 0, 1) := by decide +kernel
theorem dX7_load_25 : decode cX7_load 25 = .ok (.ireturn, 1) := by decide +kernel
theorem dX7_load_26 : decode cX7_load 26 = .ok (.aload_n 0, 1) := by decide +kernel
theorem dX7_load_27 : decode cX7_load 27 = .ok (.getfield 16, 3) := by decide +kernel
theorem dX7_load_30 : decode cX7_load 30 = .ok (.iconst 0, 1) := by decide +kernel
theorem dX7_load_31 : decode cX7_load 31 = .ok (.aload_n 0, 1) := by decide +kernel
theorem dX7_load_32 : decode cX7_load 32 = .ok (.getfield 13, 3) := by decide +kernel
theorem dX7_load_35 : decode cX7_load 35 = .ok (.iconst 0, 1) := by decide +kernel
theorem dX7_load_36 : decode cX7_load 36 = .ok (.invokestatic 155, 3) := by decide +kernel
theorem dX7_load_39 : decode cX7_load 39 = .ok (.aload_n 0, 1) := by decide +kernel
theorem dX7_load_40 : decode cX7_load 40 = .ok (.iconst 0, 1) := by decide +kernel
theorem dX7_load_41 : decode cX7_load 41 = .ok (.putfield 159, 3) := by decide +kernel
theorem dX7_load_44 : decode cX7_load 44 = .ok (.aload_n 0, 1) := by decide +kernel
theorem dX7_load_45 : decode cX7_load 45 = .ok (.getfield 25, 3) := by decide +kernel
theorem dX7_load_48 : decode cX7_load 48 = .ok (.iconst 0, 1) := by decide +kernel
theorem dX7_load_49 : decode cX7_load 49 = .ok (.iconst 0, 1) := by decide +kernel
theorem dX7_load_50 : decode cX7_load 50 = .ok (.bastore, 1) := by decide +kernel
theorem dX7_load_51 : decode cX7_load 51 = .ok (.aload_n 0, 1) := by decide +kernel
theorem dX7_load_52 : decode cX7_load 52 = .ok (.getfield 25, 3) := by decide +kernel
theorem dX7_load_55 : decode cX7_load 55 = .ok (.iconst 1, 1) := by decide +kernel
theorem dX7_load_56 : decode cX7_load 56 = .ok (.iconst 0, 1) := by decide +kernel
theorem dX7_load_57 : decode cX7_load 57 = .ok (.bastore, 1) := by decide +kernel
theorem dX7_load_58 : decode cX7_load 58 = .ok (.aload_n 0, 1) := by decide +kernel
theorem dX7_load_59 : decode cX7_load 59 = .ok (.getfield 112, 3) := by decide +kernel
theorem dX7_load_62 : decode cX7_load 62 = .ok (.ireturn, 1) := by decide +kernel
theorem dX7_about_0 : decode cX7_about 0 = .ok (.aload_n 0, 1) := by decide +kernel
theorem dX7_about_1 : decode cX7_about 1 = .ok (.iload_n 1, 1) := by decide +kernel
theorem dX7_about_2 : decode cX7_about 2 = .ok (.i2l, 1) := by decide +kernel
theorem dX7_about_3 : decode cX7_about 3 = .ok (.lconst 0, 1) := by decide +kernel
theorem dX7_about_4 : decode cX7_about 4 = .ok (.ldc2_w 53, 3) := by decide +kernel
theorem dX7_about_7 : decode cX7_about 7 = .ok (.invokestatic 37, 3) := by decide +kernel
theorem dX7_about_10 : decode cX7_about 10 = .ok (.ifCond .eq 7, 3) := by decide +kernel
theorem dX7_about_13 : decode cX7_about 13 = .ok (.iconst 0, 1) := by decide +kernel
theorem dX7_about_14 : decode cX7_about 14 = .ok (.goto 4, 3) := by decide +kernel
theorem dX7_about_17 : decode cX7_about 17 = .ok (.iconst 1, 1) := by decide +kernel
theorem dX7_about_18 : decode cX7_about 18 = .ok (.invokevirtual 105, 3) := by decide +kernel
theorem dX7_about_21 : decode cX7_about 21 = .ok (.ifCond .eq 5, 3) := by decide +kernel
theorem dX7_about_24 : decode cX7_about 24 = .ok (.iconst 0, 1) := by decide +kernel
theorem dX7_about_25 : decode cX7_about 25 = .ok (.ireturn, 1) := by decide +kernel
theorem dX7_about_26 : decode cX7_about 26 = .ok (.iload_n 1, 1) := by decide +kernel
theorem dX7_about_27 : decode cX7_about 27 = .ok (.iconst 4, 1) := by decide +kernel
theorem dX7_about_28 : decode cX7_about 28 = .ok (.if_icmp .ge 12, 3) := by decide +kernel
theorem dX7_about_31 : decode cX7_about 31 = .ok (.aload_n 0, 1) := by decide +kernel
theorem dX7_about_32 : decode cX7_about 32 = .ok (.getfield 13, 3) := by decide +kernel
theorem dX7_about_35 : decode cX7_about 35 = .ok (.iload_n 1, 1) := by decide +kernel
theorem dX7_about_36 : decode cX7_about 36 = .ok (.iaload, 1) := by decide +kernel
theorem dX7_about_37 : decode cX7_about 37 = .ok (.goto 65, 3) := by decide +kernel
theorem dX7_about_40 : decode cX7_about 40 = .ok (.iload_n 1, 1) := by decide +kernel
theorem dX7_about_41 : decode cX7_about 41 = .ok (.iconst 4, 1) := by decide +kernel
theorem dX7_about_42 : decode cX7_about 42 = .ok (.if_icmp .ne 14, 3) := by decide +kernel
theorem dX7_about_45 : decode cX7_about 45 = .ok (.aload_n 0, 1) := by decide +kernel
theorem dX7_about_46 : decode cX7_about 46 = .ok (.getfield 13, 3) := by decide +kernel
theorem dX7_about_49 : decode cX7_about 49 = .ok (.iconst 0, 1) := by decide +kernel
theorem dX7_about_50 : decode cX7_about 50 = .ok (.invokestatic 162, 3) := by decide +kernel
theorem dX7_about_53 : decode cX7_about 53 = .ok (.goto 49, 3) := by decide +kernel
theorem dX7_about_56 : decode cX7_about 56 = .ok (.iload_n 1, 1) := by decide +kernel
theorem dX7_about_57 : decode cX7_about 57 = .ok (.iconst 5, 1) := by decide +kernel
theorem dX7_about_58 : decode cX7_about 58 = .ok (.if_icmp .ne 20, 3) := by decide +kernel
theorem dX7_about_61 : decode cX7_about 61 = .ok (.aload_n 0, 1) := by decide +kernel
theorem dX7_about_62 : decode cX7_about 62 = .ok (.getfield 13, 3) := by decide +kernel
theorem dX7_about_65 : decode cX7_about 65 = .ok (.aload_n 0, 1) := by decide +kernel
theorem dX7_about_66 : decode cX7_about 66 = .ok (.getfield 13, 3) := by decide +kernel
theorem dX7_about_69 : decode cX7_about 69 = .ok (.bipush 8, 2) := by decide +kernel
theorem dX7_about_71 : decode cX7_about 71 = .ok (.iaload, 1) := by decide +kernel
theorem dX7_about_72 : decode cX7_about 72 = .ok (.invokestatic 162, 3) := by decide +kernel
theorem dX7_about_75 : decode cX7_about 75 = .ok (.goto 27, 3) := by decide +kernel
theorem dX7_about_78 : decode cX7_about 78 = .ok (.iload_n 1, 1) := by decide +kernel
theorem dX7_about_79 : decode cX7_about 79 = .ok (.bipush 6, 2) := by decide +kernel
theorem dX7_about_81 : decode cX7_about 81 = .ok (.if_icmp .ne 13, 3) := by decide +kernel
theorem dX7_about_84 : decode cX7_about 84 = .ok (.aload_n 0, 1) := by decide +kernel
theorem dX7_about_85 : decode cX7_about 85 = .ok (.getfield 13, 3) := by decide +kernel
theorem dX7_about_88 : decode cX7_about 88 = .ok (.invokestatic 165, 3) := by decide +kernel
theorem dX7_about_91 : decode cX7_about 91 = .ok (.goto 11, 3) := by decide +kernel
theorem dX7_about_94 : decode cX7_about 94 = .ok (.aload_n 0, 1) := by decide +kernel
theorem dX7_about_95 : decode cX7_about 95 = .ok (.getfield 13, 3) := by decide +kernel
theorem dX7_about_98 : decode cX7_about 98 = .ok (.iload_n 1, 1) := by decide +kernel
theorem dX7_about_99 : decode cX7_about 99 = .ok (.iconst 3, 1) := by decide +kernel
theorem dX7_about_100 : decode cX7_about 100 = .ok (.isub, 1) := by decide +kernel
theorem dX7_about_101 : decode cX7_about 101 = .ok (.iaload, 1) := by decide +kernel
theorem dX7_about_102 : decode cX7_about 102 = .ok (.ireturn, 1) := by decide +kernel
theorem dX7_measureOf_0 : decode cX7_measureOf 0 = .ok (.aload_n 0, 1) := by decide +kernel
theorem dX7_measureOf_1 : decode cX7_measureOf 1 = .ok (.aload_n 0, 1) := by decide +kernel
theorem dX7_measureOf_2 : decode cX7_measureOf 2 = .ok (.getfield 13, 3) := by decide +kernel
theorem dX7_measureOf_5 : decode cX7_measureOf 5 = .ok (.iload_n 1, 1) := by decide +kernel
theorem dX7_measureOf_6 : decode cX7_measureOf 6 = .ok (.invokestatic 135, 3) := by decide +kernel
theorem dX7_measureOf_9 : decode cX7_measureOf 9 = .ok (.ifCond .ne 7, 3) := by decide +kernel
theorem dX7_measureOf_12 : decode cX7_measureOf 12 = .ok (.iconst 1, 1) := by decide +kernel
theorem dX7_measureOf_13 : decode cX7_measureOf 13 = .ok (.goto 20, 3) := by decide +kernel
theorem dX7_measureOf_16 : decode cX7_measureOf 16 = .ok (.iload_n 2, 1) := by decide +kernel
theorem dX7_measureOf_17 : decode cX7_measureOf 17 = .ok (.i2l, 1) := by decide +kernel
theorem dX7_measureOf_18 : decode cX7_measureOf 18 = .ok (.lconst 0, 1) := by decide +kernel
theorem dX7_measureOf_19 : decode cX7_measureOf 19 = .ok (.ldc2_w 168, 3) := by decide +kernel
theorem dX7_measureOf_22 : decode cX7_measureOf 22 = .ok (.invokestatic 37, 3) := by decide +kernel
theorem dX7_measureOf_25 : decode cX7_measureOf 25 = .ok (.ifCond .eq 7, 3) := by decide +kernel
theorem dX7_measureOf_28 : decode cX7_measureOf 28 = .ok (.iconst 0, 1) := by decide +kernel
theorem dX7_measureOf_29 : decode cX7_measureOf 29 = .ok (.goto 4, 3) := by decide +kernel
theorem dX7_measureOf_32 : decode cX7_measureOf 32 = .ok (.iconst 2, 1) := by decide +kernel
theorem dX7_measureOf_33 : decode cX7_measureOf 33 = .ok (.invokevirtual 105, 3) := by decide +kernel
theorem dX7_measureOf_36 : decode cX7_measureOf 36 = .ok (.ifCond .eq 5, 3) := by decide +kernel
theorem dX7_measureOf_39 : decode cX7_measureOf 39 = .ok (.iconst 0, 1) := by decide +kernel
theorem dX7_measureOf_40 : decode cX7_measureOf 40 = .ok (.ireturn, 1) := by decide +kernel
theorem dX7_measureOf_41 : decode cX7_measureOf 41 = .ok (.iload_n 2, 1) := by decide +kernel
theorem dX7_measureOf_42 : decode cX7_measureOf 42 = .ok (.bipush 7, 2) := by decide +kernel
theorem dX7_measureOf_44 : decode cX7_measureOf 44 = .ok (.if_icmp .ge 15, 3) := by decide +kernel
theorem dX7_measureOf_47 : decode cX7_measureOf 47 = .ok (.aload_n 0, 1) := by decide +kernel
theorem dX7_measureOf_48 : decode cX7_measureOf 48 = .ok (.getfield 13, 3) := by decide +kernel
theorem dX7_measureOf_51 : decode cX7_measureOf 51 = .ok (.iload_n 1, 1) := by decide +kernel
theorem dX7_measureOf_52 : decode cX7_measureOf 52 = .ok (.iload_n 2, 1) := by decide +kernel
theorem dX7_measureOf_53 : decode cX7_measureOf 53 = .ok (.invokestatic 59, 3) := by decide +kernel
theorem dX7_measureOf_56 : decode cX7_measureOf 56 = .ok (.goto 62, 3) := by decide +kernel
theorem dX7_measureOf_59 : decode cX7_measureOf 59 = .ok (.iload_n 2, 1) := by decide +kernel
theorem dX7_measureOf_60 : decode cX7_measureOf 60 = .ok (.bipush 7, 2) := by decide +kernel
theorem dX7_measureOf_62 : decode cX7_measureOf 62 = .ok (.if_icmp .ne 14, 3) := by decide +kernel
theorem dX7_measureOf_65 : decode cX7_measureOf 65 = .ok (.aload_n 0, 1) := by decide +kernel
theorem dX7_measureOf_66 : decode cX7_measureOf 66 = .ok (.getfield 13, 3) := by decide +kernel
theorem dX7_measureOf_69 : decode cX7_measureOf 69 = .ok (.iload_n 1, 1) := by decide +kernel
theorem dX7_measureOf_70 : decode cX7_measureOf 70 = .ok (.invokestatic 67, 3) := by decide +kernel
theorem dX7_measureOf_73 : decode cX7_measureOf 73 = .ok (.goto 45, 3) := by decide +kernel
theorem dX7_measureOf_76 : decode cX7_measureOf 76 = .ok (.iload_n 2, 1) := by decide +kernel
theorem dX7_measureOf_77 : decode cX7_measureOf 77 = .ok (.bipush 8, 2) := by decide +kernel
theorem dX7_measureOf_79 : decode cX7_measureOf 79 = .ok (.if_icmp .ne 14, 3) := by decide +kernel
theorem dX7_measureOf_82 : decode cX7_measureOf 82 = .ok (.aload_n 0, 1) := by decide +kernel
theorem dX7_measureOf_83 : decode cX7_measureOf 83 = .ok (.getfield 13, 3) := by decide +kernel
theorem dX7_measureOf_86 : decode cX7_measureOf 86 = .ok (.iload_n 1, 1) := by decide +kernel
theorem dX7_measureOf_87 : decode cX7_measureOf 87 = .ok (.invokestatic 71, 3) := by decide +kernel
theorem dX7_measureOf_90 : decode cX7_measureOf 90 = .ok (.goto 28, 3) := by decide +kernel
theorem dX7_measureOf_93 : decode cX7_measureOf 93 = .ok (.iload_n 2, 1) := by decide +kernel
theorem dX7_measureOf_94 : decode cX7_measureOf 94 = .ok (.bipush 9, 2) := by decide +kernel
theorem dX7_measureOf_96 : decode cX7_measureOf 96 = .ok (.if_icmp .ne 14, 3) := by decide +kernel
theorem dX7_measureOf_99 : decode cX7_measureOf 99 = .ok (.aload_n 0, 1) := by decide +kernel
theorem dX7_measureOf_100 : decode cX7_measureOf 100 = .ok (.getfield 13, 3) := by decide +kernel
theorem dX7_measureOf_103 : decode cX7_measureOf 103 = .ok (.iload_n 1, 1) := by decide +kernel
theorem dX7_measureOf_104 : decode cX7_measureOf 104 = .ok (.invokestatic 84, 3) := by decide +kernel
theorem dX7_measureOf_107 : decode cX7_measureOf 107 = .ok (.goto 11, 3) := by decide +kernel
theorem dX7_measureOf_110 : decode cX7_measureOf 110 = .ok (.aload_n 0, 1) := by decide +kernel
theorem dX7_measureOf_111 : decode cX7_measureOf 111 = .ok (.getfield 13, 3) := by decide +kernel
theorem dX7_measureOf_114 : decode cX7_measureOf 114 = .ok (.iload_n 1, 1) := by decide +kernel
theorem dX7_measureOf_115 : decode cX7_measureOf 115 = .ok (.invokestatic 170, 3) := by decide +kernel
theorem dX7_measureOf_118 : decode cX7_measureOf 118 = .ok (.ireturn, 1) := by decide +kernel
theorem dX7_tellerOf_0 : decode cX7_tellerOf 0 = .ok (.aload_n 0, 1) := by decide +kernel
theorem dX7_tellerOf_1 : decode cX7_tellerOf 1 = .ok (.iload_n 1, 1) := by decide +kernel
theorem dX7_tellerOf_2 : decode cX7_tellerOf 2 = .ok (.invokestatic 173, 3) := by decide +kernel
theorem dX7_tellerOf_5 : decode cX7_tellerOf 5 = .ok (.ifCond .ne 7, 3) := by decide +kernel
theorem dX7_tellerOf_8 : decode cX7_tellerOf 8 = .ok (.iconst 1, 1) := by decide +kernel
theorem dX7_tellerOf_9 : decode cX7_tellerOf 9 = .ok (.goto 20, 3) := by decide +kernel
theorem dX7_tellerOf_12 : decode cX7_tellerOf 12 = .ok (.iload_n 2, 1) := by decide +kernel
theorem dX7_tellerOf_13 : decode cX7_tellerOf 13 = .ok (.i2l, 1) := by decide +kernel
theorem dX7_tellerOf_14 : decode cX7_tellerOf 14 = .ok (.lconst 0, 1) := by decide +kernel
theorem dX7_tellerOf_15 : decode cX7_tellerOf 15 = .ok (.ldc2_w 176, 3) := by decide +kernel
theorem dX7_tellerOf_18 : decode cX7_tellerOf 18 = .ok (.invokestatic 37, 3) := by decide +kernel
theorem dX7_tellerOf_21 : decode cX7_tellerOf 21 = .ok (.ifCond .eq 7, 3) := by decide +kernel
theorem dX7_tellerOf_24 : decode cX7_tellerOf 24 = .ok (.iconst 0, 1) := by decide +kernel
theorem dX7_tellerOf_25 : decode cX7_tellerOf 25 = .ok (.goto 4, 3) := by decide +kernel
theorem dX7_tellerOf_28 : decode cX7_tellerOf 28 = .ok (.iconst 2, 1) := by decide +kernel
theorem dX7_tellerOf_29 : decode cX7_tellerOf 29 = .ok (.invokevirtual 105, 3) := by decide +kernel
theorem dX7_tellerOf_32 : decode cX7_tellerOf 32 = .ok (.ifCond .eq 5, 3) := by decide +kernel
theorem dX7_tellerOf_35 : decode cX7_tellerOf 35 = .ok (.iconst 0, 1) := by decide +kernel
theorem dX7_tellerOf_36 : decode cX7_tellerOf 36 = .ok (.ireturn, 1) := by decide +kernel
theorem dX7_tellerOf_37 : decode cX7_tellerOf 37 = .ok (.iconst 0, 1) := by decide +kernel
theorem dX7_tellerOf_38 : decode cX7_tellerOf 38 = .ok (.istore_n 3, 1) := by decide +kernel
theorem dX7_tellerOf_39 : decode cX7_tellerOf 39 = .ok (.iconst 0, 1) := by decide +kernel
theorem dX7_tellerOf_40 : decode cX7_tellerOf 40 = .ok (.istore 4, 2) := by decide +kernel
theorem dX7_tellerOf_42 : decode cX7_tellerOf 42 = .ok (.iconst 0, 1) := by decide +kernel
theorem dX7_tellerOf_43 : decode cX7_tellerOf 43 = .ok (.istore 5, 2) := by decide +kernel
theorem dX7_tellerOf_45 : decode cX7_tellerOf 45 = .ok (.iload 5, 2) := by decide +kernel
theorem dX7_tellerOf_47 : decode cX7_tellerOf 47 = .ok (.aload_n 0, 1) := by decide +kernel
theorem dX7_tellerOf_48 : decode cX7_tellerOf 48 = .ok (.getfield 13, 3) := by decide +kernel
theorem dX7_tellerOf_51 : decode cX7_tellerOf 51 = .ok (.iconst 0, 1) := by decide +kernel
theorem dX7_tellerOf_52 : decode cX7_tellerOf 52 = .ok (.iaload, 1) := by decide +kernel
theorem dX7_tellerOf_53 : decode cX7_tellerOf 53 = .ok (.if_icmp .ge 63, 3) := by decide +kernel
theorem dX7_tellerOf_56 : decode cX7_tellerOf 56 = .ok (.iload_n 3, 1) := by decide +kernel
theorem dX7_tellerOf_57 : decode cX7_tellerOf 57 = .ok (.aload_n 0, 1) := by decide +kernel
theorem dX7_tellerOf_58 : decode cX7_tellerOf 58 = .ok (.getfield 13, 3) := by decide +kernel
theorem dX7_tellerOf_61 : decode cX7_tellerOf 61 = .ok (.iload 5, 2) := by decide +kernel
theorem dX7_tellerOf_63 : decode cX7_tellerOf 63 = .ok (.iconst 1, 1) := by decide +kernel
theorem dX7_tellerOf_64 : decode cX7_tellerOf 64 = .ok (.invokestatic 59, 3) := by decide +kernel
theorem dX7_tellerOf_67 : decode cX7_tellerOf 67 = .ok (.iload_n 1, 1) := by decide +kernel
theorem dX7_tellerOf_68 : decode cX7_tellerOf 68 = .ok (.if_icmp .ne 7, 3) := by decide +kernel
theorem dX7_tellerOf_71 : decode cX7_tellerOf 71 = .ok (.iconst 1, 1) := by decide +kernel
theorem dX7_tellerOf_72 : decode cX7_tellerOf 72 = .ok (.goto 4, 3) := by decide +kernel
theorem dX7_tellerOf_75 : decode cX7_tellerOf 75 = .ok (.iconst 0, 1) := by decide +kernel
theorem dX7_tellerOf_76 : decode cX7_tellerOf 76 = .ok (.iadd, 1) := by decide +kernel
theorem dX7_tellerOf_77 : decode cX7_tellerOf 77 = .ok (.istore_n 3, 1) := by decide +kernel
theorem dX7_tellerOf_78 : decode cX7_tellerOf 78 = .ok (.iload 4, 2) := by decide +kernel
theorem dX7_tellerOf_80 : decode cX7_tellerOf 80 = .ok (.aload_n 0, 1) := by decide +kernel
theorem dX7_tellerOf_81 : decode cX7_tellerOf 81 = .ok (.getfield 13, 3) := by decide +kernel
theorem dX7_tellerOf_84 : decode cX7_tellerOf 84 = .ok (.iload 5, 2) := by decide +kernel
theorem dX7_tellerOf_86 : decode cX7_tellerOf 86 = .ok (.iconst 1, 1) := by decide +kernel
theorem dX7_tellerOf_87 : decode cX7_tellerOf 87 = .ok (.invokestatic 59, 3) := by decide +kernel
theorem dX7_tellerOf_90 : decode cX7_tellerOf 90 = .ok (.iload_n 1, 1) := by decide +kernel
theorem dX7_tellerOf_91 : decode cX7_tellerOf 91 = .ok (.if_icmp .ne 15, 3) := by decide +kernel
theorem dX7_tellerOf_94 : decode cX7_tellerOf 94 = .ok (.aload_n 0, 1) := by decide +kernel
theorem dX7_tellerOf_95 : decode cX7_tellerOf 95 = .ok (.getfield 13, 3) := by decide +kernel
theorem dX7_tellerOf_98 : decode cX7_tellerOf 98 = .ok (.iload 5, 2) := by decide +kernel
theorem dX7_tellerOf_100 : decode cX7_tellerOf 100 = .ok (.invokestatic 170, 3) := by decide +kernel
theorem dX7_tellerOf_103 : decode cX7_tellerOf 103 = .ok (.goto 4, 3) := by decide +kernel
theorem dX7_tellerOf_106 : decode cX7_tellerOf 106 = .ok (.iconst 0, 1) := by decide +kernel
theorem dX7_tellerOf_107 : decode cX7_tellerOf 107 = .ok (.iadd, 1) := by decide +kernel
theorem dX7_tellerOf_108 : decode cX7_tellerOf 108 = .ok (.istore 4, 2) := by decide +kernel
theorem dX7_tellerOf_110 : decode cX7_tellerOf 110 = .ok (.iinc 5 1, 3) := by decide +kernel
theorem dX7_tellerOf_113 : decode cX7_tellerOf 113 = .ok (.goto (-68), 3) := by decide +kernel
theorem dX7_tellerOf_116 : decode cX7_tellerOf 116 = .ok (.iload_n 2, 1) := by decide +kernel
theorem dX7_tellerOf_117 : decode cX7_tellerOf 117 = .ok (.ifCond .ne 15, 3) := by decide +kernel
theorem dX7_tellerOf_120 : decode cX7_tellerOf 120 = .ok (.aload_n 0, 1) := by decide +kernel
theorem dX7_tellerOf_121 : decode cX7_tellerOf 121 = .ok (.getfield 13, 3) := by decide +kernel
theorem dX7_tellerOf_124 : decode cX7_tellerOf 124 = .ok (.bipush 9, 2) := by decide +kernel
theorem dX7_tellerOf_126 : decode cX7_tellerOf 126 = .ok (.iload_n 1, 1) := by decide +kernel
theorem dX7_tellerOf_127 : decode cX7_tellerOf 127 = .ok (.iadd, 1) := by decide +kernel
theorem dX7_tellerOf_128 : decode cX7_tellerOf 128 = .ok (.iaload, 1) := by decide +kernel
theorem dX7_tellerOf_129 : decode cX7_tellerOf 129 = .ok (.goto 48, 3) := by decide +kernel
theorem dX7_tellerOf_132 : decode cX7_tellerOf 132 = .ok (.iload_n 2, 1) := by decide +kernel
theorem dX7_tellerOf_133 : decode cX7_tellerOf 133 = .ok (.iconst 1, 1) := by decide +kernel
theorem dX7_tellerOf_134 : decode cX7_tellerOf 134 = .ok (.if_icmp .ne 7, 3) := by decide +kernel
theorem dX7_tellerOf_137 : decode cX7_tellerOf 137 = .ok (.iload_n 3, 1) := by decide +kernel
theorem dX7_tellerOf_138 : decode cX7_tellerOf 138 = .ok (.goto 39, 3) := by decide +kernel
theorem dX7_tellerOf_141 : decode cX7_tellerOf 141 = .ok (.iload_n 2, 1) := by decide +kernel
theorem dX7_tellerOf_142 : decode cX7_tellerOf 142 = .ok (.iconst 2, 1) := by decide +kernel
theorem dX7_tellerOf_143 : decode cX7_tellerOf 143 = .ok (.if_icmp .ne 15, 3) := by decide +kernel
theorem dX7_tellerOf_146 : decode cX7_tellerOf 146 = .ok (.aload_n 0, 1) := by decide +kernel
theorem dX7_tellerOf_147 : decode cX7_tellerOf 147 = .ok (.getfield 13, 3) := by decide +kernel
theorem dX7_tellerOf_150 : decode cX7_tellerOf 150 = .ok (.bipush 15, 2) := by decide +kernel
theorem dX7_tellerOf_152 : decode cX7_tellerOf 152 = .ok (.iload_n 1, 1) := by decide +kernel
theorem dX7_tellerOf_153 : decode cX7_tellerOf 153 = .ok (.iadd, 1) := by decide +kernel
theorem dX7_tellerOf_154 : decode cX7_tellerOf 154 = .ok (.iaload, 1) := by decide +kernel
theorem dX7_tellerOf_155 : decode cX7_tellerOf 155 = .ok (.goto 22, 3) := by decide +kernel
theorem dX7_tellerOf_158 : decode cX7_tellerOf 158 = .ok (.iload_n 2, 1) := by decide +kernel
theorem dX7_tellerOf_159 : decode cX7_tellerOf 159 = .ok (.iconst 3, 1) := by decide +kernel
theorem dX7_tellerOf_160 : decode cX7_tellerOf 160 = .ok (.if_icmp .ne 15, 3) := by decide +kernel
theorem dX7_tellerOf_163 : decode cX7_tellerOf 163 = .ok (.aload_n 0, 1) := by decide +kernel
theorem dX7_tellerOf_164 : decode cX7_tellerOf 164 = .ok (.getfield 13, 3) := by decide +kernel
theorem dX7_tellerOf_167 : decode cX7_tellerOf 167 = .ok (.bipush 21, 2) := by decide +kernel
theorem dX7_tellerOf_169 : decode cX7_tellerOf 169 = .ok (.iload_n 1, 1) := by decide +kernel
theorem dX7_tellerOf_170 : decode cX7_tellerOf 170 = .ok (.iadd, 1) := by decide +kernel
theorem dX7_tellerOf_171 : decode cX7_tellerOf 171 = .ok (.iaload, 1) := by decide +kernel
theorem dX7_tellerOf_172 : decode cX7_tellerOf 172 = .ok (.goto 5, 3) := by decide +kernel
theorem dX7_tellerOf_175 : decode cX7_tellerOf 175 = .ok (.iload 4, 2) := by decide +kernel
theorem dX7_tellerOf_177 : decode cX7_tellerOf 177 = .ok (.ireturn, 1) := by decide +kernel
theorem dX7_steepleOf_0 : decode cX7_steepleOf 0 = .ok (.aload_n 0, 1) := by decide +kernel
theorem dX7_steepleOf_1 : decode cX7_steepleOf 1 = .ok (.iload_n 1, 1) := by decide +kernel
theorem dX7_steepleOf_2 : decode cX7_steepleOf 2 = .ok (.invokestatic 178, 3) := by decide +kernel
theorem dX7_steepleOf_5 : decode cX7_steepleOf 5 = .ok (.ifCond .ne 7, 3) := by decide +kernel
theorem dX7_steepleOf_8 : decode cX7_steepleOf 8 = .ok (.iconst 1, 1) := by decide +kernel
theorem dX7_steepleOf_9 : decode cX7_steepleOf 9 = .ok (.goto 20, 3) := by decide +kernel
theorem dX7_steepleOf_12 : decode cX7_steepleOf 12 = .ok (.iload_n 2, 1) := by decide +kernel
theorem dX7_steepleOf_13 : decode cX7_steepleOf 13 = .ok (.i2l, 1) := by decide +kernel
theorem dX7_steepleOf_14 : decode cX7_steepleOf 14 = .ok (.lconst 0, 1) := by decide +kernel
theorem dX7_steepleOf_15 : decode cX7_steepleOf 15 = .ok (.ldc2_w 41, 3) := by decide +kernel
theorem dX7_steepleOf_18 : decode cX7_steepleOf 18 = .ok (.invokestatic 37, 3) := by decide +kernel
theorem dX7_steepleOf_21 : decode cX7_steepleOf 21 = .ok (.ifCond .eq 7, 3) := by decide +kernel
theorem dX7_steepleOf_24 : decode cX7_steepleOf 24 = .ok (.iconst 0, 1) := by decide +kernel
theorem dX7_steepleOf_25 : decode cX7_steepleOf 25 = .ok (.goto 4, 3) := by decide +kernel
theorem dX7_steepleOf_28 : decode cX7_steepleOf 28 = .ok (.iconst 2, 1) := by decide +kernel
theorem dX7_steepleOf_29 : decode cX7_steepleOf 29 = .ok (.invokevirtual 105, 3) := by decide +kernel
theorem dX7_steepleOf_32 : decode cX7_steepleOf 32 = .ok (.ifCond .eq 5, 3) := by decide +kernel
theorem dX7_steepleOf_35 : decode cX7_steepleOf 35 = .ok (.iconst 0, 1) := by decide +kernel
theorem dX7_steepleOf_36 : decode cX7_steepleOf 36 = .ok (.ireturn, 1) := by decide +kernel
theorem dX7_steepleOf_37 : decode cX7_steepleOf 37 = .ok (.iconst 0, 1) := by decide +kernel
theorem dX7_steepleOf_38 : decode cX7_steepleOf 38 = .ok (.istore_n 3, 1) := by decide +kernel
theorem dX7_steepleOf_39 : decode cX7_steepleOf 39 = .ok (.iconst 0, 1) := by decide +kernel
theorem dX7_steepleOf_40 : decode cX7_steepleOf 40 = .ok (.istore 4, 2) := by decide +kernel
theorem dX7_steepleOf_42 : decode cX7_steepleOf 42 = .ok (.iconst 0, 1) := by decide +kernel
theorem dX7_steepleOf_43 : decode cX7_steepleOf 43 = .ok (.istore 5, 2) := by decide +kernel
theorem dX7_steepleOf_45 : decode cX7_steepleOf 45 = .ok (.iload 5, 2) := by decide +kernel
theorem dX7_steepleOf_47 : decode cX7_steepleOf 47 = .ok (.aload_n 0, 1) := by decide +kernel
theorem dX7_steepleOf_48 : decode cX7_steepleOf 48 = .ok (.getfield 13, 3) := by decide +kernel
theorem dX7_steepleOf_51 : decode cX7_steepleOf 51 = .ok (.iconst 0, 1) := by decide +kernel
theorem dX7_steepleOf_52 : decode cX7_steepleOf 52 = .ok (.iaload, 1) := by decide +kernel
theorem dX7_steepleOf_53 : decode cX7_steepleOf 53 = .ok (.if_icmp .ge 63, 3) := by decide +kernel
theorem dX7_steepleOf_56 : decode cX7_steepleOf 56 = .ok (.iload_n 3, 1) := by decide +kernel
theorem dX7_steepleOf_57 : decode cX7_steepleOf 57 = .ok (.aload_n 0, 1) := by decide +kernel
theorem dX7_steepleOf_58 : decode cX7_steepleOf 58 = .ok (.getfield 13, 3) := by decide +kernel
theorem dX7_steepleOf_61 : decode cX7_steepleOf 61 = .ok (.iload 5, 2) := by decide +kernel
theorem dX7_steepleOf_63 : decode cX7_steepleOf 63 = .ok (.iconst 0, 1) := by decide +kernel
theorem dX7_steepleOf_64 : decode cX7_steepleOf 64 = .ok (.invokestatic 59, 3) := by decide +kernel
theorem dX7_steepleOf_67 : decode cX7_steepleOf 67 = .ok (.iload_n 1, 1) := by decide +kernel
theorem dX7_steepleOf_68 : decode cX7_steepleOf 68 = .ok (.if_icmp .ne 7, 3) := by decide +kernel
theorem dX7_steepleOf_71 : decode cX7_steepleOf 71 = .ok (.iconst 1, 1) := by decide +kernel
theorem dX7_steepleOf_72 : decode cX7_steepleOf 72 = .ok (.goto 4, 3) := by decide +kernel
theorem dX7_steepleOf_75 : decode cX7_steepleOf 75 = .ok (.iconst 0, 1) := by decide +kernel
theorem dX7_steepleOf_76 : decode cX7_steepleOf 76 = .ok (.iadd, 1) := by decide +kernel
theorem dX7_steepleOf_77 : decode cX7_steepleOf 77 = .ok (.istore_n 3, 1) := by decide +kernel
theorem dX7_steepleOf_78 : decode cX7_steepleOf 78 = .ok (.iload 4, 2) := by decide +kernel
theorem dX7_steepleOf_80 : decode cX7_steepleOf 80 = .ok (.aload_n 0, 1) := by decide +kernel
theorem dX7_steepleOf_81 : decode cX7_steepleOf 81 = .ok (.getfield 13, 3) := by decide +kernel
theorem dX7_steepleOf_84 : decode cX7_steepleOf 84 = .ok (.iload 5, 2) := by decide +kernel
theorem dX7_steepleOf_86 : decode cX7_steepleOf 86 = .ok (.iconst 0, 1) := by decide +kernel
theorem dX7_steepleOf_87 : decode cX7_steepleOf 87 = .ok (.invokestatic 59, 3) := by decide +kernel
theorem dX7_steepleOf_90 : decode cX7_steepleOf 90 = .ok (.iload_n 1, 1) := by decide +kernel
theorem dX7_steepleOf_91 : decode cX7_steepleOf 91 = .ok (.if_icmp .ne 15, 3) := by decide +kernel
theorem dX7_steepleOf_94 : decode cX7_steepleOf 94 = .ok (.aload_n 0, 1) := by decide +kernel
theorem dX7_steepleOf_95 : decode cX7_steepleOf 95 = .ok (.getfield 13, 3) := by decide +kernel
theorem dX7_steepleOf_98 : decode cX7_steepleOf 98 = .ok (.iload 5, 2) := by decide +kernel
theorem dX7_steepleOf_100 : decode cX7_steepleOf 100 = .ok (.invokestatic 84, 3) := by decide +kernel
theorem dX7_steepleOf_103 : decode cX7_steepleOf 103 = .ok (.goto 4, 3) := by decide +kernel
theorem dX7_steepleOf_106 : decode cX7_steepleOf 106 = .ok (.iconst 0, 1) := by decide +kernel
theorem dX7_steepleOf_107 : decode cX7_steepleOf 107 = .ok (.iadd, 1) := by decide +kernel
theorem dX7_steepleOf_108 : decode cX7_steepleOf 108 = .ok (.istore 4, 2) := by decide +kernel
theorem dX7_steepleOf_110 : decode cX7_steepleOf 110 = .ok (.iinc 5 1, 3) := by decide +kernel
theorem dX7_steepleOf_113 : decode cX7_steepleOf 113 = .ok (.goto (-68), 3) := by decide +kernel
theorem dX7_steepleOf_116 : decode cX7_steepleOf 116 = .ok (.iload_n 2, 1) := by decide +kernel
theorem dX7_steepleOf_117 : decode cX7_steepleOf 117 = .ok (.ifCond .ne 7, 3) := by decide +kernel
theorem dX7_steepleOf_120 : decode cX7_steepleOf 120 = .ok (.iload_n 3, 1) := by decide +kernel
theorem dX7_steepleOf_121 : decode cX7_steepleOf 121 = .ok (.goto 22, 3) := by decide +kernel
theorem dX7_steepleOf_124 : decode cX7_steepleOf 124 = .ok (.iload_n 2, 1) := by decide +kernel
theorem dX7_steepleOf_125 : decode cX7_steepleOf 125 = .ok (.iconst 1, 1) := by decide +kernel
theorem dX7_steepleOf_126 : decode cX7_steepleOf 126 = .ok (.if_icmp .ne 15, 3) := by decide +kernel
theorem dX7_steepleOf_129 : decode cX7_steepleOf 129 = .ok (.aload_n 0, 1) := by decide +kernel
theorem dX7_steepleOf_130 : decode cX7_steepleOf 130 = .ok (.getfield 13, 3) := by decide +kernel
theorem dX7_steepleOf_133 : decode cX7_steepleOf 133 = .ok (.bipush 27, 2) := by decide +kernel
theorem dX7_steepleOf_135 : decode cX7_steepleOf 135 = .ok (.iload_n 1, 1) := by decide +kernel
theorem dX7_steepleOf_136 : decode cX7_steepleOf 136 = .ok (.iadd, 1) := by decide +kernel
theorem dX7_steepleOf_137 : decode cX7_steepleOf 137 = .ok (.iaload, 1) := by decide +kernel
theorem dX7_steepleOf_138 : decode cX7_steepleOf 138 = .ok (.goto 5, 3) := by decide +kernel
theorem dX7_steepleOf_141 : decode cX7_steepleOf 141 = .ok (.iload 4, 2) := by decide +kernel
theorem dX7_steepleOf_143 : decode cX7_steepleOf 143 = .ok (.ireturn, 1) := by decide +kernel
theorem dX7_vote_0 : decode cX7_vote 0 = .ok (.aload_n 0, 1) := by decide +kernel
theorem dX7_vote_1 : decode cX7_vote 1 = .ok (.iload_n 1, 1) := by decide +kernel
theorem dX7_vote_2 : decode cX7_vote 2 = .ok (.invokestatic 178, 3) := by decide +kernel
theorem dX7_vote_5 : decode cX7_vote 5 = .ok (.ifCond .ne 7, 3) := by decide +kernel
theorem dX7_vote_8 : decode cX7_vote 8 = .ok (.iconst 1, 1) := by decide +kernel
theorem dX7_vote_9 : decode cX7_vote 9 = .ok (.goto 20, 3) := by decide +kernel
theorem dX7_vote_12 : decode cX7_vote 12 = .ok (.iload_n 2, 1) := by decide +kernel
theorem dX7_vote_13 : decode cX7_vote 13 = .ok (.i2l, 1) := by decide +kernel
theorem dX7_vote_14 : decode cX7_vote 14 = .ok (.lconst 1, 1) := by decide +kernel
theorem dX7_vote_15 : decode cX7_vote 15 = .ok (.ldc2_w 57, 3) := by decide +kernel
theorem dX7_vote_18 : decode cX7_vote 18 = .ok (.invokestatic 37, 3) := by decide +kernel
theorem dX7_vote_21 : decode cX7_vote 21 = .ok (.ifCond .eq 7, 3) := by decide +kernel
theorem dX7_vote_24 : decode cX7_vote 24 = .ok (.iconst 0, 1) := by decide +kernel
theorem dX7_vote_25 : decode cX7_vote 25 = .ok (.goto 4, 3) := by decide +kernel
theorem dX7_vote_28 : decode cX7_vote 28 = .ok (.iconst 2, 1) := by decide +kernel
theorem dX7_vote_29 : decode cX7_vote 29 = .ok (.invokevirtual 105, 3) := by decide +kernel
theorem dX7_vote_32 : decode cX7_vote 32 = .ok (.ifCond .eq 5, 3) := by decide +kernel
theorem dX7_vote_35 : decode cX7_vote 35 = .ok (.iconst 0, 1) := by decide +kernel
theorem dX7_vote_36 : decode cX7_vote 36 = .ok (.ireturn, 1) := by decide +kernel
theorem dX7_vote_37 : decode cX7_vote 37 = .ok (.aload_n 0, 1) := by decide +kernel
theorem dX7_vote_38 : decode cX7_vote 38 = .ok (.getfield 13, 3) := by decide +kernel
theorem dX7_vote_41 : decode cX7_vote 41 = .ok (.iload_n 1, 1) := by decide +kernel
theorem dX7_vote_42 : decode cX7_vote 42 = .ok (.iload_n 2, 1) := by decide +kernel
theorem dX7_vote_43 : decode cX7_vote 43 = .ok (.invokestatic 87, 3) := by decide +kernel
theorem dX7_vote_46 : decode cX7_vote 46 = .ok (.ireturn, 1) := by decide +kernel
theorem dX7_best_0 : decode cX7_best 0 = .ok (.aload_n 0, 1) := by decide +kernel
theorem dX7_best_1 : decode cX7_best 1 = .ok (.iload_n 1, 1) := by decide +kernel
theorem dX7_best_2 : decode cX7_best 2 = .ok (.invokestatic 178, 3) := by decide +kernel
theorem dX7_best_5 : decode cX7_best 5 = .ok (.ifCond .ne 7, 3) := by decide +kernel
theorem dX7_best_8 : decode cX7_best 8 = .ok (.iconst 1, 1) := by decide +kernel
theorem dX7_best_9 : decode cX7_best 9 = .ok (.goto 30, 3) := by decide +kernel
theorem dX7_best_12 : decode cX7_best 12 = .ok (.iload_n 2, 1) := by decide +kernel
theorem dX7_best_13 : decode cX7_best 13 = .ok (.i2l, 1) := by decide +kernel
theorem dX7_best_14 : decode cX7_best 14 = .ok (.lconst 0, 1) := by decide +kernel
theorem dX7_best_15 : decode cX7_best 15 = .ok (.ldc2_w 41, 3) := by decide +kernel
theorem dX7_best_18 : decode cX7_best 18 = .ok (.invokestatic 37, 3) := by decide +kernel
theorem dX7_best_21 : decode cX7_best 21 = .ok (.ifCond .eq 17, 3) := by decide +kernel
theorem dX7_best_24 : decode cX7_best 24 = .ok (.iload_n 3, 1) := by decide +kernel
theorem dX7_best_25 : decode cX7_best 25 = .ok (.i2l, 1) := by decide +kernel
theorem dX7_best_26 : decode cX7_best 26 = .ok (.lconst 0, 1) := by decide +kernel
theorem dX7_best_27 : decode cX7_best 27 = .ok (.lconst 1, 1) := by decide +kernel
theorem dX7_best_28 : decode cX7_best 28 = .ok (.invokestatic 37, 3) := by decide +kernel
theorem dX7_best_31 : decode cX7_best 31 = .ok (.ifCond .eq 7, 3) := by decide +kernel
theorem dX7_best_34 : decode cX7_best 34 = .ok (.iconst 0, 1) := by decide +kernel
theorem dX7_best_35 : decode cX7_best 35 = .ok (.goto 4, 3) := by decide +kernel
theorem dX7_best_38 : decode cX7_best 38 = .ok (.iconst 2, 1) := by decide +kernel
theorem dX7_best_39 : decode cX7_best 39 = .ok (.invokevirtual 105, 3) := by decide +kernel
theorem dX7_best_42 : decode cX7_best 42 = .ok (.ifCond .eq 5, 3) := by decide +kernel
theorem dX7_best_45 : decode cX7_best 45 = .ok (.iconst 0, 1) := by decide +kernel
theorem dX7_best_46 : decode cX7_best 46 = .ok (.ireturn, 1) := by decide +kernel
theorem dX7_best_47 : decode cX7_best 47 = .ok (.aload_n 0, 1) := by decide +kernel
theorem dX7_best_48 : decode cX7_best 48 = .ok (.getfield 13, 3) := by decide +kernel
theorem dX7_best_51 : decode cX7_best 51 = .ok (.iload_n 1, 1) := by decide +kernel
theorem dX7_best_52 : decode cX7_best 52 = .ok (.iload_n 2, 1) := by decide +kernel
theorem dX7_best_53 : decode cX7_best 53 = .ok (.invokestatic 181, 3) := by decide +kernel
theorem dX7_best_56 : decode cX7_best 56 = .ok (.ireturn, 1) := by decide +kernel
theorem dX7_setting_0 : decode cX7_setting 0 = .ok (.aload_n 0, 1) := by decide +kernel
theorem dX7_setting_1 : decode cX7_setting 1 = .ok (.iload_n 1, 1) := by decide +kernel
theorem dX7_setting_2 : decode cX7_setting 2 = .ok (.i2l, 1) := by decide +kernel
theorem dX7_setting_3 : decode cX7_setting 3 = .ok (.lconst 0, 1) := by decide +kernel
theorem dX7_setting_4 : decode cX7_setting 4 = .ok (.lconst 1, 1) := by decide +kernel
theorem dX7_setting_5 : decode cX7_setting 5 = .ok (.invokestatic 37, 3) := by decide +kernel
theorem dX7_setting_8 : decode cX7_setting 8 = .ok (.ifCond .eq 7, 3) := by decide +kernel
theorem dX7_setting_11 : decode cX7_setting 11 = .ok (.iconst 0, 1) := by decide +kernel
theorem dX7_setting_12 : decode cX7_setting 12 = .ok (.goto 4, 3) := by decide +kernel
theorem dX7_setting_15 : decode cX7_setting 15 = .ok (.iconst 1, 1) := by decide +kernel
theorem dX7_setting_16 : decode cX7_setting 16 = .ok (.invokevirtual 105, 3) := by decide +kernel
theorem dX7_setting_19 : decode cX7_setting 19 = .ok (.ifCond .eq 5, 3) := by decide +kernel
theorem dX7_setting_22 : decode cX7_setting 22 = .ok (.iconst 0, 1) := by decide +kernel
theorem dX7_setting_23 : decode cX7_setting 23 = .ok (.ireturn, 1) := by decide +kernel
theorem dX7_setting_24 : decode cX7_setting 24 = .ok (.aload_n 0, 1) := by decide +kernel
theorem dX7_setting_25 : decode cX7_setting 25 = .ok (.getfield 13, 3) := by decide +kernel
theorem dX7_setting_28 : decode cX7_setting 28 = .ok (.bipush 7, 2) := by decide +kernel
theorem dX7_setting_30 : decode cX7_setting 30 = .ok (.iload_n 1, 1) := by decide +kernel
theorem dX7_setting_31 : decode cX7_setting 31 = .ok (.iadd, 1) := by decide +kernel
theorem dX7_setting_32 : decode cX7_setting 32 = .ok (.iaload, 1) := by decide +kernel
theorem dX7_setting_33 : decode cX7_setting 33 = .ok (.ireturn, 1) := by decide +kernel
theorem dX7_remember_0 : decode cX7_remember 0 = .ok (.aload_n 0, 1) := by decide +kernel
theorem dX7_remember_1 : decode cX7_remember 1 = .ok (.getfield 159, 3) := by decide +kernel
theorem dX7_remember_4 : decode cX7_remember 4 = .ok (.bipush 14, 2) := by decide +kernel
theorem dX7_remember_6 : decode cX7_remember 6 = .ok (.if_icmp .ne 44, 3) := by decide +kernel
theorem dX7_remember_9 : decode cX7_remember 9 = .ok (.iconst 0, 1) := by decide +kernel
theorem dX7_remember_10 : decode cX7_remember 10 = .ok (.istore_n 1, 1) := by decide +kernel
theorem dX7_remember_11 : decode cX7_remember 11 = .ok (.iload_n 1, 1) := by decide +kernel
theorem dX7_remember_12 : decode cX7_remember 12 = .ok (.sipush 1846, 3) := by decide +kernel
theorem dX7_remember_15 : decode cX7_remember 15 = .ok (.if_icmp .ge 25, 3) := by decide +kernel
theorem dX7_remember_18 : decode cX7_remember 18 = .ok (.aload_n 0, 1) := by decide +kernel
theorem dX7_remember_19 : decode cX7_remember 19 = .ok (.getfield 19, 3) := by decide +kernel
theorem dX7_remember_22 : decode cX7_remember 22 = .ok (.iload_n 1, 1) := by decide +kernel
theorem dX7_remember_23 : decode cX7_remember 23 = .ok (.aload_n 0, 1) := by decide +kernel
theorem dX7_remember_24 : decode cX7_remember 24 = .ok (.getfield 19, 3) := by decide +kernel
theorem dX7_remember_27 : decode cX7_remember 27 = .ok (.iload_n 1, 1) := by decide +kernel
theorem dX7_remember_28 : decode cX7_remember 28 = .ok (.sipush 142, 3) := by decide +kernel
theorem dX7_remember_31 : decode cX7_remember 31 = .ok (.iadd, 1) := by decide +kernel
theorem dX7_remember_32 : decode cX7_remember 32 = .ok (.iaload, 1) := by decide +kernel
theorem dX7_remember_33 : decode cX7_remember 33 = .ok (.iastore, 1) := by decide +kernel
theorem dX7_remember_34 : decode cX7_remember 34 = .ok (.iinc 1 1, 3) := by decide +kernel
theorem dX7_remember_37 : decode cX7_remember 37 = .ok (.goto (-26), 3) := by decide +kernel
theorem dX7_remember_40 : decode cX7_remember 40 = .ok (.aload_n 0, 1) := by decide +kernel
theorem dX7_remember_41 : decode cX7_remember 41 = .ok (.dup, 1) := by decide +kernel
theorem dX7_remember_42 : decode cX7_remember 42 = .ok (.getfield 159, 3) := by decide +kernel
theorem dX7_remember_45 : decode cX7_remember 45 = .ok (.iconst 1, 1) := by decide +kernel
theorem dX7_remember_46 : decode cX7_remember 46 = .ok (.isub, 1) := by decide +kernel
theorem dX7_remember_47 : decode cX7_remember 47 = .ok (.putfield 159, 3) := by decide +kernel
theorem dX7_remember_50 : decode cX7_remember 50 = .ok (.aload_n 0, 1) := by decide +kernel
theorem dX7_remember_51 : decode cX7_remember 51 = .ok (.getfield 13, 3) := by decide +kernel
theorem dX7_remember_54 : decode cX7_remember 54 = .ok (.iconst 0, 1) := by decide +kernel
theorem dX7_remember_55 : decode cX7_remember 55 = .ok (.aload_n 0, 1) := by decide +kernel
theorem dX7_remember_56 : decode cX7_remember 56 = .ok (.getfield 19, 3) := by decide +kernel
theorem dX7_remember_59 : decode cX7_remember 59 = .ok (.sipush 142, 3) := by decide +kernel
theorem dX7_remember_62 : decode cX7_remember 62 = .ok (.aload_n 0, 1) := by decide +kernel
theorem dX7_remember_63 : decode cX7_remember 63 = .ok (.getfield 159, 3) := by decide +kernel
theorem dX7_remember_66 : decode cX7_remember 66 = .ok (.imul, 1) := by decide +kernel
theorem dX7_remember_67 : decode cX7_remember 67 = .ok (.invokestatic 155, 3) := by decide +kernel
theorem dX7_remember_70 : decode cX7_remember 70 = .ok (.aload_n 0, 1) := by decide +kernel
theorem dX7_remember_71 : decode cX7_remember 71 = .ok (.dup, 1) := by decide +kernel
theorem dX7_remember_72 : decode cX7_remember 72 = .ok (.getfield 159, 3) := by decide +kernel
theorem dX7_remember_75 : decode cX7_remember 75 = .ok (.iconst 1, 1) := by decide +kernel
theorem dX7_remember_76 : decode cX7_remember 76 = .ok (.iadd, 1) := by decide +kernel
theorem dX7_remember_77 : decode cX7_remember 77 = .ok (.putfield 159, 3) := by decide +kernel
theorem dX7_remember_80 : decode cX7_remember 80 = .ok (.return_, 1) := by decide +kernel
theorem dX7_measure_0 : decode cX7_measure 0 = .ok (.aload_n 0, 1) := by decide +kernel
theorem dX7_measure_1 : decode cX7_measure 1 = .ok (.iload_n 1, 1) := by decide +kernel
theorem dX7_measure_2 : decode cX7_measure 2 = .ok (.invokestatic 178, 3) := by decide +kernel
theorem dX7_measure_5 : decode cX7_measure 5 = .ok (.ifCond .eq 10, 3) := by decide +kernel
theorem dX7_measure_8 : decode cX7_measure 8 = .ok (.iload_n 2, 1) := by decide +kernel
theorem dX7_measure_9 : decode cX7_measure 9 = .ok (.invokestatic 173, 3) := by decide +kernel
theorem dX7_measure_12 : decode cX7_measure 12 = .ok (.ifCond .ne 7, 3) := by decide +kernel
theorem dX7_measure_15 : decode cX7_measure 15 = .ok (.iconst 1, 1) := by decide +kernel
theorem dX7_measure_16 : decode cX7_measure 16 = .ok (.goto 38, 3) := by decide +kernel
theorem dX7_measure_19 : decode cX7_measure 19 = .ok (.iload_n 3, 1) := by decide +kernel
theorem dX7_measure_20 : decode cX7_measure 20 = .ok (.iload 4, 2) := by decide +kernel
theorem dX7_measure_22 : decode cX7_measure 22 = .ok (.iload 5, 2) := by decide +kernel
theorem dX7_measure_24 : decode cX7_measure 24 = .ok (.iload 6, 2) := by decide +kernel
theorem dX7_measure_26 : decode cX7_measure 26 = .ok (.iload 7, 2) := by decide +kernel
theorem dX7_measure_28 : decode cX7_measure 28 = .ok (.invokestatic 119, 3) := by decide +kernel
theorem dX7_measure_31 : decode cX7_measure 31 = .ok (.ifCond .ne 7, 3) := by decide +kernel
theorem dX7_measure_34 : decode cX7_measure 34 = .ok (.iconst 2, 1) := by decide +kernel
theorem dX7_measure_35 : decode cX7_measure 35 = .ok (.goto 19, 3) := by decide +kernel
theorem dX7_measure_38 : decode cX7_measure 38 = .ok (.aload_n 0, 1) := by decide +kernel
theorem dX7_measure_39 : decode cX7_measure 39 = .ok (.getfield 13, 3) := by decide +kernel
theorem dX7_measure_42 : decode cX7_measure 42 = .ok (.iconst 0, 1) := by decide +kernel
theorem dX7_measure_43 : decode cX7_measure 43 = .ok (.iaload, 1) := by decide +kernel
theorem dX7_measure_44 : decode cX7_measure 44 = .ok (.bipush 16, 2) := by decide +kernel
theorem dX7_measure_46 : decode cX7_measure 46 = .ok (.if_icmp .ge 7, 3) := by decide +kernel
theorem dX7_measure_49 : decode cX7_measure 49 = .ok (.iconst 0, 1) := by decide +kernel
theorem dX7_measure_50 : decode cX7_measure 50 = .ok (.goto 4, 3) := by decide +kernel
theorem dX7_measure_53 : decode cX7_measure 53 = .ok (.iconst 3, 1) := by decide +kernel
theorem dX7_measure_54 : decode cX7_measure 54 = .ok (.invokevirtual 105, 3) := by decide +kernel
theorem dX7_measure_57 : decode cX7_measure 57 = .ok (.ifCond .eq 5, 3) := by decide +kernel
theorem dX7_measure_60 : decode cX7_measure 60 = .ok (.iconst 0, 1) := by decide +kernel
theorem dX7_measure_61 : decode cX7_measure 61 = .ok (.ireturn, 1) := by decide +kernel
theorem dX7_measure_62 : decode cX7_measure 62 = .ok (.aload_n 0, 1) := by decide +kernel
theorem dX7_measure_63 : decode cX7_measure 63 = .ok (.invokevirtual 184, 3) := by decide +kernel
theorem dX7_measure_66 : decode cX7_measure 66 = .ok (.aload_n 0, 1) := by decide +kernel
theorem dX7_measure_67 : decode cX7_measure 67 = .ok (.getfield 13, 3) := by decide +kernel
theorem dX7_measure_70 : decode cX7_measure 70 = .ok (.iload_n 1, 1) := by decide +kernel
theorem dX7_measure_71 : decode cX7_measure 71 = .ok (.iload_n 2, 1) := by decide +kernel
theorem dX7_measure_72 : decode cX7_measure 72 = .ok (.iload_n 3, 1) := by decide +kernel
theorem dX7_measure_73 : decode cX7_measure 73 = .ok (.iload 4, 2) := by decide +kernel
theorem dX7_measure_75 : decode cX7_measure 75 = .ok (.iload 5, 2) := by decide +kernel
theorem dX7_measure_77 : decode cX7_measure 77 = .ok (.iload 6, 2) := by decide +kernel
theorem dX7_measure_79 : decode cX7_measure 79 = .ok (.iload 7, 2) := by decide +kernel
theorem dX7_measure_81 : decode cX7_measure 81 = .ok (.invokestatic 123, 3) := by decide +kernel
theorem dX7_measure_84 : decode cX7_measure 84 = .ok (.ireturn, 1) := by decide +kernel
theorem dX7_drop_0 : decode cX7_drop 0 = .ok (.aload_n 0, 1) := by decide +kernel
theorem dX7_drop_1 : decode cX7_drop 1 = .ok (.aload_n 0, 1) := by decide +kernel
theorem dX7_drop_2 : decode cX7_drop 2 = .ok (.getfield 13, 3) := by decide +kernel
theorem dX7_drop_5 : decode cX7_drop 5 = .ok (.iload_n 1, 1) := by decide +kernel
theorem dX7_drop_6 : decode cX7_drop 6 = .ok (.invokestatic 135, 3) := by decide +kernel
theorem dX7_drop_9 : decode cX7_drop 9 = .ok (.ifCond .eq 7, 3) := by decide +kernel
theorem dX7_drop_12 : decode cX7_drop 12 = .ok (.iconst 0, 1) := by decide +kernel
theorem dX7_drop_13 : decode cX7_drop 13 = .ok (.goto 4, 3) := by decide +kernel
theorem dX7_drop_16 : decode cX7_drop 16 = .ok (.iconst 1, 1) := by decide +kernel
theorem dX7_drop_17 : decode cX7_drop 17 = .ok (.invokevirtual 105, 3) := by decide +kernel
theorem dX7_drop_20 : decode cX7_drop 20 = .ok (.ifCond .eq 5, 3) := by decide +kernel
theorem dX7_drop_23 : decode cX7_drop 23 = .ok (.iconst 0, 1) := by decide +kernel
theorem dX7_drop_24 : decode cX7_drop 24 = .ok (.ireturn, 1) := by decide +kernel
theorem dX7_drop_25 : decode cX7_drop 25 = .ok (.aload_n 0, 1) := by decide +kernel
theorem dX7_drop_26 : decode cX7_drop 26 = .ok (.invokevirtual 184, 3) := by decide +kernel
theorem dX7_drop_29 : decode cX7_drop 29 = .ok (.aload_n 0, 1) := by decide +kernel
theorem dX7_drop_30 : decode cX7_drop 30 = .ok (.getfield 13, 3) := by decide +kernel
theorem dX7_drop_33 : decode cX7_drop 33 = .ok (.iload_n 1, 1) := by decide +kernel
theorem dX7_drop_34 : decode cX7_drop 34 = .ok (.invokestatic 97, 3) := by decide +kernel
theorem dX7_drop_37 : decode cX7_drop 37 = .ok (.ireturn, 1) := by decide +kernel
theorem dX7_trust_0 : decode cX7_trust 0 = .ok (.aload_n 0, 1) := by decide +kernel
theorem dX7_trust_1 : decode cX7_trust 1 = .ok (.iload_n 1, 1) := by decide +kernel
theorem dX7_trust_2 : decode cX7_trust 2 = .ok (.invokestatic 173, 3) := by decide +kernel
theorem dX7_trust_5 : decode cX7_trust 5 = .ok (.ifCond .ne 7, 3) := by decide +kernel
theorem dX7_trust_8 : decode cX7_trust 8 = .ok (.iconst 1, 1) := by decide +kernel
theorem dX7_trust_9 : decode cX7_trust 9 = .ok (.goto 20, 3) := by decide +kernel
theorem dX7_trust_12 : decode cX7_trust 12 = .ok (.iload_n 2, 1) := by decide +kernel
theorem dX7_trust_13 : decode cX7_trust 13 = .ok (.i2l, 1) := by decide +kernel
theorem dX7_trust_14 : decode cX7_trust 14 = .ok (.lconst 0, 1) := by decide +kernel
theorem dX7_trust_15 : decode cX7_trust 15 = .ok (.ldc2_w 53, 3) := by decide +kernel
theorem dX7_trust_18 : decode cX7_trust 18 = .ok (.invokestatic 37, 3) := by decide +kernel
theorem dX7_trust_21 : decode cX7_trust 21 = .ok (.ifCond .eq 7, 3) := by decide +kernel
theorem dX7_trust_24 : decode cX7_trust 24 = .ok (.iconst 0, 1) := by decide +kernel
theorem dX7_trust_25 : decode cX7_trust 25 = .ok (.goto 4, 3) := by decide +kernel
theorem dX7_trust_28 : decode cX7_trust 28 = .ok (.iconst 2, 1) := by decide +kernel
theorem dX7_trust_29 : decode cX7_trust 29 = .ok (.invokevirtual 105, 3) := by decide +kernel
theorem dX7_trust_32 : decode cX7_trust 32 = .ok (.ifCond .eq 5, 3) := by decide +kernel
theorem dX7_trust_35 : decode cX7_trust 35 = .ok (.iconst 0, 1) := by decide +kernel
theorem dX7_trust_36 : decode cX7_trust 36 = .ok (.ireturn, 1) := by decide +kernel
theorem dX7_trust_37 : decode cX7_trust 37 = .ok (.aload_n 0, 1) := by decide +kernel
theorem dX7_trust_38 : decode cX7_trust 38 = .ok (.invokevirtual 184, 3) := by decide +kernel
theorem dX7_trust_41 : decode cX7_trust 41 = .ok (.aload_n 0, 1) := by decide +kernel
theorem dX7_trust_42 : decode cX7_trust 42 = .ok (.getfield 13, 3) := by decide +kernel
theorem dX7_trust_45 : decode cX7_trust 45 = .ok (.iload_n 1, 1) := by decide +kernel
theorem dX7_trust_46 : decode cX7_trust 46 = .ok (.iload_n 2, 1) := by decide +kernel
theorem dX7_trust_47 : decode cX7_trust 47 = .ok (.invokestatic 138, 3) := by decide +kernel
theorem dX7_trust_50 : decode cX7_trust 50 = .ok (.ireturn, 1) := by decide +kernel
theorem dX7_evening_0 : decode cX7_evening 0 = .ok (.aload_n 0, 1) := by decide +kernel
theorem dX7_evening_1 : decode cX7_evening 1 = .ok (.iconst 0, 1) := by decide +kernel
theorem dX7_evening_2 : decode cX7_evening 2 = .ok (.putfield 33, 3) := by decide +kernel
theorem dX7_evening_5 : decode cX7_evening 5 = .ok (.aload_n 0, 1) := by decide +kernel
theorem dX7_evening_6 : decode cX7_evening 6 = .ok (.invokevirtual 184, 3) := by decide +kernel
theorem dX7_evening_9 : decode cX7_evening 9 = .ok (.aload_n 0, 1) := by decide +kernel
theorem dX7_evening_10 : decode cX7_evening 10 = .ok (.getfield 13, 3) := by decide +kernel
theorem dX7_evening_13 : decode cX7_evening 13 = .ok (.invokestatic 141, 3) := by decide +kernel
theorem dX7_evening_16 : decode cX7_evening 16 = .ok (.ireturn, 1) := by decide +kernel
theorem dX7_survey_0 : decode cX7_survey 0 = .ok (.aload_n 0, 1) := by decide +kernel
theorem dX7_survey_1 : decode cX7_survey 1 = .ok (.iload_n 1, 1) := by decide +kernel
theorem dX7_survey_2 : decode cX7_survey 2 = .ok (.invokestatic 178, 3) := by decide +kernel
theorem dX7_survey_5 : decode cX7_survey 5 = .ok (.ifCond .ne 7, 3) := by decide +kernel
theorem dX7_survey_8 : decode cX7_survey 8 = .ok (.iconst 1, 1) := by decide +kernel
theorem dX7_survey_9 : decode cX7_survey 9 = .ok (.goto 20, 3) := by decide +kernel
theorem dX7_survey_12 : decode cX7_survey 12 = .ok (.iload_n 2, 1) := by decide +kernel
theorem dX7_survey_13 : decode cX7_survey 13 = .ok (.i2l, 1) := by decide +kernel
theorem dX7_survey_14 : decode cX7_survey 14 = .ok (.lconst 1, 1) := by decide +kernel
theorem dX7_survey_15 : decode cX7_survey 15 = .ok (.ldc2_w 57, 3) := by decide +kernel
theorem dX7_survey_18 : decode cX7_survey 18 = .ok (.invokestatic 37, 3) := by decide +kernel
theorem dX7_survey_21 : decode cX7_survey 21 = .ok (.ifCond .eq 7, 3) := by decide +kernel
theorem dX7_survey_24 : decode cX7_survey 24 = .ok (.iconst 0, 1) := by decide +kernel
theorem dX7_survey_25 : decode cX7_survey 25 = .ok (.goto 4, 3) := by decide +kernel
theorem dX7_survey_28 : decode cX7_survey 28 = .ok (.iconst 2, 1) := by decide +kernel
theorem dX7_survey_29 : decode cX7_survey 29 = .ok (.invokevirtual 105, 3) := by decide +kernel
theorem dX7_survey_32 : decode cX7_survey 32 = .ok (.ifCond .eq 5, 3) := by decide +kernel
theorem dX7_survey_35 : decode cX7_survey 35 = .ok (.iconst 0, 1) := by decide +kernel
theorem dX7_survey_36 : decode cX7_survey 36 = .ok (.ireturn, 1) := by decide +kernel
theorem dX7_survey_37 : decode cX7_survey 37 = .ok (.aload_n 0, 1) := by decide +kernel
theorem dX7_survey_38 : decode cX7_survey 38 = .ok (.invokevirtual 184, 3) := by decide +kernel
theorem dX7_survey_41 : decode cX7_survey 41 = .ok (.aload_n 0, 1) := by decide +kernel
theorem dX7_survey_42 : decode cX7_survey 42 = .ok (.getfield 13, 3) := by decide +kernel
theorem dX7_survey_45 : decode cX7_survey 45 = .ok (.iload_n 1, 1) := by decide +kernel
theorem dX7_survey_46 : decode cX7_survey 46 = .ok (.iload_n 2, 1) := by decide +kernel
theorem dX7_survey_47 : decode cX7_survey 47 = .ok (.invokestatic 145, 3) := by decide +kernel
theorem dX7_survey_50 : decode cX7_survey 50 = .ok (.ireturn, 1) := by decide +kernel
theorem dX7_set_0 : decode cX7_set 0 = .ok (.aload_n 0, 1) := by decide +kernel
theorem dX7_set_1 : decode cX7_set 1 = .ok (.iload_n 1, 1) := by decide +kernel
theorem dX7_set_2 : decode cX7_set 2 = .ok (.iload_n 2, 1) := by decide +kernel
theorem dX7_set_3 : decode cX7_set 3 = .ok (.invokestatic 187, 3) := by decide +kernel
theorem dX7_set_6 : decode cX7_set 6 = .ok (.ifCond .eq 7, 3) := by decide +kernel
theorem dX7_set_9 : decode cX7_set 9 = .ok (.iconst 0, 1) := by decide +kernel
theorem dX7_set_10 : decode cX7_set 10 = .ok (.goto 4, 3) := by decide +kernel
theorem dX7_set_13 : decode cX7_set 13 = .ok (.iconst 1, 1) := by decide +kernel
theorem dX7_set_14 : decode cX7_set 14 = .ok (.invokevirtual 105, 3) := by decide +kernel
theorem dX7_set_17 : decode cX7_set 17 = .ok (.ifCond .eq 5, 3) := by decide +kernel
theorem dX7_set_20 : decode cX7_set 20 = .ok (.iconst 0, 1) := by decide +kernel
theorem dX7_set_21 : decode cX7_set 21 = .ok (.ireturn, 1) := by decide +kernel
theorem dX7_set_22 : decode cX7_set 22 = .ok (.aload_n 0, 1) := by decide +kernel
theorem dX7_set_23 : decode cX7_set 23 = .ok (.invokevirtual 184, 3) := by decide +kernel
theorem dX7_set_26 : decode cX7_set 26 = .ok (.aload_n 0, 1) := by decide +kernel
theorem dX7_set_27 : decode cX7_set 27 = .ok (.getfield 13, 3) := by decide +kernel
theorem dX7_set_30 : decode cX7_set 30 = .ok (.iload_n 1, 1) := by decide +kernel
theorem dX7_set_31 : decode cX7_set 31 = .ok (.iload_n 2, 1) := by decide +kernel
theorem dX7_set_32 : decode cX7_set 32 = .ok (.invokestatic 191, 3) := by decide +kernel
theorem dX7_set_35 : decode cX7_set 35 = .ok (.ireturn, 1) := by decide +kernel
theorem dX7_undo_0 : decode cX7_undo 0 = .ok (.aload_n 0, 1) := by decide +kernel
theorem dX7_undo_1 : decode cX7_undo 1 = .ok (.aload_n 0, 1) := by decide +kernel
theorem dX7_undo_2 : decode cX7_undo 2 = .ok (.getfield 159, 3) := by decide +kernel
theorem dX7_undo_5 : decode cX7_undo 5 = .ok (.ifCond .ne 7, 3) := by decide +kernel
theorem dX7_undo_8 : decode cX7_undo 8 = .ok (.iconst 1, 1) := by decide +kernel
theorem dX7_undo_9 : decode cX7_undo 9 = .ok (.goto 4, 3) := by decide +kernel
theorem dX7_undo_12 : decode cX7_undo 12 = .ok (.iconst 0, 1) := by decide +kernel
theorem dX7_undo_13 : decode cX7_undo 13 = .ok (.invokevirtual 105, 3) := by decide +kernel
theorem dX7_undo_16 : decode cX7_undo 16 = .ok (.ifCond .eq 5, 3) := by decide +kernel
theorem dX7_undo_19 : decode cX7_undo 19 = .ok (.iconst 0, 1) := by decide +kernel
theorem dX7_undo_20 : decode cX7_undo 20 = .ok (.ireturn, 1) := by decide +kernel
theorem dX7_undo_21 : decode cX7_undo 21 = .ok (.aload_n 0, 1) := by decide +kernel
theorem dX7_undo_22 : decode cX7_undo 22 = .ok (.dup, 1) := by decide +kernel
theorem dX7_undo_23 : decode cX7_undo 23 = .ok (.getfield 159, 3) := by decide +kernel
theorem dX7_undo_26 : decode cX7_undo 26 = .ok (.iconst 1, 1) := by decide +kernel
theorem dX7_undo_27 : decode cX7_undo 27 = .ok (.isub, 1) := by decide +kernel
theorem dX7_undo_28 : decode cX7_undo 28 = .ok (.putfield 159, 3) := by decide +kernel
theorem dX7_undo_31 : decode cX7_undo 31 = .ok (.aload_n 0, 1) := by decide +kernel
theorem dX7_undo_32 : decode cX7_undo 32 = .ok (.getfield 19, 3) := by decide +kernel
theorem dX7_undo_35 : decode cX7_undo 35 = .ok (.sipush 142, 3) := by decide +kernel
theorem dX7_undo_38 : decode cX7_undo 38 = .ok (.aload_n 0, 1) := by decide +kernel
theorem dX7_undo_39 : decode cX7_undo 39 = .ok (.getfield 159, 3) := by decide +kernel
theorem dX7_undo_42 : decode cX7_undo 42 = .ok (.imul, 1) := by decide +kernel
theorem dX7_undo_43 : decode cX7_undo 43 = .ok (.aload_n 0, 1) := by decide +kernel
theorem dX7_undo_44 : decode cX7_undo 44 = .ok (.getfield 13, 3) := by decide +kernel
theorem dX7_undo_47 : decode cX7_undo 47 = .ok (.iconst 0, 1) := by decide +kernel
theorem dX7_undo_48 : decode cX7_undo 48 = .ok (.invokestatic 155, 3) := by decide +kernel
theorem dX7_undo_51 : decode cX7_undo 51 = .ok (.aload_n 0, 1) := by decide +kernel
theorem dX7_undo_52 : decode cX7_undo 52 = .ok (.getfield 159, 3) := by decide +kernel
theorem dX7_undo_55 : decode cX7_undo 55 = .ok (.ireturn, 1) := by decide +kernel
theorem dX7_apart_0 : decode cX7_apart 0 = .ok (.aload_n 0, 1) := by decide +kernel
theorem dX7_apart_1 : decode cX7_apart 1 = .ok (.aload_n 0, 1) := by decide +kernel
theorem dX7_apart_2 : decode cX7_apart 2 = .ok (.getfield 13, 3) := by decide +kernel
theorem dX7_apart_5 : decode cX7_apart 5 = .ok (.iload_n 1, 1) := by decide +kernel
theorem dX7_apart_6 : decode cX7_apart 6 = .ok (.invokestatic 135, 3) := by decide +kernel
theorem dX7_apart_9 : decode cX7_apart 9 = .ok (.ifCond .eq 18, 3) := by decide +kernel
theorem dX7_apart_12 : decode cX7_apart 12 = .ok (.aload_n 0, 1) := by decide +kernel
theorem dX7_apart_13 : decode cX7_apart 13 = .ok (.getfield 13, 3) := by decide +kernel
theorem dX7_apart_16 : decode cX7_apart 16 = .ok (.iload_n 2, 1) := by decide +kernel
theorem dX7_apart_17 : decode cX7_apart 17 = .ok (.invokestatic 135, 3) := by decide +kernel
theorem dX7_apart_20 : decode cX7_apart 20 = .ok (.ifCond .eq 7, 3) := by decide +kernel
theorem dX7_apart_23 : decode cX7_apart 23 = .ok (.iconst 0, 1) := by decide +kernel
theorem dX7_apart_24 : decode cX7_apart 24 = .ok (.goto 4, 3) := by decide +kernel
theorem dX7_apart_27 : decode cX7_apart 27 = .ok (.iconst 1, 1) := by decide +kernel
theorem dX7_apart_28 : decode cX7_apart 28 = .ok (.invokevirtual 105, 3) := by decide +kernel
theorem dX7_apart_31 : decode cX7_apart 31 = .ok (.ifCond .eq 5, 3) := by decide +kernel
theorem dX7_apart_34 : decode cX7_apart 34 = .ok (.iconst 0, 1) := by decide +kernel
theorem dX7_apart_35 : decode cX7_apart 35 = .ok (.ireturn, 1) := by decide +kernel
theorem dX7_apart_36 : decode cX7_apart 36 = .ok (.aload_n 0, 1) := by decide +kernel
theorem dX7_apart_37 : decode cX7_apart 37 = .ok (.getfield 13, 3) := by decide +kernel
theorem dX7_apart_40 : decode cX7_apart 40 = .ok (.iload_n 1, 1) := by decide +kernel
theorem dX7_apart_41 : decode cX7_apart 41 = .ok (.iconst 0, 1) := by decide +kernel
theorem dX7_apart_42 : decode cX7_apart 42 = .ok (.invokestatic 59, 3) := by decide +kernel
theorem dX7_apart_45 : decode cX7_apart 45 = .ok (.aload_n 0, 1) := by decide +kernel
theorem dX7_apart_46 : decode cX7_apart 46 = .ok (.getfield 13, 3) := by decide +kernel
theorem dX7_apart_49 : decode cX7_apart 49 = .ok (.iload_n 2, 1) := by decide +kernel
theorem dX7_apart_50 : decode cX7_apart 50 = .ok (.iconst 0, 1) := by decide +kernel
theorem dX7_apart_51 : decode cX7_apart 51 = .ok (.invokestatic 59, 3) := by decide +kernel
theorem dX7_apart_54 : decode cX7_apart 54 = .ok (.if_icmp .ne 15, 3) := by decide +kernel
theorem dX7_apart_57 : decode cX7_apart 57 = .ok (.aload_n 0, 1) := by decide +kernel
theorem dX7_apart_58 : decode cX7_apart 58 = .ok (.getfield 13, 3) := by decide +kernel
theorem dX7_apart_61 : decode cX7_apart 61 = .ok (.iload_n 1, 1) := by decide +kernel
theorem dX7_apart_62 : decode cX7_apart 62 = .ok (.iload_n 2, 1) := by decide +kernel
theorem dX7_apart_63 : decode cX7_apart 63 = .ok (.invokestatic 74, 3) := by decide +kernel
theorem dX7_apart_66 : decode cX7_apart 66 = .ok (.goto 4, 3) := by decide +kernel
theorem dX7_apart_69 : decode cX7_apart 69 = .ok (.iconst (-1), 1) := by decide +kernel
theorem dX7_apart_70 : decode cX7_apart 70 = .ok (.ireturn, 1) := by decide +kernel
theorem dX7_away_0 : decode cX7_away 0 = .ok (.iload_n 2, 1) := by decide +kernel
theorem dX7_away_1 : decode cX7_away 1 = .ok (.aload_n 0, 1) := by decide +kernel
theorem dX7_away_2 : decode cX7_away 2 = .ok (.iload_n 1, 1) := by decide +kernel
theorem dX7_away_3 : decode cX7_away 3 = .ok (.invokestatic 67, 3) := by decide +kernel
theorem dX7_away_6 : decode cX7_away 6 = .ok (.if_icmp .ge 13, 3) := by decide +kernel
theorem dX7_away_9 : decode cX7_away 9 = .ok (.aload_n 0, 1) := by decide +kernel
theorem dX7_away_10 : decode cX7_away 10 = .ok (.iload_n 1, 1) := by decide +kernel
theorem dX7_away_11 : decode cX7_away 11 = .ok (.invokestatic 67, 3) := by decide +kernel
theorem dX7_away_14 : decode cX7_away 14 = .ok (.iload_n 2, 1) := by decide +kernel
theorem dX7_away_15 : decode cX7_away 15 = .ok (.isub, 1) := by decide +kernel
theorem dX7_away_16 : decode cX7_away 16 = .ok (.goto 23, 3) := by decide +kernel
theorem dX7_away_19 : decode cX7_away 19 = .ok (.iload_n 2, 1) := by decide +kernel
theorem dX7_away_20 : decode cX7_away 20 = .ok (.aload_n 0, 1) := by decide +kernel
theorem dX7_away_21 : decode cX7_away 21 = .ok (.iload_n 1, 1) := by decide +kernel
theorem dX7_away_22 : decode cX7_away 22 = .ok (.invokestatic 71, 3) := by decide +kernel
theorem dX7_away_25 : decode cX7_away 25 = .ok (.if_icmp .le 13, 3) := by decide +kernel
theorem dX7_away_28 : decode cX7_away 28 = .ok (.iload_n 2, 1) := by decide +kernel
theorem dX7_away_29 : decode cX7_away 29 = .ok (.aload_n 0, 1) := by decide +kernel
theorem dX7_away_30 : decode cX7_away 30 = .ok (.iload_n 1, 1) := by decide +kernel
theorem dX7_away_31 : decode cX7_away 31 = .ok (.invokestatic 71, 3) := by decide +kernel
theorem dX7_away_34 : decode cX7_away 34 = .ok (.isub, 1) := by decide +kernel
theorem dX7_away_35 : decode cX7_away 35 = .ok (.goto 4, 3) := by decide +kernel
theorem dX7_away_38 : decode cX7_away 38 = .ok (.iconst 0, 1) := by decide +kernel
theorem dX7_away_39 : decode cX7_away 39 = .ok (.ireturn, 1) := by decide +kernel
theorem dX7_against_0 : decode cX7_against 0 = .ok (.aload_n 0, 1) := by decide +kernel
theorem dX7_against_1 : decode cX7_against 1 = .ok (.iload_n 1, 1) := by decide +kernel
theorem dX7_against_2 : decode cX7_against 2 = .ok (.invokestatic 178, 3) := by decide +kernel
theorem dX7_against_5 : decode cX7_against 5 = .ok (.ifCond .eq 7, 3) := by decide +kernel
theorem dX7_against_8 : decode cX7_against 8 = .ok (.iconst 0, 1) := by decide +kernel
theorem dX7_against_9 : decode cX7_against 9 = .ok (.goto 4, 3) := by decide +kernel
theorem dX7_against_12 : decode cX7_against 12 = .ok (.iconst 1, 1) := by decide +kernel
theorem dX7_against_13 : decode cX7_against 13 = .ok (.invokevirtual 105, 3) := by decide +kernel
theorem dX7_against_16 : decode cX7_against 16 = .ok (.ifCond .eq 5, 3) := by decide +kernel
theorem dX7_against_19 : decode cX7_against 19 = .ok (.iconst 0, 1) := by decide +kernel
theorem dX7_against_20 : decode cX7_against 20 = .ok (.ireturn, 1) := by decide +kernel
theorem dX7_against_21 : decode cX7_against 21 = .ok (.aload_n 0, 1) := by decide +kernel
theorem dX7_against_22 : decode cX7_against 22 = .ok (.getfield 13, 3) := by decide +kernel
theorem dX7_against_25 : decode cX7_against 25 = .ok (.iload_n 1, 1) := by decide +kernel
theorem dX7_against_26 : decode cX7_against 26 = .ok (.invokestatic 90, 3) := by decide +kernel
theorem dX7_against_29 : decode cX7_against 29 = .ok (.istore_n 2, 1) := by decide +kernel
theorem dX7_against_30 : decode cX7_against 30 = .ok (.iconst (-1), 1) := by decide +kernel
theorem dX7_against_31 : decode cX7_against 31 = .ok (.istore_n 3, 1) := by decide +kernel
theorem dX7_against_32 : decode cX7_against 32 = .ok (.iconst 0, 1) := by decide +kernel
theorem dX7_against_33 : decode cX7_against 33 = .ok (.istore 4, 2) := by decide +kernel
theorem dX7_against_35 : decode cX7_against 35 = .ok (.iload 4, 2) := by decide +kernel
theorem dX7_against_37 : decode cX7_against 37 = .ok (.aload_n 0, 1) := by decide +kernel
theorem dX7_against_38 : decode cX7_against 38 = .ok (.getfield 13, 3) := by decide +kernel
theorem dX7_against_41 : decode cX7_against 41 = .ok (.iconst 0, 1) := by decide +kernel
theorem dX7_against_42 : decode cX7_against 42 = .ok (.iaload, 1) := by decide +kernel
theorem dX7_against_43 : decode cX7_against 43 = .ok (.if_icmp .ge 104, 3) := by decide +kernel
theorem dX7_against_46 : decode cX7_against 46 = .ok (.aload_n 0, 1) := by decide +kernel
theorem dX7_against_47 : decode cX7_against 47 = .ok (.getfield 13, 3) := by decide +kernel
theorem dX7_against_50 : decode cX7_against 50 = .ok (.iload 4, 2) := by decide +kernel
theorem dX7_against_52 : decode cX7_against 52 = .ok (.iconst 0, 1) := by decide +kernel
theorem dX7_against_53 : decode cX7_against 53 = .ok (.invokestatic 59, 3) := by decide +kernel
theorem dX7_against_56 : decode cX7_against 56 = .ok (.iload_n 1, 1) := by decide +kernel
theorem dX7_against_57 : decode cX7_against 57 = .ok (.if_icmp .ne 84, 3) := by decide +kernel
theorem dX7_against_60 : decode cX7_against 60 = .ok (.aload_n 0, 1) := by decide +kernel
theorem dX7_against_61 : decode cX7_against 61 = .ok (.getfield 13, 3) := by decide +kernel
theorem dX7_against_64 : decode cX7_against 64 = .ok (.iload 4, 2) := by decide +kernel
theorem dX7_against_66 : decode cX7_against 66 = .ok (.iload_n 2, 1) := by decide +kernel
theorem dX7_against_67 : decode cX7_against 67 = .ok (.invokestatic 81, 3) := by decide +kernel
theorem dX7_against_70 : decode cX7_against 70 = .ok (.ifCond .ne 71, 3) := by decide +kernel
theorem dX7_against_73 : decode cX7_against 73 = .ok (.iload_n 3, 1) := by decide +kernel
theorem dX7_against_74 : decode cX7_against 74 = .ok (.iconst (-1), 1) := by decide +kernel
theorem dX7_against_75 : decode cX7_against 75 = .ok (.if_icmp .ne 7, 3) := by decide +kernel
theorem dX7_against_78 : decode cX7_against 78 = .ok (.iconst 1, 1) := by decide +kernel
theorem dX7_against_79 : decode cX7_against 79 = .ok (.goto 21, 3) := by decide +kernel
theorem dX7_against_82 : decode cX7_against 82 = .ok (.aload_n 0, 1) := by decide +kernel
theorem dX7_against_83 : decode cX7_against 83 = .ok (.getfield 13, 3) := by decide +kernel
theorem dX7_against_86 : decode cX7_against 86 = .ok (.iload 4, 2) := by decide +kernel
theorem dX7_against_88 : decode cX7_against 88 = .ok (.invokestatic 84, 3) := by decide +kernel
theorem dX7_against_91 : decode cX7_against 91 = .ok (.aload_n 0, 1) := by decide +kernel
theorem dX7_against_92 : decode cX7_against 92 = .ok (.getfield 13, 3) := by decide +kernel
theorem dX7_against_95 : decode cX7_against 95 = .ok (.iload_n 3, 1) := by decide +kernel
theorem dX7_against_96 : decode cX7_against 96 = .ok (.invokestatic 84, 3) := by decide +kernel
theorem dX7_against_99 : decode cX7_against 99 = .ok (.isub, 1) := by decide +kernel
theorem dX7_against_100 : decode cX7_against 100 = .ok (.istore 5, 2) := by decide +kernel
theorem dX7_against_102 : decode cX7_against 102 = .ok (.iload 5, 2) := by decide +kernel
theorem dX7_against_104 : decode cX7_against 104 = .ok (.ifCond .gt 30, 3) := by decide +kernel
theorem dX7_against_107 : decode cX7_against 107 = .ok (.iload 5, 2) := by decide +kernel
theorem dX7_against_109 : decode cX7_against 109 = .ok (.ifCond .ne 30, 3) := by decide +kernel
theorem dX7_against_112 : decode cX7_against 112 = .ok (.aload_n 0, 1) := by decide +kernel
theorem dX7_against_113 : decode cX7_against 113 = .ok (.getfield 13, 3) := by decide +kernel
theorem dX7_against_116 : decode cX7_against 116 = .ok (.iload 4, 2) := by decide +kernel
theorem dX7_against_118 : decode cX7_against 118 = .ok (.iload_n 2, 1) := by decide +kernel
theorem dX7_against_119 : decode cX7_against 119 = .ok (.invokestatic 194, 3) := by decide +kernel
theorem dX7_against_122 : decode cX7_against 122 = .ok (.aload_n 0, 1) := by decide +kernel
theorem dX7_against_123 : decode cX7_against 123 = .ok (.getfield 13, 3) := by decide +kernel
theorem dX7_against_126 : decode cX7_against 126 = .ok (.iload_n 3, 1) := by decide +kernel
theorem dX7_against_127 : decode cX7_against 127 = .ok (.iload_n 2, 1) := by decide +kernel
theorem dX7_against_128 : decode cX7_against 128 = .ok (.invokestatic 194, 3) := by decide +kernel
theorem dX7_against_131 : decode cX7_against 131 = .ok (.if_icmp .le 8, 3) := by decide +kernel
theorem dX7_against_134 : decode cX7_against 134 = .ok (.iload 4, 2) := by decide +kernel
theorem dX7_against_136 : decode cX7_against 136 = .ok (.goto 4, 3) := by decide +kernel
theorem dX7_against_139 : decode cX7_against 139 = .ok (.iload_n 3, 1) := by decide +kernel
theorem dX7_against_140 : decode cX7_against 140 = .ok (.istore_n 3, 1) := by decide +kernel
theorem dX7_against_141 : decode cX7_against 141 = .ok (.iinc 4 1, 3) := by decide +kernel
theorem dX7_against_144 : decode cX7_against 144 = .ok (.goto (-109), 3) := by decide +kernel
theorem dX7_against_147 : decode cX7_against 147 = .ok (.iload_n 3, 1) := by decide +kernel
theorem dX7_against_148 : decode cX7_against 148 = .ok (.ireturn, 1) := by decide +kernel
theorem dX7_without_0 : decode cX7_without 0 = .ok (.aload_n 0, 1) := by decide +kernel
theorem dX7_without_1 : decode cX7_without 1 = .ok (.aload_n 0, 1) := by decide +kernel
theorem dX7_without_2 : decode cX7_without 2 = .ok (.getfield 13, 3) := by decide +kernel
theorem dX7_without_5 : decode cX7_without 5 = .ok (.iload_n 1, 1) := by decide +kernel
theorem dX7_without_6 : decode cX7_without 6 = .ok (.invokestatic 135, 3) := by decide +kernel
theorem dX7_without_9 : decode cX7_without 9 = .ok (.ifCond .ne 7, 3) := by decide +kernel
theorem dX7_without_12 : decode cX7_without 12 = .ok (.iconst 1, 1) := by decide +kernel
theorem dX7_without_13 : decode cX7_without 13 = .ok (.goto 20, 3) := by decide +kernel
theorem dX7_without_16 : decode cX7_without 16 = .ok (.iload_n 2, 1) := by decide +kernel
theorem dX7_without_17 : decode cX7_without 17 = .ok (.i2l, 1) := by decide +kernel
theorem dX7_without_18 : decode cX7_without 18 = .ok (.lconst 0, 1) := by decide +kernel
theorem dX7_without_19 : decode cX7_without 19 = .ok (.ldc2_w 41, 3) := by decide +kernel
theorem dX7_without_22 : decode cX7_without 22 = .ok (.invokestatic 37, 3) := by decide +kernel
theorem dX7_without_25 : decode cX7_without 25 = .ok (.ifCond .eq 7, 3) := by decide +kernel
theorem dX7_without_28 : decode cX7_without 28 = .ok (.iconst 0, 1) := by decide +kernel
theorem dX7_without_29 : decode cX7_without 29 = .ok (.goto 4, 3) := by decide +kernel
theorem dX7_without_32 : decode cX7_without 32 = .ok (.iconst 2, 1) := by decide +kernel
theorem dX7_without_33 : decode cX7_without 33 = .ok (.invokevirtual 105, 3) := by decide +kernel
theorem dX7_without_36 : decode cX7_without 36 = .ok (.ifCond .eq 5, 3) := by decide +kernel
theorem dX7_without_39 : decode cX7_without 39 = .ok (.iconst 0, 1) := by decide +kernel
theorem dX7_without_40 : decode cX7_without 40 = .ok (.ireturn, 1) := by decide +kernel
theorem dX7_without_41 : decode cX7_without 41 = .ok (.aload_n 0, 1) := by decide +kernel
theorem dX7_without_42 : decode cX7_without 42 = .ok (.getfield 13, 3) := by decide +kernel
theorem dX7_without_45 : decode cX7_without 45 = .ok (.iload_n 1, 1) := by decide +kernel
theorem dX7_without_46 : decode cX7_without 46 = .ok (.iconst 0, 1) := by decide +kernel
theorem dX7_without_47 : decode cX7_without 47 = .ok (.invokestatic 59, 3) := by decide +kernel
theorem dX7_without_50 : decode cX7_without 50 = .ok (.istore_n 3, 1) := by decide +kernel
theorem dX7_without_51 : decode cX7_without 51 = .ok (.aload_n 0, 1) := by decide +kernel
theorem dX7_without_52 : decode cX7_without 52 = .ok (.getfield 13, 3) := by decide +kernel
theorem dX7_without_55 : decode cX7_without 55 = .ok (.iconst 0, 1) := by decide +kernel
theorem dX7_without_56 : decode cX7_without 56 = .ok (.aload_n 0, 1) := by decide +kernel
theorem dX7_without_57 : decode cX7_without 57 = .ok (.getfield 16, 3) := by decide +kernel
theorem dX7_without_60 : decode cX7_without 60 = .ok (.iconst 0, 1) := by decide +kernel
theorem dX7_without_61 : decode cX7_without 61 = .ok (.invokestatic 155, 3) := by decide +kernel
theorem dX7_without_64 : decode cX7_without 64 = .ok (.aload_n 0, 1) := by decide +kernel
theorem dX7_without_65 : decode cX7_without 65 = .ok (.getfield 16, 3) := by decide +kernel
theorem dX7_without_68 : decode cX7_without 68 = .ok (.iload_n 1, 1) := by decide +kernel
theorem dX7_without_69 : decode cX7_without 69 = .ok (.invokestatic 97, 3) := by decide +kernel
theorem dX7_without_72 : decode cX7_without 72 = .ok (.pop, 1) := by decide +kernel
theorem dX7_without_73 : decode cX7_without 73 = .ok (.aload_n 0, 1) := by decide +kernel
theorem dX7_without_74 : decode cX7_without 74 = .ok (.getfield 16, 3) := by decide +kernel
theorem dX7_without_77 : decode cX7_without 77 = .ok (.iload_n 3, 1) := by decide +kernel
theorem dX7_without_78 : decode cX7_without 78 = .ok (.iload_n 2, 1) := by decide +kernel
theorem dX7_without_79 : decode cX7_without 79 = .ok (.invokestatic 181, 3) := by decide +kernel
theorem dX7_without_82 : decode cX7_without 82 = .ok (.ireturn, 1) := by decide +kernel
theorem dX7_isTold_0 : decode cX7_isTold 0 = .ok (.aload_n 0, 1) := by decide +kernel
theorem dX7_isTold_1 : decode cX7_isTold 1 = .ok (.iload_n 2, 1) := by decide +kernel
theorem dX7_isTold_2 : decode cX7_isTold 2 = .ok (.invokestatic 90, 3) := by decide +kernel
theorem dX7_isTold_5 : decode cX7_isTold 5 = .ok (.istore_n 3, 1) := by decide +kernel
theorem dX7_isTold_6 : decode cX7_isTold 6 = .ok (.iconst 0, 1) := by decide +kernel
theorem dX7_isTold_7 : decode cX7_isTold 7 = .ok (.istore 4, 2) := by decide +kernel
theorem dX7_isTold_9 : decode cX7_isTold 9 = .ok (.iconst 0, 1) := by decide +kernel
theorem dX7_isTold_10 : decode cX7_isTold 10 = .ok (.istore 5, 2) := by decide +kernel
theorem dX7_isTold_12 : decode cX7_isTold 12 = .ok (.iload 5, 2) := by decide +kernel
theorem dX7_isTold_14 : decode cX7_isTold 14 = .ok (.aload_n 0, 1) := by decide +kernel
theorem dX7_isTold_15 : decode cX7_isTold 15 = .ok (.iconst 0, 1) := by decide +kernel
theorem dX7_isTold_16 : decode cX7_isTold 16 = .ok (.iaload, 1) := by decide +kernel
theorem dX7_isTold_17 : decode cX7_isTold 17 = .ok (.if_icmp .ge 53, 3) := by decide +kernel
theorem dX7_isTold_20 : decode cX7_isTold 20 = .ok (.iload 4, 2) := by decide +kernel
theorem dX7_isTold_22 : decode cX7_isTold 22 = .ok (.ifCond .ne 35, 3) := by decide +kernel
theorem dX7_isTold_25 : decode cX7_isTold 25 = .ok (.aload_n 0, 1) := by decide +kernel
theorem dX7_isTold_26 : decode cX7_isTold 26 = .ok (.iload 5, 2) := by decide +kernel
theorem dX7_isTold_28 : decode cX7_isTold 28 = .ok (.iconst 0, 1) := by decide +kernel
theorem dX7_isTold_29 : decode cX7_isTold 29 = .ok (.invokestatic 59, 3) := by decide +kernel
theorem dX7_isTold_32 : decode cX7_isTold 32 = .ok (.iload_n 2, 1) := by decide +kernel
theorem dX7_isTold_33 : decode cX7_isTold 33 = .ok (.if_icmp .ne 28, 3) := by decide +kernel
theorem dX7_isTold_36 : decode cX7_isTold 36 = .ok (.aload_n 0, 1) := by decide +kernel
theorem dX7_isTold_37 : decode cX7_isTold 37 = .ok (.iload 5, 2) := by decide +kernel
theorem dX7_isTold_39 : decode cX7_isTold 39 = .ok (.iconst 1, 1) := by decide +kernel
theorem dX7_isTold_40 : decode cX7_isTold 40 = .ok (.invokestatic 59, 3) := by decide +kernel
theorem dX7_isTold_43 : decode cX7_isTold 43 = .ok (.iload_n 1, 1) := by decide +kernel
theorem dX7_isTold_44 : decode cX7_isTold 44 = .ok (.if_icmp .ne 17, 3) := by decide +kernel
theorem dX7_isTold_47 : decode cX7_isTold 47 = .ok (.aload_n 0, 1) := by decide +kernel
theorem dX7_isTold_48 : decode cX7_isTold 48 = .ok (.iload 5, 2) := by decide +kernel
theorem dX7_isTold_50 : decode cX7_isTold 50 = .ok (.iload_n 3, 1) := by decide +kernel
theorem dX7_isTold_51 : decode cX7_isTold 51 = .ok (.invokestatic 81, 3) := by decide +kernel
theorem dX7_isTold_54 : decode cX7_isTold 54 = .ok (.ifCond .eq 7, 3) := by decide +kernel
theorem dX7_isTold_57 : decode cX7_isTold 57 = .ok (.iconst 1, 1) := by decide +kernel
theorem dX7_isTold_58 : decode cX7_isTold 58 = .ok (.goto 4, 3) := by decide +kernel
theorem dX7_isTold_61 : decode cX7_isTold 61 = .ok (.iconst 0, 1) := by decide +kernel
theorem dX7_isTold_62 : decode cX7_isTold 62 = .ok (.istore 4, 2) := by decide +kernel
theorem dX7_isTold_64 : decode cX7_isTold 64 = .ok (.iinc 5 1, 3) := by decide +kernel
theorem dX7_isTold_67 : decode cX7_isTold 67 = .ok (.goto (-55), 3) := by decide +kernel
theorem dX7_isTold_70 : decode cX7_isTold 70 = .ok (.iload 4, 2) := by decide +kernel
theorem dX7_isTold_72 : decode cX7_isTold 72 = .ok (.ireturn, 1) := by decide +kernel
theorem dX7_swings_0 : decode cX7_swings 0 = .ok (.aload_n 0, 1) := by decide +kernel
theorem dX7_swings_1 : decode cX7_swings 1 = .ok (.iload_n 1, 1) := by decide +kernel
theorem dX7_swings_2 : decode cX7_swings 2 = .ok (.invokestatic 173, 3) := by decide +kernel
theorem dX7_swings_5 : decode cX7_swings 5 = .ok (.ifCond .eq 14, 3) := by decide +kernel
theorem dX7_swings_8 : decode cX7_swings 8 = .ok (.iload_n 2, 1) := by decide +kernel
theorem dX7_swings_9 : decode cX7_swings 9 = .ok (.invokestatic 178, 3) := by decide +kernel
theorem dX7_swings_12 : decode cX7_swings 12 = .ok (.ifCond .eq 7, 3) := by decide +kernel
theorem dX7_swings_15 : decode cX7_swings 15 = .ok (.iconst 0, 1) := by decide +kernel
theorem dX7_swings_16 : decode cX7_swings 16 = .ok (.goto 4, 3) := by decide +kernel
theorem dX7_swings_19 : decode cX7_swings 19 = .ok (.iconst 1, 1) := by decide +kernel
theorem dX7_swings_20 : decode cX7_swings 20 = .ok (.invokevirtual 105, 3) := by decide +kernel
theorem dX7_swings_23 : decode cX7_swings 23 = .ok (.ifCond .eq 5, 3) := by decide +kernel
theorem dX7_swings_26 : decode cX7_swings 26 = .ok (.iconst 0, 1) := by decide +kernel
theorem dX7_swings_27 : decode cX7_swings 27 = .ok (.ireturn, 1) := by decide +kernel
theorem dX7_swings_28 : decode cX7_swings 28 = .ok (.aload_n 0, 1) := by decide +kernel
theorem dX7_swings_29 : decode cX7_swings 29 = .ok (.getfield 13, 3) := by decide +kernel
theorem dX7_swings_32 : decode cX7_swings 32 = .ok (.iconst 0, 1) := by decide +kernel
theorem dX7_swings_33 : decode cX7_swings 33 = .ok (.aload_n 0, 1) := by decide +kernel
theorem dX7_swings_34 : decode cX7_swings 34 = .ok (.getfield 16, 3) := by decide +kernel
theorem dX7_swings_37 : decode cX7_swings 37 = .ok (.iconst 0, 1) := by decide +kernel
theorem dX7_swings_38 : decode cX7_swings 38 = .ok (.invokestatic 155, 3) := by decide +kernel
theorem dX7_swings_41 : decode cX7_swings 41 = .ok (.iconst 0, 1) := by decide +kernel
theorem dX7_swings_42 : decode cX7_swings 42 = .ok (.istore_n 3, 1) := by decide +kernel
theorem dX7_swings_43 : decode cX7_swings 43 = .ok (.iload_n 3, 1) := by decide +kernel
theorem dX7_swings_44 : decode cX7_swings 44 = .ok (.bipush 9, 2) := by decide +kernel
theorem dX7_swings_46 : decode cX7_swings 46 = .ok (.if_icmp .gt 33, 3) := by decide +kernel
theorem dX7_swings_49 : decode cX7_swings 49 = .ok (.aload_n 0, 1) := by decide +kernel
theorem dX7_swings_50 : decode cX7_swings 50 = .ok (.getfield 16, 3) := by decide +kernel
theorem dX7_swings_53 : decode cX7_swings 53 = .ok (.iload_n 1, 1) := by decide +kernel
theorem dX7_swings_54 : decode cX7_swings 54 = .ok (.iload_n 3, 1) := by decide +kernel
theorem dX7_swings_55 : decode cX7_swings 55 = .ok (.invokestatic 138, 3) := by decide +kernel
theorem dX7_swings_58 : decode cX7_swings 58 = .ok (.pop, 1) := by decide +kernel
theorem dX7_swings_59 : decode cX7_swings 59 = .ok (.aload_n 0, 1) := by decide +kernel
theorem dX7_swings_60 : decode cX7_swings 60 = .ok (.getfield 16, 3) := by decide +kernel
theorem dX7_swings_63 : decode cX7_swings 63 = .ok (.iload_n 1, 1) := by decide +kernel
theorem dX7_swings_64 : decode cX7_swings 64 = .ok (.iload_n 2, 1) := by decide +kernel
theorem dX7_swings_65 : decode cX7_swings 65 = .ok (.invokestatic 197, 3) := by decide +kernel
theorem dX7_swings_68 : decode cX7_swings 68 = .ok (.ifCond .eq 5, 3) := by decide +kernel
theorem dX7_swings_71 : decode cX7_swings 71 = .ok (.iload_n 3, 1) := by decide +kernel
theorem dX7_swings_72 : decode cX7_swings 72 = .ok (.ireturn, 1) := by decide +kernel
theorem dX7_swings_73 : decode cX7_swings 73 = .ok (.iinc 3 1, 3) := by decide +kernel
theorem dX7_swings_76 : decode cX7_swings 76 = .ok (.goto (-33), 3) := by decide +kernel
theorem dX7_swings_79 : decode cX7_swings 79 = .ok (.iconst (-1), 1) := by decide +kernel
theorem dX7_swings_80 : decode cX7_swings 80 = .ok (.ireturn, 1) := by decide +kernel
theorem dX7_truest_0 : decode cX7_truest 0 = .ok (.aload_n 0, 1) := by decide +kernel
theorem dX7_truest_1 : decode cX7_truest 1 = .ok (.iconst 0, 1) := by decide +kernel
theorem dX7_truest_2 : decode cX7_truest 2 = .ok (.putfield 33, 3) := by decide +kernel
theorem dX7_truest_5 : decode cX7_truest 5 = .ok (.iconst (-1), 1) := by decide +kernel
theorem dX7_truest_6 : decode cX7_truest 6 = .ok (.istore_n 1, 1) := by decide +kernel
theorem dX7_truest_7 : decode cX7_truest 7 = .ok (.iconst 0, 1) := by decide +kernel
theorem dX7_truest_8 : decode cX7_truest 8 = .ok (.istore_n 2, 1) := by decide +kernel
theorem dX7_truest_9 : decode cX7_truest 9 = .ok (.iload_n 2, 1) := by decide +kernel
theorem dX7_truest_10 : decode cX7_truest 10 = .ok (.bipush 6, 2) := by decide +kernel
theorem dX7_truest_12 : decode cX7_truest 12 = .ok (.if_icmp .ge 120, 3) := by decide +kernel
theorem dX7_truest_15 : decode cX7_truest 15 = .ok (.aload_n 0, 1) := by decide +kernel
theorem dX7_truest_16 : decode cX7_truest 16 = .ok (.getfield 13, 3) := by decide +kernel
theorem dX7_truest_19 : decode cX7_truest 19 = .ok (.bipush 15, 2) := by decide +kernel
theorem dX7_truest_21 : decode cX7_truest 21 = .ok (.iload_n 2, 1) := by decide +kernel
theorem dX7_truest_22 : decode cX7_truest 22 = .ok (.iadd, 1) := by decide +kernel
theorem dX7_truest_23 : decode cX7_truest 23 = .ok (.iaload, 1) := by decide +kernel
theorem dX7_truest_24 : decode cX7_truest 24 = .ok (.aload_n 0, 1) := by decide +kernel
theorem dX7_truest_25 : decode cX7_truest 25 = .ok (.getfield 13, 3) := by decide +kernel
theorem dX7_truest_28 : decode cX7_truest 28 = .ok (.bipush 21, 2) := by decide +kernel
theorem dX7_truest_30 : decode cX7_truest 30 = .ok (.iload_n 2, 1) := by decide +kernel
theorem dX7_truest_31 : decode cX7_truest 31 = .ok (.iadd, 1) := by decide +kernel
theorem dX7_truest_32 : decode cX7_truest 32 = .ok (.iaload, 1) := by decide +kernel
theorem dX7_truest_33 : decode cX7_truest 33 = .ok (.iadd, 1) := by decide +kernel
theorem dX7_truest_34 : decode cX7_truest 34 = .ok (.istore_n 3, 1) := by decide +kernel
theorem dX7_truest_35 : decode cX7_truest 35 = .ok (.iload_n 3, 1) := by decide +kernel
theorem dX7_truest_36 : decode cX7_truest 36 = .ok (.ifCond .le 90, 3) := by decide +kernel
theorem dX7_truest_39 : decode cX7_truest 39 = .ok (.iload_n 1, 1) := by decide +kernel
theorem dX7_truest_40 : decode cX7_truest 40 = .ok (.iconst (-1), 1) := by decide +kernel
theorem dX7_truest_41 : decode cX7_truest 41 = .ok (.if_icmp .ne 7, 3) := by decide +kernel
theorem dX7_truest_44 : decode cX7_truest 44 = .ok (.iconst 0, 1) := by decide +kernel
theorem dX7_truest_45 : decode cX7_truest 45 = .ok (.goto 22, 3) := by decide +kernel
theorem dX7_truest_48 : decode cX7_truest 48 = .ok (.aload_n 0, 1) := by decide +kernel
theorem dX7_truest_49 : decode cX7_truest 49 = .ok (.getfield 13, 3) := by decide +kernel
theorem dX7_truest_52 : decode cX7_truest 52 = .ok (.bipush 15, 2) := by decide +kernel
theorem dX7_truest_54 : decode cX7_truest 54 = .ok (.iload_n 1, 1) := by decide +kernel
theorem dX7_truest_55 : decode cX7_truest 55 = .ok (.iadd, 1) := by decide +kernel
theorem dX7_truest_56 : decode cX7_truest 56 = .ok (.iaload, 1) := by decide +kernel
theorem dX7_truest_57 : decode cX7_truest 57 = .ok (.aload_n 0, 1) := by decide +kernel
theorem dX7_truest_58 : decode cX7_truest 58 = .ok (.getfield 13, 3) := by decide +kernel
theorem dX7_truest_61 : decode cX7_truest 61 = .ok (.bipush 21, 2) := by decide +kernel
theorem dX7_truest_63 : decode cX7_truest 63 = .ok (.iload_n 1, 1) := by decide +kernel
theorem dX7_truest_64 : decode cX7_truest 64 = .ok (.iadd, 1) := by decide +kernel
theorem dX7_truest_65 : decode cX7_truest 65 = .ok (.iaload, 1) := by decide +kernel
theorem dX7_truest_66 : decode cX7_truest 66 = .ok (.iadd, 1) := by decide +kernel
theorem dX7_truest_67 : decode cX7_truest 67 = .ok (.istore 4, 2) := by decide +kernel
theorem dX7_truest_69 : decode cX7_truest 69 = .ok (.iload_n 1, 1) := by decide +kernel
theorem dX7_truest_70 : decode cX7_truest 70 = .ok (.iconst (-1), 1) := by decide +kernel
theorem dX7_truest_71 : decode cX7_truest 71 = .ok (.if_icmp .ne 7, 3) := by decide +kernel
theorem dX7_truest_74 : decode cX7_truest 74 = .ok (.iconst 1, 1) := by decide +kernel
theorem dX7_truest_75 : decode cX7_truest 75 = .ok (.goto 27, 3) := by decide +kernel
theorem dX7_truest_78 : decode cX7_truest 78 = .ok (.aload_n 0, 1) := by decide +kernel
theorem dX7_truest_79 : decode cX7_truest 79 = .ok (.getfield 13, 3) := by decide +kernel
theorem dX7_truest_82 : decode cX7_truest 82 = .ok (.bipush 15, 2) := by decide +kernel
theorem dX7_truest_84 : decode cX7_truest 84 = .ok (.iload_n 2, 1) := by decide +kernel
theorem dX7_truest_85 : decode cX7_truest 85 = .ok (.iadd, 1) := by decide +kernel
theorem dX7_truest_86 : decode cX7_truest 86 = .ok (.iaload, 1) := by decide +kernel
theorem dX7_truest_87 : decode cX7_truest 87 = .ok (.iload 4, 2) := by decide +kernel
theorem dX7_truest_89 : decode cX7_truest 89 = .ok (.imul, 1) := by decide +kernel
theorem dX7_truest_90 : decode cX7_truest 90 = .ok (.aload_n 0, 1) := by decide +kernel
theorem dX7_truest_91 : decode cX7_truest 91 = .ok (.getfield 13, 3) := by decide +kernel
theorem dX7_truest_94 : decode cX7_truest 94 = .ok (.bipush 15, 2) := by decide +kernel
theorem dX7_truest_96 : decode cX7_truest 96 = .ok (.iload_n 1, 1) := by decide +kernel
theorem dX7_truest_97 : decode cX7_truest 97 = .ok (.iadd, 1) := by decide +kernel
theorem dX7_truest_98 : decode cX7_truest 98 = .ok (.iaload, 1) := by decide +kernel
theorem dX7_truest_99 : decode cX7_truest 99 = .ok (.iload_n 3, 1) := by decide +kernel
theorem dX7_truest_100 : decode cX7_truest 100 = .ok (.imul, 1) := by decide +kernel
theorem dX7_truest_101 : decode cX7_truest 101 = .ok (.isub, 1) := by decide +kernel
theorem dX7_truest_102 : decode cX7_truest 102 = .ok (.istore 5, 2) := by decide +kernel
theorem dX7_truest_104 : decode cX7_truest 104 = .ok (.iload 5, 2) := by decide +kernel
theorem dX7_truest_106 : decode cX7_truest 106 = .ok (.ifCond .gt 14, 3) := by decide +kernel
theorem dX7_truest_109 : decode cX7_truest 109 = .ok (.iload 5, 2) := by decide +kernel
theorem dX7_truest_111 : decode cX7_truest 111 = .ok (.ifCond .ne 13, 3) := by decide +kernel
theorem dX7_truest_114 : decode cX7_truest 114 = .ok (.iload_n 3, 1) := by decide +kernel
theorem dX7_truest_115 : decode cX7_truest 115 = .ok (.iload 4, 2) := by decide +kernel
theorem dX7_truest_117 : decode cX7_truest 117 = .ok (.if_icmp .le 7, 3) := by decide +kernel
theorem dX7_truest_120 : decode cX7_truest 120 = .ok (.iload_n 2, 1) := by decide +kernel
theorem dX7_truest_121 : decode cX7_truest 121 = .ok (.goto 4, 3) := by decide +kernel
theorem dX7_truest_124 : decode cX7_truest 124 = .ok (.iload_n 1, 1) := by decide +kernel
theorem dX7_truest_125 : decode cX7_truest 125 = .ok (.istore_n 1, 1) := by decide +kernel
theorem dX7_truest_126 : decode cX7_truest 126 = .ok (.iinc 2 1, 3) := by decide +kernel
theorem dX7_truest_129 : decode cX7_truest 129 = .ok (.goto (-120), 3) := by decide +kernel
theorem dX7_truest_132 : decode cX7_truest 132 = .ok (.iload_n 1, 1) := by decide +kernel
theorem dX7_truest_133 : decode cX7_truest 133 = .ok (.ireturn, 1) := by decide +kernel
theorem dX7_commandSteeple_0 : decode cX7_commandSteeple 0 = .ok (.iload_n 1, 1) := by decide +kernel
theorem dX7_commandSteeple_1 : decode cX7_commandSteeple 1 = .ok (.lookupswitch 134 #[(1, 35), (5, 83), (6, 111)], 35) := by decide +kernel
theorem dX7_commandSteeple_36 : decode cX7_commandSteeple 36 = .ok (.iload_n 3, 1) := by decide +kernel
theorem dX7_commandSteeple_37 : decode cX7_commandSteeple 37 = .ok (.invokestatic 173, 3) := by decide +kernel
theorem dX7_commandSteeple_40 : decode cX7_commandSteeple 40 = .ok (.ifCond .eq 42, 3) := by decide +kernel
theorem dX7_commandSteeple_43 : decode cX7_commandSteeple 43 = .ok (.iload 4, 2) := by decide +kernel
theorem dX7_commandSteeple_45 : decode cX7_commandSteeple 45 = .ok (.ifCond .le 37, 3) := by decide +kernel
theorem dX7_commandSteeple_48 : decode cX7_commandSteeple 48 = .ok (.aload_n 0, 1) := by decide +kernel
theorem dX7_commandSteeple_49 : decode cX7_commandSteeple 49 = .ok (.getfield 16, 3) := by decide +kernel
theorem dX7_commandSteeple_52 : decode cX7_commandSteeple 52 = .ok (.iconst 0, 1) := by decide +kernel
theorem dX7_commandSteeple_53 : decode cX7_commandSteeple 53 = .ok (.iaload, 1) := by decide +kernel
theorem dX7_commandSteeple_54 : decode cX7_commandSteeple 54 = .ok (.bipush 16, 2) := by decide +kernel
theorem dX7_commandSteeple_56 : decode cX7_commandSteeple 56 = .ok (.if_icmp .ge 26, 3) := by decide +kernel
theorem dX7_commandSteeple_59 : decode cX7_commandSteeple 59 = .ok (.aload_n 0, 1) := by decide +kernel
theorem dX7_commandSteeple_60 : decode cX7_commandSteeple 60 = .ok (.getfield 16, 3) := by decide +kernel
theorem dX7_commandSteeple_63 : decode cX7_commandSteeple 63 = .ok (.iload_n 2, 1) := by decide +kernel
theorem dX7_commandSteeple_64 : decode cX7_commandSteeple 64 = .ok (.iload_n 3, 1) := by decide +kernel
theorem dX7_commandSteeple_65 : decode cX7_commandSteeple 65 = .ok (.iconst 2, 1) := by decide +kernel
theorem dX7_commandSteeple_66 : decode cX7_commandSteeple 66 = .ok (.iload 4, 2) := by decide +kernel
theorem dX7_commandSteeple_68 : decode cX7_commandSteeple 68 = .ok (.iload 4, 2) := by decide +kernel
theorem dX7_commandSteeple_70 : decode cX7_commandSteeple 70 = .ok (.iconst 0, 1) := by decide +kernel
theorem dX7_commandSteeple_71 : decode cX7_commandSteeple 71 = .ok (.iconst 0, 1) := by decide +kernel
theorem dX7_commandSteeple_72 : decode cX7_commandSteeple 72 = .ok (.invokestatic 123, 3) := by decide +kernel
theorem dX7_commandSteeple_75 : decode cX7_commandSteeple 75 = .ok (.ifCond .lt 7, 3) := by decide +kernel
theorem dX7_commandSteeple_78 : decode cX7_commandSteeple 78 = .ok (.iconst 1, 1) := by decide +kernel
theorem dX7_commandSteeple_79 : decode cX7_commandSteeple 79 = .ok (.goto 4, 3) := by decide +kernel
theorem dX7_commandSteeple_82 : decode cX7_commandSteeple 82 = .ok (.iconst 0, 1) := by decide +kernel
theorem dX7_commandSteeple_83 : decode cX7_commandSteeple 83 = .ok (.ireturn, 1) := by decide +kernel
theorem dX7_commandSteeple_84 : decode cX7_commandSteeple 84 = .ok (.iload_n 3, 1) := by decide +kernel
theorem dX7_commandSteeple_85 : decode cX7_commandSteeple 85 = .ok (.ifCond .ne 25, 3) := by decide +kernel
theorem dX7_commandSteeple_88 : decode cX7_commandSteeple 88 = .ok (.iload 4, 2) := by decide +kernel
theorem dX7_commandSteeple_90 : decode cX7_commandSteeple 90 = .ok (.ifCond .le 20, 3) := by decide +kernel
theorem dX7_commandSteeple_93 : decode cX7_commandSteeple 93 = .ok (.aload_n 0, 1) := by decide +kernel
theorem dX7_commandSteeple_94 : decode cX7_commandSteeple 94 = .ok (.getfield 16, 3) := by decide +kernel
theorem dX7_commandSteeple_97 : decode cX7_commandSteeple 97 = .ok (.iload_n 2, 1) := by decide +kernel
theorem dX7_commandSteeple_98 : decode cX7_commandSteeple 98 = .ok (.iload 4, 2) := by decide +kernel
theorem dX7_commandSteeple_100 : decode cX7_commandSteeple 100 = .ok (.invokestatic 145, 3) := by decide +kernel
theorem dX7_commandSteeple_103 : decode cX7_commandSteeple 103 = .ok (.ifCond .lt 7, 3) := by decide +kernel
theorem dX7_commandSteeple_106 : decode cX7_commandSteeple 106 = .ok (.iconst 1, 1) := by decide +kernel
theorem dX7_commandSteeple_107 : decode cX7_commandSteeple 107 = .ok (.goto 4, 3) := by decide +kernel
theorem dX7_commandSteeple_110 : decode cX7_commandSteeple 110 = .ok (.iconst 0, 1) := by decide +kernel
theorem dX7_commandSteeple_111 : decode cX7_commandSteeple 111 = .ok (.ireturn, 1) := by decide +kernel
theorem dX7_commandSteeple_112 : decode cX7_commandSteeple 112 = .ok (.iload_n 3, 1) := by decide +kernel
theorem dX7_commandSteeple_113 : decode cX7_commandSteeple 113 = .ok (.ifCond .ne 20, 3) := by decide +kernel
theorem dX7_commandSteeple_116 : decode cX7_commandSteeple 116 = .ok (.aload_n 0, 1) := by decide +kernel
theorem dX7_commandSteeple_117 : decode cX7_commandSteeple 117 = .ok (.getfield 16, 3) := by decide +kernel
theorem dX7_commandSteeple_120 : decode cX7_commandSteeple 120 = .ok (.iload_n 2, 1) := by decide +kernel
theorem dX7_commandSteeple_121 : decode cX7_commandSteeple 121 = .ok (.invokestatic 90, 3) := by decide +kernel
theorem dX7_commandSteeple_124 : decode cX7_commandSteeple 124 = .ok (.iload 4, 2) := by decide +kernel
theorem dX7_commandSteeple_126 : decode cX7_commandSteeple 126 = .ok (.if_icmp .gt 7, 3) := by decide +kernel
theorem dX7_commandSteeple_129 : decode cX7_commandSteeple 129 = .ok (.iconst 1, 1) := by decide +kernel
theorem dX7_commandSteeple_130 : decode cX7_commandSteeple 130 = .ok (.goto 4, 3) := by decide +kernel
theorem dX7_commandSteeple_133 : decode cX7_commandSteeple 133 = .ok (.iconst 0, 1) := by decide +kernel
theorem dX7_commandSteeple_134 : decode cX7_commandSteeple 134 = .ok (.ireturn, 1) := by decide +kernel
theorem dX7_commandSteeple_135 : decode cX7_commandSteeple 135 = .ok (.iload 4, 2) := by decide +kernel
theorem dX7_commandSteeple_137 : decode cX7_commandSteeple 137 = .ok (.bipush 100, 2) := by decide +kernel
theorem dX7_commandSteeple_139 : decode cX7_commandSteeple 139 = .ok (.irem, 1) := by decide +kernel
theorem dX7_commandSteeple_140 : decode cX7_commandSteeple 140 = .ok (.ifCond .ne 29, 3) := by decide +kernel
theorem dX7_commandSteeple_143 : decode cX7_commandSteeple 143 = .ok (.aload_n 0, 1) := by decide +kernel
theorem dX7_commandSteeple_144 : decode cX7_commandSteeple 144 = .ok (.getfield 16, 3) := by decide +kernel
theorem dX7_commandSteeple_147 : decode cX7_commandSteeple 147 = .ok (.iload_n 2, 1) := by decide +kernel
theorem dX7_commandSteeple_148 : decode cX7_commandSteeple 148 = .ok (.iconst 2, 1) := by decide +kernel
theorem dX7_commandSteeple_149 : decode cX7_commandSteeple 149 = .ok (.invokestatic 181, 3) := by decide +kernel
theorem dX7_commandSteeple_152 : decode cX7_commandSteeple 152 = .ok (.bipush 10, 2) := by decide +kernel
theorem dX7_commandSteeple_154 : decode cX7_commandSteeple 154 = .ok (.iload_n 3, 1) := by decide +kernel
theorem dX7_commandSteeple_155 : decode cX7_commandSteeple 155 = .ok (.imul, 1) := by decide +kernel
theorem dX7_commandSteeple_156 : decode cX7_commandSteeple 156 = .ok (.iload 4, 2) := by decide +kernel
theorem dX7_commandSteeple_158 : decode cX7_commandSteeple 158 = .ok (.bipush 100, 2) := by decide +kernel
theorem dX7_commandSteeple_160 : decode cX7_commandSteeple 160 = .ok (.idiv, 1) := by decide +kernel
theorem dX7_commandSteeple_161 : decode cX7_commandSteeple 161 = .ok (.iadd, 1) := by decide +kernel
theorem dX7_commandSteeple_162 : decode cX7_commandSteeple 162 = .ok (.if_icmp .lt 7, 3) := by decide +kernel
theorem dX7_commandSteeple_165 : decode cX7_commandSteeple 165 = .ok (.iconst 1, 1) := by decide +kernel
theorem dX7_commandSteeple_166 : decode cX7_commandSteeple 166 = .ok (.goto 4, 3) := by decide +kernel
theorem dX7_commandSteeple_169 : decode cX7_commandSteeple 169 = .ok (.iconst 0, 1) := by decide +kernel
theorem dX7_commandSteeple_170 : decode cX7_commandSteeple 170 = .ok (.ireturn, 1) := by decide +kernel
theorem dX7_command_0 : decode cX7_command 0 = .ok (.iload_n 2, 1) := by decide +kernel
theorem dX7_command_1 : decode cX7_command 1 = .ok (.sipush 10000, 3) := by decide +kernel
theorem dX7_command_4 : decode cX7_command 4 = .ok (.idiv, 1) := by decide +kernel
theorem dX7_command_5 : decode cX7_command 5 = .ok (.istore_n 3, 1) := by decide +kernel
theorem dX7_command_6 : decode cX7_command 6 = .ok (.iload_n 2, 1) := by decide +kernel
theorem dX7_command_7 : decode cX7_command 7 = .ok (.bipush 10, 2) := by decide +kernel
theorem dX7_command_9 : decode cX7_command 9 = .ok (.irem, 1) := by decide +kernel
theorem dX7_command_10 : decode cX7_command 10 = .ok (.istore 4, 2) := by decide +kernel
theorem dX7_command_12 : decode cX7_command 12 = .ok (.iload_n 1, 1) := by decide +kernel
theorem dX7_command_13 : decode cX7_command 13 = .ok (.tableswitch 268 1 9 #[51, 86, 130, 166, 51, 51, 51, 207, 244], 51) := by decide +kernel
theorem dX7_command_64 : decode cX7_command 64 = .ok (.iload_n 3, 1) := by decide +kernel
theorem dX7_command_65 : decode cX7_command 65 = .ok (.invokestatic 178, 3) := by decide +kernel
theorem dX7_command_68 : decode cX7_command 68 = .ok (.ifCond .eq 29, 3) := by decide +kernel
theorem dX7_command_71 : decode cX7_command 71 = .ok (.aload_n 0, 1) := by decide +kernel
theorem dX7_command_72 : decode cX7_command 72 = .ok (.iload_n 1, 1) := by decide +kernel
theorem dX7_command_73 : decode cX7_command 73 = .ok (.iload_n 3, 1) := by decide +kernel
theorem dX7_command_74 : decode cX7_command 74 = .ok (.iload_n 2, 1) := by decide +kernel
theorem dX7_command_75 : decode cX7_command 75 = .ok (.sipush 1000, 3) := by decide +kernel
theorem dX7_command_78 : decode cX7_command 78 = .ok (.idiv, 1) := by decide +kernel
theorem dX7_command_79 : decode cX7_command 79 = .ok (.bipush 10, 2) := by decide +kernel
theorem dX7_command_81 : decode cX7_command 81 = .ok (.irem, 1) := by decide +kernel
theorem dX7_command_82 : decode cX7_command 82 = .ok (.iload_n 2, 1) := by decide +kernel
theorem dX7_command_83 : decode cX7_command 83 = .ok (.sipush 1000, 3) := by decide +kernel
theorem dX7_command_86 : decode cX7_command 86 = .ok (.irem, 1) := by decide +kernel
theorem dX7_command_87 : decode cX7_command 87 = .ok (.invokevirtual 200, 3) := by decide +kernel
theorem dX7_command_90 : decode cX7_command 90 = .ok (.ifCond .eq 7, 3) := by decide +kernel
theorem dX7_command_93 : decode cX7_command 93 = .ok (.iconst 1, 1) := by decide +kernel
theorem dX7_command_94 : decode cX7_command 94 = .ok (.goto 4, 3) := by decide +kernel
theorem dX7_command_97 : decode cX7_command 97 = .ok (.iconst 0, 1) := by decide +kernel
theorem dX7_command_98 : decode cX7_command 98 = .ok (.ireturn, 1) := by decide +kernel
theorem dX7_command_99 : decode cX7_command 99 = .ok (.iload_n 2, 1) := by decide +kernel
theorem dX7_command_100 : decode cX7_command 100 = .ok (.sipush 1000, 3) := by decide +kernel
theorem dX7_command_103 : decode cX7_command 103 = .ok (.irem, 1) := by decide +kernel
theorem dX7_command_104 : decode cX7_command 104 = .ok (.ifCond .ne 37, 3) := by decide +kernel
theorem dX7_command_107 : decode cX7_command 107 = .ok (.aload_n 0, 1) := by decide +kernel
theorem dX7_command_108 : decode cX7_command 108 = .ok (.getfield 16, 3) := by decide +kernel
theorem dX7_command_111 : decode cX7_command 111 = .ok (.iload_n 2, 1) := by decide +kernel
theorem dX7_command_112 : decode cX7_command 112 = .ok (.sipush 1000, 3) := by decide +kernel
theorem dX7_command_115 : decode cX7_command 115 = .ok (.idiv, 1) := by decide +kernel
theorem dX7_command_116 : decode cX7_command 116 = .ok (.invokestatic 135, 3) := by decide +kernel
theorem dX7_command_119 : decode cX7_command 119 = .ok (.ifCond .eq 22, 3) := by decide +kernel
theorem dX7_command_122 : decode cX7_command 122 = .ok (.aload_n 0, 1) := by decide +kernel
theorem dX7_command_123 : decode cX7_command 123 = .ok (.getfield 16, 3) := by decide +kernel
theorem dX7_command_126 : decode cX7_command 126 = .ok (.iload_n 2, 1) := by decide +kernel
theorem dX7_command_127 : decode cX7_command 127 = .ok (.sipush 1000, 3) := by decide +kernel
theorem dX7_command_130 : decode cX7_command 130 = .ok (.idiv, 1) := by decide +kernel
theorem dX7_command_131 : decode cX7_command 131 = .ok (.invokestatic 97, 3) := by decide +kernel
theorem dX7_command_134 : decode cX7_command 134 = .ok (.ifCond .lt 7, 3) := by decide +kernel
theorem dX7_command_137 : decode cX7_command 137 = .ok (.iconst 1, 1) := by decide +kernel
theorem dX7_command_138 : decode cX7_command 138 = .ok (.goto 4, 3) := by decide +kernel
theorem dX7_command_141 : decode cX7_command 141 = .ok (.iconst 0, 1) := by decide +kernel
theorem dX7_command_142 : decode cX7_command 142 = .ok (.ireturn, 1) := by decide +kernel
theorem dX7_command_143 : decode cX7_command 143 = .ok (.iload_n 2, 1) := by decide +kernel
theorem dX7_command_144 : decode cX7_command 144 = .ok (.sipush 10000, 3) := by decide +kernel
theorem dX7_command_147 : decode cX7_command 147 = .ok (.irem, 1) := by decide +kernel
theorem dX7_command_148 : decode cX7_command 148 = .ok (.bipush 10, 2) := by decide +kernel
theorem dX7_command_150 : decode cX7_command 150 = .ok (.if_icmp .ge 27, 3) := by decide +kernel
theorem dX7_command_153 : decode cX7_command 153 = .ok (.iload_n 3, 1) := by decide +kernel
theorem dX7_command_154 : decode cX7_command 154 = .ok (.invokestatic 173, 3) := by decide +kernel
theorem dX7_command_157 : decode cX7_command 157 = .ok (.ifCond .eq 20, 3) := by decide +kernel
theorem dX7_command_160 : decode cX7_command 160 = .ok (.aload_n 0, 1) := by decide +kernel
theorem dX7_command_161 : decode cX7_command 161 = .ok (.getfield 16, 3) := by decide +kernel
theorem dX7_command_164 : decode cX7_command 164 = .ok (.iload_n 3, 1) := by decide +kernel
theorem dX7_command_165 : decode cX7_command 165 = .ok (.iload 4, 2) := by decide +kernel
theorem dX7_command_167 : decode cX7_command 167 = .ok (.invokestatic 138, 3) := by decide +kernel
theorem dX7_command_170 : decode cX7_command 170 = .ok (.ifCond .lt 7, 3) := by decide +kernel
theorem dX7_command_173 : decode cX7_command 173 = .ok (.iconst 1, 1) := by decide +kernel
theorem dX7_command_174 : decode cX7_command 174 = .ok (.goto 4, 3) := by decide +kernel
theorem dX7_command_177 : decode cX7_command 177 = .ok (.iconst 0, 1) := by decide +kernel
theorem dX7_command_178 : decode cX7_command 178 = .ok (.ireturn, 1) := by decide +kernel
theorem dX7_command_179 : decode cX7_command 179 = .ok (.iconst 0, 1) := by decide +kernel
theorem dX7_command_180 : decode cX7_command 180 = .ok (.istore 5, 2) := by decide +kernel
theorem dX7_command_182 : decode cX7_command 182 = .ok (.iload 5, 2) := by decide +kernel
theorem dX7_command_184 : decode cX7_command 184 = .ok (.iload_n 2, 1) := by decide +kernel
theorem dX7_command_185 : decode cX7_command 185 = .ok (.if_icmp .ge 23, 3) := by decide +kernel
theorem dX7_command_188 : decode cX7_command 188 = .ok (.iload_n 2, 1) := by decide +kernel
theorem dX7_command_189 : decode cX7_command 189 = .ok (.bipush 10, 2) := by decide +kernel
theorem dX7_command_191 : decode cX7_command 191 = .ok (.if_icmp .ge 17, 3) := by decide +kernel
theorem dX7_command_194 : decode cX7_command 194 = .ok (.aload_n 0, 1) := by decide +kernel
theorem dX7_command_195 : decode cX7_command 195 = .ok (.getfield 16, 3) := by decide +kernel
theorem dX7_command_198 : decode cX7_command 198 = .ok (.invokestatic 141, 3) := by decide +kernel
theorem dX7_command_201 : decode cX7_command 201 = .ok (.pop, 1) := by decide +kernel
theorem dX7_command_202 : decode cX7_command 202 = .ok (.iinc 5 1, 3) := by decide +kernel
theorem dX7_command_205 : decode cX7_command 205 = .ok (.goto (-23), 3) := by decide +kernel
theorem dX7_command_208 : decode cX7_command 208 = .ok (.iload_n 2, 1) := by decide +kernel
theorem dX7_command_209 : decode cX7_command 209 = .ok (.bipush 10, 2) := by decide +kernel
theorem dX7_command_211 : decode cX7_command 211 = .ok (.if_icmp .ge 7, 3) := by decide +kernel
theorem dX7_command_214 : decode cX7_command 214 = .ok (.iconst 1, 1) := by decide +kernel
theorem dX7_command_215 : decode cX7_command 215 = .ok (.goto 4, 3) := by decide +kernel
theorem dX7_command_218 : decode cX7_command 218 = .ok (.iconst 0, 1) := by decide +kernel
theorem dX7_command_219 : decode cX7_command 219 = .ok (.ireturn, 1) := by decide +kernel
end
section
theorem dX7_command_220 : decode cX7_command 220 = .ok (.iload_n 2, 1) := by decide +kernel
theorem dX7_command_221 : decode cX7_command 221 = .ok (.sipush 10000, 3) := by decide +kernel
theorem dX7_command_224 : decode cX7_command 224 = .ok (.irem, 1) := by decide +kernel
theorem dX7_command_225 : decode cX7_command 225 = .ok (.bipush 10, 2) := by decide +kernel
theorem dX7_command_227 : decode cX7_command 227 = .ok (.if_icmp .ge 28, 3) := by decide +kernel
theorem dX7_command_230 : decode cX7_command 230 = .ok (.iload_n 3, 1) := by decide +kernel
theorem dX7_command_231 : decode cX7_command 231 = .ok (.invokestatic 173, 3) := by decide +kernel
theorem dX7_command_234 : decode cX7_command 234 = .ok (.ifCond .eq 21, 3) := by decide +kernel
theorem dX7_command_237 : decode cX7_command 237 = .ok (.aload_n 0, 1) := by decide +kernel
theorem dX7_command_238 : decode cX7_command 238 = .ok (.getfield 16, 3) := by decide +kernel
theorem dX7_command_241 : decode cX7_command 241 = .ok (.bipush 9, 2) := by decide +kernel
theorem dX7_command_243 : decode cX7_command 243 = .ok (.iload_n 3, 1) := by decide +kernel
theorem dX7_command_244 : decode cX7_command 244 = .ok (.iadd, 1) := by decide +kernel
theorem dX7_command_245 : decode cX7_command 245 = .ok (.iaload, 1) := by decide +kernel
theorem dX7_command_246 : decode cX7_command 246 = .ok (.iload 4, 2) := by decide +kernel
theorem dX7_command_248 : decode cX7_command 248 = .ok (.if_icmp .lt 7, 3) := by decide +kernel
theorem dX7_command_251 : decode cX7_command 251 = .ok (.iconst 1, 1) := by decide +kernel
theorem dX7_command_252 : decode cX7_command 252 = .ok (.goto 4, 3) := by decide +kernel
theorem dX7_command_255 : decode cX7_command 255 = .ok (.iconst 0, 1) := by decide +kernel
theorem dX7_command_256 : decode cX7_command 256 = .ok (.ireturn, 1) := by decide +kernel
theorem dX7_command_257 : decode cX7_command 257 = .ok (.iload_n 2, 1) := by decide +kernel
theorem dX7_command_258 : decode cX7_command 258 = .ok (.bipush 100, 2) := by decide +kernel
theorem dX7_command_260 : decode cX7_command 260 = .ok (.if_icmp .ge 19, 3) := by decide +kernel
theorem dX7_command_263 : decode cX7_command 263 = .ok (.aload_n 0, 1) := by decide +kernel
theorem dX7_command_264 : decode cX7_command 264 = .ok (.getfield 16, 3) := by decide +kernel
theorem dX7_command_267 : decode cX7_command 267 = .ok (.iconst 0, 1) := by decide +kernel
theorem dX7_command_268 : decode cX7_command 268 = .ok (.invokestatic 162, 3) := by decide +kernel
theorem dX7_command_271 : decode cX7_command 271 = .ok (.iload_n 2, 1) := by decide +kernel
theorem dX7_command_272 : decode cX7_command 272 = .ok (.if_icmp .gt 7, 3) := by decide +kernel
theorem dX7_command_275 : decode cX7_command 275 = .ok (.iconst 1, 1) := by decide +kernel
theorem dX7_command_276 : decode cX7_command 276 = .ok (.goto 4, 3) := by decide +kernel
theorem dX7_command_279 : decode cX7_command 279 = .ok (.iconst 0, 1) := by decide +kernel
theorem dX7_command_280 : decode cX7_command 280 = .ok (.ireturn, 1) := by decide +kernel
theorem dX7_command_281 : decode cX7_command 281 = .ok (.iconst 0, 1) := by decide +kernel
theorem dX7_command_282 : decode cX7_command 282 = .ok (.ireturn, 1) := by decide +kernel
theorem dX7_runScript_0 : decode cX7_runScript 0 = .ok (.lconst 1, 1) := by decide +kernel
theorem dX7_runScript_1 : decode cX7_runScript 1 = .ok (.lstore 4, 2) := by decide +kernel
theorem dX7_runScript_3 : decode cX7_runScript 3 = .ok (.iconst 0, 1) := by decide +kernel
theorem dX7_runScript_4 : decode cX7_runScript 4 = .ok (.istore 6, 2) := by decide +kernel
theorem dX7_runScript_6 : decode cX7_runScript 6 = .ok (.iload 6, 2) := by decide +kernel
theorem dX7_runScript_8 : decode cX7_runScript 8 = .ok (.iload_n 1, 1) := by decide +kernel
theorem dX7_runScript_9 : decode cX7_runScript 9 = .ok (.if_icmp .ge 23, 3) := by decide +kernel
theorem dX7_runScript_12 : decode cX7_runScript 12 = .ok (.iload 6, 2) := by decide +kernel
theorem dX7_runScript_14 : decode cX7_runScript 14 = .ok (.iconst 3, 1) := by decide +kernel
theorem dX7_runScript_15 : decode cX7_runScript 15 = .ok (.if_icmp .ge 17, 3) := by decide +kernel
theorem dX7_runScript_18 : decode cX7_runScript 18 = .ok (.lload 4, 2) := by decide +kernel
theorem dX7_runScript_20 : decode cX7_runScript 20 = .ok (.ldc2_w 204, 3) := by decide +kernel
theorem dX7_runScript_23 : decode cX7_runScript 23 = .ok (.lmul, 1) := by decide +kernel
theorem dX7_runScript_24 : decode cX7_runScript 24 = .ok (.lstore 4, 2) := by decide +kernel
theorem dX7_runScript_26 : decode cX7_runScript 26 = .ok (.iinc 6 1, 3) := by decide +kernel
theorem dX7_runScript_29 : decode cX7_runScript 29 = .ok (.goto (-23), 3) := by decide +kernel
theorem dX7_runScript_32 : decode cX7_runScript 32 = .ok (.aload_n 0, 1) := by decide +kernel
theorem dX7_runScript_33 : decode cX7_runScript 33 = .ok (.iload_n 1, 1) := by decide +kernel
theorem dX7_runScript_34 : decode cX7_runScript 34 = .ok (.i2l, 1) := by decide +kernel
theorem dX7_runScript_35 : decode cX7_runScript 35 = .ok (.lconst 1, 1) := by decide +kernel
theorem dX7_runScript_36 : decode cX7_runScript 36 = .ok (.ldc2_w 206, 3) := by decide +kernel
theorem dX7_runScript_39 : decode cX7_runScript 39 = .ok (.invokestatic 37, 3) := by decide +kernel
theorem dX7_runScript_42 : decode cX7_runScript 42 = .ok (.ifCond .eq 19, 3) := by decide +kernel
theorem dX7_runScript_45 : decode cX7_runScript 45 = .ok (.lload_n 2, 1) := by decide +kernel
theorem dX7_runScript_46 : decode cX7_runScript 46 = .ok (.lconst 0, 1) := by decide +kernel
theorem dX7_runScript_47 : decode cX7_runScript 47 = .ok (.lload 4, 2) := by decide +kernel
theorem dX7_runScript_49 : decode cX7_runScript 49 = .ok (.lconst 1, 1) := by decide +kernel
theorem dX7_runScript_50 : decode cX7_runScript 50 = .ok (.lsub, 1) := by decide +kernel
theorem dX7_runScript_51 : decode cX7_runScript 51 = .ok (.invokestatic 37, 3) := by decide +kernel
theorem dX7_runScript_54 : decode cX7_runScript 54 = .ok (.ifCond .eq 7, 3) := by decide +kernel
theorem dX7_runScript_57 : decode cX7_runScript 57 = .ok (.iconst 0, 1) := by decide +kernel
theorem dX7_runScript_58 : decode cX7_runScript 58 = .ok (.goto 4, 3) := by decide +kernel
theorem dX7_runScript_61 : decode cX7_runScript 61 = .ok (.iconst 1, 1) := by decide +kernel
theorem dX7_runScript_62 : decode cX7_runScript 62 = .ok (.invokevirtual 105, 3) := by decide +kernel
theorem dX7_runScript_65 : decode cX7_runScript 65 = .ok (.ifCond .eq 5, 3) := by decide +kernel
theorem dX7_runScript_68 : decode cX7_runScript 68 = .ok (.iconst 0, 1) := by decide +kernel
theorem dX7_runScript_69 : decode cX7_runScript 69 = .ok (.ireturn, 1) := by decide +kernel
theorem dX7_runScript_70 : decode cX7_runScript 70 = .ok (.aload_n 0, 1) := by decide +kernel
theorem dX7_runScript_71 : decode cX7_runScript 71 = .ok (.getfield 13, 3) := by decide +kernel
theorem dX7_runScript_74 : decode cX7_runScript 74 = .ok (.iconst 0, 1) := by decide +kernel
theorem dX7_runScript_75 : decode cX7_runScript 75 = .ok (.aload_n 0, 1) := by decide +kernel
theorem dX7_runScript_76 : decode cX7_runScript 76 = .ok (.getfield 16, 3) := by decide +kernel
theorem dX7_runScript_79 : decode cX7_runScript 79 = .ok (.iconst 0, 1) := by decide +kernel
theorem dX7_runScript_80 : decode cX7_runScript 80 = .ok (.invokestatic 155, 3) := by decide +kernel
theorem dX7_runScript_83 : decode cX7_runScript 83 = .ok (.iconst 0, 1) := by decide +kernel
theorem dX7_runScript_84 : decode cX7_runScript 84 = .ok (.istore 6, 2) := by decide +kernel
theorem dX7_runScript_86 : decode cX7_runScript 86 = .ok (.iload 6, 2) := by decide +kernel
theorem dX7_runScript_88 : decode cX7_runScript 88 = .ok (.iload_n 1, 1) := by decide +kernel
theorem dX7_runScript_89 : decode cX7_runScript 89 = .ok (.if_icmp .ge 48, 3) := by decide +kernel
theorem dX7_runScript_92 : decode cX7_runScript 92 = .ok (.lload 4, 2) := by decide +kernel
theorem dX7_runScript_94 : decode cX7_runScript 94 = .ok (.ldc2_w 204, 3) := by decide +kernel
theorem dX7_runScript_97 : decode cX7_runScript 97 = .ok (.ldiv, 1) := by decide +kernel
theorem dX7_runScript_98 : decode cX7_runScript 98 = .ok (.lstore 4, 2) := by decide +kernel
theorem dX7_runScript_100 : decode cX7_runScript 100 = .ok (.lload_n 2, 1) := by decide +kernel
theorem dX7_runScript_101 : decode cX7_runScript 101 = .ok (.lload 4, 2) := by decide +kernel
theorem dX7_runScript_103 : decode cX7_runScript 103 = .ok (.ldiv, 1) := by decide +kernel
theorem dX7_runScript_104 : decode cX7_runScript 104 = .ok (.ldc2_w 204, 3) := by decide +kernel
theorem dX7_runScript_107 : decode cX7_runScript 107 = .ok (.lrem, 1) := by decide +kernel
theorem dX7_runScript_108 : decode cX7_runScript 108 = .ok (.l2i, 1) := by decide +kernel
theorem dX7_runScript_109 : decode cX7_runScript 109 = .ok (.istore 7, 2) := by decide +kernel
theorem dX7_runScript_111 : decode cX7_runScript 111 = .ok (.aload_n 0, 1) := by decide +kernel
theorem dX7_runScript_112 : decode cX7_runScript 112 = .ok (.iload 7, 2) := by decide +kernel
theorem dX7_runScript_114 : decode cX7_runScript 114 = .ok (.ldc 208, 2) := by decide +kernel
theorem dX7_runScript_116 : decode cX7_runScript 116 = .ok (.idiv, 1) := by decide +kernel
theorem dX7_runScript_117 : decode cX7_runScript 117 = .ok (.iload 7, 2) := by decide +kernel
theorem dX7_runScript_119 : decode cX7_runScript 119 = .ok (.ldc 208, 2) := by decide +kernel
theorem dX7_runScript_121 : decode cX7_runScript 121 = .ok (.irem, 1) := by decide +kernel
theorem dX7_runScript_122 : decode cX7_runScript 122 = .ok (.invokevirtual 209, 3) := by decide +kernel
theorem dX7_runScript_125 : decode cX7_runScript 125 = .ok (.ifCond .ne 6, 3) := by decide +kernel
theorem dX7_runScript_128 : decode cX7_runScript 128 = .ok (.iload 6, 2) := by decide +kernel
theorem dX7_runScript_130 : decode cX7_runScript 130 = .ok (.ireturn, 1) := by decide +kernel
theorem dX7_runScript_131 : decode cX7_runScript 131 = .ok (.iinc 6 1, 3) := by decide +kernel
theorem dX7_runScript_134 : decode cX7_runScript 134 = .ok (.goto (-48), 3) := by decide +kernel
theorem dX7_runScript_137 : decode cX7_runScript 137 = .ok (.iconst (-1), 1) := by decide +kernel
theorem dX7_runScript_138 : decode cX7_runScript 138 = .ok (.ireturn, 1) := by decide +kernel
theorem dX7_turnOf_0 : decode cX7_turnOf 0 = .ok (.iload_n 2, 1) := by decide +kernel
theorem dX7_turnOf_1 : decode cX7_turnOf 1 = .ok (.iconst 3, 1) := by decide +kernel
theorem dX7_turnOf_2 : decode cX7_turnOf 2 = .ok (.irem, 1) := by decide +kernel
theorem dX7_turnOf_3 : decode cX7_turnOf 3 = .ok (.istore_n 3, 1) := by decide +kernel
theorem dX7_turnOf_4 : decode cX7_turnOf 4 = .ok (.iload_n 2, 1) := by decide +kernel
theorem dX7_turnOf_5 : decode cX7_turnOf 5 = .ok (.iconst 4, 1) := by decide +kernel
theorem dX7_turnOf_6 : decode cX7_turnOf 6 = .ok (.idiv, 1) := by decide +kernel
theorem dX7_turnOf_7 : decode cX7_turnOf 7 = .ok (.bipush 6, 2) := by decide +kernel
theorem dX7_turnOf_9 : decode cX7_turnOf 9 = .ok (.irem, 1) := by decide +kernel
theorem dX7_turnOf_10 : decode cX7_turnOf 10 = .ok (.istore 4, 2) := by decide +kernel
theorem dX7_turnOf_12 : decode cX7_turnOf 12 = .ok (.iload_n 1, 1) := by decide +kernel
theorem dX7_turnOf_13 : decode cX7_turnOf 13 = .ok (.bipush 9, 2) := by decide +kernel
theorem dX7_turnOf_15 : decode cX7_turnOf 15 = .ok (.if_icmp .ge 181, 3) := by decide +kernel
theorem dX7_turnOf_18 : decode cX7_turnOf 18 = .ok (.iload_n 1, 1) := by decide +kernel
theorem dX7_turnOf_19 : decode cX7_turnOf 19 = .ok (.iconst 4, 1) := by decide +kernel
theorem dX7_turnOf_20 : decode cX7_turnOf 20 = .ok (.if_icmp .ge 15, 3) := by decide +kernel
theorem dX7_turnOf_23 : decode cX7_turnOf 23 = .ok (.iconst 1, 1) := by decide +kernel
theorem dX7_turnOf_24 : decode cX7_turnOf 24 = .ok (.iload_n 2, 1) := by decide +kernel
theorem dX7_turnOf_25 : decode cX7_turnOf 25 = .ok (.bipush 32, 2) := by decide +kernel
theorem dX7_turnOf_27 : decode cX7_turnOf 27 = .ok (.idiv, 1) := by decide +kernel
theorem dX7_turnOf_28 : decode cX7_turnOf 28 = .ok (.bipush 20, 2) := by decide +kernel
theorem dX7_turnOf_30 : decode cX7_turnOf 30 = .ok (.irem, 1) := by decide +kernel
theorem dX7_turnOf_31 : decode cX7_turnOf 31 = .ok (.iadd, 1) := by decide +kernel
theorem dX7_turnOf_32 : decode cX7_turnOf 32 = .ok (.goto 31, 3) := by decide +kernel
theorem dX7_turnOf_35 : decode cX7_turnOf 35 = .ok (.iload_n 1, 1) := by decide +kernel
theorem dX7_turnOf_36 : decode cX7_turnOf 36 = .ok (.bipush 6, 2) := by decide +kernel
theorem dX7_turnOf_38 : decode cX7_turnOf 38 = .ok (.if_icmp .ge 15, 3) := by decide +kernel
theorem dX7_turnOf_41 : decode cX7_turnOf 41 = .ok (.iconst 1, 1) := by decide +kernel
theorem dX7_turnOf_42 : decode cX7_turnOf 42 = .ok (.iload_n 2, 1) := by decide +kernel
theorem dX7_turnOf_43 : decode cX7_turnOf 43 = .ok (.bipush 32, 2) := by decide +kernel
theorem dX7_turnOf_45 : decode cX7_turnOf 45 = .ok (.idiv, 1) := by decide +kernel
theorem dX7_turnOf_46 : decode cX7_turnOf 46 = .ok (.bipush 9, 2) := by decide +kernel
theorem dX7_turnOf_48 : decode cX7_turnOf 48 = .ok (.irem, 1) := by decide +kernel
theorem dX7_turnOf_49 : decode cX7_turnOf 49 = .ok (.iadd, 1) := by decide +kernel
theorem dX7_turnOf_50 : decode cX7_turnOf 50 = .ok (.goto 13, 3) := by decide +kernel
theorem dX7_turnOf_53 : decode cX7_turnOf 53 = .ok (.iconst 1, 1) := by decide +kernel
theorem dX7_turnOf_54 : decode cX7_turnOf 54 = .ok (.iload_n 2, 1) := by decide +kernel
theorem dX7_turnOf_55 : decode cX7_turnOf 55 = .ok (.bipush 32, 2) := by decide +kernel
theorem dX7_turnOf_57 : decode cX7_turnOf 57 = .ok (.idiv, 1) := by decide +kernel
theorem dX7_turnOf_58 : decode cX7_turnOf 58 = .ok (.sipush 900, 3) := by decide +kernel
theorem dX7_turnOf_61 : decode cX7_turnOf 61 = .ok (.irem, 1) := by decide +kernel
theorem dX7_turnOf_62 : decode cX7_turnOf 62 = .ok (.iadd, 1) := by decide +kernel
theorem dX7_turnOf_63 : decode cX7_turnOf 63 = .ok (.istore 5, 2) := by decide +kernel
theorem dX7_turnOf_65 : decode cX7_turnOf 65 = .ok (.iload_n 1, 1) := by decide +kernel
theorem dX7_turnOf_66 : decode cX7_turnOf 66 = .ok (.iconst 4, 1) := by decide +kernel
theorem dX7_turnOf_67 : decode cX7_turnOf 67 = .ok (.if_icmp .ge 16, 3) := by decide +kernel
theorem dX7_turnOf_70 : decode cX7_turnOf 70 = .ok (.iconst 1, 1) := by decide +kernel
theorem dX7_turnOf_71 : decode cX7_turnOf 71 = .ok (.iload_n 2, 1) := by decide +kernel
theorem dX7_turnOf_72 : decode cX7_turnOf 72 = .ok (.sipush 640, 3) := by decide +kernel
theorem dX7_turnOf_75 : decode cX7_turnOf 75 = .ok (.idiv, 1) := by decide +kernel
theorem dX7_turnOf_76 : decode cX7_turnOf 76 = .ok (.bipush 40, 2) := by decide +kernel
theorem dX7_turnOf_78 : decode cX7_turnOf 78 = .ok (.irem, 1) := by decide +kernel
theorem dX7_turnOf_79 : decode cX7_turnOf 79 = .ok (.iadd, 1) := by decide +kernel
theorem dX7_turnOf_80 : decode cX7_turnOf 80 = .ok (.goto 33, 3) := by decide +kernel
theorem dX7_turnOf_83 : decode cX7_turnOf 83 = .ok (.iload_n 1, 1) := by decide +kernel
theorem dX7_turnOf_84 : decode cX7_turnOf 84 = .ok (.bipush 6, 2) := by decide +kernel
theorem dX7_turnOf_86 : decode cX7_turnOf 86 = .ok (.if_icmp .ge 16, 3) := by decide +kernel
theorem dX7_turnOf_89 : decode cX7_turnOf 89 = .ok (.iconst 1, 1) := by decide +kernel
theorem dX7_turnOf_90 : decode cX7_turnOf 90 = .ok (.iload_n 2, 1) := by decide +kernel
theorem dX7_turnOf_91 : decode cX7_turnOf 91 = .ok (.sipush 288, 3) := by decide +kernel
theorem dX7_turnOf_94 : decode cX7_turnOf 94 = .ok (.idiv, 1) := by decide +kernel
theorem dX7_turnOf_95 : decode cX7_turnOf 95 = .ok (.bipush 60, 2) := by decide +kernel
theorem dX7_turnOf_97 : decode cX7_turnOf 97 = .ok (.irem, 1) := by decide +kernel
theorem dX7_turnOf_98 : decode cX7_turnOf 98 = .ok (.iadd, 1) := by decide +kernel
theorem dX7_turnOf_99 : decode cX7_turnOf 99 = .ok (.goto 14, 3) := by decide +kernel
theorem dX7_turnOf_102 : decode cX7_turnOf 102 = .ok (.iload 5, 2) := by decide +kernel
theorem dX7_turnOf_104 : decode cX7_turnOf 104 = .ok (.iload_n 2, 1) := by decide +kernel
theorem dX7_turnOf_105 : decode cX7_turnOf 105 = .ok (.sipush 256, 3) := by decide +kernel
theorem dX7_turnOf_108 : decode cX7_turnOf 108 = .ok (.idiv, 1) := by decide +kernel
theorem dX7_turnOf_109 : decode cX7_turnOf 109 = .ok (.bipush 90, 2) := by decide +kernel
theorem dX7_turnOf_111 : decode cX7_turnOf 111 = .ok (.irem, 1) := by decide +kernel
theorem dX7_turnOf_112 : decode cX7_turnOf 112 = .ok (.iadd, 1) := by decide +kernel
theorem dX7_turnOf_113 : decode cX7_turnOf 113 = .ok (.istore 6, 2) := by decide +kernel
theorem dX7_turnOf_115 : decode cX7_turnOf 115 = .ok (.aload_n 0, 1) := by decide +kernel
theorem dX7_turnOf_116 : decode cX7_turnOf 116 = .ok (.iconst 0, 1) := by decide +kernel
theorem dX7_turnOf_117 : decode cX7_turnOf 117 = .ok (.iaload, 1) := by decide +kernel
theorem dX7_turnOf_118 : decode cX7_turnOf 118 = .ok (.bipush 16, 2) := by decide +kernel
theorem dX7_turnOf_120 : decode cX7_turnOf 120 = .ok (.if_icmp .ge 73, 3) := by decide +kernel
theorem dX7_turnOf_123 : decode cX7_turnOf 123 = .ok (.aload_n 0, 1) := by decide +kernel
theorem dX7_turnOf_124 : decode cX7_turnOf 124 = .ok (.iload_n 3, 1) := by decide +kernel
theorem dX7_turnOf_125 : decode cX7_turnOf 125 = .ok (.iload 4, 2) := by decide +kernel
theorem dX7_turnOf_127 : decode cX7_turnOf 127 = .ok (.iload_n 1, 1) := by decide +kernel
theorem dX7_turnOf_128 : decode cX7_turnOf 128 = .ok (.iconst 4, 1) := by decide +kernel
theorem dX7_turnOf_129 : decode cX7_turnOf 129 = .ok (.if_icmp .ge 7, 3) := by decide +kernel
theorem dX7_turnOf_132 : decode cX7_turnOf 132 = .ok (.iconst 0, 1) := by decide +kernel
theorem dX7_turnOf_133 : decode cX7_turnOf 133 = .ok (.goto 14, 3) := by decide +kernel
theorem dX7_turnOf_136 : decode cX7_turnOf 136 = .ok (.iload_n 1, 1) := by decide +kernel
theorem dX7_turnOf_137 : decode cX7_turnOf 137 = .ok (.bipush 6, 2) := by decide +kernel
theorem dX7_turnOf_139 : decode cX7_turnOf 139 = .ok (.if_icmp .ge 7, 3) := by decide +kernel
theorem dX7_turnOf_142 : decode cX7_turnOf 142 = .ok (.iconst 1, 1) := by decide +kernel
theorem dX7_turnOf_143 : decode cX7_turnOf 143 = .ok (.goto 4, 3) := by decide +kernel
theorem dX7_turnOf_146 : decode cX7_turnOf 146 = .ok (.iconst 2, 1) := by decide +kernel
theorem dX7_turnOf_147 : decode cX7_turnOf 147 = .ok (.iload 5, 2) := by decide +kernel
theorem dX7_turnOf_149 : decode cX7_turnOf 149 = .ok (.iload 6, 2) := by decide +kernel
theorem dX7_turnOf_151 : decode cX7_turnOf 151 = .ok (.iload_n 1, 1) := by decide +kernel
theorem dX7_turnOf_152 : decode cX7_turnOf 152 = .ok (.bipush 6, 2) := by decide +kernel
theorem dX7_turnOf_154 : decode cX7_turnOf 154 = .ok (.if_icmp .ge 17, 3) := by decide +kernel
theorem dX7_turnOf_157 : decode cX7_turnOf 157 = .ok (.iconst 1, 1) := by decide +kernel
theorem dX7_turnOf_158 : decode cX7_turnOf 158 = .ok (.iload_n 2, 1) := by decide +kernel
theorem dX7_turnOf_159 : decode cX7_turnOf 159 = .ok (.sipush 256, 3) := by decide +kernel
theorem dX7_turnOf_162 : decode cX7_turnOf 162 = .ok (.idiv, 1) := by decide +kernel
theorem dX7_turnOf_163 : decode cX7_turnOf 163 = .ok (.sipush 400, 3) := by decide +kernel
theorem dX7_turnOf_166 : decode cX7_turnOf 166 = .ok (.irem, 1) := by decide +kernel
theorem dX7_turnOf_167 : decode cX7_turnOf 167 = .ok (.iadd, 1) := by decide +kernel
theorem dX7_turnOf_168 : decode cX7_turnOf 168 = .ok (.goto 4, 3) := by decide +kernel
theorem dX7_turnOf_171 : decode cX7_turnOf 171 = .ok (.iconst 0, 1) := by decide +kernel
theorem dX7_turnOf_172 : decode cX7_turnOf 172 = .ok (.iload_n 1, 1) := by decide +kernel
theorem dX7_turnOf_173 : decode cX7_turnOf 173 = .ok (.bipush 6, 2) := by decide +kernel
theorem dX7_turnOf_175 : decode cX7_turnOf 175 = .ok (.if_icmp .ge 13, 3) := by decide +kernel
theorem dX7_turnOf_178 : decode cX7_turnOf 178 = .ok (.iload_n 2, 1) := by decide +kernel
theorem dX7_turnOf_179 : decode cX7_turnOf 179 = .ok (.bipush 8, 2) := by decide +kernel
theorem dX7_turnOf_181 : decode cX7_turnOf 181 = .ok (.idiv, 1) := by decide +kernel
theorem dX7_turnOf_182 : decode cX7_turnOf 182 = .ok (.bipush 21, 2) := by decide +kernel
theorem dX7_turnOf_184 : decode cX7_turnOf 184 = .ok (.irem, 1) := by decide +kernel
theorem dX7_turnOf_185 : decode cX7_turnOf 185 = .ok (.goto 4, 3) := by decide +kernel
theorem dX7_turnOf_188 : decode cX7_turnOf 188 = .ok (.iconst 0, 1) := by decide +kernel
theorem dX7_turnOf_189 : decode cX7_turnOf 189 = .ok (.invokestatic 123, 3) := by decide +kernel
theorem dX7_turnOf_192 : decode cX7_turnOf 192 = .ok (.pop, 1) := by decide +kernel
theorem dX7_turnOf_193 : decode cX7_turnOf 193 = .ok (.goto 106, 3) := by decide +kernel
theorem dX7_turnOf_196 : decode cX7_turnOf 196 = .ok (.iload_n 1, 1) := by decide +kernel
theorem dX7_turnOf_197 : decode cX7_turnOf 197 = .ok (.bipush 9, 2) := by decide +kernel
theorem dX7_turnOf_199 : decode cX7_turnOf 199 = .ok (.if_icmp .ne 26, 3) := by decide +kernel
theorem dX7_turnOf_202 : decode cX7_turnOf 202 = .ok (.aload_n 0, 1) := by decide +kernel
theorem dX7_turnOf_203 : decode cX7_turnOf 203 = .ok (.iload_n 2, 1) := by decide +kernel
theorem dX7_turnOf_204 : decode cX7_turnOf 204 = .ok (.bipush 16, 2) := by decide +kernel
theorem dX7_turnOf_206 : decode cX7_turnOf 206 = .ok (.irem, 1) := by decide +kernel
theorem dX7_turnOf_207 : decode cX7_turnOf 207 = .ok (.invokestatic 135, 3) := by decide +kernel
theorem dX7_turnOf_210 : decode cX7_turnOf 210 = .ok (.ifCond .eq 89, 3) := by decide +kernel
theorem dX7_turnOf_213 : decode cX7_turnOf 213 = .ok (.aload_n 0, 1) := by decide +kernel
theorem dX7_turnOf_214 : decode cX7_turnOf 214 = .ok (.iload_n 2, 1) := by decide +kernel
theorem dX7_turnOf_215 : decode cX7_turnOf 215 = .ok (.bipush 16, 2) := by decide +kernel
theorem dX7_turnOf_217 : decode cX7_turnOf 217 = .ok (.irem, 1) := by decide +kernel
theorem dX7_turnOf_218 : decode cX7_turnOf 218 = .ok (.invokestatic 97, 3) := by decide +kernel
theorem dX7_turnOf_221 : decode cX7_turnOf 221 = .ok (.pop, 1) := by decide +kernel
theorem dX7_turnOf_222 : decode cX7_turnOf 222 = .ok (.goto 77, 3) := by decide +kernel
theorem dX7_turnOf_225 : decode cX7_turnOf 225 = .ok (.iload_n 1, 1) := by decide +kernel
theorem dX7_turnOf_226 : decode cX7_turnOf 226 = .ok (.bipush 13, 2) := by decide +kernel
theorem dX7_turnOf_228 : decode cX7_turnOf 228 = .ok (.if_icmp .ge 11, 3) := by decide +kernel
theorem dX7_turnOf_231 : decode cX7_turnOf 231 = .ok (.aload_n 0, 1) := by decide +kernel
theorem dX7_turnOf_232 : decode cX7_turnOf 232 = .ok (.invokestatic 141, 3) := by decide +kernel
theorem dX7_turnOf_235 : decode cX7_turnOf 235 = .ok (.pop, 1) := by decide +kernel
theorem dX7_turnOf_236 : decode cX7_turnOf 236 = .ok (.goto 63, 3) := by decide +kernel
theorem dX7_turnOf_239 : decode cX7_turnOf 239 = .ok (.iload_n 1, 1) := by decide +kernel
theorem dX7_turnOf_240 : decode cX7_turnOf 240 = .ok (.bipush 13, 2) := by decide +kernel
theorem dX7_turnOf_242 : decode cX7_turnOf 242 = .ok (.if_icmp .le 22, 3) := by decide +kernel
theorem dX7_turnOf_245 : decode cX7_turnOf 245 = .ok (.aload_n 0, 1) := by decide +kernel
theorem dX7_turnOf_246 : decode cX7_turnOf 246 = .ok (.iload_n 3, 1) := by decide +kernel
theorem dX7_turnOf_247 : decode cX7_turnOf 247 = .ok (.iconst 1, 1) := by decide +kernel
theorem dX7_turnOf_248 : decode cX7_turnOf 248 = .ok (.iload_n 2, 1) := by decide +kernel
theorem dX7_turnOf_249 : decode cX7_turnOf 249 = .ok (.bipush 32, 2) := by decide +kernel
theorem dX7_turnOf_251 : decode cX7_turnOf 251 = .ok (.idiv, 1) := by decide +kernel
theorem dX7_turnOf_252 : decode cX7_turnOf 252 = .ok (.sipush 999, 3) := by decide +kernel
theorem dX7_turnOf_255 : decode cX7_turnOf 255 = .ok (.irem, 1) := by decide +kernel
theorem dX7_turnOf_256 : decode cX7_turnOf 256 = .ok (.iadd, 1) := by decide +kernel
theorem dX7_turnOf_257 : decode cX7_turnOf 257 = .ok (.invokestatic 145, 3) := by decide +kernel
theorem dX7_turnOf_260 : decode cX7_turnOf 260 = .ok (.pop, 1) := by decide +kernel
theorem dX7_turnOf_261 : decode cX7_turnOf 261 = .ok (.goto 38, 3) := by decide +kernel
theorem dX7_turnOf_264 : decode cX7_turnOf 264 = .ok (.iload_n 2, 1) := by decide +kernel
theorem dX7_turnOf_265 : decode cX7_turnOf 265 = .ok (.bipush 8, 2) := by decide +kernel
theorem dX7_turnOf_267 : decode cX7_turnOf 267 = .ok (.idiv, 1) := by decide +kernel
theorem dX7_turnOf_268 : decode cX7_turnOf 268 = .ok (.iconst 2, 1) := by decide +kernel
theorem dX7_turnOf_269 : decode cX7_turnOf 269 = .ok (.irem, 1) := by decide +kernel
theorem dX7_turnOf_270 : decode cX7_turnOf 270 = .ok (.ifCond .ne 16, 3) := by decide +kernel
theorem dX7_turnOf_273 : decode cX7_turnOf 273 = .ok (.aload_n 0, 1) := by decide +kernel
theorem dX7_turnOf_274 : decode cX7_turnOf 274 = .ok (.iconst 0, 1) := by decide +kernel
theorem dX7_turnOf_275 : decode cX7_turnOf 275 = .ok (.iload_n 2, 1) := by decide +kernel
theorem dX7_turnOf_276 : decode cX7_turnOf 276 = .ok (.bipush 6, 2) := by decide +kernel
theorem dX7_turnOf_278 : decode cX7_turnOf 278 = .ok (.irem, 1) := by decide +kernel
theorem dX7_turnOf_279 : decode cX7_turnOf 279 = .ok (.invokestatic 191, 3) := by decide +kernel
theorem dX7_turnOf_282 : decode cX7_turnOf 282 = .ok (.pop, 1) := by decide +kernel
theorem dX7_turnOf_283 : decode cX7_turnOf 283 = .ok (.goto 16, 3) := by decide +kernel
theorem dX7_turnOf_286 : decode cX7_turnOf 286 = .ok (.aload_n 0, 1) := by decide +kernel
theorem dX7_turnOf_287 : decode cX7_turnOf 287 = .ok (.iconst 1, 1) := by decide +kernel
theorem dX7_turnOf_288 : decode cX7_turnOf 288 = .ok (.iload_n 2, 1) := by decide +kernel
theorem dX7_turnOf_289 : decode cX7_turnOf 289 = .ok (.bipush 16, 2) := by decide +kernel
theorem dX7_turnOf_291 : decode cX7_turnOf 291 = .ok (.idiv, 1) := by decide +kernel
theorem dX7_turnOf_292 : decode cX7_turnOf 292 = .ok (.bipush 51, 2) := by decide +kernel
theorem dX7_turnOf_294 : decode cX7_turnOf 294 = .ok (.irem, 1) := by decide +kernel
theorem dX7_turnOf_295 : decode cX7_turnOf 295 = .ok (.invokestatic 191, 3) := by decide +kernel
theorem dX7_turnOf_298 : decode cX7_turnOf 298 = .ok (.pop, 1) := by decide +kernel
theorem dX7_turnOf_299 : decode cX7_turnOf 299 = .ok (.return_, 1) := by decide +kernel
theorem dX7_simulate_0 : decode cX7_simulate 0 = .ok (.aload_n 0, 1) := by decide +kernel
theorem dX7_simulate_1 : decode cX7_simulate 1 = .ok (.iload_n 3, 1) := by decide +kernel
theorem dX7_simulate_2 : decode cX7_simulate 2 = .ok (.i2l, 1) := by decide +kernel
theorem dX7_simulate_3 : decode cX7_simulate 3 = .ok (.lconst 1, 1) := by decide +kernel
theorem dX7_simulate_4 : decode cX7_simulate 4 = .ok (.ldc2_w 55, 3) := by decide +kernel
theorem dX7_simulate_7 : decode cX7_simulate 7 = .ok (.invokestatic 37, 3) := by decide +kernel
theorem dX7_simulate_10 : decode cX7_simulate 10 = .ok (.ifCond .eq 7, 3) := by decide +kernel
theorem dX7_simulate_13 : decode cX7_simulate 13 = .ok (.iconst 0, 1) := by decide +kernel
theorem dX7_simulate_14 : decode cX7_simulate 14 = .ok (.goto 4, 3) := by decide +kernel
theorem dX7_simulate_17 : decode cX7_simulate 17 = .ok (.iconst 1, 1) := by decide +kernel
theorem dX7_simulate_18 : decode cX7_simulate 18 = .ok (.invokevirtual 105, 3) := by decide +kernel
theorem dX7_simulate_21 : decode cX7_simulate 21 = .ok (.ifCond .eq 5, 3) := by decide +kernel
theorem dX7_simulate_24 : decode cX7_simulate 24 = .ok (.iconst 0, 1) := by decide +kernel
theorem dX7_simulate_25 : decode cX7_simulate 25 = .ok (.ireturn, 1) := by decide +kernel
theorem dX7_simulate_26 : decode cX7_simulate 26 = .ok (.aload_n 0, 1) := by decide +kernel
theorem dX7_simulate_27 : decode cX7_simulate 27 = .ok (.getfield 13, 3) := by decide +kernel
theorem dX7_simulate_30 : decode cX7_simulate 30 = .ok (.iconst 0, 1) := by decide +kernel
theorem dX7_simulate_31 : decode cX7_simulate 31 = .ok (.aload_n 0, 1) := by decide +kernel
theorem dX7_simulate_32 : decode cX7_simulate 32 = .ok (.getfield 16, 3) := by decide +kernel
theorem dX7_simulate_35 : decode cX7_simulate 35 = .ok (.iconst 0, 1) := by decide +kernel
theorem dX7_simulate_36 : decode cX7_simulate 36 = .ok (.invokestatic 155, 3) := by decide +kernel
theorem dX7_simulate_39 : decode cX7_simulate 39 = .ok (.lload_n 1, 1) := by decide +kernel
theorem dX7_simulate_40 : decode cX7_simulate 40 = .ok (.lstore 4, 2) := by decide +kernel
theorem dX7_simulate_42 : decode cX7_simulate 42 = .ok (.iconst 0, 1) := by decide +kernel
theorem dX7_simulate_43 : decode cX7_simulate 43 = .ok (.istore 6, 2) := by decide +kernel
theorem dX7_simulate_45 : decode cX7_simulate 45 = .ok (.iload 6, 2) := by decide +kernel
theorem dX7_simulate_47 : decode cX7_simulate 47 = .ok (.iload_n 3, 1) := by decide +kernel
theorem dX7_simulate_48 : decode cX7_simulate 48 = .ok (.if_icmp .ge 46, 3) := by decide +kernel
theorem dX7_simulate_51 : decode cX7_simulate 51 = .ok (.lload 4, 2) := by decide +kernel
theorem dX7_simulate_53 : decode cX7_simulate 53 = .ok (.ldc2_w 212, 3) := by decide +kernel
theorem dX7_simulate_56 : decode cX7_simulate 56 = .ok (.lmul, 1) := by decide +kernel
theorem dX7_simulate_57 : decode cX7_simulate 57 = .ok (.ldc2_w 214, 3) := by decide +kernel
theorem dX7_simulate_60 : decode cX7_simulate 60 = .ok (.ladd, 1) := by decide +kernel
theorem dX7_simulate_61 : decode cX7_simulate 61 = .ok (.lstore 4, 2) := by decide +kernel
theorem dX7_simulate_63 : decode cX7_simulate 63 = .ok (.lload 4, 2) := by decide +kernel
theorem dX7_simulate_65 : decode cX7_simulate 65 = .ok (.bipush 33, 2) := by decide +kernel
theorem dX7_simulate_67 : decode cX7_simulate 67 = .ok (.lushr, 1) := by decide +kernel
theorem dX7_simulate_68 : decode cX7_simulate 68 = .ok (.l2i, 1) := by decide +kernel
theorem dX7_simulate_69 : decode cX7_simulate 69 = .ok (.istore 7, 2) := by decide +kernel
theorem dX7_simulate_71 : decode cX7_simulate 71 = .ok (.aload_n 0, 1) := by decide +kernel
theorem dX7_simulate_72 : decode cX7_simulate 72 = .ok (.getfield 16, 3) := by decide +kernel
theorem dX7_simulate_75 : decode cX7_simulate 75 = .ok (.iload 7, 2) := by decide +kernel
theorem dX7_simulate_77 : decode cX7_simulate 77 = .ok (.bipush 16, 2) := by decide +kernel
theorem dX7_simulate_79 : decode cX7_simulate 79 = .ok (.irem, 1) := by decide +kernel
theorem dX7_simulate_80 : decode cX7_simulate 80 = .ok (.iload 7, 2) := by decide +kernel
theorem dX7_simulate_82 : decode cX7_simulate 82 = .ok (.bipush 16, 2) := by decide +kernel
theorem dX7_simulate_84 : decode cX7_simulate 84 = .ok (.idiv, 1) := by decide +kernel
theorem dX7_simulate_85 : decode cX7_simulate 85 = .ok (.invokestatic 216, 3) := by decide +kernel
theorem dX7_simulate_88 : decode cX7_simulate 88 = .ok (.iinc 6 1, 3) := by decide +kernel
theorem dX7_simulate_91 : decode cX7_simulate 91 = .ok (.goto (-46), 3) := by decide +kernel
theorem dX7_simulate_94 : decode cX7_simulate 94 = .ok (.sipush 10000, 3) := by decide +kernel
theorem dX7_simulate_97 : decode cX7_simulate 97 = .ok (.aload_n 0, 1) := by decide +kernel
theorem dX7_simulate_98 : decode cX7_simulate 98 = .ok (.getfield 16, 3) := by decide +kernel
theorem dX7_simulate_101 : decode cX7_simulate 101 = .ok (.iconst 0, 1) := by decide +kernel
theorem dX7_simulate_102 : decode cX7_simulate 102 = .ok (.iaload, 1) := by decide +kernel
theorem dX7_simulate_103 : decode cX7_simulate 103 = .ok (.imul, 1) := by decide +kernel
theorem dX7_simulate_104 : decode cX7_simulate 104 = .ok (.bipush 100, 2) := by decide +kernel
theorem dX7_simulate_106 : decode cX7_simulate 106 = .ok (.aload_n 0, 1) := by decide +kernel
theorem dX7_simulate_107 : decode cX7_simulate 107 = .ok (.getfield 16, 3) := by decide +kernel
theorem dX7_simulate_110 : decode cX7_simulate 110 = .ok (.invokestatic 165, 3) := by decide +kernel
theorem dX7_simulate_113 : decode cX7_simulate 113 = .ok (.imul, 1) := by decide +kernel
theorem dX7_simulate_114 : decode cX7_simulate 114 = .ok (.iadd, 1) := by decide +kernel
theorem dX7_simulate_115 : decode cX7_simulate 115 = .ok (.aload_n 0, 1) := by decide +kernel
theorem dX7_simulate_116 : decode cX7_simulate 116 = .ok (.getfield 16, 3) := by decide +kernel
theorem dX7_simulate_119 : decode cX7_simulate 119 = .ok (.iconst 5, 1) := by decide +kernel
theorem dX7_simulate_120 : decode cX7_simulate 120 = .ok (.iaload, 1) := by decide +kernel
theorem dX7_simulate_121 : decode cX7_simulate 121 = .ok (.aload_n 0, 1) := by decide +kernel
theorem dX7_simulate_122 : decode cX7_simulate 122 = .ok (.getfield 13, 3) := by decide +kernel
theorem dX7_simulate_125 : decode cX7_simulate 125 = .ok (.iconst 5, 1) := by decide +kernel
theorem dX7_simulate_126 : decode cX7_simulate 126 = .ok (.iaload, 1) := by decide +kernel
theorem dX7_simulate_127 : decode cX7_simulate 127 = .ok (.isub, 1) := by decide +kernel
theorem dX7_simulate_128 : decode cX7_simulate 128 = .ok (.bipush 100, 2) := by decide +kernel
theorem dX7_simulate_130 : decode cX7_simulate 130 = .ok (.irem, 1) := by decide +kernel
theorem dX7_simulate_131 : decode cX7_simulate 131 = .ok (.iadd, 1) := by decide +kernel
theorem dX7_simulate_132 : decode cX7_simulate 132 = .ok (.ireturn, 1) := by decide +kernel
theorem dX7_save_0 : decode cX7_save 0 = .ok (.aload_n 0, 1) := by decide +kernel
theorem dX7_save_1 : decode cX7_save 1 = .ok (.iload_n 1, 1) := by decide +kernel
theorem dX7_save_2 : decode cX7_save 2 = .ok (.i2l, 1) := by decide +kernel
theorem dX7_save_3 : decode cX7_save 3 = .ok (.lconst 0, 1) := by decide +kernel
theorem dX7_save_4 : decode cX7_save 4 = .ok (.lconst 1, 1) := by decide +kernel
theorem dX7_save_5 : decode cX7_save 5 = .ok (.invokestatic 37, 3) := by decide +kernel
theorem dX7_save_8 : decode cX7_save 8 = .ok (.ifCond .eq 7, 3) := by decide +kernel
theorem dX7_save_11 : decode cX7_save 11 = .ok (.iconst 0, 1) := by decide +kernel
theorem dX7_save_12 : decode cX7_save 12 = .ok (.goto 4, 3) := by decide +kernel
theorem dX7_save_15 : decode cX7_save 15 = .ok (.iconst 1, 1) := by decide +kernel
theorem dX7_save_16 : decode cX7_save 16 = .ok (.invokevirtual 105, 3) := by decide +kernel
theorem dX7_save_19 : decode cX7_save 19 = .ok (.ifCond .eq 5, 3) := by decide +kernel
theorem dX7_save_22 : decode cX7_save 22 = .ok (.iconst 0, 1) := by decide +kernel
theorem dX7_save_23 : decode cX7_save 23 = .ok (.ireturn, 1) := by decide +kernel
theorem dX7_save_24 : decode cX7_save 24 = .ok (.aload_n 0, 1) := by decide +kernel
theorem dX7_save_25 : decode cX7_save 25 = .ok (.getfield 13, 3) := by decide +kernel
theorem dX7_save_28 : decode cX7_save 28 = .ok (.iconst 0, 1) := by decide +kernel
theorem dX7_save_29 : decode cX7_save 29 = .ok (.aload_n 0, 1) := by decide +kernel
theorem dX7_save_30 : decode cX7_save 30 = .ok (.getfield 22, 3) := by decide +kernel
theorem dX7_save_33 : decode cX7_save 33 = .ok (.sipush 142, 3) := by decide +kernel
theorem dX7_save_36 : decode cX7_save 36 = .ok (.iload_n 1, 1) := by decide +kernel
theorem dX7_save_37 : decode cX7_save 37 = .ok (.imul, 1) := by decide +kernel
theorem dX7_save_38 : decode cX7_save 38 = .ok (.invokestatic 155, 3) := by decide +kernel
theorem dX7_save_41 : decode cX7_save 41 = .ok (.aload_n 0, 1) := by decide +kernel
theorem dX7_save_42 : decode cX7_save 42 = .ok (.getfield 25, 3) := by decide +kernel
theorem dX7_save_45 : decode cX7_save 45 = .ok (.iload_n 1, 1) := by decide +kernel
theorem dX7_save_46 : decode cX7_save 46 = .ok (.iconst 1, 1) := by decide +kernel
theorem dX7_save_47 : decode cX7_save 47 = .ok (.bastore, 1) := by decide +kernel
theorem dX7_save_48 : decode cX7_save 48 = .ok (.aload_n 0, 1) := by decide +kernel
theorem dX7_save_49 : decode cX7_save 49 = .ok (.getfield 13, 3) := by decide +kernel
theorem dX7_save_52 : decode cX7_save 52 = .ok (.iconst 0, 1) := by decide +kernel
theorem dX7_save_53 : decode cX7_save 53 = .ok (.iaload, 1) := by decide +kernel
theorem dX7_save_54 : decode cX7_save 54 = .ok (.ireturn, 1) := by decide +kernel
theorem dX7_restore_0 : decode cX7_restore 0 = .ok (.aload_n 0, 1) := by decide +kernel
theorem dX7_restore_1 : decode cX7_restore 1 = .ok (.iload_n 1, 1) := by decide +kernel
theorem dX7_restore_2 : decode cX7_restore 2 = .ok (.i2l, 1) := by decide +kernel
theorem dX7_restore_3 : decode cX7_restore 3 = .ok (.lconst 0, 1) := by decide +kernel
theorem dX7_restore_4 : decode cX7_restore 4 = .ok (.lconst 1, 1) := by decide +kernel
theorem dX7_restore_5 : decode cX7_restore 5 = .ok (.invokestatic 37, 3) := by decide +kernel
theorem dX7_restore_8 : decode cX7_restore 8 = .ok (.ifCond .ne 7, 3) := by decide +kernel
theorem dX7_restore_11 : decode cX7_restore 11 = .ok (.iconst 1, 1) := by decide +kernel
theorem dX7_restore_12 : decode cX7_restore 12 = .ok (.goto 17, 3) := by decide +kernel
theorem dX7_restore_15 : decode cX7_restore 15 = .ok (.aload_n 0, 1) := by decide +kernel
theorem dX7_restore_16 : decode cX7_restore 16 = .ok (.getfield 25, 3) := by decide +kernel
theorem dX7_restore_19 : decode cX7_restore 19 = .ok (.iload_n 1, 1) := by decide +kernel
theorem dX7_restore_20 : decode cX7_restore 20 = .ok (.baload, 1) := by decide +kernel
theorem dX7_restore_21 : decode cX7_restore 21 = .ok (.ifCond .ne 7, 3) := by decide +kernel
theorem dX7_restore_24 : decode cX7_restore 24 = .ok (.iconst 2, 1) := by decide +kernel
theorem dX7_restore_25 : decode cX7_restore 25 = .ok (.goto 4, 3) := by decide +kernel
theorem dX7_restore_28 : decode cX7_restore 28 = .ok (.iconst 0, 1) := by decide +kernel
theorem dX7_restore_29 : decode cX7_restore 29 = .ok (.invokevirtual 105, 3) := by decide +kernel
theorem dX7_restore_32 : decode cX7_restore 32 = .ok (.ifCond .eq 5, 3) := by decide +kernel
theorem dX7_restore_35 : decode cX7_restore 35 = .ok (.iconst 0, 1) := by decide +kernel
theorem dX7_restore_36 : decode cX7_restore 36 = .ok (.ireturn, 1) := by decide +kernel
theorem dX7_restore_37 : decode cX7_restore 37 = .ok (.aload_n 0, 1) := by decide +kernel
theorem dX7_restore_38 : decode cX7_restore 38 = .ok (.getfield 22, 3) := by decide +kernel
theorem dX7_restore_41 : decode cX7_restore 41 = .ok (.sipush 142, 3) := by decide +kernel
theorem dX7_restore_44 : decode cX7_restore 44 = .ok (.iload_n 1, 1) := by decide +kernel
theorem dX7_restore_45 : decode cX7_restore 45 = .ok (.imul, 1) := by decide +kernel
theorem dX7_restore_46 : decode cX7_restore 46 = .ok (.aload_n 0, 1) := by decide +kernel
theorem dX7_restore_47 : decode cX7_restore 47 = .ok (.getfield 13, 3) := by decide +kernel
theorem dX7_restore_50 : decode cX7_restore 50 = .ok (.iconst 0, 1) := by decide +kernel
theorem dX7_restore_51 : decode cX7_restore 51 = .ok (.invokestatic 155, 3) := by decide +kernel
theorem dX7_restore_54 : decode cX7_restore 54 = .ok (.aload_n 0, 1) := by decide +kernel
theorem dX7_restore_55 : decode cX7_restore 55 = .ok (.iconst 0, 1) := by decide +kernel
theorem dX7_restore_56 : decode cX7_restore 56 = .ok (.putfield 159, 3) := by decide +kernel
theorem dX7_restore_59 : decode cX7_restore 59 = .ok (.aload_n 0, 1) := by decide +kernel
theorem dX7_restore_60 : decode cX7_restore 60 = .ok (.getfield 13, 3) := by decide +kernel
theorem dX7_restore_63 : decode cX7_restore 63 = .ok (.iconst 0, 1) := by decide +kernel
theorem dX7_restore_64 : decode cX7_restore 64 = .ok (.iaload, 1) := by decide +kernel
theorem dX7_restore_65 : decode cX7_restore 65 = .ok (.ireturn, 1) := by decide +kernel
theorem dJ9_floorDiv_7cf53_0 : decode cJ9_floorDiv_7cf53 0 = .ok (.iload_n 0, 1) := by decide +kernel
theorem dJ9_floorDiv_7cf53_1 : decode cJ9_floorDiv_7cf53 1 = .ok (.iload_n 1, 1) := by decide +kernel
theorem dJ9_floorDiv_7cf53_2 : decode cJ9_floorDiv_7cf53 2 = .ok (.idiv, 1) := by decide +kernel
theorem dJ9_floorDiv_7cf53_3 : decode cJ9_floorDiv_7cf53 3 = .ok (.istore_n 2, 1) := by decide +kernel
theorem dJ9_floorDiv_7cf53_4 : decode cJ9_floorDiv_7cf53 4 = .ok (.iload_n 0, 1) := by decide +kernel
theorem dJ9_floorDiv_7cf53_5 : decode cJ9_floorDiv_7cf53 5 = .ok (.iload_n 1, 1) := by decide +kernel
theorem dJ9_floorDiv_7cf53_6 : decode cJ9_floorDiv_7cf53 6 = .ok (.ixor, 1) := by decide +kernel
theorem dJ9_floorDiv_7cf53_7 : decode cJ9_floorDiv_7cf53 7 = .ok (.ifCond .ge 14, 3) := by decide +kernel
theorem dJ9_floorDiv_7cf53_10 : decode cJ9_floorDiv_7cf53 10 = .ok (.iload_n 2, 1) := by decide +kernel
theorem dJ9_floorDiv_7cf53_11 : decode cJ9_floorDiv_7cf53 11 = .ok (.iload_n 1, 1) := by decide +kernel
theorem dJ9_floorDiv_7cf53_12 : decode cJ9_floorDiv_7cf53 12 = .ok (.imul, 1) := by decide +kernel
theorem dJ9_floorDiv_7cf53_13 : decode cJ9_floorDiv_7cf53 13 = .ok (.iload_n 0, 1) := by decide +kernel
theorem dJ9_floorDiv_7cf53_14 : decode cJ9_floorDiv_7cf53 14 = .ok (.if_icmp .eq 7, 3) := by decide +kernel
theorem dJ9_floorDiv_7cf53_17 : decode cJ9_floorDiv_7cf53 17 = .ok (.iload_n 2, 1) := by decide +kernel
theorem dJ9_floorDiv_7cf53_18 : decode cJ9_floorDiv_7cf53 18 = .ok (.iconst 1, 1) := by decide +kernel
theorem dJ9_floorDiv_7cf53_19 : decode cJ9_floorDiv_7cf53 19 = .ok (.isub, 1) := by decide +kernel
theorem dJ9_floorDiv_7cf53_20 : decode cJ9_floorDiv_7cf53 20 = .ok (.ireturn, 1) := by decide +kernel
theorem dJ9_floorDiv_7cf53_21 : decode cJ9_floorDiv_7cf53 21 = .ok (.iload_n 2, 1) := by decide +kernel
theorem dJ9_floorDiv_7cf53_22 : decode cJ9_floorDiv_7cf53 22 = .ok (.ireturn, 1) := by decide +kernel
theorem dJ9_max_7cf53_0 : decode cJ9_max_7cf53 0 = .ok (.iload_n 0, 1) := by decide +kernel
theorem dJ9_max_7cf53_1 : decode cJ9_max_7cf53 1 = .ok (.iload_n 1, 1) := by decide +kernel
theorem dJ9_max_7cf53_2 : decode cJ9_max_7cf53 2 = .ok (.if_icmp .lt 7, 3) := by decide +kernel
theorem dJ9_max_7cf53_5 : decode cJ9_max_7cf53 5 = .ok (.iload_n 0, 1) := by decide +kernel
theorem dJ9_max_7cf53_6 : decode cJ9_max_7cf53 6 = .ok (.goto 4, 3) := by decide +kernel
theorem dJ9_max_7cf53_9 : decode cJ9_max_7cf53 9 = .ok (.iload_n 1, 1) := by decide +kernel
theorem dJ9_max_7cf53_10 : decode cJ9_max_7cf53 10 = .ok (.ireturn, 1) := by decide +kernel
theorem dJ9_min_7cf53_0 : decode cJ9_min_7cf53 0 = .ok (.iload_n 0, 1) := by decide +kernel
theorem dJ9_min_7cf53_1 : decode cJ9_min_7cf53 1 = .ok (.iload_n 1, 1) := by decide +kernel
theorem dJ9_min_7cf53_2 : decode cJ9_min_7cf53 2 = .ok (.if_icmp .gt 7, 3) := by decide +kernel
theorem dJ9_min_7cf53_5 : decode cJ9_min_7cf53 5 = .ok (.iload_n 0, 1) := by decide +kernel
theorem dJ9_min_7cf53_6 : decode cJ9_min_7cf53 6 = .ok (.goto 4, 3) := by decide +kernel
theorem dJ9_min_7cf53_9 : decode cJ9_min_7cf53 9 = .ok (.iload_n 1, 1) := by decide +kernel
theorem dJ9_min_7cf53_10 : decode cJ9_min_7cf53 10 = .ok (.ireturn, 1) := by decide +kernel
theorem dJ7_fill_53178_0 : decode cJ7_fill_53178 0 = .ok (.iconst 0, 1) := by decide +kernel
theorem dJ7_fill_53178_1 : decode cJ7_fill_53178 1 = .ok (.istore_n 2, 1) := by decide +kernel
theorem dJ7_fill_53178_2 : decode cJ7_fill_53178 2 = .ok (.aload_n 0, 1) := by decide +kernel
theorem dJ7_fill_53178_3 : decode cJ7_fill_53178 3 = .ok (.arraylength, 1) := by decide +kernel
theorem dJ7_fill_53178_4 : decode cJ7_fill_53178 4 = .ok (.istore_n 3, 1) := by decide +kernel
theorem dJ7_fill_53178_5 : decode cJ7_fill_53178 5 = .ok (.iload_n 2, 1) := by decide +kernel
theorem dJ7_fill_53178_6 : decode cJ7_fill_53178 6 = .ok (.iload_n 3, 1) := by decide +kernel
theorem dJ7_fill_53178_7 : decode cJ7_fill_53178 7 = .ok (.if_icmp .ge 13, 3) := by decide +kernel
theorem dJ7_fill_53178_10 : decode cJ7_fill_53178 10 = .ok (.aload_n 0, 1) := by decide +kernel
theorem dJ7_fill_53178_11 : decode cJ7_fill_53178 11 = .ok (.iload_n 2, 1) := by decide +kernel
theorem dJ7_fill_53178_12 : decode cJ7_fill_53178 12 = .ok (.iload_n 1, 1) := by decide +kernel
theorem dJ7_fill_53178_13 : decode cJ7_fill_53178 13 = .ok (.iastore, 1) := by decide +kernel
theorem dJ7_fill_53178_14 : decode cJ7_fill_53178 14 = .ok (.iinc 2 1, 3) := by decide +kernel
theorem dJ7_fill_53178_17 : decode cJ7_fill_53178 17 = .ok (.goto (-12), 3) := by decide +kernel
theorem dJ7_fill_53178_20 : decode cJ7_fill_53178 20 = .ok (.return_, 1) := by decide +kernel
theorem dL_append_0 : decode cL_append 0 = .ok (.aload_n 2, 1) := by decide +kernel
theorem dL_append_1 : decode cL_append 1 = .ok (.iconst 0, 1) := by decide +kernel
theorem dL_append_2 : decode cL_append 2 = .ok (.aload_n 0, 1) := by decide +kernel
theorem dL_append_3 : decode cL_append 3 = .ok (.iload_n 1, 1) := by decide +kernel
theorem dL_append_4 : decode cL_append 4 = .ok (.invokevirtual 7, 3) := by decide +kernel
theorem dL_append_7 : decode cL_append 7 = .ok (.i2l, 1) := by decide +kernel
theorem dL_append_8 : decode cL_append 8 = .ok (.lastore, 1) := by decide +kernel
theorem dL_append_9 : decode cL_append 9 = .ok (.goto 9, 3) := by decide +kernel
theorem dL_append_12 : decode cL_append 12 = .ok (.astore_n 3, 1) := by decide +kernel
theorem dL_append_13 : decode cL_append 13 = .ok (.iconst 1, 1) := by decide +kernel
theorem dL_append_14 : decode cL_append 14 = .ok (.ireturn, 1) := by decide +kernel
theorem dL_append_15 : decode cL_append 15 = .ok (.astore_n 3, 1) := by decide +kernel
theorem dL_append_16 : decode cL_append 16 = .ok (.iconst 2, 1) := by decide +kernel
theorem dL_append_17 : decode cL_append 17 = .ok (.ireturn, 1) := by decide +kernel
theorem dL_append_18 : decode cL_append 18 = .ok (.iconst 0, 1) := by decide +kernel
theorem dL_append_19 : decode cL_append 19 = .ok (.ireturn, 1) := by decide +kernel
theorem dL_load_0 : decode cL_load 0 = .ok (.aload_n 1, 1) := by decide +kernel
theorem dL_load_1 : decode cL_load 1 = .ok (.iconst 0, 1) := by decide +kernel
theorem dL_load_2 : decode cL_load 2 = .ok (.aload_n 0, 1) := by decide +kernel
theorem dL_load_3 : decode cL_load 3 = .ok (.invokevirtual 17, 3) := by decide +kernel
theorem dL_load_6 : decode cL_load 6 = .ok (.i2l, 1) := by decide +kernel
theorem dL_load_7 : decode cL_load 7 = .ok (.lastore, 1) := by decide +kernel
theorem dL_load_8 : decode cL_load 8 = .ok (.goto 6, 3) := by decide +kernel
theorem dL_load_11 : decode cL_load 11 = .ok (.astore_n 2, 1) := by decide +kernel
theorem dL_load_12 : decode cL_load 12 = .ok (.iconst 1, 1) := by decide +kernel
theorem dL_load_13 : decode cL_load 13 = .ok (.ireturn, 1) := by decide +kernel
theorem dL_load_14 : decode cL_load 14 = .ok (.iconst 0, 1) := by decide +kernel
theorem dL_load_15 : decode cL_load 15 = .ok (.ireturn, 1) := by decide +kernel
theorem dL_about_0 : decode cL_about 0 = .ok (.aload_n 2, 1) := by decide +kernel
theorem dL_about_1 : decode cL_about 1 = .ok (.iconst 0, 1) := by decide +kernel
theorem dL_about_2 : decode cL_about 2 = .ok (.aload_n 0, 1) := by decide +kernel
theorem dL_about_3 : decode cL_about 3 = .ok (.iload_n 1, 1) := by decide +kernel
theorem dL_about_4 : decode cL_about 4 = .ok (.invokevirtual 21, 3) := by decide +kernel
theorem dL_about_7 : decode cL_about 7 = .ok (.i2l, 1) := by decide +kernel
theorem dL_about_8 : decode cL_about 8 = .ok (.lastore, 1) := by decide +kernel
theorem dL_about_9 : decode cL_about 9 = .ok (.goto 6, 3) := by decide +kernel
theorem dL_about_12 : decode cL_about 12 = .ok (.astore_n 3, 1) := by decide +kernel
theorem dL_about_13 : decode cL_about 13 = .ok (.iconst 1, 1) := by decide +kernel
theorem dL_about_14 : decode cL_about 14 = .ok (.ireturn, 1) := by decide +kernel
theorem dL_about_15 : decode cL_about 15 = .ok (.iconst 0, 1) := by decide +kernel
theorem dL_about_16 : decode cL_about 16 = .ok (.ireturn, 1) := by decide +kernel
theorem dL_measureOf_0 : decode cL_measureOf 0 = .ok (.aload_n 3, 1) := by decide +kernel
theorem dL_measureOf_1 : decode cL_measureOf 1 = .ok (.iconst 0, 1) := by decide +kernel
theorem dL_measureOf_2 : decode cL_measureOf 2 = .ok (.aload_n 0, 1) := by decide +kernel
theorem dL_measureOf_3 : decode cL_measureOf 3 = .ok (.iload_n 1, 1) := by decide +kernel
theorem dL_measureOf_4 : decode cL_measureOf 4 = .ok (.iload_n 2, 1) := by decide +kernel
theorem dL_measureOf_5 : decode cL_measureOf 5 = .ok (.invokevirtual 24, 3) := by decide +kernel
theorem dL_measureOf_8 : decode cL_measureOf 8 = .ok (.i2l, 1) := by decide +kernel
theorem dL_measureOf_9 : decode cL_measureOf 9 = .ok (.lastore, 1) := by decide +kernel
theorem dL_measureOf_10 : decode cL_measureOf 10 = .ok (.goto 11, 3) := by decide +kernel
theorem dL_measureOf_13 : decode cL_measureOf 13 = .ok (.astore 4, 2) := by decide +kernel
theorem dL_measureOf_15 : decode cL_measureOf 15 = .ok (.iconst 1, 1) := by decide +kernel
theorem dL_measureOf_16 : decode cL_measureOf 16 = .ok (.ireturn, 1) := by decide +kernel
theorem dL_measureOf_17 : decode cL_measureOf 17 = .ok (.astore 4, 2) := by decide +kernel
theorem dL_measureOf_19 : decode cL_measureOf 19 = .ok (.iconst 2, 1) := by decide +kernel
theorem dL_measureOf_20 : decode cL_measureOf 20 = .ok (.ireturn, 1) := by decide +kernel
theorem dL_measureOf_21 : decode cL_measureOf 21 = .ok (.iconst 0, 1) := by decide +kernel
theorem dL_measureOf_22 : decode cL_measureOf 22 = .ok (.ireturn, 1) := by decide +kernel
theorem dL_tellerOf_0 : decode cL_tellerOf 0 = .ok (.aload_n 3, 1) := by decide +kernel
theorem dL_tellerOf_1 : decode cL_tellerOf 1 = .ok (.iconst 0, 1) := by decide +kernel
theorem dL_tellerOf_2 : decode cL_tellerOf 2 = .ok (.aload_n 0, 1) := by decide +kernel
theorem dL_tellerOf_3 : decode cL_tellerOf 3 = .ok (.iload_n 1, 1) := by decide +kernel
theorem dL_tellerOf_4 : decode cL_tellerOf 4 = .ok (.iload_n 2, 1) := by decide +kernel
theorem dL_tellerOf_5 : decode cL_tellerOf 5 = .ok (.invokevirtual 30, 3) := by decide +kernel
theorem dL_tellerOf_8 : decode cL_tellerOf 8 = .ok (.i2l, 1) := by decide +kernel
theorem dL_tellerOf_9 : decode cL_tellerOf 9 = .ok (.lastore, 1) := by decide +kernel
theorem dL_tellerOf_10 : decode cL_tellerOf 10 = .ok (.goto 11, 3) := by decide +kernel
theorem dL_tellerOf_13 : decode cL_tellerOf 13 = .ok (.astore 4, 2) := by decide +kernel
theorem dL_tellerOf_15 : decode cL_tellerOf 15 = .ok (.iconst 1, 1) := by decide +kernel
theorem dL_tellerOf_16 : decode cL_tellerOf 16 = .ok (.ireturn, 1) := by decide +kernel
theorem dL_tellerOf_17 : decode cL_tellerOf 17 = .ok (.astore 4, 2) := by decide +kernel
theorem dL_tellerOf_19 : decode cL_tellerOf 19 = .ok (.iconst 2, 1) := by decide +kernel
theorem dL_tellerOf_20 : decode cL_tellerOf 20 = .ok (.ireturn, 1) := by decide +kernel
theorem dL_tellerOf_21 : decode cL_tellerOf 21 = .ok (.iconst 0, 1) := by decide +kernel
theorem dL_tellerOf_22 : decode cL_tellerOf 22 = .ok (.ireturn, 1) := by decide +kernel
theorem dL_steepleOf_0 : decode cL_steepleOf 0 = .ok (.aload_n 3, 1) := by decide +kernel
theorem dL_steepleOf_1 : decode cL_steepleOf 1 = .ok (.iconst 0, 1) := by decide +kernel
theorem dL_steepleOf_2 : decode cL_steepleOf 2 = .ok (.aload_n 0, 1) := by decide +kernel
theorem dL_steepleOf_3 : decode cL_steepleOf 3 = .ok (.iload_n 1, 1) := by decide +kernel
theorem dL_steepleOf_4 : decode cL_steepleOf 4 = .ok (.iload_n 2, 1) := by decide +kernel
theorem dL_steepleOf_5 : decode cL_steepleOf 5 = .ok (.invokevirtual 33, 3) := by decide +kernel
theorem dL_steepleOf_8 : decode cL_steepleOf 8 = .ok (.i2l, 1) := by decide +kernel
theorem dL_steepleOf_9 : decode cL_steepleOf 9 = .ok (.lastore, 1) := by decide +kernel
theorem dL_steepleOf_10 : decode cL_steepleOf 10 = .ok (.goto 11, 3) := by decide +kernel
theorem dL_steepleOf_13 : decode cL_steepleOf 13 = .ok (.astore 4, 2) := by decide +kernel
theorem dL_steepleOf_15 : decode cL_steepleOf 15 = .ok (.iconst 1, 1) := by decide +kernel
theorem dL_steepleOf_16 : decode cL_steepleOf 16 = .ok (.ireturn, 1) := by decide +kernel
theorem dL_steepleOf_17 : decode cL_steepleOf 17 = .ok (.astore 4, 2) := by decide +kernel
theorem dL_steepleOf_19 : decode cL_steepleOf 19 = .ok (.iconst 2, 1) := by decide +kernel
theorem dL_steepleOf_20 : decode cL_steepleOf 20 = .ok (.ireturn, 1) := by decide +kernel
theorem dL_steepleOf_21 : decode cL_steepleOf 21 = .ok (.iconst 0, 1) := by decide +kernel
theorem dL_steepleOf_22 : decode cL_steepleOf 22 = .ok (.ireturn, 1) := by decide +kernel
theorem dL_vote_0 : decode cL_vote 0 = .ok (.aload_n 3, 1) := by decide +kernel
theorem dL_vote_1 : decode cL_vote 1 = .ok (.iconst 0, 1) := by decide +kernel
theorem dL_vote_2 : decode cL_vote 2 = .ok (.aload_n 0, 1) := by decide +kernel
theorem dL_vote_3 : decode cL_vote 3 = .ok (.iload_n 1, 1) := by decide +kernel
theorem dL_vote_4 : decode cL_vote 4 = .ok (.iload_n 2, 1) := by decide +kernel
theorem dL_vote_5 : decode cL_vote 5 = .ok (.invokevirtual 36, 3) := by decide +kernel
theorem dL_vote_8 : decode cL_vote 8 = .ok (.i2l, 1) := by decide +kernel
theorem dL_vote_9 : decode cL_vote 9 = .ok (.lastore, 1) := by decide +kernel
theorem dL_vote_10 : decode cL_vote 10 = .ok (.goto 11, 3) := by decide +kernel
theorem dL_vote_13 : decode cL_vote 13 = .ok (.astore 4, 2) := by decide +kernel
theorem dL_vote_15 : decode cL_vote 15 = .ok (.iconst 1, 1) := by decide +kernel
theorem dL_vote_16 : decode cL_vote 16 = .ok (.ireturn, 1) := by decide +kernel
theorem dL_vote_17 : decode cL_vote 17 = .ok (.astore 4, 2) := by decide +kernel
theorem dL_vote_19 : decode cL_vote 19 = .ok (.iconst 2, 1) := by decide +kernel
theorem dL_vote_20 : decode cL_vote 20 = .ok (.ireturn, 1) := by decide +kernel
theorem dL_vote_21 : decode cL_vote 21 = .ok (.iconst 0, 1) := by decide +kernel
theorem dL_vote_22 : decode cL_vote 22 = .ok (.ireturn, 1) := by decide +kernel
theorem dL_best_0 : decode cL_best 0 = .ok (.aload 4, 2) := by decide +kernel
theorem dL_best_2 : decode cL_best 2 = .ok (.iconst 0, 1) := by decide +kernel
theorem dL_best_3 : decode cL_best 3 = .ok (.aload_n 0, 1) := by decide +kernel
theorem dL_best_4 : decode cL_best 4 = .ok (.iload_n 1, 1) := by decide +kernel
theorem dL_best_5 : decode cL_best 5 = .ok (.iload_n 2, 1) := by decide +kernel
theorem dL_best_6 : decode cL_best 6 = .ok (.iload_n 3, 1) := by decide +kernel
theorem dL_best_7 : decode cL_best 7 = .ok (.invokevirtual 39, 3) := by decide +kernel
theorem dL_best_10 : decode cL_best 10 = .ok (.i2l, 1) := by decide +kernel
theorem dL_best_11 : decode cL_best 11 = .ok (.lastore, 1) := by decide +kernel
theorem dL_best_12 : decode cL_best 12 = .ok (.goto 11, 3) := by decide +kernel
theorem dL_best_15 : decode cL_best 15 = .ok (.astore 5, 2) := by decide +kernel
theorem dL_best_17 : decode cL_best 17 = .ok (.iconst 1, 1) := by decide +kernel
theorem dL_best_18 : decode cL_best 18 = .ok (.ireturn, 1) := by decide +kernel
theorem dL_best_19 : decode cL_best 19 = .ok (.astore 5, 2) := by decide +kernel
theorem dL_best_21 : decode cL_best 21 = .ok (.iconst 2, 1) := by decide +kernel
theorem dL_best_22 : decode cL_best 22 = .ok (.ireturn, 1) := by decide +kernel
theorem dL_best_23 : decode cL_best 23 = .ok (.iconst 0, 1) := by decide +kernel
theorem dL_best_24 : decode cL_best 24 = .ok (.ireturn, 1) := by decide +kernel
theorem dL_setting_0 : decode cL_setting 0 = .ok (.aload_n 2, 1) := by decide +kernel
theorem dL_setting_1 : decode cL_setting 1 = .ok (.iconst 0, 1) := by decide +kernel
theorem dL_setting_2 : decode cL_setting 2 = .ok (.aload_n 0, 1) := by decide +kernel
theorem dL_setting_3 : decode cL_setting 3 = .ok (.iload_n 1, 1) := by decide +kernel
theorem dL_setting_4 : decode cL_setting 4 = .ok (.invokevirtual 43, 3) := by decide +kernel
theorem dL_setting_7 : decode cL_setting 7 = .ok (.i2l, 1) := by decide +kernel
theorem dL_setting_8 : decode cL_setting 8 = .ok (.lastore, 1) := by decide +kernel
theorem dL_setting_9 : decode cL_setting 9 = .ok (.goto 6, 3) := by decide +kernel
theorem dL_setting_12 : decode cL_setting 12 = .ok (.astore_n 3, 1) := by decide +kernel
theorem dL_setting_13 : decode cL_setting 13 = .ok (.iconst 1, 1) := by decide +kernel
theorem dL_setting_14 : decode cL_setting 14 = .ok (.ireturn, 1) := by decide +kernel
theorem dL_setting_15 : decode cL_setting 15 = .ok (.iconst 0, 1) := by decide +kernel
theorem dL_setting_16 : decode cL_setting 16 = .ok (.ireturn, 1) := by decide +kernel
theorem dL_measure_0 : decode cL_measure 0 = .ok (.aload 8, 2) := by decide +kernel
theorem dL_measure_2 : decode cL_measure 2 = .ok (.iconst 0, 1) := by decide +kernel
theorem dL_measure_3 : decode cL_measure 3 = .ok (.aload_n 0, 1) := by decide +kernel
theorem dL_measure_4 : decode cL_measure 4 = .ok (.iload_n 1, 1) := by decide +kernel
theorem dL_measure_5 : decode cL_measure 5 = .ok (.iload_n 2, 1) := by decide +kernel
theorem dL_measure_6 : decode cL_measure 6 = .ok (.iload_n 3, 1) := by decide +kernel
theorem dL_measure_7 : decode cL_measure 7 = .ok (.iload 4, 2) := by decide +kernel
theorem dL_measure_9 : decode cL_measure 9 = .ok (.iload 5, 2) := by decide +kernel
theorem dL_measure_11 : decode cL_measure 11 = .ok (.iload 6, 2) := by decide +kernel
theorem dL_measure_13 : decode cL_measure 13 = .ok (.iload 7, 2) := by decide +kernel
theorem dL_measure_15 : decode cL_measure 15 = .ok (.invokevirtual 46, 3) := by decide +kernel
theorem dL_measure_18 : decode cL_measure 18 = .ok (.i2l, 1) := by decide +kernel
theorem dL_measure_19 : decode cL_measure 19 = .ok (.lastore, 1) := by decide +kernel
theorem dL_measure_20 : decode cL_measure 20 = .ok (.goto 15, 3) := by decide +kernel
theorem dL_measure_23 : decode cL_measure 23 = .ok (.astore 9, 2) := by decide +kernel
theorem dL_measure_25 : decode cL_measure 25 = .ok (.iconst 1, 1) := by decide +kernel
theorem dL_measure_26 : decode cL_measure 26 = .ok (.ireturn, 1) := by decide +kernel
theorem dL_measure_27 : decode cL_measure 27 = .ok (.astore 9, 2) := by decide +kernel
theorem dL_measure_29 : decode cL_measure 29 = .ok (.iconst 2, 1) := by decide +kernel
theorem dL_measure_30 : decode cL_measure 30 = .ok (.ireturn, 1) := by decide +kernel
theorem dL_measure_31 : decode cL_measure 31 = .ok (.astore 9, 2) := by decide +kernel
theorem dL_measure_33 : decode cL_measure 33 = .ok (.iconst 3, 1) := by decide +kernel
theorem dL_measure_34 : decode cL_measure 34 = .ok (.ireturn, 1) := by decide +kernel
theorem dL_measure_35 : decode cL_measure 35 = .ok (.iconst 0, 1) := by decide +kernel
theorem dL_measure_36 : decode cL_measure 36 = .ok (.ireturn, 1) := by decide +kernel
theorem dL_drop_0 : decode cL_drop 0 = .ok (.aload_n 2, 1) := by decide +kernel
theorem dL_drop_1 : decode cL_drop 1 = .ok (.iconst 0, 1) := by decide +kernel
theorem dL_drop_2 : decode cL_drop 2 = .ok (.aload_n 0, 1) := by decide +kernel
theorem dL_drop_3 : decode cL_drop 3 = .ok (.iload_n 1, 1) := by decide +kernel
theorem dL_drop_4 : decode cL_drop 4 = .ok (.invokevirtual 50, 3) := by decide +kernel
theorem dL_drop_7 : decode cL_drop 7 = .ok (.i2l, 1) := by decide +kernel
theorem dL_drop_8 : decode cL_drop 8 = .ok (.lastore, 1) := by decide +kernel
theorem dL_drop_9 : decode cL_drop 9 = .ok (.goto 6, 3) := by decide +kernel
theorem dL_drop_12 : decode cL_drop 12 = .ok (.astore_n 3, 1) := by decide +kernel
theorem dL_drop_13 : decode cL_drop 13 = .ok (.iconst 1, 1) := by decide +kernel
theorem dL_drop_14 : decode cL_drop 14 = .ok (.ireturn, 1) := by decide +kernel
theorem dL_drop_15 : decode cL_drop 15 = .ok (.iconst 0, 1) := by decide +kernel
theorem dL_drop_16 : decode cL_drop 16 = .ok (.ireturn, 1) := by decide +kernel
theorem dL_trust_0 : decode cL_trust 0 = .ok (.aload_n 3, 1) := by decide +kernel
theorem dL_trust_1 : decode cL_trust 1 = .ok (.iconst 0, 1) := by decide +kernel
theorem dL_trust_2 : decode cL_trust 2 = .ok (.aload_n 0, 1) := by decide +kernel
theorem dL_trust_3 : decode cL_trust 3 = .ok (.iload_n 1, 1) := by decide +kernel
theorem dL_trust_4 : decode cL_trust 4 = .ok (.iload_n 2, 1) := by decide +kernel
theorem dL_trust_5 : decode cL_trust 5 = .ok (.invokevirtual 53, 3) := by decide +kernel
theorem dL_trust_8 : decode cL_trust 8 = .ok (.i2l, 1) := by decide +kernel
theorem dL_trust_9 : decode cL_trust 9 = .ok (.lastore, 1) := by decide +kernel
theorem dL_trust_10 : decode cL_trust 10 = .ok (.goto 11, 3) := by decide +kernel
theorem dL_trust_13 : decode cL_trust 13 = .ok (.astore 4, 2) := by decide +kernel
theorem dL_trust_15 : decode cL_trust 15 = .ok (.iconst 1, 1) := by decide +kernel
theorem dL_trust_16 : decode cL_trust 16 = .ok (.ireturn, 1) := by decide +kernel
theorem dL_trust_17 : decode cL_trust 17 = .ok (.astore 4, 2) := by decide +kernel
theorem dL_trust_19 : decode cL_trust 19 = .ok (.iconst 2, 1) := by decide +kernel
theorem dL_trust_20 : decode cL_trust 20 = .ok (.ireturn, 1) := by decide +kernel
theorem dL_trust_21 : decode cL_trust 21 = .ok (.iconst 0, 1) := by decide +kernel
theorem dL_trust_22 : decode cL_trust 22 = .ok (.ireturn, 1) := by decide +kernel
theorem dL_survey_0 : decode cL_survey 0 = .ok (.aload_n 3, 1) := by decide +kernel
theorem dL_survey_1 : decode cL_survey 1 = .ok (.iconst 0, 1) := by decide +kernel
theorem dL_survey_2 : decode cL_survey 2 = .ok (.aload_n 0, 1) := by decide +kernel
theorem dL_survey_3 : decode cL_survey 3 = .ok (.iload_n 1, 1) := by decide +kernel
theorem dL_survey_4 : decode cL_survey 4 = .ok (.iload_n 2, 1) := by decide +kernel
theorem dL_survey_5 : decode cL_survey 5 = .ok (.invokevirtual 56, 3) := by decide +kernel
theorem dL_survey_8 : decode cL_survey 8 = .ok (.i2l, 1) := by decide +kernel
theorem dL_survey_9 : decode cL_survey 9 = .ok (.lastore, 1) := by decide +kernel
theorem dL_survey_10 : decode cL_survey 10 = .ok (.goto 11, 3) := by decide +kernel
theorem dL_survey_13 : decode cL_survey 13 = .ok (.astore 4, 2) := by decide +kernel
theorem dL_survey_15 : decode cL_survey 15 = .ok (.iconst 1, 1) := by decide +kernel
theorem dL_survey_16 : decode cL_survey 16 = .ok (.ireturn, 1) := by decide +kernel
theorem dL_survey_17 : decode cL_survey 17 = .ok (.astore 4, 2) := by decide +kernel
theorem dL_survey_19 : decode cL_survey 19 = .ok (.iconst 2, 1) := by decide +kernel
theorem dL_survey_20 : decode cL_survey 20 = .ok (.ireturn, 1) := by decide +kernel
theorem dL_survey_21 : decode cL_survey 21 = .ok (.iconst 0, 1) := by decide +kernel
theorem dL_survey_22 : decode cL_survey 22 = .ok (.ireturn, 1) := by decide +kernel
theorem dL_set_0 : decode cL_set 0 = .ok (.aload_n 3, 1) := by decide +kernel
theorem dL_set_1 : decode cL_set 1 = .ok (.iconst 0, 1) := by decide +kernel
theorem dL_set_2 : decode cL_set 2 = .ok (.aload_n 0, 1) := by decide +kernel
theorem dL_set_3 : decode cL_set 3 = .ok (.iload_n 1, 1) := by decide +kernel
theorem dL_set_4 : decode cL_set 4 = .ok (.iload_n 2, 1) := by decide +kernel
theorem dL_set_5 : decode cL_set 5 = .ok (.invokevirtual 59, 3) := by decide +kernel
theorem dL_set_8 : decode cL_set 8 = .ok (.i2l, 1) := by decide +kernel
theorem dL_set_9 : decode cL_set 9 = .ok (.lastore, 1) := by decide +kernel
theorem dL_set_10 : decode cL_set 10 = .ok (.goto 7, 3) := by decide +kernel
theorem dL_set_13 : decode cL_set 13 = .ok (.astore 4, 2) := by decide +kernel
theorem dL_set_15 : decode cL_set 15 = .ok (.iconst 1, 1) := by decide +kernel
theorem dL_set_16 : decode cL_set 16 = .ok (.ireturn, 1) := by decide +kernel
theorem dL_set_17 : decode cL_set 17 = .ok (.iconst 0, 1) := by decide +kernel
theorem dL_set_18 : decode cL_set 18 = .ok (.ireturn, 1) := by decide +kernel
theorem dL_undo_0 : decode cL_undo 0 = .ok (.aload_n 1, 1) := by decide +kernel
theorem dL_undo_1 : decode cL_undo 1 = .ok (.iconst 0, 1) := by decide +kernel
theorem dL_undo_2 : decode cL_undo 2 = .ok (.aload_n 0, 1) := by decide +kernel
theorem dL_undo_3 : decode cL_undo 3 = .ok (.invokevirtual 62, 3) := by decide +kernel
theorem dL_undo_6 : decode cL_undo 6 = .ok (.i2l, 1) := by decide +kernel
theorem dL_undo_7 : decode cL_undo 7 = .ok (.lastore, 1) := by decide +kernel
theorem dL_undo_8 : decode cL_undo 8 = .ok (.goto 6, 3) := by decide +kernel
theorem dL_undo_11 : decode cL_undo 11 = .ok (.astore_n 2, 1) := by decide +kernel
theorem dL_undo_12 : decode cL_undo 12 = .ok (.iconst 1, 1) := by decide +kernel
theorem dL_undo_13 : decode cL_undo 13 = .ok (.ireturn, 1) := by decide +kernel
theorem dL_undo_14 : decode cL_undo 14 = .ok (.iconst 0, 1) := by decide +kernel
theorem dL_undo_15 : decode cL_undo 15 = .ok (.ireturn, 1) := by decide +kernel
theorem dL_apart_0 : decode cL_apart 0 = .ok (.aload_n 3, 1) := by decide +kernel
theorem dL_apart_1 : decode cL_apart 1 = .ok (.iconst 0, 1) := by decide +kernel
theorem dL_apart_2 : decode cL_apart 2 = .ok (.aload_n 0, 1) := by decide +kernel
theorem dL_apart_3 : decode cL_apart 3 = .ok (.iload_n 1, 1) := by decide +kernel
theorem dL_apart_4 : decode cL_apart 4 = .ok (.iload_n 2, 1) := by decide +kernel
theorem dL_apart_5 : decode cL_apart 5 = .ok (.invokevirtual 65, 3) := by decide +kernel
theorem dL_apart_8 : decode cL_apart 8 = .ok (.i2l, 1) := by decide +kernel
theorem dL_apart_9 : decode cL_apart 9 = .ok (.lastore, 1) := by decide +kernel
theorem dL_apart_10 : decode cL_apart 10 = .ok (.goto 7, 3) := by decide +kernel
theorem dL_apart_13 : decode cL_apart 13 = .ok (.astore 4, 2) := by decide +kernel
theorem dL_apart_15 : decode cL_apart 15 = .ok (.iconst 1, 1) := by decide +kernel
theorem dL_apart_16 : decode cL_apart 16 = .ok (.ireturn, 1) := by decide +kernel
theorem dL_apart_17 : decode cL_apart 17 = .ok (.iconst 0, 1) := by decide +kernel
theorem dL_apart_18 : decode cL_apart 18 = .ok (.ireturn, 1) := by decide +kernel
theorem dL_against_0 : decode cL_against 0 = .ok (.aload_n 2, 1) := by decide +kernel
theorem dL_against_1 : decode cL_against 1 = .ok (.iconst 0, 1) := by decide +kernel
theorem dL_against_2 : decode cL_against 2 = .ok (.aload_n 0, 1) := by decide +kernel
theorem dL_against_3 : decode cL_against 3 = .ok (.iload_n 1, 1) := by decide +kernel
theorem dL_against_4 : decode cL_against 4 = .ok (.invokevirtual 68, 3) := by decide +kernel
theorem dL_against_7 : decode cL_against 7 = .ok (.i2l, 1) := by decide +kernel
theorem dL_against_8 : decode cL_against 8 = .ok (.lastore, 1) := by decide +kernel
theorem dL_against_9 : decode cL_against 9 = .ok (.goto 6, 3) := by decide +kernel
theorem dL_against_12 : decode cL_against 12 = .ok (.astore_n 3, 1) := by decide +kernel
theorem dL_against_13 : decode cL_against 13 = .ok (.iconst 1, 1) := by decide +kernel
theorem dL_against_14 : decode cL_against 14 = .ok (.ireturn, 1) := by decide +kernel
theorem dL_against_15 : decode cL_against 15 = .ok (.iconst 0, 1) := by decide +kernel
theorem dL_against_16 : decode cL_against 16 = .ok (.ireturn, 1) := by decide +kernel
theorem dL_without_0 : decode cL_without 0 = .ok (.aload_n 3, 1) := by decide +kernel
theorem dL_without_1 : decode cL_without 1 = .ok (.iconst 0, 1) := by decide +kernel
theorem dL_without_2 : decode cL_without 2 = .ok (.aload_n 0, 1) := by decide +kernel
theorem dL_without_3 : decode cL_without 3 = .ok (.iload_n 1, 1) := by decide +kernel
theorem dL_without_4 : decode cL_without 4 = .ok (.iload_n 2, 1) := by decide +kernel
theorem dL_without_5 : decode cL_without 5 = .ok (.invokevirtual 71, 3) := by decide +kernel
theorem dL_without_8 : decode cL_without 8 = .ok (.i2l, 1) := by decide +kernel
theorem dL_without_9 : decode cL_without 9 = .ok (.lastore, 1) := by decide +kernel
theorem dL_without_10 : decode cL_without 10 = .ok (.goto 11, 3) := by decide +kernel
theorem dL_without_13 : decode cL_without 13 = .ok (.astore 4, 2) := by decide +kernel
theorem dL_without_15 : decode cL_without 15 = .ok (.iconst 1, 1) := by decide +kernel
theorem dL_without_16 : decode cL_without 16 = .ok (.ireturn, 1) := by decide +kernel
theorem dL_without_17 : decode cL_without 17 = .ok (.astore 4, 2) := by decide +kernel
theorem dL_without_19 : decode cL_without 19 = .ok (.iconst 2, 1) := by decide +kernel
theorem dL_without_20 : decode cL_without 20 = .ok (.ireturn, 1) := by decide +kernel
theorem dL_without_21 : decode cL_without 21 = .ok (.iconst 0, 1) := by decide +kernel
theorem dL_without_22 : decode cL_without 22 = .ok (.ireturn, 1) := by decide +kernel
theorem dL_swings_0 : decode cL_swings 0 = .ok (.aload_n 3, 1) := by decide +kernel
theorem dL_swings_1 : decode cL_swings 1 = .ok (.iconst 0, 1) := by decide +kernel
theorem dL_swings_2 : decode cL_swings 2 = .ok (.aload_n 0, 1) := by decide +kernel
theorem dL_swings_3 : decode cL_swings 3 = .ok (.iload_n 1, 1) := by decide +kernel
theorem dL_swings_4 : decode cL_swings 4 = .ok (.iload_n 2, 1) := by decide +kernel
theorem dL_swings_5 : decode cL_swings 5 = .ok (.invokevirtual 74, 3) := by decide +kernel
theorem dL_swings_8 : decode cL_swings 8 = .ok (.i2l, 1) := by decide +kernel
theorem dL_swings_9 : decode cL_swings 9 = .ok (.lastore, 1) := by decide +kernel
theorem dL_swings_10 : decode cL_swings 10 = .ok (.goto 7, 3) := by decide +kernel
theorem dL_swings_13 : decode cL_swings 13 = .ok (.astore 4, 2) := by decide +kernel
theorem dL_swings_15 : decode cL_swings 15 = .ok (.iconst 1, 1) := by decide +kernel
theorem dL_swings_16 : decode cL_swings 16 = .ok (.ireturn, 1) := by decide +kernel
theorem dL_swings_17 : decode cL_swings 17 = .ok (.iconst 0, 1) := by decide +kernel
theorem dL_swings_18 : decode cL_swings 18 = .ok (.ireturn, 1) := by decide +kernel
theorem dL_runScript_0 : decode cL_runScript 0 = .ok (.aload 4, 2) := by decide +kernel
theorem dL_runScript_2 : decode cL_runScript 2 = .ok (.iconst 0, 1) := by decide +kernel
theorem dL_runScript_3 : decode cL_runScript 3 = .ok (.aload_n 0, 1) := by decide +kernel
theorem dL_runScript_4 : decode cL_runScript 4 = .ok (.iload_n 1, 1) := by decide +kernel
theorem dL_runScript_5 : decode cL_runScript 5 = .ok (.lload_n 2, 1) := by decide +kernel
theorem dL_runScript_6 : decode cL_runScript 6 = .ok (.invokevirtual 77, 3) := by decide +kernel
theorem dL_runScript_9 : decode cL_runScript 9 = .ok (.i2l, 1) := by decide +kernel
theorem dL_runScript_10 : decode cL_runScript 10 = .ok (.lastore, 1) := by decide +kernel
theorem dL_runScript_11 : decode cL_runScript 11 = .ok (.goto 7, 3) := by decide +kernel
theorem dL_runScript_14 : decode cL_runScript 14 = .ok (.astore 5, 2) := by decide +kernel
theorem dL_runScript_16 : decode cL_runScript 16 = .ok (.iconst 1, 1) := by decide +kernel
theorem dL_runScript_17 : decode cL_runScript 17 = .ok (.ireturn, 1) := by decide +kernel
theorem dL_runScript_18 : decode cL_runScript 18 = .ok (.iconst 0, 1) := by decide +kernel
theorem dL_runScript_19 : decode cL_runScript 19 = .ok (.ireturn, 1) := by decide +kernel
theorem dL_simulate_0 : decode cL_simulate 0 = .ok (.aload 4, 2) := by decide +kernel
theorem dL_simulate_2 : decode cL_simulate 2 = .ok (.iconst 0, 1) := by decide +kernel
theorem dL_simulate_3 : decode cL_simulate 3 = .ok (.aload_n 0, 1) := by decide +kernel
theorem dL_simulate_4 : decode cL_simulate 4 = .ok (.lload_n 1, 1) := by decide +kernel
theorem dL_simulate_5 : decode cL_simulate 5 = .ok (.iload_n 3, 1) := by decide +kernel
theorem dL_simulate_6 : decode cL_simulate 6 = .ok (.invokevirtual 81, 3) := by decide +kernel
theorem dL_simulate_9 : decode cL_simulate 9 = .ok (.i2l, 1) := by decide +kernel
theorem dL_simulate_10 : decode cL_simulate 10 = .ok (.lastore, 1) := by decide +kernel
theorem dL_simulate_11 : decode cL_simulate 11 = .ok (.goto 7, 3) := by decide +kernel
theorem dL_simulate_14 : decode cL_simulate 14 = .ok (.astore 5, 2) := by decide +kernel
theorem dL_simulate_16 : decode cL_simulate 16 = .ok (.iconst 1, 1) := by decide +kernel
theorem dL_simulate_17 : decode cL_simulate 17 = .ok (.ireturn, 1) := by decide +kernel
theorem dL_simulate_18 : decode cL_simulate 18 = .ok (.iconst 0, 1) := by decide +kernel
theorem dL_simulate_19 : decode cL_simulate 19 = .ok (.ireturn, 1) := by decide +kernel
theorem dL_save_0 : decode cL_save 0 = .ok (.aload_n 2, 1) := by decide +kernel
theorem dL_save_1 : decode cL_save 1 = .ok (.iconst 0, 1) := by decide +kernel
theorem dL_save_2 : decode cL_save 2 = .ok (.aload_n 0, 1) := by decide +kernel
theorem dL_save_3 : decode cL_save 3 = .ok (.iload_n 1, 1) := by decide +kernel
theorem dL_save_4 : decode cL_save 4 = .ok (.invokevirtual 85, 3) := by decide +kernel
theorem dL_save_7 : decode cL_save 7 = .ok (.i2l, 1) := by decide +kernel
theorem dL_save_8 : decode cL_save 8 = .ok (.lastore, 1) := by decide +kernel
theorem dL_save_9 : decode cL_save 9 = .ok (.goto 6, 3) := by decide +kernel
theorem dL_save_12 : decode cL_save 12 = .ok (.astore_n 3, 1) := by decide +kernel
theorem dL_save_13 : decode cL_save 13 = .ok (.iconst 1, 1) := by decide +kernel
theorem dL_save_14 : decode cL_save 14 = .ok (.ireturn, 1) := by decide +kernel
theorem dL_save_15 : decode cL_save 15 = .ok (.iconst 0, 1) := by decide +kernel
theorem dL_save_16 : decode cL_save 16 = .ok (.ireturn, 1) := by decide +kernel
theorem dL_restore_0 : decode cL_restore 0 = .ok (.aload_n 2, 1) := by decide +kernel
theorem dL_restore_1 : decode cL_restore 1 = .ok (.iconst 0, 1) := by decide +kernel
theorem dL_restore_2 : decode cL_restore 2 = .ok (.aload_n 0, 1) := by decide +kernel
theorem dL_restore_3 : decode cL_restore 3 = .ok (.iload_n 1, 1) := by decide +kernel
theorem dL_restore_4 : decode cL_restore 4 = .ok (.invokevirtual 88, 3) := by decide +kernel
theorem dL_restore_7 : decode cL_restore 7 = .ok (.i2l, 1) := by decide +kernel
theorem dL_restore_8 : decode cL_restore 8 = .ok (.lastore, 1) := by decide +kernel
theorem dL_restore_9 : decode cL_restore 9 = .ok (.goto 9, 3) := by decide +kernel
theorem dL_restore_12 : decode cL_restore 12 = .ok (.astore_n 3, 1) := by decide +kernel
theorem dL_restore_13 : decode cL_restore 13 = .ok (.iconst 1, 1) := by decide +kernel
theorem dL_restore_14 : decode cL_restore 14 = .ok (.ireturn, 1) := by decide +kernel
theorem dL_restore_15 : decode cL_restore 15 = .ok (.astore_n 3, 1) := by decide +kernel
theorem dL_restore_16 : decode cL_restore 16 = .ok (.iconst 2, 1) := by decide +kernel
theorem dL_restore_17 : decode cL_restore 17 = .ok (.ireturn, 1) := by decide +kernel
theorem dL_restore_18 : decode cL_restore 18 = .ok (.iconst 0, 1) := by decide +kernel
theorem dL_restore_19 : decode cL_restore 19 = .ok (.ireturn, 1) := by decide +kernel
theorem dL_law_0 : decode cL_law 0 = .ok (.new 8, 3) := by decide +kernel
theorem dL_law_3 : decode cL_law 3 = .ok (.dup, 1) := by decide +kernel
theorem dL_law_4 : decode cL_law 4 = .ok (.invokespecial 91, 3) := by decide +kernel
theorem dL_law_7 : decode cL_law 7 = .ok (.astore_n 1, 1) := by decide +kernel
theorem dL_law_8 : decode cL_law 8 = .ok (.new 92, 3) := by decide +kernel
theorem dL_law_11 : decode cL_law 11 = .ok (.dup, 1) := by decide +kernel
theorem dL_law_12 : decode cL_law 12 = .ok (.invokespecial 94, 3) := by decide +kernel
theorem dL_law_15 : decode cL_law 15 = .ok (.astore_n 2, 1) := by decide +kernel
theorem dL_law_16 : decode cL_law 16 = .ok (.iconst 1, 1) := by decide +kernel
theorem dL_law_17 : decode cL_law 17 = .ok (.newarray .long, 2) := by decide +kernel
theorem dL_law_19 : decode cL_law 19 = .ok (.astore_n 3, 1) := by decide +kernel
theorem dL_law_20 : decode cL_law 20 = .ok (.iconst 0, 1) := by decide +kernel
theorem dL_law_21 : decode cL_law 21 = .ok (.istore 4, 2) := by decide +kernel
theorem dL_law_23 : decode cL_law 23 = .ok (.iload 4, 2) := by decide +kernel
theorem dL_law_25 : decode cL_law 25 = .ok (.aload_n 0, 1) := by decide +kernel
theorem dL_law_26 : decode cL_law 26 = .ok (.arraylength, 1) := by decide +kernel
theorem dL_law_27 : decode cL_law 27 = .ok (.bipush 8, 2) := by decide +kernel
theorem dL_law_29 : decode cL_law 29 = .ok (.isub, 1) := by decide +kernel
theorem dL_law_30 : decode cL_law 30 = .ok (.if_icmp .gt 1764, 3) := by decide +kernel
theorem dL_law_33 : decode cL_law 33 = .ok (.aload_n 0, 1) := by decide +kernel
theorem dL_law_34 : decode cL_law 34 = .ok (.iload 4, 2) := by decide +kernel
theorem dL_law_36 : decode cL_law 36 = .ok (.iaload, 1) := by decide +kernel
theorem dL_law_37 : decode cL_law 37 = .ok (.bipush 31, 2) := by decide +kernel
theorem dL_law_39 : decode cL_law 39 = .ok (.iand, 1) := by decide +kernel
theorem dL_law_40 : decode cL_law 40 = .ok (.tableswitch 1748 0 26 #[124, 180, 193, 206, 250, 306, 374, 442, 510, 578, 658, 714, 846, 902, 970, 983, 1051, 1119, 1163, 1231, 1287, 1355, 1423, 1436, 1536, 1636, 1692], 124) := by decide +kernel
theorem dL_law_164 : decode cL_law 164 = .ok (.aload_n 1, 1) := by decide +kernel
theorem dL_law_165 : decode cL_law 165 = .ok (.aload_n 0, 1) := by decide +kernel
theorem dL_law_166 : decode cL_law 166 = .ok (.iload 4, 2) := by decide +kernel
theorem dL_law_168 : decode cL_law 168 = .ok (.iconst 1, 1) := by decide +kernel
theorem dL_law_169 : decode cL_law 169 = .ok (.iadd, 1) := by decide +kernel
theorem dL_law_170 : decode cL_law 170 = .ok (.iaload, 1) := by decide +kernel
theorem dL_law_171 : decode cL_law 171 = .ok (.aload_n 3, 1) := by decide +kernel
theorem dL_law_172 : decode cL_law 172 = .ok (.invokestatic 95, 3) := by decide +kernel
theorem dL_law_175 : decode cL_law 175 = .ok (.istore 5, 2) := by decide +kernel
theorem dL_law_177 : decode cL_law 177 = .ok (.aload_n 2, 1) := by decide +kernel
theorem dL_law_178 : decode cL_law 178 = .ok (.aload_n 0, 1) := by decide +kernel
theorem dL_law_179 : decode cL_law 179 = .ok (.iload 4, 2) := by decide +kernel
theorem dL_law_181 : decode cL_law 181 = .ok (.iconst 1, 1) := by decide +kernel
theorem dL_law_182 : decode cL_law 182 = .ok (.iadd, 1) := by decide +kernel
theorem dL_law_183 : decode cL_law 183 = .ok (.iaload, 1) := by decide +kernel
theorem dL_law_184 : decode cL_law 184 = .ok (.invokevirtual 100, 3) := by decide +kernel
theorem dL_law_187 : decode cL_law 187 = .ok (.istore 6, 2) := by decide +kernel
theorem dL_law_189 : decode cL_law 189 = .ok (.aload_n 2, 1) := by decide +kernel
theorem dL_law_190 : decode cL_law 190 = .ok (.invokevirtual 101, 3) := by decide +kernel
theorem dL_law_193 : decode cL_law 193 = .ok (.iload 5, 2) := by decide +kernel
theorem dL_law_195 : decode cL_law 195 = .ok (.if_icmp .eq 5, 3) := by decide +kernel
theorem dL_law_198 : decode cL_law 198 = .ok (.iconst 0, 1) := by decide +kernel
theorem dL_law_199 : decode cL_law 199 = .ok (.ireturn, 1) := by decide +kernel
theorem dL_law_200 : decode cL_law 200 = .ok (.iload 5, 2) := by decide +kernel
theorem dL_law_202 : decode cL_law 202 = .ok (.ifCond .ne 15, 3) := by decide +kernel
theorem dL_law_205 : decode cL_law 205 = .ok (.aload_n 3, 1) := by decide +kernel
theorem dL_law_206 : decode cL_law 206 = .ok (.iconst 0, 1) := by decide +kernel
theorem dL_law_207 : decode cL_law 207 = .ok (.laload, 1) := by decide +kernel
theorem dL_law_208 : decode cL_law 208 = .ok (.iload 6, 2) := by decide +kernel
theorem dL_law_210 : decode cL_law 210 = .ok (.i2l, 1) := by decide +kernel
theorem dL_law_211 : decode cL_law 211 = .ok (.lcmp, 1) := by decide +kernel
theorem dL_law_212 : decode cL_law 212 = .ok (.ifCond .eq 5, 3) := by decide +kernel
theorem dL_law_215 : decode cL_law 215 = .ok (.iconst 0, 1) := by decide +kernel
theorem dL_law_216 : decode cL_law 216 = .ok (.ireturn, 1) := by decide +kernel
theorem dL_law_217 : decode cL_law 217 = .ok (.goto 1571, 3) := by decide +kernel
theorem dL_law_220 : decode cL_law 220 = .ok (.aload_n 1, 1) := by decide +kernel
theorem dL_law_221 : decode cL_law 221 = .ok (.invokevirtual 104, 3) := by decide +kernel
theorem dL_law_224 : decode cL_law 224 = .ok (.aload_n 2, 1) := by decide +kernel
theorem dL_law_225 : decode cL_law 225 = .ok (.invokevirtual 107, 3) := by decide +kernel
theorem dL_law_228 : decode cL_law 228 = .ok (.if_icmp .eq 1560, 3) := by decide +kernel
theorem dL_law_231 : decode cL_law 231 = .ok (.iconst 0, 1) := by decide +kernel
theorem dL_law_232 : decode cL_law 232 = .ok (.ireturn, 1) := by decide +kernel
theorem dL_law_233 : decode cL_law 233 = .ok (.aload_n 1, 1) := by decide +kernel
theorem dL_law_234 : decode cL_law 234 = .ok (.invokevirtual 108, 3) := by decide +kernel
theorem dL_law_237 : decode cL_law 237 = .ok (.aload_n 2, 1) := by decide +kernel
theorem dL_law_238 : decode cL_law 238 = .ok (.invokevirtual 111, 3) := by decide +kernel
theorem dL_law_241 : decode cL_law 241 = .ok (.if_icmp .eq 1547, 3) := by decide +kernel
theorem dL_law_244 : decode cL_law 244 = .ok (.iconst 0, 1) := by decide +kernel
theorem dL_law_245 : decode cL_law 245 = .ok (.ireturn, 1) := by decide +kernel
theorem dL_law_246 : decode cL_law 246 = .ok (.aload_n 1, 1) := by decide +kernel
theorem dL_law_247 : decode cL_law 247 = .ok (.aload_n 3, 1) := by decide +kernel
theorem dL_law_248 : decode cL_law 248 = .ok (.invokestatic 112, 3) := by decide +kernel
theorem dL_law_251 : decode cL_law 251 = .ok (.istore 5, 2) := by decide +kernel
theorem dL_law_253 : decode cL_law 253 = .ok (.aload_n 2, 1) := by decide +kernel
theorem dL_law_254 : decode cL_law 254 = .ok (.invokevirtual 115, 3) := by decide +kernel
theorem dL_law_257 : decode cL_law 257 = .ok (.istore 6, 2) := by decide +kernel
theorem dL_law_259 : decode cL_law 259 = .ok (.aload_n 2, 1) := by decide +kernel
theorem dL_law_260 : decode cL_law 260 = .ok (.invokevirtual 101, 3) := by decide +kernel
theorem dL_law_263 : decode cL_law 263 = .ok (.iload 5, 2) := by decide +kernel
theorem dL_law_265 : decode cL_law 265 = .ok (.if_icmp .eq 5, 3) := by decide +kernel
theorem dL_law_268 : decode cL_law 268 = .ok (.iconst 0, 1) := by decide +kernel
theorem dL_law_269 : decode cL_law 269 = .ok (.ireturn, 1) := by decide +kernel
theorem dL_law_270 : decode cL_law 270 = .ok (.iload 5, 2) := by decide +kernel
theorem dL_law_272 : decode cL_law 272 = .ok (.ifCond .ne 15, 3) := by decide +kernel
theorem dL_law_275 : decode cL_law 275 = .ok (.aload_n 3, 1) := by decide +kernel
theorem dL_law_276 : decode cL_law 276 = .ok (.iconst 0, 1) := by decide +kernel
theorem dL_law_277 : decode cL_law 277 = .ok (.laload, 1) := by decide +kernel
theorem dL_law_278 : decode cL_law 278 = .ok (.iload 6, 2) := by decide +kernel
theorem dL_law_280 : decode cL_law 280 = .ok (.i2l, 1) := by decide +kernel
theorem dL_law_281 : decode cL_law 281 = .ok (.lcmp, 1) := by decide +kernel
theorem dL_law_282 : decode cL_law 282 = .ok (.ifCond .eq 5, 3) := by decide +kernel
theorem dL_law_285 : decode cL_law 285 = .ok (.iconst 0, 1) := by decide +kernel
theorem dL_law_286 : decode cL_law 286 = .ok (.ireturn, 1) := by decide +kernel
theorem dL_law_287 : decode cL_law 287 = .ok (.goto 1501, 3) := by decide +kernel
theorem dL_law_290 : decode cL_law 290 = .ok (.aload_n 1, 1) := by decide +kernel
theorem dL_law_291 : decode cL_law 291 = .ok (.aload_n 0, 1) := by decide +kernel
theorem dL_law_292 : decode cL_law 292 = .ok (.iload 4, 2) := by decide +kernel
theorem dL_law_294 : decode cL_law 294 = .ok (.iconst 1, 1) := by decide +kernel
theorem dL_law_295 : decode cL_law 295 = .ok (.iadd, 1) := by decide +kernel
theorem dL_law_296 : decode cL_law 296 = .ok (.iaload, 1) := by decide +kernel
theorem dL_law_297 : decode cL_law 297 = .ok (.aload_n 3, 1) := by decide +kernel
theorem dL_law_298 : decode cL_law 298 = .ok (.invokestatic 116, 3) := by decide +kernel
theorem dL_law_301 : decode cL_law 301 = .ok (.istore 5, 2) := by decide +kernel
theorem dL_law_303 : decode cL_law 303 = .ok (.aload_n 2, 1) := by decide +kernel
theorem dL_law_304 : decode cL_law 304 = .ok (.aload_n 0, 1) := by decide +kernel
theorem dL_law_305 : decode cL_law 305 = .ok (.iload 4, 2) := by decide +kernel
theorem dL_law_307 : decode cL_law 307 = .ok (.iconst 1, 1) := by decide +kernel
theorem dL_law_308 : decode cL_law 308 = .ok (.iadd, 1) := by decide +kernel
theorem dL_law_309 : decode cL_law 309 = .ok (.iaload, 1) := by decide +kernel
theorem dL_law_310 : decode cL_law 310 = .ok (.invokevirtual 118, 3) := by decide +kernel
theorem dL_law_313 : decode cL_law 313 = .ok (.istore 6, 2) := by decide +kernel
theorem dL_law_315 : decode cL_law 315 = .ok (.aload_n 2, 1) := by decide +kernel
theorem dL_law_316 : decode cL_law 316 = .ok (.invokevirtual 101, 3) := by decide +kernel
theorem dL_law_319 : decode cL_law 319 = .ok (.iload 5, 2) := by decide +kernel
theorem dL_law_321 : decode cL_law 321 = .ok (.if_icmp .eq 5, 3) := by decide +kernel
theorem dL_law_324 : decode cL_law 324 = .ok (.iconst 0, 1) := by decide +kernel
theorem dL_law_325 : decode cL_law 325 = .ok (.ireturn, 1) := by decide +kernel
theorem dL_law_326 : decode cL_law 326 = .ok (.iload 5, 2) := by decide +kernel
theorem dL_law_328 : decode cL_law 328 = .ok (.ifCond .ne 15, 3) := by decide +kernel
theorem dL_law_331 : decode cL_law 331 = .ok (.aload_n 3, 1) := by decide +kernel
theorem dL_law_332 : decode cL_law 332 = .ok (.iconst 0, 1) := by decide +kernel
theorem dL_law_333 : decode cL_law 333 = .ok (.laload, 1) := by decide +kernel
theorem dL_law_334 : decode cL_law 334 = .ok (.iload 6, 2) := by decide +kernel
theorem dL_law_336 : decode cL_law 336 = .ok (.i2l, 1) := by decide +kernel
theorem dL_law_337 : decode cL_law 337 = .ok (.lcmp, 1) := by decide +kernel
theorem dL_law_338 : decode cL_law 338 = .ok (.ifCond .eq 5, 3) := by decide +kernel
theorem dL_law_341 : decode cL_law 341 = .ok (.iconst 0, 1) := by decide +kernel
theorem dL_law_342 : decode cL_law 342 = .ok (.ireturn, 1) := by decide +kernel
theorem dL_law_343 : decode cL_law 343 = .ok (.goto 1445, 3) := by decide +kernel
theorem dL_law_346 : decode cL_law 346 = .ok (.aload_n 1, 1) := by decide +kernel
theorem dL_law_347 : decode cL_law 347 = .ok (.aload_n 0, 1) := by decide +kernel
theorem dL_law_348 : decode cL_law 348 = .ok (.iload 4, 2) := by decide +kernel
theorem dL_law_350 : decode cL_law 350 = .ok (.iconst 1, 1) := by decide +kernel
theorem dL_law_351 : decode cL_law 351 = .ok (.iadd, 1) := by decide +kernel
theorem dL_law_352 : decode cL_law 352 = .ok (.iaload, 1) := by decide +kernel
theorem dL_law_353 : decode cL_law 353 = .ok (.aload_n 0, 1) := by decide +kernel
theorem dL_law_354 : decode cL_law 354 = .ok (.iload 4, 2) := by decide +kernel
theorem dL_law_356 : decode cL_law 356 = .ok (.iconst 2, 1) := by decide +kernel
theorem dL_law_357 : decode cL_law 357 = .ok (.iadd, 1) := by decide +kernel
theorem dL_law_358 : decode cL_law 358 = .ok (.iaload, 1) := by decide +kernel
theorem dL_law_359 : decode cL_law 359 = .ok (.aload_n 3, 1) := by decide +kernel
theorem dL_law_360 : decode cL_law 360 = .ok (.invokestatic 119, 3) := by decide +kernel
theorem dL_law_363 : decode cL_law 363 = .ok (.istore 5, 2) := by decide +kernel
theorem dL_law_365 : decode cL_law 365 = .ok (.aload_n 2, 1) := by decide +kernel
theorem dL_law_366 : decode cL_law 366 = .ok (.aload_n 0, 1) := by decide +kernel
theorem dL_law_367 : decode cL_law 367 = .ok (.iload 4, 2) := by decide +kernel
theorem dL_law_369 : decode cL_law 369 = .ok (.iconst 1, 1) := by decide +kernel
theorem dL_law_370 : decode cL_law 370 = .ok (.iadd, 1) := by decide +kernel
theorem dL_law_371 : decode cL_law 371 = .ok (.iaload, 1) := by decide +kernel
theorem dL_law_372 : decode cL_law 372 = .ok (.aload_n 0, 1) := by decide +kernel
theorem dL_law_373 : decode cL_law 373 = .ok (.iload 4, 2) := by decide +kernel
theorem dL_law_375 : decode cL_law 375 = .ok (.iconst 2, 1) := by decide +kernel
theorem dL_law_376 : decode cL_law 376 = .ok (.iadd, 1) := by decide +kernel
theorem dL_law_377 : decode cL_law 377 = .ok (.iaload, 1) := by decide +kernel
theorem dL_law_378 : decode cL_law 378 = .ok (.invokevirtual 122, 3) := by decide +kernel
theorem dL_law_381 : decode cL_law 381 = .ok (.istore 6, 2) := by decide +kernel
theorem dL_law_383 : decode cL_law 383 = .ok (.aload_n 2, 1) := by decide +kernel
theorem dL_law_384 : decode cL_law 384 = .ok (.invokevirtual 101, 3) := by decide +kernel
theorem dL_law_387 : decode cL_law 387 = .ok (.iload 5, 2) := by decide +kernel
theorem dL_law_389 : decode cL_law 389 = .ok (.if_icmp .eq 5, 3) := by decide +kernel
theorem dL_law_392 : decode cL_law 392 = .ok (.iconst 0, 1) := by decide +kernel
theorem dL_law_393 : decode cL_law 393 = .ok (.ireturn, 1) := by decide +kernel
theorem dL_law_394 : decode cL_law 394 = .ok (.iload 5, 2) := by decide +kernel
theorem dL_law_396 : decode cL_law 396 = .ok (.ifCond .ne 15, 3) := by decide +kernel
theorem dL_law_399 : decode cL_law 399 = .ok (.aload_n 3, 1) := by decide +kernel
theorem dL_law_400 : decode cL_law 400 = .ok (.iconst 0, 1) := by decide +kernel
theorem dL_law_401 : decode cL_law 401 = .ok (.laload, 1) := by decide +kernel
theorem dL_law_402 : decode cL_law 402 = .ok (.iload 6, 2) := by decide +kernel
theorem dL_law_404 : decode cL_law 404 = .ok (.i2l, 1) := by decide +kernel
theorem dL_law_405 : decode cL_law 405 = .ok (.lcmp, 1) := by decide +kernel
theorem dL_law_406 : decode cL_law 406 = .ok (.ifCond .eq 5, 3) := by decide +kernel
theorem dL_law_409 : decode cL_law 409 = .ok (.iconst 0, 1) := by decide +kernel
theorem dL_law_410 : decode cL_law 410 = .ok (.ireturn, 1) := by decide +kernel
theorem dL_law_411 : decode cL_law 411 = .ok (.goto 1377, 3) := by decide +kernel
theorem dL_law_414 : decode cL_law 414 = .ok (.aload_n 1, 1) := by decide +kernel
theorem dL_law_415 : decode cL_law 415 = .ok (.aload_n 0, 1) := by decide +kernel
theorem dL_law_416 : decode cL_law 416 = .ok (.iload 4, 2) := by decide +kernel
theorem dL_law_418 : decode cL_law 418 = .ok (.iconst 1, 1) := by decide +kernel
theorem dL_law_419 : decode cL_law 419 = .ok (.iadd, 1) := by decide +kernel
theorem dL_law_420 : decode cL_law 420 = .ok (.iaload, 1) := by decide +kernel
theorem dL_law_421 : decode cL_law 421 = .ok (.aload_n 0, 1) := by decide +kernel
theorem dL_law_422 : decode cL_law 422 = .ok (.iload 4, 2) := by decide +kernel
theorem dL_law_424 : decode cL_law 424 = .ok (.iconst 2, 1) := by decide +kernel
theorem dL_law_425 : decode cL_law 425 = .ok (.iadd, 1) := by decide +kernel
theorem dL_law_426 : decode cL_law 426 = .ok (.iaload, 1) := by decide +kernel
theorem dL_law_427 : decode cL_law 427 = .ok (.aload_n 3, 1) := by decide +kernel
theorem dL_law_428 : decode cL_law 428 = .ok (.invokestatic 123, 3) := by decide +kernel
theorem dL_law_431 : decode cL_law 431 = .ok (.istore 5, 2) := by decide +kernel
theorem dL_law_433 : decode cL_law 433 = .ok (.aload_n 2, 1) := by decide +kernel
theorem dL_law_434 : decode cL_law 434 = .ok (.aload_n 0, 1) := by decide +kernel
theorem dL_law_435 : decode cL_law 435 = .ok (.iload 4, 2) := by decide +kernel
theorem dL_law_437 : decode cL_law 437 = .ok (.iconst 1, 1) := by decide +kernel
theorem dL_law_438 : decode cL_law 438 = .ok (.iadd, 1) := by decide +kernel
theorem dL_law_439 : decode cL_law 439 = .ok (.iaload, 1) := by decide +kernel
theorem dL_law_440 : decode cL_law 440 = .ok (.aload_n 0, 1) := by decide +kernel
theorem dL_law_441 : decode cL_law 441 = .ok (.iload 4, 2) := by decide +kernel
theorem dL_law_443 : decode cL_law 443 = .ok (.iconst 2, 1) := by decide +kernel
theorem dL_law_444 : decode cL_law 444 = .ok (.iadd, 1) := by decide +kernel
theorem dL_law_445 : decode cL_law 445 = .ok (.iaload, 1) := by decide +kernel
theorem dL_law_446 : decode cL_law 446 = .ok (.invokevirtual 125, 3) := by decide +kernel
theorem dL_law_449 : decode cL_law 449 = .ok (.istore 6, 2) := by decide +kernel
theorem dL_law_451 : decode cL_law 451 = .ok (.aload_n 2, 1) := by decide +kernel
theorem dL_law_452 : decode cL_law 452 = .ok (.invokevirtual 101, 3) := by decide +kernel
theorem dL_law_455 : decode cL_law 455 = .ok (.iload 5, 2) := by decide +kernel
theorem dL_law_457 : decode cL_law 457 = .ok (.if_icmp .eq 5, 3) := by decide +kernel
theorem dL_law_460 : decode cL_law 460 = .ok (.iconst 0, 1) := by decide +kernel
theorem dL_law_461 : decode cL_law 461 = .ok (.ireturn, 1) := by decide +kernel
theorem dL_law_462 : decode cL_law 462 = .ok (.iload 5, 2) := by decide +kernel
theorem dL_law_464 : decode cL_law 464 = .ok (.ifCond .ne 15, 3) := by decide +kernel
theorem dL_law_467 : decode cL_law 467 = .ok (.aload_n 3, 1) := by decide +kernel
theorem dL_law_468 : decode cL_law 468 = .ok (.iconst 0, 1) := by decide +kernel
theorem dL_law_469 : decode cL_law 469 = .ok (.laload, 1) := by decide +kernel
theorem dL_law_470 : decode cL_law 470 = .ok (.iload 6, 2) := by decide +kernel
theorem dL_law_472 : decode cL_law 472 = .ok (.i2l, 1) := by decide +kernel
theorem dL_law_473 : decode cL_law 473 = .ok (.lcmp, 1) := by decide +kernel
theorem dL_law_474 : decode cL_law 474 = .ok (.ifCond .eq 5, 3) := by decide +kernel
theorem dL_law_477 : decode cL_law 477 = .ok (.iconst 0, 1) := by decide +kernel
theorem dL_law_478 : decode cL_law 478 = .ok (.ireturn, 1) := by decide +kernel
theorem dL_law_479 : decode cL_law 479 = .ok (.goto 1309, 3) := by decide +kernel
theorem dL_law_482 : decode cL_law 482 = .ok (.aload_n 1, 1) := by decide +kernel
theorem dL_law_483 : decode cL_law 483 = .ok (.aload_n 0, 1) := by decide +kernel
theorem dL_law_484 : decode cL_law 484 = .ok (.iload 4, 2) := by decide +kernel
theorem dL_law_486 : decode cL_law 486 = .ok (.iconst 1, 1) := by decide +kernel
theorem dL_law_487 : decode cL_law 487 = .ok (.iadd, 1) := by decide +kernel
theorem dL_law_488 : decode cL_law 488 = .ok (.iaload, 1) := by decide +kernel
theorem dL_law_489 : decode cL_law 489 = .ok (.aload_n 0, 1) := by decide +kernel
theorem dL_law_490 : decode cL_law 490 = .ok (.iload 4, 2) := by decide +kernel
theorem dL_law_492 : decode cL_law 492 = .ok (.iconst 2, 1) := by decide +kernel
theorem dL_law_493 : decode cL_law 493 = .ok (.iadd, 1) := by decide +kernel
theorem dL_law_494 : decode cL_law 494 = .ok (.iaload, 1) := by decide +kernel
theorem dL_law_495 : decode cL_law 495 = .ok (.aload_n 3, 1) := by decide +kernel
theorem dL_law_496 : decode cL_law 496 = .ok (.invokestatic 126, 3) := by decide +kernel
theorem dL_law_499 : decode cL_law 499 = .ok (.istore 5, 2) := by decide +kernel
theorem dL_law_501 : decode cL_law 501 = .ok (.aload_n 2, 1) := by decide +kernel
theorem dL_law_502 : decode cL_law 502 = .ok (.aload_n 0, 1) := by decide +kernel
theorem dL_law_503 : decode cL_law 503 = .ok (.iload 4, 2) := by decide +kernel
theorem dL_law_505 : decode cL_law 505 = .ok (.iconst 1, 1) := by decide +kernel
theorem dL_law_506 : decode cL_law 506 = .ok (.iadd, 1) := by decide +kernel
theorem dL_law_507 : decode cL_law 507 = .ok (.iaload, 1) := by decide +kernel
theorem dL_law_508 : decode cL_law 508 = .ok (.aload_n 0, 1) := by decide +kernel
theorem dL_law_509 : decode cL_law 509 = .ok (.iload 4, 2) := by decide +kernel
theorem dL_law_511 : decode cL_law 511 = .ok (.iconst 2, 1) := by decide +kernel
theorem dL_law_512 : decode cL_law 512 = .ok (.iadd, 1) := by decide +kernel
theorem dL_law_513 : decode cL_law 513 = .ok (.iaload, 1) := by decide +kernel
theorem dL_law_514 : decode cL_law 514 = .ok (.invokevirtual 128, 3) := by decide +kernel
theorem dL_law_517 : decode cL_law 517 = .ok (.istore 6, 2) := by decide +kernel
theorem dL_law_519 : decode cL_law 519 = .ok (.aload_n 2, 1) := by decide +kernel
theorem dL_law_520 : decode cL_law 520 = .ok (.invokevirtual 101, 3) := by decide +kernel
theorem dL_law_523 : decode cL_law 523 = .ok (.iload 5, 2) := by decide +kernel
theorem dL_law_525 : decode cL_law 525 = .ok (.if_icmp .eq 5, 3) := by decide +kernel
theorem dL_law_528 : decode cL_law 528 = .ok (.iconst 0, 1) := by decide +kernel
theorem dL_law_529 : decode cL_law 529 = .ok (.ireturn, 1) := by decide +kernel
theorem dL_law_530 : decode cL_law 530 = .ok (.iload 5, 2) := by decide +kernel
theorem dL_law_532 : decode cL_law 532 = .ok (.ifCond .ne 15, 3) := by decide +kernel
theorem dL_law_535 : decode cL_law 535 = .ok (.aload_n 3, 1) := by decide +kernel
theorem dL_law_536 : decode cL_law 536 = .ok (.iconst 0, 1) := by decide +kernel
theorem dL_law_537 : decode cL_law 537 = .ok (.laload, 1) := by decide +kernel
theorem dL_law_538 : decode cL_law 538 = .ok (.iload 6, 2) := by decide +kernel
theorem dL_law_540 : decode cL_law 540 = .ok (.i2l, 1) := by decide +kernel
theorem dL_law_541 : decode cL_law 541 = .ok (.lcmp, 1) := by decide +kernel
theorem dL_law_542 : decode cL_law 542 = .ok (.ifCond .eq 5, 3) := by decide +kernel
theorem dL_law_545 : decode cL_law 545 = .ok (.iconst 0, 1) := by decide +kernel
theorem dL_law_546 : decode cL_law 546 = .ok (.ireturn, 1) := by decide +kernel
theorem dL_law_547 : decode cL_law 547 = .ok (.goto 1241, 3) := by decide +kernel
theorem dL_law_550 : decode cL_law 550 = .ok (.aload_n 1, 1) := by decide +kernel
theorem dL_law_551 : decode cL_law 551 = .ok (.aload_n 0, 1) := by decide +kernel
theorem dL_law_552 : decode cL_law 552 = .ok (.iload 4, 2) := by decide +kernel
theorem dL_law_554 : decode cL_law 554 = .ok (.iconst 1, 1) := by decide +kernel
theorem dL_law_555 : decode cL_law 555 = .ok (.iadd, 1) := by decide +kernel
theorem dL_law_556 : decode cL_law 556 = .ok (.iaload, 1) := by decide +kernel
theorem dL_law_557 : decode cL_law 557 = .ok (.aload_n 0, 1) := by decide +kernel
theorem dL_law_558 : decode cL_law 558 = .ok (.iload 4, 2) := by decide +kernel
theorem dL_law_560 : decode cL_law 560 = .ok (.iconst 2, 1) := by decide +kernel
theorem dL_law_561 : decode cL_law 561 = .ok (.iadd, 1) := by decide +kernel
theorem dL_law_562 : decode cL_law 562 = .ok (.iaload, 1) := by decide +kernel
theorem dL_law_563 : decode cL_law 563 = .ok (.aload_n 3, 1) := by decide +kernel
theorem dL_law_564 : decode cL_law 564 = .ok (.invokestatic 129, 3) := by decide +kernel
theorem dL_law_567 : decode cL_law 567 = .ok (.istore 5, 2) := by decide +kernel
theorem dL_law_569 : decode cL_law 569 = .ok (.aload_n 2, 1) := by decide +kernel
theorem dL_law_570 : decode cL_law 570 = .ok (.aload_n 0, 1) := by decide +kernel
theorem dL_law_571 : decode cL_law 571 = .ok (.iload 4, 2) := by decide +kernel
theorem dL_law_573 : decode cL_law 573 = .ok (.iconst 1, 1) := by decide +kernel
theorem dL_law_574 : decode cL_law 574 = .ok (.iadd, 1) := by decide +kernel
theorem dL_law_575 : decode cL_law 575 = .ok (.iaload, 1) := by decide +kernel
theorem dL_law_576 : decode cL_law 576 = .ok (.aload_n 0, 1) := by decide +kernel
theorem dL_law_577 : decode cL_law 577 = .ok (.iload 4, 2) := by decide +kernel
theorem dL_law_579 : decode cL_law 579 = .ok (.iconst 2, 1) := by decide +kernel
theorem dL_law_580 : decode cL_law 580 = .ok (.iadd, 1) := by decide +kernel
theorem dL_law_581 : decode cL_law 581 = .ok (.iaload, 1) := by decide +kernel
theorem dL_law_582 : decode cL_law 582 = .ok (.invokevirtual 131, 3) := by decide +kernel
theorem dL_law_585 : decode cL_law 585 = .ok (.istore 6, 2) := by decide +kernel
theorem dL_law_587 : decode cL_law 587 = .ok (.aload_n 2, 1) := by decide +kernel
theorem dL_law_588 : decode cL_law 588 = .ok (.invokevirtual 101, 3) := by decide +kernel
theorem dL_law_591 : decode cL_law 591 = .ok (.iload 5, 2) := by decide +kernel
theorem dL_law_593 : decode cL_law 593 = .ok (.if_icmp .eq 5, 3) := by decide +kernel
theorem dL_law_596 : decode cL_law 596 = .ok (.iconst 0, 1) := by decide +kernel
theorem dL_law_597 : decode cL_law 597 = .ok (.ireturn, 1) := by decide +kernel
theorem dL_law_598 : decode cL_law 598 = .ok (.iload 5, 2) := by decide +kernel
theorem dL_law_600 : decode cL_law 600 = .ok (.ifCond .ne 15, 3) := by decide +kernel
theorem dL_law_603 : decode cL_law 603 = .ok (.aload_n 3, 1) := by decide +kernel
theorem dL_law_604 : decode cL_law 604 = .ok (.iconst 0, 1) := by decide +kernel
theorem dL_law_605 : decode cL_law 605 = .ok (.laload, 1) := by decide +kernel
theorem dL_law_606 : decode cL_law 606 = .ok (.iload 6, 2) := by decide +kernel
theorem dL_law_608 : decode cL_law 608 = .ok (.i2l, 1) := by decide +kernel
theorem dL_law_609 : decode cL_law 609 = .ok (.lcmp, 1) := by decide +kernel
theorem dL_law_610 : decode cL_law 610 = .ok (.ifCond .eq 5, 3) := by decide +kernel
theorem dL_law_613 : decode cL_law 613 = .ok (.iconst 0, 1) := by decide +kernel
theorem dL_law_614 : decode cL_law 614 = .ok (.ireturn, 1) := by decide +kernel
theorem dL_law_615 : decode cL_law 615 = .ok (.goto 1173, 3) := by decide +kernel
theorem dL_law_618 : decode cL_law 618 = .ok (.aload_n 1, 1) := by decide +kernel
theorem dL_law_619 : decode cL_law 619 = .ok (.aload_n 0, 1) := by decide +kernel
theorem dL_law_620 : decode cL_law 620 = .ok (.iload 4, 2) := by decide +kernel
theorem dL_law_622 : decode cL_law 622 = .ok (.iconst 1, 1) := by decide +kernel
theorem dL_law_623 : decode cL_law 623 = .ok (.iadd, 1) := by decide +kernel
theorem dL_law_624 : decode cL_law 624 = .ok (.iaload, 1) := by decide +kernel
theorem dL_law_625 : decode cL_law 625 = .ok (.aload_n 0, 1) := by decide +kernel
theorem dL_law_626 : decode cL_law 626 = .ok (.iload 4, 2) := by decide +kernel
theorem dL_law_628 : decode cL_law 628 = .ok (.iconst 2, 1) := by decide +kernel
theorem dL_law_629 : decode cL_law 629 = .ok (.iadd, 1) := by decide +kernel
theorem dL_law_630 : decode cL_law 630 = .ok (.iaload, 1) := by decide +kernel
theorem dL_law_631 : decode cL_law 631 = .ok (.aload_n 0, 1) := by decide +kernel
theorem dL_law_632 : decode cL_law 632 = .ok (.iload 4, 2) := by decide +kernel
theorem dL_law_634 : decode cL_law 634 = .ok (.iconst 3, 1) := by decide +kernel
theorem dL_law_635 : decode cL_law 635 = .ok (.iadd, 1) := by decide +kernel
theorem dL_law_636 : decode cL_law 636 = .ok (.iaload, 1) := by decide +kernel
theorem dL_law_637 : decode cL_law 637 = .ok (.aload_n 3, 1) := by decide +kernel
theorem dL_law_638 : decode cL_law 638 = .ok (.invokestatic 132, 3) := by decide +kernel
theorem dL_law_641 : decode cL_law 641 = .ok (.istore 5, 2) := by decide +kernel
theorem dL_law_643 : decode cL_law 643 = .ok (.aload_n 2, 1) := by decide +kernel
theorem dL_law_644 : decode cL_law 644 = .ok (.aload_n 0, 1) := by decide +kernel
theorem dL_law_645 : decode cL_law 645 = .ok (.iload 4, 2) := by decide +kernel
theorem dL_law_647 : decode cL_law 647 = .ok (.iconst 1, 1) := by decide +kernel
theorem dL_law_648 : decode cL_law 648 = .ok (.iadd, 1) := by decide +kernel
theorem dL_law_649 : decode cL_law 649 = .ok (.iaload, 1) := by decide +kernel
theorem dL_law_650 : decode cL_law 650 = .ok (.aload_n 0, 1) := by decide +kernel
theorem dL_law_651 : decode cL_law 651 = .ok (.iload 4, 2) := by decide +kernel
theorem dL_law_653 : decode cL_law 653 = .ok (.iconst 2, 1) := by decide +kernel
theorem dL_law_654 : decode cL_law 654 = .ok (.iadd, 1) := by decide +kernel
theorem dL_law_655 : decode cL_law 655 = .ok (.iaload, 1) := by decide +kernel
theorem dL_law_656 : decode cL_law 656 = .ok (.aload_n 0, 1) := by decide +kernel
theorem dL_law_657 : decode cL_law 657 = .ok (.iload 4, 2) := by decide +kernel
theorem dL_law_659 : decode cL_law 659 = .ok (.iconst 3, 1) := by decide +kernel
theorem dL_law_660 : decode cL_law 660 = .ok (.iadd, 1) := by decide +kernel
theorem dL_law_661 : decode cL_law 661 = .ok (.iaload, 1) := by decide +kernel
theorem dL_law_662 : decode cL_law 662 = .ok (.invokevirtual 135, 3) := by decide +kernel
theorem dL_law_665 : decode cL_law 665 = .ok (.istore 6, 2) := by decide +kernel
theorem dL_law_667 : decode cL_law 667 = .ok (.aload_n 2, 1) := by decide +kernel
theorem dL_law_668 : decode cL_law 668 = .ok (.invokevirtual 101, 3) := by decide +kernel
theorem dL_law_671 : decode cL_law 671 = .ok (.iload 5, 2) := by decide +kernel
theorem dL_law_673 : decode cL_law 673 = .ok (.if_icmp .eq 5, 3) := by decide +kernel
theorem dL_law_676 : decode cL_law 676 = .ok (.iconst 0, 1) := by decide +kernel
theorem dL_law_677 : decode cL_law 677 = .ok (.ireturn, 1) := by decide +kernel
theorem dL_law_678 : decode cL_law 678 = .ok (.iload 5, 2) := by decide +kernel
theorem dL_law_680 : decode cL_law 680 = .ok (.ifCond .ne 15, 3) := by decide +kernel
theorem dL_law_683 : decode cL_law 683 = .ok (.aload_n 3, 1) := by decide +kernel
theorem dL_law_684 : decode cL_law 684 = .ok (.iconst 0, 1) := by decide +kernel
theorem dL_law_685 : decode cL_law 685 = .ok (.laload, 1) := by decide +kernel
theorem dL_law_686 : decode cL_law 686 = .ok (.iload 6, 2) := by decide +kernel
theorem dL_law_688 : decode cL_law 688 = .ok (.i2l, 1) := by decide +kernel
theorem dL_law_689 : decode cL_law 689 = .ok (.lcmp, 1) := by decide +kernel
theorem dL_law_690 : decode cL_law 690 = .ok (.ifCond .eq 5, 3) := by decide +kernel
theorem dL_law_693 : decode cL_law 693 = .ok (.iconst 0, 1) := by decide +kernel
theorem dL_law_694 : decode cL_law 694 = .ok (.ireturn, 1) := by decide +kernel
theorem dL_law_695 : decode cL_law 695 = .ok (.goto 1093, 3) := by decide +kernel
theorem dL_law_698 : decode cL_law 698 = .ok (.aload_n 1, 1) := by decide +kernel
theorem dL_law_699 : decode cL_law 699 = .ok (.aload_n 0, 1) := by decide +kernel
theorem dL_law_700 : decode cL_law 700 = .ok (.iload 4, 2) := by decide +kernel
theorem dL_law_702 : decode cL_law 702 = .ok (.iconst 1, 1) := by decide +kernel
theorem dL_law_703 : decode cL_law 703 = .ok (.iadd, 1) := by decide +kernel
theorem dL_law_704 : decode cL_law 704 = .ok (.iaload, 1) := by decide +kernel
theorem dL_law_705 : decode cL_law 705 = .ok (.aload_n 3, 1) := by decide +kernel
theorem dL_law_706 : decode cL_law 706 = .ok (.invokestatic 136, 3) := by decide +kernel
theorem dL_law_709 : decode cL_law 709 = .ok (.istore 5, 2) := by decide +kernel
theorem dL_law_711 : decode cL_law 711 = .ok (.aload_n 2, 1) := by decide +kernel
theorem dL_law_712 : decode cL_law 712 = .ok (.aload_n 0, 1) := by decide +kernel
theorem dL_law_713 : decode cL_law 713 = .ok (.iload 4, 2) := by decide +kernel
theorem dL_law_715 : decode cL_law 715 = .ok (.iconst 1, 1) := by decide +kernel
theorem dL_law_716 : decode cL_law 716 = .ok (.iadd, 1) := by decide +kernel
theorem dL_law_717 : decode cL_law 717 = .ok (.iaload, 1) := by decide +kernel
theorem dL_law_718 : decode cL_law 718 = .ok (.invokevirtual 138, 3) := by decide +kernel
theorem dL_law_721 : decode cL_law 721 = .ok (.istore 6, 2) := by decide +kernel
theorem dL_law_723 : decode cL_law 723 = .ok (.aload_n 2, 1) := by decide +kernel
theorem dL_law_724 : decode cL_law 724 = .ok (.invokevirtual 101, 3) := by decide +kernel
theorem dL_law_727 : decode cL_law 727 = .ok (.iload 5, 2) := by decide +kernel
theorem dL_law_729 : decode cL_law 729 = .ok (.if_icmp .eq 5, 3) := by decide +kernel
theorem dL_law_732 : decode cL_law 732 = .ok (.iconst 0, 1) := by decide +kernel
theorem dL_law_733 : decode cL_law 733 = .ok (.ireturn, 1) := by decide +kernel
theorem dL_law_734 : decode cL_law 734 = .ok (.iload 5, 2) := by decide +kernel
theorem dL_law_736 : decode cL_law 736 = .ok (.ifCond .ne 15, 3) := by decide +kernel
theorem dL_law_739 : decode cL_law 739 = .ok (.aload_n 3, 1) := by decide +kernel
theorem dL_law_740 : decode cL_law 740 = .ok (.iconst 0, 1) := by decide +kernel
theorem dL_law_741 : decode cL_law 741 = .ok (.laload, 1) := by decide +kernel
theorem dL_law_742 : decode cL_law 742 = .ok (.iload 6, 2) := by decide +kernel
theorem dL_law_744 : decode cL_law 744 = .ok (.i2l, 1) := by decide +kernel
theorem dL_law_745 : decode cL_law 745 = .ok (.lcmp, 1) := by decide +kernel
theorem dL_law_746 : decode cL_law 746 = .ok (.ifCond .eq 5, 3) := by decide +kernel
theorem dL_law_749 : decode cL_law 749 = .ok (.iconst 0, 1) := by decide +kernel
theorem dL_law_750 : decode cL_law 750 = .ok (.ireturn, 1) := by decide +kernel
theorem dL_law_751 : decode cL_law 751 = .ok (.goto 1037, 3) := by decide +kernel
theorem dL_law_754 : decode cL_law 754 = .ok (.aload_n 1, 1) := by decide +kernel
theorem dL_law_755 : decode cL_law 755 = .ok (.aload_n 0, 1) := by decide +kernel
theorem dL_law_756 : decode cL_law 756 = .ok (.iload 4, 2) := by decide +kernel
theorem dL_law_758 : decode cL_law 758 = .ok (.iconst 1, 1) := by decide +kernel
theorem dL_law_759 : decode cL_law 759 = .ok (.iadd, 1) := by decide +kernel
theorem dL_law_760 : decode cL_law 760 = .ok (.iaload, 1) := by decide +kernel
theorem dL_law_761 : decode cL_law 761 = .ok (.aload_n 0, 1) := by decide +kernel
theorem dL_law_762 : decode cL_law 762 = .ok (.iload 4, 2) := by decide +kernel
theorem dL_law_764 : decode cL_law 764 = .ok (.iconst 2, 1) := by decide +kernel
theorem dL_law_765 : decode cL_law 765 = .ok (.iadd, 1) := by decide +kernel
theorem dL_law_766 : decode cL_law 766 = .ok (.iaload, 1) := by decide +kernel
theorem dL_law_767 : decode cL_law 767 = .ok (.aload_n 0, 1) := by decide +kernel
theorem dL_law_768 : decode cL_law 768 = .ok (.iload 4, 2) := by decide +kernel
theorem dL_law_770 : decode cL_law 770 = .ok (.iconst 3, 1) := by decide +kernel
theorem dL_law_771 : decode cL_law 771 = .ok (.iadd, 1) := by decide +kernel
theorem dL_law_772 : decode cL_law 772 = .ok (.iaload, 1) := by decide +kernel
theorem dL_law_773 : decode cL_law 773 = .ok (.aload_n 0, 1) := by decide +kernel
theorem dL_law_774 : decode cL_law 774 = .ok (.iload 4, 2) := by decide +kernel
theorem dL_law_776 : decode cL_law 776 = .ok (.iconst 4, 1) := by decide +kernel
theorem dL_law_777 : decode cL_law 777 = .ok (.iadd, 1) := by decide +kernel
theorem dL_law_778 : decode cL_law 778 = .ok (.iaload, 1) := by decide +kernel
theorem dL_law_779 : decode cL_law 779 = .ok (.aload_n 0, 1) := by decide +kernel
theorem dL_law_780 : decode cL_law 780 = .ok (.iload 4, 2) := by decide +kernel
theorem dL_law_782 : decode cL_law 782 = .ok (.iconst 5, 1) := by decide +kernel
theorem dL_law_783 : decode cL_law 783 = .ok (.iadd, 1) := by decide +kernel
theorem dL_law_784 : decode cL_law 784 = .ok (.iaload, 1) := by decide +kernel
theorem dL_law_785 : decode cL_law 785 = .ok (.aload_n 0, 1) := by decide +kernel
theorem dL_law_786 : decode cL_law 786 = .ok (.iload 4, 2) := by decide +kernel
theorem dL_law_788 : decode cL_law 788 = .ok (.bipush 6, 2) := by decide +kernel
theorem dL_law_790 : decode cL_law 790 = .ok (.iadd, 1) := by decide +kernel
theorem dL_law_791 : decode cL_law 791 = .ok (.iaload, 1) := by decide +kernel
theorem dL_law_792 : decode cL_law 792 = .ok (.aload_n 0, 1) := by decide +kernel
theorem dL_law_793 : decode cL_law 793 = .ok (.iload 4, 2) := by decide +kernel
theorem dL_law_795 : decode cL_law 795 = .ok (.bipush 7, 2) := by decide +kernel
theorem dL_law_797 : decode cL_law 797 = .ok (.iadd, 1) := by decide +kernel
theorem dL_law_798 : decode cL_law 798 = .ok (.iaload, 1) := by decide +kernel
theorem dL_law_799 : decode cL_law 799 = .ok (.aload_n 3, 1) := by decide +kernel
theorem dL_law_800 : decode cL_law 800 = .ok (.invokestatic 139, 3) := by decide +kernel
theorem dL_law_803 : decode cL_law 803 = .ok (.istore 5, 2) := by decide +kernel
theorem dL_law_805 : decode cL_law 805 = .ok (.aload_n 2, 1) := by decide +kernel
theorem dL_law_806 : decode cL_law 806 = .ok (.aload_n 0, 1) := by decide +kernel
theorem dL_law_807 : decode cL_law 807 = .ok (.iload 4, 2) := by decide +kernel
theorem dL_law_809 : decode cL_law 809 = .ok (.iconst 1, 1) := by decide +kernel
theorem dL_law_810 : decode cL_law 810 = .ok (.iadd, 1) := by decide +kernel
theorem dL_law_811 : decode cL_law 811 = .ok (.iaload, 1) := by decide +kernel
theorem dL_law_812 : decode cL_law 812 = .ok (.aload_n 0, 1) := by decide +kernel
theorem dL_law_813 : decode cL_law 813 = .ok (.iload 4, 2) := by decide +kernel
theorem dL_law_815 : decode cL_law 815 = .ok (.iconst 2, 1) := by decide +kernel
theorem dL_law_816 : decode cL_law 816 = .ok (.iadd, 1) := by decide +kernel
theorem dL_law_817 : decode cL_law 817 = .ok (.iaload, 1) := by decide +kernel
theorem dL_law_818 : decode cL_law 818 = .ok (.aload_n 0, 1) := by decide +kernel
theorem dL_law_819 : decode cL_law 819 = .ok (.iload 4, 2) := by decide +kernel
theorem dL_law_821 : decode cL_law 821 = .ok (.iconst 3, 1) := by decide +kernel
theorem dL_law_822 : decode cL_law 822 = .ok (.iadd, 1) := by decide +kernel
theorem dL_law_823 : decode cL_law 823 = .ok (.iaload, 1) := by decide +kernel
theorem dL_law_824 : decode cL_law 824 = .ok (.aload_n 0, 1) := by decide +kernel
theorem dL_law_825 : decode cL_law 825 = .ok (.iload 4, 2) := by decide +kernel
theorem dL_law_827 : decode cL_law 827 = .ok (.iconst 4, 1) := by decide +kernel
theorem dL_law_828 : decode cL_law 828 = .ok (.iadd, 1) := by decide +kernel
theorem dL_law_829 : decode cL_law 829 = .ok (.iaload, 1) := by decide +kernel
theorem dL_law_830 : decode cL_law 830 = .ok (.aload_n 0, 1) := by decide +kernel
theorem dL_law_831 : decode cL_law 831 = .ok (.iload 4, 2) := by decide +kernel
theorem dL_law_833 : decode cL_law 833 = .ok (.iconst 5, 1) := by decide +kernel
theorem dL_law_834 : decode cL_law 834 = .ok (.iadd, 1) := by decide +kernel
theorem dL_law_835 : decode cL_law 835 = .ok (.iaload, 1) := by decide +kernel
theorem dL_law_836 : decode cL_law 836 = .ok (.aload_n 0, 1) := by decide +kernel
theorem dL_law_837 : decode cL_law 837 = .ok (.iload 4, 2) := by decide +kernel
theorem dL_law_839 : decode cL_law 839 = .ok (.bipush 6, 2) := by decide +kernel
theorem dL_law_841 : decode cL_law 841 = .ok (.iadd, 1) := by decide +kernel
theorem dL_law_842 : decode cL_law 842 = .ok (.iaload, 1) := by decide +kernel
theorem dL_law_843 : decode cL_law 843 = .ok (.aload_n 0, 1) := by decide +kernel
theorem dL_law_844 : decode cL_law 844 = .ok (.iload 4, 2) := by decide +kernel
theorem dL_law_846 : decode cL_law 846 = .ok (.bipush 7, 2) := by decide +kernel
theorem dL_law_848 : decode cL_law 848 = .ok (.iadd, 1) := by decide +kernel
theorem dL_law_849 : decode cL_law 849 = .ok (.iaload, 1) := by decide +kernel
theorem dL_law_850 : decode cL_law 850 = .ok (.invokevirtual 142, 3) := by decide +kernel
theorem dL_law_853 : decode cL_law 853 = .ok (.istore 6, 2) := by decide +kernel
theorem dL_law_855 : decode cL_law 855 = .ok (.aload_n 2, 1) := by decide +kernel
theorem dL_law_856 : decode cL_law 856 = .ok (.invokevirtual 101, 3) := by decide +kernel
theorem dL_law_859 : decode cL_law 859 = .ok (.iload 5, 2) := by decide +kernel
theorem dL_law_861 : decode cL_law 861 = .ok (.if_icmp .eq 5, 3) := by decide +kernel
theorem dL_law_864 : decode cL_law 864 = .ok (.iconst 0, 1) := by decide +kernel
theorem dL_law_865 : decode cL_law 865 = .ok (.ireturn, 1) := by decide +kernel
theorem dL_law_866 : decode cL_law 866 = .ok (.iload 5, 2) := by decide +kernel
theorem dL_law_868 : decode cL_law 868 = .ok (.ifCond .ne 15, 3) := by decide +kernel
theorem dL_law_871 : decode cL_law 871 = .ok (.aload_n 3, 1) := by decide +kernel
theorem dL_law_872 : decode cL_law 872 = .ok (.iconst 0, 1) := by decide +kernel
theorem dL_law_873 : decode cL_law 873 = .ok (.laload, 1) := by decide +kernel
theorem dL_law_874 : decode cL_law 874 = .ok (.iload 6, 2) := by decide +kernel
theorem dL_law_876 : decode cL_law 876 = .ok (.i2l, 1) := by decide +kernel
theorem dL_law_877 : decode cL_law 877 = .ok (.lcmp, 1) := by decide +kernel
theorem dL_law_878 : decode cL_law 878 = .ok (.ifCond .eq 5, 3) := by decide +kernel
theorem dL_law_881 : decode cL_law 881 = .ok (.iconst 0, 1) := by decide +kernel
theorem dL_law_882 : decode cL_law 882 = .ok (.ireturn, 1) := by decide +kernel
theorem dL_law_883 : decode cL_law 883 = .ok (.goto 905, 3) := by decide +kernel
theorem dL_law_886 : decode cL_law 886 = .ok (.aload_n 1, 1) := by decide +kernel
theorem dL_law_887 : decode cL_law 887 = .ok (.aload_n 0, 1) := by decide +kernel
theorem dL_law_888 : decode cL_law 888 = .ok (.iload 4, 2) := by decide +kernel
theorem dL_law_890 : decode cL_law 890 = .ok (.iconst 1, 1) := by decide +kernel
theorem dL_law_891 : decode cL_law 891 = .ok (.iadd, 1) := by decide +kernel
theorem dL_law_892 : decode cL_law 892 = .ok (.iaload, 1) := by decide +kernel
theorem dL_law_893 : decode cL_law 893 = .ok (.aload_n 3, 1) := by decide +kernel
theorem dL_law_894 : decode cL_law 894 = .ok (.invokestatic 143, 3) := by decide +kernel
theorem dL_law_897 : decode cL_law 897 = .ok (.istore 5, 2) := by decide +kernel
theorem dL_law_899 : decode cL_law 899 = .ok (.aload_n 2, 1) := by decide +kernel
theorem dL_law_900 : decode cL_law 900 = .ok (.aload_n 0, 1) := by decide +kernel
theorem dL_law_901 : decode cL_law 901 = .ok (.iload 4, 2) := by decide +kernel
theorem dL_law_903 : decode cL_law 903 = .ok (.iconst 1, 1) := by decide +kernel
theorem dL_law_904 : decode cL_law 904 = .ok (.iadd, 1) := by decide +kernel
theorem dL_law_905 : decode cL_law 905 = .ok (.iaload, 1) := by decide +kernel
theorem dL_law_906 : decode cL_law 906 = .ok (.invokevirtual 145, 3) := by decide +kernel
theorem dL_law_909 : decode cL_law 909 = .ok (.istore 6, 2) := by decide +kernel
theorem dL_law_911 : decode cL_law 911 = .ok (.aload_n 2, 1) := by decide +kernel
theorem dL_law_912 : decode cL_law 912 = .ok (.invokevirtual 101, 3) := by decide +kernel
theorem dL_law_915 : decode cL_law 915 = .ok (.iload 5, 2) := by decide +kernel
theorem dL_law_917 : decode cL_law 917 = .ok (.if_icmp .eq 5, 3) := by decide +kernel
theorem dL_law_920 : decode cL_law 920 = .ok (.iconst 0, 1) := by decide +kernel
theorem dL_law_921 : decode cL_law 921 = .ok (.ireturn, 1) := by decide +kernel
theorem dL_law_922 : decode cL_law 922 = .ok (.iload 5, 2) := by decide +kernel
theorem dL_law_924 : decode cL_law 924 = .ok (.ifCond .ne 15, 3) := by decide +kernel
theorem dL_law_927 : decode cL_law 927 = .ok (.aload_n 3, 1) := by decide +kernel
theorem dL_law_928 : decode cL_law 928 = .ok (.iconst 0, 1) := by decide +kernel
theorem dL_law_929 : decode cL_law 929 = .ok (.laload, 1) := by decide +kernel
theorem dL_law_930 : decode cL_law 930 = .ok (.iload 6, 2) := by decide +kernel
theorem dL_law_932 : decode cL_law 932 = .ok (.i2l, 1) := by decide +kernel
theorem dL_law_933 : decode cL_law 933 = .ok (.lcmp, 1) := by decide +kernel
theorem dL_law_934 : decode cL_law 934 = .ok (.ifCond .eq 5, 3) := by decide +kernel
theorem dL_law_937 : decode cL_law 937 = .ok (.iconst 0, 1) := by decide +kernel
theorem dL_law_938 : decode cL_law 938 = .ok (.ireturn, 1) := by decide +kernel
theorem dL_law_939 : decode cL_law 939 = .ok (.goto 849, 3) := by decide +kernel
theorem dL_law_942 : decode cL_law 942 = .ok (.aload_n 1, 1) := by decide +kernel
theorem dL_law_943 : decode cL_law 943 = .ok (.aload_n 0, 1) := by decide +kernel
theorem dL_law_944 : decode cL_law 944 = .ok (.iload 4, 2) := by decide +kernel
theorem dL_law_946 : decode cL_law 946 = .ok (.iconst 1, 1) := by decide +kernel
theorem dL_law_947 : decode cL_law 947 = .ok (.iadd, 1) := by decide +kernel
theorem dL_law_948 : decode cL_law 948 = .ok (.iaload, 1) := by decide +kernel
theorem dL_law_949 : decode cL_law 949 = .ok (.aload_n 0, 1) := by decide +kernel
theorem dL_law_950 : decode cL_law 950 = .ok (.iload 4, 2) := by decide +kernel
theorem dL_law_952 : decode cL_law 952 = .ok (.iconst 2, 1) := by decide +kernel
theorem dL_law_953 : decode cL_law 953 = .ok (.iadd, 1) := by decide +kernel
theorem dL_law_954 : decode cL_law 954 = .ok (.iaload, 1) := by decide +kernel
theorem dL_law_955 : decode cL_law 955 = .ok (.aload_n 3, 1) := by decide +kernel
theorem dL_law_956 : decode cL_law 956 = .ok (.invokestatic 146, 3) := by decide +kernel
theorem dL_law_959 : decode cL_law 959 = .ok (.istore 5, 2) := by decide +kernel
theorem dL_law_961 : decode cL_law 961 = .ok (.aload_n 2, 1) := by decide +kernel
theorem dL_law_962 : decode cL_law 962 = .ok (.aload_n 0, 1) := by decide +kernel
theorem dL_law_963 : decode cL_law 963 = .ok (.iload 4, 2) := by decide +kernel
theorem dL_law_965 : decode cL_law 965 = .ok (.iconst 1, 1) := by decide +kernel
theorem dL_law_966 : decode cL_law 966 = .ok (.iadd, 1) := by decide +kernel
theorem dL_law_967 : decode cL_law 967 = .ok (.iaload, 1) := by decide +kernel
theorem dL_law_968 : decode cL_law 968 = .ok (.aload_n 0, 1) := by decide +kernel
theorem dL_law_969 : decode cL_law 969 = .ok (.iload 4, 2) := by decide +kernel
theorem dL_law_971 : decode cL_law 971 = .ok (.iconst 2, 1) := by decide +kernel
theorem dL_law_972 : decode cL_law 972 = .ok (.iadd, 1) := by decide +kernel
theorem dL_law_973 : decode cL_law 973 = .ok (.iaload, 1) := by decide +kernel
theorem dL_law_974 : decode cL_law 974 = .ok (.invokevirtual 148, 3) := by decide +kernel
theorem dL_law_977 : decode cL_law 977 = .ok (.istore 6, 2) := by decide +kernel
theorem dL_law_979 : decode cL_law 979 = .ok (.aload_n 2, 1) := by decide +kernel
theorem dL_law_980 : decode cL_law 980 = .ok (.invokevirtual 101, 3) := by decide +kernel
theorem dL_law_983 : decode cL_law 983 = .ok (.iload 5, 2) := by decide +kernel
theorem dL_law_985 : decode cL_law 985 = .ok (.if_icmp .eq 5, 3) := by decide +kernel
theorem dL_law_988 : decode cL_law 988 = .ok (.iconst 0, 1) := by decide +kernel
theorem dL_law_989 : decode cL_law 989 = .ok (.ireturn, 1) := by decide +kernel
theorem dL_law_990 : decode cL_law 990 = .ok (.iload 5, 2) := by decide +kernel
theorem dL_law_992 : decode cL_law 992 = .ok (.ifCond .ne 15, 3) := by decide +kernel
theorem dL_law_995 : decode cL_law 995 = .ok (.aload_n 3, 1) := by decide +kernel
theorem dL_law_996 : decode cL_law 996 = .ok (.iconst 0, 1) := by decide +kernel
theorem dL_law_997 : decode cL_law 997 = .ok (.laload, 1) := by decide +kernel
theorem dL_law_998 : decode cL_law 998 = .ok (.iload 6, 2) := by decide +kernel
theorem dL_law_1000 : decode cL_law 1000 = .ok (.i2l, 1) := by decide +kernel
theorem dL_law_1001 : decode cL_law 1001 = .ok (.lcmp, 1) := by decide +kernel
theorem dL_law_1002 : decode cL_law 1002 = .ok (.ifCond .eq 5, 3) := by decide +kernel
theorem dL_law_1005 : decode cL_law 1005 = .ok (.iconst 0, 1) := by decide +kernel
theorem dL_law_1006 : decode cL_law 1006 = .ok (.ireturn, 1) := by decide +kernel
theorem dL_law_1007 : decode cL_law 1007 = .ok (.goto 781, 3) := by decide +kernel
theorem dL_law_1010 : decode cL_law 1010 = .ok (.aload_n 1, 1) := by decide +kernel
theorem dL_law_1011 : decode cL_law 1011 = .ok (.invokevirtual 149, 3) := by decide +kernel
theorem dL_law_1014 : decode cL_law 1014 = .ok (.aload_n 2, 1) := by decide +kernel
theorem dL_law_1015 : decode cL_law 1015 = .ok (.invokevirtual 152, 3) := by decide +kernel
theorem dL_law_1018 : decode cL_law 1018 = .ok (.if_icmp .eq 770, 3) := by decide +kernel
theorem dL_law_1021 : decode cL_law 1021 = .ok (.iconst 0, 1) := by decide +kernel
theorem dL_law_1022 : decode cL_law 1022 = .ok (.ireturn, 1) := by decide +kernel
theorem dL_law_1023 : decode cL_law 1023 = .ok (.aload_n 1, 1) := by decide +kernel
theorem dL_law_1024 : decode cL_law 1024 = .ok (.aload_n 0, 1) := by decide +kernel
theorem dL_law_1025 : decode cL_law 1025 = .ok (.iload 4, 2) := by decide +kernel
theorem dL_law_1027 : decode cL_law 1027 = .ok (.iconst 1, 1) := by decide +kernel
theorem dL_law_1028 : decode cL_law 1028 = .ok (.iadd, 1) := by decide +kernel
theorem dL_law_1029 : decode cL_law 1029 = .ok (.iaload, 1) := by decide +kernel
theorem dL_law_1030 : decode cL_law 1030 = .ok (.aload_n 0, 1) := by decide +kernel
theorem dL_law_1031 : decode cL_law 1031 = .ok (.iload 4, 2) := by decide +kernel
theorem dL_law_1033 : decode cL_law 1033 = .ok (.iconst 2, 1) := by decide +kernel
theorem dL_law_1034 : decode cL_law 1034 = .ok (.iadd, 1) := by decide +kernel
theorem dL_law_1035 : decode cL_law 1035 = .ok (.iaload, 1) := by decide +kernel
theorem dL_law_1036 : decode cL_law 1036 = .ok (.aload_n 3, 1) := by decide +kernel
theorem dL_law_1037 : decode cL_law 1037 = .ok (.invokestatic 153, 3) := by decide +kernel
theorem dL_law_1040 : decode cL_law 1040 = .ok (.istore 5, 2) := by decide +kernel
theorem dL_law_1042 : decode cL_law 1042 = .ok (.aload_n 2, 1) := by decide +kernel
theorem dL_law_1043 : decode cL_law 1043 = .ok (.aload_n 0, 1) := by decide +kernel
theorem dL_law_1044 : decode cL_law 1044 = .ok (.iload 4, 2) := by decide +kernel
theorem dL_law_1046 : decode cL_law 1046 = .ok (.iconst 1, 1) := by decide +kernel
theorem dL_law_1047 : decode cL_law 1047 = .ok (.iadd, 1) := by decide +kernel
theorem dL_law_1048 : decode cL_law 1048 = .ok (.iaload, 1) := by decide +kernel
theorem dL_law_1049 : decode cL_law 1049 = .ok (.aload_n 0, 1) := by decide +kernel
theorem dL_law_1050 : decode cL_law 1050 = .ok (.iload 4, 2) := by decide +kernel
theorem dL_law_1052 : decode cL_law 1052 = .ok (.iconst 2, 1) := by decide +kernel
theorem dL_law_1053 : decode cL_law 1053 = .ok (.iadd, 1) := by decide +kernel
theorem dL_law_1054 : decode cL_law 1054 = .ok (.iaload, 1) := by decide +kernel
theorem dL_law_1055 : decode cL_law 1055 = .ok (.invokevirtual 155, 3) := by decide +kernel
theorem dL_law_1058 : decode cL_law 1058 = .ok (.istore 6, 2) := by decide +kernel
theorem dL_law_1060 : decode cL_law 1060 = .ok (.aload_n 2, 1) := by decide +kernel
theorem dL_law_1061 : decode cL_law 1061 = .ok (.invokevirtual 101, 3) := by decide +kernel
theorem dL_law_1064 : decode cL_law 1064 = .ok (.iload 5, 2) := by decide +kernel
theorem dL_law_1066 : decode cL_law 1066 = .ok (.if_icmp .eq 5, 3) := by decide +kernel
theorem dL_law_1069 : decode cL_law 1069 = .ok (.iconst 0, 1) := by decide +kernel
theorem dL_law_1070 : decode cL_law 1070 = .ok (.ireturn, 1) := by decide +kernel
theorem dL_law_1071 : decode cL_law 1071 = .ok (.iload 5, 2) := by decide +kernel
theorem dL_law_1073 : decode cL_law 1073 = .ok (.ifCond .ne 15, 3) := by decide +kernel
theorem dL_law_1076 : decode cL_law 1076 = .ok (.aload_n 3, 1) := by decide +kernel
theorem dL_law_1077 : decode cL_law 1077 = .ok (.iconst 0, 1) := by decide +kernel
theorem dL_law_1078 : decode cL_law 1078 = .ok (.laload, 1) := by decide +kernel
theorem dL_law_1079 : decode cL_law 1079 = .ok (.iload 6, 2) := by decide +kernel
theorem dL_law_1081 : decode cL_law 1081 = .ok (.i2l, 1) := by decide +kernel
theorem dL_law_1082 : decode cL_law 1082 = .ok (.lcmp, 1) := by decide +kernel
theorem dL_law_1083 : decode cL_law 1083 = .ok (.ifCond .eq 5, 3) := by decide +kernel
theorem dL_law_1086 : decode cL_law 1086 = .ok (.iconst 0, 1) := by decide +kernel
theorem dL_law_1087 : decode cL_law 1087 = .ok (.ireturn, 1) := by decide +kernel
theorem dL_law_1088 : decode cL_law 1088 = .ok (.goto 700, 3) := by decide +kernel
theorem dL_law_1091 : decode cL_law 1091 = .ok (.aload_n 1, 1) := by decide +kernel
theorem dL_law_1092 : decode cL_law 1092 = .ok (.aload_n 0, 1) := by decide +kernel
theorem dL_law_1093 : decode cL_law 1093 = .ok (.iload 4, 2) := by decide +kernel
theorem dL_law_1095 : decode cL_law 1095 = .ok (.iconst 1, 1) := by decide +kernel
theorem dL_law_1096 : decode cL_law 1096 = .ok (.iadd, 1) := by decide +kernel
theorem dL_law_1097 : decode cL_law 1097 = .ok (.iaload, 1) := by decide +kernel
theorem dL_law_1098 : decode cL_law 1098 = .ok (.aload_n 0, 1) := by decide +kernel
theorem dL_law_1099 : decode cL_law 1099 = .ok (.iload 4, 2) := by decide +kernel
theorem dL_law_1101 : decode cL_law 1101 = .ok (.iconst 2, 1) := by decide +kernel
theorem dL_law_1102 : decode cL_law 1102 = .ok (.iadd, 1) := by decide +kernel
theorem dL_law_1103 : decode cL_law 1103 = .ok (.iaload, 1) := by decide +kernel
theorem dL_law_1104 : decode cL_law 1104 = .ok (.aload_n 3, 1) := by decide +kernel
theorem dL_law_1105 : decode cL_law 1105 = .ok (.invokestatic 156, 3) := by decide +kernel
theorem dL_law_1108 : decode cL_law 1108 = .ok (.istore 5, 2) := by decide +kernel
theorem dL_law_1110 : decode cL_law 1110 = .ok (.aload_n 2, 1) := by decide +kernel
theorem dL_law_1111 : decode cL_law 1111 = .ok (.aload_n 0, 1) := by decide +kernel
theorem dL_law_1112 : decode cL_law 1112 = .ok (.iload 4, 2) := by decide +kernel
theorem dL_law_1114 : decode cL_law 1114 = .ok (.iconst 1, 1) := by decide +kernel
theorem dL_law_1115 : decode cL_law 1115 = .ok (.iadd, 1) := by decide +kernel
theorem dL_law_1116 : decode cL_law 1116 = .ok (.iaload, 1) := by decide +kernel
theorem dL_law_1117 : decode cL_law 1117 = .ok (.aload_n 0, 1) := by decide +kernel
theorem dL_law_1118 : decode cL_law 1118 = .ok (.iload 4, 2) := by decide +kernel
theorem dL_law_1120 : decode cL_law 1120 = .ok (.iconst 2, 1) := by decide +kernel
theorem dL_law_1121 : decode cL_law 1121 = .ok (.iadd, 1) := by decide +kernel
theorem dL_law_1122 : decode cL_law 1122 = .ok (.iaload, 1) := by decide +kernel
theorem dL_law_1123 : decode cL_law 1123 = .ok (.invokevirtual 158, 3) := by decide +kernel
theorem dL_law_1126 : decode cL_law 1126 = .ok (.istore 6, 2) := by decide +kernel
theorem dL_law_1128 : decode cL_law 1128 = .ok (.aload_n 2, 1) := by decide +kernel
theorem dL_law_1129 : decode cL_law 1129 = .ok (.invokevirtual 101, 3) := by decide +kernel
theorem dL_law_1132 : decode cL_law 1132 = .ok (.iload 5, 2) := by decide +kernel
theorem dL_law_1134 : decode cL_law 1134 = .ok (.if_icmp .eq 5, 3) := by decide +kernel
theorem dL_law_1137 : decode cL_law 1137 = .ok (.iconst 0, 1) := by decide +kernel
theorem dL_law_1138 : decode cL_law 1138 = .ok (.ireturn, 1) := by decide +kernel
theorem dL_law_1139 : decode cL_law 1139 = .ok (.iload 5, 2) := by decide +kernel
theorem dL_law_1141 : decode cL_law 1141 = .ok (.ifCond .ne 15, 3) := by decide +kernel
theorem dL_law_1144 : decode cL_law 1144 = .ok (.aload_n 3, 1) := by decide +kernel
theorem dL_law_1145 : decode cL_law 1145 = .ok (.iconst 0, 1) := by decide +kernel
theorem dL_law_1146 : decode cL_law 1146 = .ok (.laload, 1) := by decide +kernel
theorem dL_law_1147 : decode cL_law 1147 = .ok (.iload 6, 2) := by decide +kernel
theorem dL_law_1149 : decode cL_law 1149 = .ok (.i2l, 1) := by decide +kernel
theorem dL_law_1150 : decode cL_law 1150 = .ok (.lcmp, 1) := by decide +kernel
theorem dL_law_1151 : decode cL_law 1151 = .ok (.ifCond .eq 5, 3) := by decide +kernel
theorem dL_law_1154 : decode cL_law 1154 = .ok (.iconst 0, 1) := by decide +kernel
theorem dL_law_1155 : decode cL_law 1155 = .ok (.ireturn, 1) := by decide +kernel
theorem dL_law_1156 : decode cL_law 1156 = .ok (.goto 632, 3) := by decide +kernel
theorem dL_law_1159 : decode cL_law 1159 = .ok (.aload_n 1, 1) := by decide +kernel
theorem dL_law_1160 : decode cL_law 1160 = .ok (.aload_n 3, 1) := by decide +kernel
theorem dL_law_1161 : decode cL_law 1161 = .ok (.invokestatic 159, 3) := by decide +kernel
theorem dL_law_1164 : decode cL_law 1164 = .ok (.istore 5, 2) := by decide +kernel
theorem dL_law_1166 : decode cL_law 1166 = .ok (.aload_n 2, 1) := by decide +kernel
theorem dL_law_1167 : decode cL_law 1167 = .ok (.invokevirtual 161, 3) := by decide +kernel
theorem dL_law_1170 : decode cL_law 1170 = .ok (.istore 6, 2) := by decide +kernel
theorem dL_law_1172 : decode cL_law 1172 = .ok (.aload_n 2, 1) := by decide +kernel
theorem dL_law_1173 : decode cL_law 1173 = .ok (.invokevirtual 101, 3) := by decide +kernel
theorem dL_law_1176 : decode cL_law 1176 = .ok (.iload 5, 2) := by decide +kernel
theorem dL_law_1178 : decode cL_law 1178 = .ok (.if_icmp .eq 5, 3) := by decide +kernel
theorem dL_law_1181 : decode cL_law 1181 = .ok (.iconst 0, 1) := by decide +kernel
theorem dL_law_1182 : decode cL_law 1182 = .ok (.ireturn, 1) := by decide +kernel
theorem dL_law_1183 : decode cL_law 1183 = .ok (.iload 5, 2) := by decide +kernel
theorem dL_law_1185 : decode cL_law 1185 = .ok (.ifCond .ne 15, 3) := by decide +kernel
theorem dL_law_1188 : decode cL_law 1188 = .ok (.aload_n 3, 1) := by decide +kernel
theorem dL_law_1189 : decode cL_law 1189 = .ok (.iconst 0, 1) := by decide +kernel
theorem dL_law_1190 : decode cL_law 1190 = .ok (.laload, 1) := by decide +kernel
theorem dL_law_1191 : decode cL_law 1191 = .ok (.iload 6, 2) := by decide +kernel
theorem dL_law_1193 : decode cL_law 1193 = .ok (.i2l, 1) := by decide +kernel
theorem dL_law_1194 : decode cL_law 1194 = .ok (.lcmp, 1) := by decide +kernel
theorem dL_law_1195 : decode cL_law 1195 = .ok (.ifCond .eq 5, 3) := by decide +kernel
theorem dL_law_1198 : decode cL_law 1198 = .ok (.iconst 0, 1) := by decide +kernel
theorem dL_law_1199 : decode cL_law 1199 = .ok (.ireturn, 1) := by decide +kernel
theorem dL_law_1200 : decode cL_law 1200 = .ok (.goto 588, 3) := by decide +kernel
theorem dL_law_1203 : decode cL_law 1203 = .ok (.aload_n 1, 1) := by decide +kernel
theorem dL_law_1204 : decode cL_law 1204 = .ok (.aload_n 0, 1) := by decide +kernel
theorem dL_law_1205 : decode cL_law 1205 = .ok (.iload 4, 2) := by decide +kernel
theorem dL_law_1207 : decode cL_law 1207 = .ok (.iconst 1, 1) := by decide +kernel
theorem dL_law_1208 : decode cL_law 1208 = .ok (.iadd, 1) := by decide +kernel
theorem dL_law_1209 : decode cL_law 1209 = .ok (.iaload, 1) := by decide +kernel
theorem dL_law_1210 : decode cL_law 1210 = .ok (.aload_n 0, 1) := by decide +kernel
theorem dL_law_1211 : decode cL_law 1211 = .ok (.iload 4, 2) := by decide +kernel
theorem dL_law_1213 : decode cL_law 1213 = .ok (.iconst 2, 1) := by decide +kernel
theorem dL_law_1214 : decode cL_law 1214 = .ok (.iadd, 1) := by decide +kernel
theorem dL_law_1215 : decode cL_law 1215 = .ok (.iaload, 1) := by decide +kernel
theorem dL_law_1216 : decode cL_law 1216 = .ok (.aload_n 3, 1) := by decide +kernel
theorem dL_law_1217 : decode cL_law 1217 = .ok (.invokestatic 162, 3) := by decide +kernel
theorem dL_law_1220 : decode cL_law 1220 = .ok (.istore 5, 2) := by decide +kernel
theorem dL_law_1222 : decode cL_law 1222 = .ok (.aload_n 2, 1) := by decide +kernel
theorem dL_law_1223 : decode cL_law 1223 = .ok (.aload_n 0, 1) := by decide +kernel
theorem dL_law_1224 : decode cL_law 1224 = .ok (.iload 4, 2) := by decide +kernel
theorem dL_law_1226 : decode cL_law 1226 = .ok (.iconst 1, 1) := by decide +kernel
theorem dL_law_1227 : decode cL_law 1227 = .ok (.iadd, 1) := by decide +kernel
theorem dL_law_1228 : decode cL_law 1228 = .ok (.iaload, 1) := by decide +kernel
theorem dL_law_1229 : decode cL_law 1229 = .ok (.aload_n 0, 1) := by decide +kernel
theorem dL_law_1230 : decode cL_law 1230 = .ok (.iload 4, 2) := by decide +kernel
theorem dL_law_1232 : decode cL_law 1232 = .ok (.iconst 2, 1) := by decide +kernel
theorem dL_law_1233 : decode cL_law 1233 = .ok (.iadd, 1) := by decide +kernel
theorem dL_law_1234 : decode cL_law 1234 = .ok (.iaload, 1) := by decide +kernel
theorem dL_law_1235 : decode cL_law 1235 = .ok (.invokevirtual 164, 3) := by decide +kernel
theorem dL_law_1238 : decode cL_law 1238 = .ok (.istore 6, 2) := by decide +kernel
theorem dL_law_1240 : decode cL_law 1240 = .ok (.aload_n 2, 1) := by decide +kernel
theorem dL_law_1241 : decode cL_law 1241 = .ok (.invokevirtual 101, 3) := by decide +kernel
theorem dL_law_1244 : decode cL_law 1244 = .ok (.iload 5, 2) := by decide +kernel
theorem dL_law_1246 : decode cL_law 1246 = .ok (.if_icmp .eq 5, 3) := by decide +kernel
theorem dL_law_1249 : decode cL_law 1249 = .ok (.iconst 0, 1) := by decide +kernel
theorem dL_law_1250 : decode cL_law 1250 = .ok (.ireturn, 1) := by decide +kernel
theorem dL_law_1251 : decode cL_law 1251 = .ok (.iload 5, 2) := by decide +kernel
theorem dL_law_1253 : decode cL_law 1253 = .ok (.ifCond .ne 15, 3) := by decide +kernel
theorem dL_law_1256 : decode cL_law 1256 = .ok (.aload_n 3, 1) := by decide +kernel
theorem dL_law_1257 : decode cL_law 1257 = .ok (.iconst 0, 1) := by decide +kernel
theorem dL_law_1258 : decode cL_law 1258 = .ok (.laload, 1) := by decide +kernel
theorem dL_law_1259 : decode cL_law 1259 = .ok (.iload 6, 2) := by decide +kernel
theorem dL_law_1261 : decode cL_law 1261 = .ok (.i2l, 1) := by decide +kernel
theorem dL_law_1262 : decode cL_law 1262 = .ok (.lcmp, 1) := by decide +kernel
theorem dL_law_1263 : decode cL_law 1263 = .ok (.ifCond .eq 5, 3) := by decide +kernel
theorem dL_law_1266 : decode cL_law 1266 = .ok (.iconst 0, 1) := by decide +kernel
theorem dL_law_1267 : decode cL_law 1267 = .ok (.ireturn, 1) := by decide +kernel
theorem dL_law_1268 : decode cL_law 1268 = .ok (.goto 520, 3) := by decide +kernel
theorem dL_law_1271 : decode cL_law 1271 = .ok (.aload_n 1, 1) := by decide +kernel
theorem dL_law_1272 : decode cL_law 1272 = .ok (.aload_n 0, 1) := by decide +kernel
theorem dL_law_1273 : decode cL_law 1273 = .ok (.iload 4, 2) := by decide +kernel
theorem dL_law_1275 : decode cL_law 1275 = .ok (.iconst 1, 1) := by decide +kernel
theorem dL_law_1276 : decode cL_law 1276 = .ok (.iadd, 1) := by decide +kernel
theorem dL_law_1277 : decode cL_law 1277 = .ok (.iaload, 1) := by decide +kernel
theorem dL_law_1278 : decode cL_law 1278 = .ok (.aload_n 3, 1) := by decide +kernel
theorem dL_law_1279 : decode cL_law 1279 = .ok (.invokestatic 165, 3) := by decide +kernel
theorem dL_law_1282 : decode cL_law 1282 = .ok (.istore 5, 2) := by decide +kernel
theorem dL_law_1284 : decode cL_law 1284 = .ok (.aload_n 2, 1) := by decide +kernel
theorem dL_law_1285 : decode cL_law 1285 = .ok (.aload_n 0, 1) := by decide +kernel
theorem dL_law_1286 : decode cL_law 1286 = .ok (.iload 4, 2) := by decide +kernel
theorem dL_law_1288 : decode cL_law 1288 = .ok (.iconst 1, 1) := by decide +kernel
theorem dL_law_1289 : decode cL_law 1289 = .ok (.iadd, 1) := by decide +kernel
theorem dL_law_1290 : decode cL_law 1290 = .ok (.iaload, 1) := by decide +kernel
theorem dL_law_1291 : decode cL_law 1291 = .ok (.invokevirtual 167, 3) := by decide +kernel
theorem dL_law_1294 : decode cL_law 1294 = .ok (.istore 6, 2) := by decide +kernel
theorem dL_law_1296 : decode cL_law 1296 = .ok (.aload_n 2, 1) := by decide +kernel
theorem dL_law_1297 : decode cL_law 1297 = .ok (.invokevirtual 101, 3) := by decide +kernel
theorem dL_law_1300 : decode cL_law 1300 = .ok (.iload 5, 2) := by decide +kernel
theorem dL_law_1302 : decode cL_law 1302 = .ok (.if_icmp .eq 5, 3) := by decide +kernel
theorem dL_law_1305 : decode cL_law 1305 = .ok (.iconst 0, 1) := by decide +kernel
theorem dL_law_1306 : decode cL_law 1306 = .ok (.ireturn, 1) := by decide +kernel
theorem dL_law_1307 : decode cL_law 1307 = .ok (.iload 5, 2) := by decide +kernel
theorem dL_law_1309 : decode cL_law 1309 = .ok (.ifCond .ne 15, 3) := by decide +kernel
theorem dL_law_1312 : decode cL_law 1312 = .ok (.aload_n 3, 1) := by decide +kernel
theorem dL_law_1313 : decode cL_law 1313 = .ok (.iconst 0, 1) := by decide +kernel
theorem dL_law_1314 : decode cL_law 1314 = .ok (.laload, 1) := by decide +kernel
theorem dL_law_1315 : decode cL_law 1315 = .ok (.iload 6, 2) := by decide +kernel
theorem dL_law_1317 : decode cL_law 1317 = .ok (.i2l, 1) := by decide +kernel
theorem dL_law_1318 : decode cL_law 1318 = .ok (.lcmp, 1) := by decide +kernel
theorem dL_law_1319 : decode cL_law 1319 = .ok (.ifCond .eq 5, 3) := by decide +kernel
theorem dL_law_1322 : decode cL_law 1322 = .ok (.iconst 0, 1) := by decide +kernel
theorem dL_law_1323 : decode cL_law 1323 = .ok (.ireturn, 1) := by decide +kernel
theorem dL_law_1324 : decode cL_law 1324 = .ok (.goto 464, 3) := by decide +kernel
theorem dL_law_1327 : decode cL_law 1327 = .ok (.aload_n 1, 1) := by decide +kernel
theorem dL_law_1328 : decode cL_law 1328 = .ok (.aload_n 0, 1) := by decide +kernel
theorem dL_law_1329 : decode cL_law 1329 = .ok (.iload 4, 2) := by decide +kernel
theorem dL_law_1331 : decode cL_law 1331 = .ok (.iconst 1, 1) := by decide +kernel
theorem dL_law_1332 : decode cL_law 1332 = .ok (.iadd, 1) := by decide +kernel
theorem dL_law_1333 : decode cL_law 1333 = .ok (.iaload, 1) := by decide +kernel
theorem dL_law_1334 : decode cL_law 1334 = .ok (.aload_n 0, 1) := by decide +kernel
theorem dL_law_1335 : decode cL_law 1335 = .ok (.iload 4, 2) := by decide +kernel
theorem dL_law_1337 : decode cL_law 1337 = .ok (.iconst 2, 1) := by decide +kernel
theorem dL_law_1338 : decode cL_law 1338 = .ok (.iadd, 1) := by decide +kernel
theorem dL_law_1339 : decode cL_law 1339 = .ok (.iaload, 1) := by decide +kernel
theorem dL_law_1340 : decode cL_law 1340 = .ok (.aload_n 3, 1) := by decide +kernel
theorem dL_law_1341 : decode cL_law 1341 = .ok (.invokestatic 168, 3) := by decide +kernel
theorem dL_law_1344 : decode cL_law 1344 = .ok (.istore 5, 2) := by decide +kernel
theorem dL_law_1346 : decode cL_law 1346 = .ok (.aload_n 2, 1) := by decide +kernel
theorem dL_law_1347 : decode cL_law 1347 = .ok (.aload_n 0, 1) := by decide +kernel
theorem dL_law_1348 : decode cL_law 1348 = .ok (.iload 4, 2) := by decide +kernel
theorem dL_law_1350 : decode cL_law 1350 = .ok (.iconst 1, 1) := by decide +kernel
theorem dL_law_1351 : decode cL_law 1351 = .ok (.iadd, 1) := by decide +kernel
theorem dL_law_1352 : decode cL_law 1352 = .ok (.iaload, 1) := by decide +kernel
theorem dL_law_1353 : decode cL_law 1353 = .ok (.aload_n 0, 1) := by decide +kernel
theorem dL_law_1354 : decode cL_law 1354 = .ok (.iload 4, 2) := by decide +kernel
theorem dL_law_1356 : decode cL_law 1356 = .ok (.iconst 2, 1) := by decide +kernel
theorem dL_law_1357 : decode cL_law 1357 = .ok (.iadd, 1) := by decide +kernel
theorem dL_law_1358 : decode cL_law 1358 = .ok (.iaload, 1) := by decide +kernel
theorem dL_law_1359 : decode cL_law 1359 = .ok (.invokevirtual 170, 3) := by decide +kernel
theorem dL_law_1362 : decode cL_law 1362 = .ok (.istore 6, 2) := by decide +kernel
theorem dL_law_1364 : decode cL_law 1364 = .ok (.aload_n 2, 1) := by decide +kernel
theorem dL_law_1365 : decode cL_law 1365 = .ok (.invokevirtual 101, 3) := by decide +kernel
theorem dL_law_1368 : decode cL_law 1368 = .ok (.iload 5, 2) := by decide +kernel
theorem dL_law_1370 : decode cL_law 1370 = .ok (.if_icmp .eq 5, 3) := by decide +kernel
theorem dL_law_1373 : decode cL_law 1373 = .ok (.iconst 0, 1) := by decide +kernel
theorem dL_law_1374 : decode cL_law 1374 = .ok (.ireturn, 1) := by decide +kernel
theorem dL_law_1375 : decode cL_law 1375 = .ok (.iload 5, 2) := by decide +kernel
theorem dL_law_1377 : decode cL_law 1377 = .ok (.ifCond .ne 15, 3) := by decide +kernel
theorem dL_law_1380 : decode cL_law 1380 = .ok (.aload_n 3, 1) := by decide +kernel
theorem dL_law_1381 : decode cL_law 1381 = .ok (.iconst 0, 1) := by decide +kernel
theorem dL_law_1382 : decode cL_law 1382 = .ok (.laload, 1) := by decide +kernel
theorem dL_law_1383 : decode cL_law 1383 = .ok (.iload 6, 2) := by decide +kernel
theorem dL_law_1385 : decode cL_law 1385 = .ok (.i2l, 1) := by decide +kernel
theorem dL_law_1386 : decode cL_law 1386 = .ok (.lcmp, 1) := by decide +kernel
theorem dL_law_1387 : decode cL_law 1387 = .ok (.ifCond .eq 5, 3) := by decide +kernel
theorem dL_law_1390 : decode cL_law 1390 = .ok (.iconst 0, 1) := by decide +kernel
theorem dL_law_1391 : decode cL_law 1391 = .ok (.ireturn, 1) := by decide +kernel
theorem dL_law_1392 : decode cL_law 1392 = .ok (.goto 396, 3) := by decide +kernel
theorem dL_law_1395 : decode cL_law 1395 = .ok (.aload_n 1, 1) := by decide +kernel
theorem dL_law_1396 : decode cL_law 1396 = .ok (.aload_n 0, 1) := by decide +kernel
theorem dL_law_1397 : decode cL_law 1397 = .ok (.iload 4, 2) := by decide +kernel
theorem dL_law_1399 : decode cL_law 1399 = .ok (.iconst 1, 1) := by decide +kernel
theorem dL_law_1400 : decode cL_law 1400 = .ok (.iadd, 1) := by decide +kernel
theorem dL_law_1401 : decode cL_law 1401 = .ok (.iaload, 1) := by decide +kernel
theorem dL_law_1402 : decode cL_law 1402 = .ok (.aload_n 0, 1) := by decide +kernel
theorem dL_law_1403 : decode cL_law 1403 = .ok (.iload 4, 2) := by decide +kernel
theorem dL_law_1405 : decode cL_law 1405 = .ok (.iconst 2, 1) := by decide +kernel
theorem dL_law_1406 : decode cL_law 1406 = .ok (.iadd, 1) := by decide +kernel
theorem dL_law_1407 : decode cL_law 1407 = .ok (.iaload, 1) := by decide +kernel
theorem dL_law_1408 : decode cL_law 1408 = .ok (.aload_n 3, 1) := by decide +kernel
theorem dL_law_1409 : decode cL_law 1409 = .ok (.invokestatic 171, 3) := by decide +kernel
theorem dL_law_1412 : decode cL_law 1412 = .ok (.istore 5, 2) := by decide +kernel
theorem dL_law_1414 : decode cL_law 1414 = .ok (.aload_n 2, 1) := by decide +kernel
theorem dL_law_1415 : decode cL_law 1415 = .ok (.aload_n 0, 1) := by decide +kernel
theorem dL_law_1416 : decode cL_law 1416 = .ok (.iload 4, 2) := by decide +kernel
theorem dL_law_1418 : decode cL_law 1418 = .ok (.iconst 1, 1) := by decide +kernel
theorem dL_law_1419 : decode cL_law 1419 = .ok (.iadd, 1) := by decide +kernel
theorem dL_law_1420 : decode cL_law 1420 = .ok (.iaload, 1) := by decide +kernel
theorem dL_law_1421 : decode cL_law 1421 = .ok (.aload_n 0, 1) := by decide +kernel
theorem dL_law_1422 : decode cL_law 1422 = .ok (.iload 4, 2) := by decide +kernel
theorem dL_law_1424 : decode cL_law 1424 = .ok (.iconst 2, 1) := by decide +kernel
theorem dL_law_1425 : decode cL_law 1425 = .ok (.iadd, 1) := by decide +kernel
theorem dL_law_1426 : decode cL_law 1426 = .ok (.iaload, 1) := by decide +kernel
theorem dL_law_1427 : decode cL_law 1427 = .ok (.invokevirtual 173, 3) := by decide +kernel
theorem dL_law_1430 : decode cL_law 1430 = .ok (.istore 6, 2) := by decide +kernel
theorem dL_law_1432 : decode cL_law 1432 = .ok (.aload_n 2, 1) := by decide +kernel
theorem dL_law_1433 : decode cL_law 1433 = .ok (.invokevirtual 101, 3) := by decide +kernel
theorem dL_law_1436 : decode cL_law 1436 = .ok (.iload 5, 2) := by decide +kernel
theorem dL_law_1438 : decode cL_law 1438 = .ok (.if_icmp .eq 5, 3) := by decide +kernel
theorem dL_law_1441 : decode cL_law 1441 = .ok (.iconst 0, 1) := by decide +kernel
theorem dL_law_1442 : decode cL_law 1442 = .ok (.ireturn, 1) := by decide +kernel
theorem dL_law_1443 : decode cL_law 1443 = .ok (.iload 5, 2) := by decide +kernel
theorem dL_law_1445 : decode cL_law 1445 = .ok (.ifCond .ne 15, 3) := by decide +kernel
theorem dL_law_1448 : decode cL_law 1448 = .ok (.aload_n 3, 1) := by decide +kernel
theorem dL_law_1449 : decode cL_law 1449 = .ok (.iconst 0, 1) := by decide +kernel
theorem dL_law_1450 : decode cL_law 1450 = .ok (.laload, 1) := by decide +kernel
theorem dL_law_1451 : decode cL_law 1451 = .ok (.iload 6, 2) := by decide +kernel
theorem dL_law_1453 : decode cL_law 1453 = .ok (.i2l, 1) := by decide +kernel
theorem dL_law_1454 : decode cL_law 1454 = .ok (.lcmp, 1) := by decide +kernel
theorem dL_law_1455 : decode cL_law 1455 = .ok (.ifCond .eq 5, 3) := by decide +kernel
theorem dL_law_1458 : decode cL_law 1458 = .ok (.iconst 0, 1) := by decide +kernel
theorem dL_law_1459 : decode cL_law 1459 = .ok (.ireturn, 1) := by decide +kernel
theorem dL_law_1460 : decode cL_law 1460 = .ok (.goto 328, 3) := by decide +kernel
theorem dL_law_1463 : decode cL_law 1463 = .ok (.aload_n 1, 1) := by decide +kernel
theorem dL_law_1464 : decode cL_law 1464 = .ok (.invokevirtual 174, 3) := by decide +kernel
theorem dL_law_1467 : decode cL_law 1467 = .ok (.aload_n 2, 1) := by decide +kernel
theorem dL_law_1468 : decode cL_law 1468 = .ok (.invokevirtual 177, 3) := by decide +kernel
theorem dL_law_1471 : decode cL_law 1471 = .ok (.if_icmp .eq 317, 3) := by decide +kernel
theorem dL_law_1474 : decode cL_law 1474 = .ok (.iconst 0, 1) := by decide +kernel
theorem dL_law_1475 : decode cL_law 1475 = .ok (.ireturn, 1) := by decide +kernel
theorem dL_law_1476 : decode cL_law 1476 = .ok (.aload_n 1, 1) := by decide +kernel
theorem dL_law_1477 : decode cL_law 1477 = .ok (.aload_n 0, 1) := by decide +kernel
theorem dL_law_1478 : decode cL_law 1478 = .ok (.iload 4, 2) := by decide +kernel
theorem dL_law_1480 : decode cL_law 1480 = .ok (.iconst 1, 1) := by decide +kernel
theorem dL_law_1481 : decode cL_law 1481 = .ok (.iadd, 1) := by decide +kernel
theorem dL_law_1482 : decode cL_law 1482 = .ok (.iaload, 1) := by decide +kernel
theorem dL_law_1483 : decode cL_law 1483 = .ok (.aload_n 0, 1) := by decide +kernel
theorem dL_law_1484 : decode cL_law 1484 = .ok (.iload 4, 2) := by decide +kernel
theorem dL_law_1486 : decode cL_law 1486 = .ok (.iconst 2, 1) := by decide +kernel
theorem dL_law_1487 : decode cL_law 1487 = .ok (.iadd, 1) := by decide +kernel
theorem dL_law_1488 : decode cL_law 1488 = .ok (.iaload, 1) := by decide +kernel
theorem dL_law_1489 : decode cL_law 1489 = .ok (.i2l, 1) := by decide +kernel
theorem dL_law_1490 : decode cL_law 1490 = .ok (.bipush 32, 2) := by decide +kernel
theorem dL_law_1492 : decode cL_law 1492 = .ok (.lshl, 1) := by decide +kernel
theorem dL_law_1493 : decode cL_law 1493 = .ok (.aload_n 0, 1) := by decide +kernel
theorem dL_law_1494 : decode cL_law 1494 = .ok (.iload 4, 2) := by decide +kernel
theorem dL_law_1496 : decode cL_law 1496 = .ok (.iconst 3, 1) := by decide +kernel
theorem dL_law_1497 : decode cL_law 1497 = .ok (.iadd, 1) := by decide +kernel
theorem dL_law_1498 : decode cL_law 1498 = .ok (.iaload, 1) := by decide +kernel
theorem dL_law_1499 : decode cL_law 1499 = .ok (.i2l, 1) := by decide +kernel
theorem dL_law_1500 : decode cL_law 1500 = .ok (.ldc2_w 178, 3) := by decide +kernel
theorem dL_law_1503 : decode cL_law 1503 = .ok (.land, 1) := by decide +kernel
theorem dL_law_1504 : decode cL_law 1504 = .ok (.lor, 1) := by decide +kernel
theorem dL_law_1505 : decode cL_law 1505 = .ok (.aload_n 3, 1) := by decide +kernel
theorem dL_law_1506 : decode cL_law 1506 = .ok (.invokestatic 180, 3) := by decide +kernel
theorem dL_law_1509 : decode cL_law 1509 = .ok (.istore 5, 2) := by decide +kernel
theorem dL_law_1511 : decode cL_law 1511 = .ok (.aload_n 2, 1) := by decide +kernel
theorem dL_law_1512 : decode cL_law 1512 = .ok (.aload_n 0, 1) := by decide +kernel
theorem dL_law_1513 : decode cL_law 1513 = .ok (.iload 4, 2) := by decide +kernel
theorem dL_law_1515 : decode cL_law 1515 = .ok (.iconst 1, 1) := by decide +kernel
theorem dL_law_1516 : decode cL_law 1516 = .ok (.iadd, 1) := by decide +kernel
theorem dL_law_1517 : decode cL_law 1517 = .ok (.iaload, 1) := by decide +kernel
theorem dL_law_1518 : decode cL_law 1518 = .ok (.aload_n 0, 1) := by decide +kernel
theorem dL_law_1519 : decode cL_law 1519 = .ok (.iload 4, 2) := by decide +kernel
theorem dL_law_1521 : decode cL_law 1521 = .ok (.iconst 2, 1) := by decide +kernel
theorem dL_law_1522 : decode cL_law 1522 = .ok (.iadd, 1) := by decide +kernel
theorem dL_law_1523 : decode cL_law 1523 = .ok (.iaload, 1) := by decide +kernel
theorem dL_law_1524 : decode cL_law 1524 = .ok (.i2l, 1) := by decide +kernel
theorem dL_law_1525 : decode cL_law 1525 = .ok (.bipush 32, 2) := by decide +kernel
theorem dL_law_1527 : decode cL_law 1527 = .ok (.lshl, 1) := by decide +kernel
theorem dL_law_1528 : decode cL_law 1528 = .ok (.aload_n 0, 1) := by decide +kernel
theorem dL_law_1529 : decode cL_law 1529 = .ok (.iload 4, 2) := by decide +kernel
theorem dL_law_1531 : decode cL_law 1531 = .ok (.iconst 3, 1) := by decide +kernel
theorem dL_law_1532 : decode cL_law 1532 = .ok (.iadd, 1) := by decide +kernel
theorem dL_law_1533 : decode cL_law 1533 = .ok (.iaload, 1) := by decide +kernel
theorem dL_law_1534 : decode cL_law 1534 = .ok (.i2l, 1) := by decide +kernel
theorem dL_law_1535 : decode cL_law 1535 = .ok (.ldc2_w 178, 3) := by decide +kernel
theorem dL_law_1538 : decode cL_law 1538 = .ok (.land, 1) := by decide +kernel
theorem dL_law_1539 : decode cL_law 1539 = .ok (.lor, 1) := by decide +kernel
theorem dL_law_1540 : decode cL_law 1540 = .ok (.invokevirtual 183, 3) := by decide +kernel
theorem dL_law_1543 : decode cL_law 1543 = .ok (.istore 6, 2) := by decide +kernel
theorem dL_law_1545 : decode cL_law 1545 = .ok (.aload_n 2, 1) := by decide +kernel
theorem dL_law_1546 : decode cL_law 1546 = .ok (.invokevirtual 101, 3) := by decide +kernel
theorem dL_law_1549 : decode cL_law 1549 = .ok (.iload 5, 2) := by decide +kernel
theorem dL_law_1551 : decode cL_law 1551 = .ok (.if_icmp .eq 5, 3) := by decide +kernel
theorem dL_law_1554 : decode cL_law 1554 = .ok (.iconst 0, 1) := by decide +kernel
theorem dL_law_1555 : decode cL_law 1555 = .ok (.ireturn, 1) := by decide +kernel
theorem dL_law_1556 : decode cL_law 1556 = .ok (.iload 5, 2) := by decide +kernel
theorem dL_law_1558 : decode cL_law 1558 = .ok (.ifCond .ne 15, 3) := by decide +kernel
theorem dL_law_1561 : decode cL_law 1561 = .ok (.aload_n 3, 1) := by decide +kernel
theorem dL_law_1562 : decode cL_law 1562 = .ok (.iconst 0, 1) := by decide +kernel
theorem dL_law_1563 : decode cL_law 1563 = .ok (.laload, 1) := by decide +kernel
theorem dL_law_1564 : decode cL_law 1564 = .ok (.iload 6, 2) := by decide +kernel
theorem dL_law_1566 : decode cL_law 1566 = .ok (.i2l, 1) := by decide +kernel
theorem dL_law_1567 : decode cL_law 1567 = .ok (.lcmp, 1) := by decide +kernel
theorem dL_law_1568 : decode cL_law 1568 = .ok (.ifCond .eq 5, 3) := by decide +kernel
theorem dL_law_1571 : decode cL_law 1571 = .ok (.iconst 0, 1) := by decide +kernel
theorem dL_law_1572 : decode cL_law 1572 = .ok (.ireturn, 1) := by decide +kernel
theorem dL_law_1573 : decode cL_law 1573 = .ok (.goto 215, 3) := by decide +kernel
theorem dL_law_1576 : decode cL_law 1576 = .ok (.aload_n 1, 1) := by decide +kernel
theorem dL_law_1577 : decode cL_law 1577 = .ok (.aload_n 0, 1) := by decide +kernel
theorem dL_law_1578 : decode cL_law 1578 = .ok (.iload 4, 2) := by decide +kernel
theorem dL_law_1580 : decode cL_law 1580 = .ok (.iconst 1, 1) := by decide +kernel
theorem dL_law_1581 : decode cL_law 1581 = .ok (.iadd, 1) := by decide +kernel
theorem dL_law_1582 : decode cL_law 1582 = .ok (.iaload, 1) := by decide +kernel
theorem dL_law_1583 : decode cL_law 1583 = .ok (.i2l, 1) := by decide +kernel
theorem dL_law_1584 : decode cL_law 1584 = .ok (.bipush 32, 2) := by decide +kernel
theorem dL_law_1586 : decode cL_law 1586 = .ok (.lshl, 1) := by decide +kernel
theorem dL_law_1587 : decode cL_law 1587 = .ok (.aload_n 0, 1) := by decide +kernel
theorem dL_law_1588 : decode cL_law 1588 = .ok (.iload 4, 2) := by decide +kernel
theorem dL_law_1590 : decode cL_law 1590 = .ok (.iconst 2, 1) := by decide +kernel
theorem dL_law_1591 : decode cL_law 1591 = .ok (.iadd, 1) := by decide +kernel
theorem dL_law_1592 : decode cL_law 1592 = .ok (.iaload, 1) := by decide +kernel
theorem dL_law_1593 : decode cL_law 1593 = .ok (.i2l, 1) := by decide +kernel
theorem dL_law_1594 : decode cL_law 1594 = .ok (.ldc2_w 178, 3) := by decide +kernel
theorem dL_law_1597 : decode cL_law 1597 = .ok (.land, 1) := by decide +kernel
theorem dL_law_1598 : decode cL_law 1598 = .ok (.lor, 1) := by decide +kernel
theorem dL_law_1599 : decode cL_law 1599 = .ok (.aload_n 0, 1) := by decide +kernel
theorem dL_law_1600 : decode cL_law 1600 = .ok (.iload 4, 2) := by decide +kernel
theorem dL_law_1602 : decode cL_law 1602 = .ok (.iconst 3, 1) := by decide +kernel
theorem dL_law_1603 : decode cL_law 1603 = .ok (.iadd, 1) := by decide +kernel
theorem dL_law_1604 : decode cL_law 1604 = .ok (.iaload, 1) := by decide +kernel
theorem dL_law_1605 : decode cL_law 1605 = .ok (.aload_n 3, 1) := by decide +kernel
theorem dL_law_1606 : decode cL_law 1606 = .ok (.invokestatic 184, 3) := by decide +kernel
theorem dL_law_1609 : decode cL_law 1609 = .ok (.istore 5, 2) := by decide +kernel
theorem dL_law_1611 : decode cL_law 1611 = .ok (.aload_n 2, 1) := by decide +kernel
theorem dL_law_1612 : decode cL_law 1612 = .ok (.aload_n 0, 1) := by decide +kernel
theorem dL_law_1613 : decode cL_law 1613 = .ok (.iload 4, 2) := by decide +kernel
theorem dL_law_1615 : decode cL_law 1615 = .ok (.iconst 1, 1) := by decide +kernel
theorem dL_law_1616 : decode cL_law 1616 = .ok (.iadd, 1) := by decide +kernel
theorem dL_law_1617 : decode cL_law 1617 = .ok (.iaload, 1) := by decide +kernel
theorem dL_law_1618 : decode cL_law 1618 = .ok (.i2l, 1) := by decide +kernel
theorem dL_law_1619 : decode cL_law 1619 = .ok (.bipush 32, 2) := by decide +kernel
theorem dL_law_1621 : decode cL_law 1621 = .ok (.lshl, 1) := by decide +kernel
theorem dL_law_1622 : decode cL_law 1622 = .ok (.aload_n 0, 1) := by decide +kernel
theorem dL_law_1623 : decode cL_law 1623 = .ok (.iload 4, 2) := by decide +kernel
theorem dL_law_1625 : decode cL_law 1625 = .ok (.iconst 2, 1) := by decide +kernel
theorem dL_law_1626 : decode cL_law 1626 = .ok (.iadd, 1) := by decide +kernel
theorem dL_law_1627 : decode cL_law 1627 = .ok (.iaload, 1) := by decide +kernel
theorem dL_law_1628 : decode cL_law 1628 = .ok (.i2l, 1) := by decide +kernel
theorem dL_law_1629 : decode cL_law 1629 = .ok (.ldc2_w 178, 3) := by decide +kernel
theorem dL_law_1632 : decode cL_law 1632 = .ok (.land, 1) := by decide +kernel
theorem dL_law_1633 : decode cL_law 1633 = .ok (.lor, 1) := by decide +kernel
theorem dL_law_1634 : decode cL_law 1634 = .ok (.aload_n 0, 1) := by decide +kernel
theorem dL_law_1635 : decode cL_law 1635 = .ok (.iload 4, 2) := by decide +kernel
theorem dL_law_1637 : decode cL_law 1637 = .ok (.iconst 3, 1) := by decide +kernel
theorem dL_law_1638 : decode cL_law 1638 = .ok (.iadd, 1) := by decide +kernel
theorem dL_law_1639 : decode cL_law 1639 = .ok (.iaload, 1) := by decide +kernel
theorem dL_law_1640 : decode cL_law 1640 = .ok (.invokevirtual 187, 3) := by decide +kernel
theorem dL_law_1643 : decode cL_law 1643 = .ok (.istore 6, 2) := by decide +kernel
theorem dL_law_1645 : decode cL_law 1645 = .ok (.aload_n 2, 1) := by decide +kernel
theorem dL_law_1646 : decode cL_law 1646 = .ok (.invokevirtual 101, 3) := by decide +kernel
theorem dL_law_1649 : decode cL_law 1649 = .ok (.iload 5, 2) := by decide +kernel
theorem dL_law_1651 : decode cL_law 1651 = .ok (.if_icmp .eq 5, 3) := by decide +kernel
theorem dL_law_1654 : decode cL_law 1654 = .ok (.iconst 0, 1) := by decide +kernel
theorem dL_law_1655 : decode cL_law 1655 = .ok (.ireturn, 1) := by decide +kernel
theorem dL_law_1656 : decode cL_law 1656 = .ok (.iload 5, 2) := by decide +kernel
theorem dL_law_1658 : decode cL_law 1658 = .ok (.ifCond .ne 15, 3) := by decide +kernel
theorem dL_law_1661 : decode cL_law 1661 = .ok (.aload_n 3, 1) := by decide +kernel
theorem dL_law_1662 : decode cL_law 1662 = .ok (.iconst 0, 1) := by decide +kernel
theorem dL_law_1663 : decode cL_law 1663 = .ok (.laload, 1) := by decide +kernel
theorem dL_law_1664 : decode cL_law 1664 = .ok (.iload 6, 2) := by decide +kernel
theorem dL_law_1666 : decode cL_law 1666 = .ok (.i2l, 1) := by decide +kernel
theorem dL_law_1667 : decode cL_law 1667 = .ok (.lcmp, 1) := by decide +kernel
theorem dL_law_1668 : decode cL_law 1668 = .ok (.ifCond .eq 5, 3) := by decide +kernel
theorem dL_law_1671 : decode cL_law 1671 = .ok (.iconst 0, 1) := by decide +kernel
theorem dL_law_1672 : decode cL_law 1672 = .ok (.ireturn, 1) := by decide +kernel
theorem dL_law_1673 : decode cL_law 1673 = .ok (.goto 115, 3) := by decide +kernel
theorem dL_law_1676 : decode cL_law 1676 = .ok (.aload_n 1, 1) := by decide +kernel
theorem dL_law_1677 : decode cL_law 1677 = .ok (.aload_n 0, 1) := by decide +kernel
theorem dL_law_1678 : decode cL_law 1678 = .ok (.iload 4, 2) := by decide +kernel
theorem dL_law_1680 : decode cL_law 1680 = .ok (.iconst 1, 1) := by decide +kernel
theorem dL_law_1681 : decode cL_law 1681 = .ok (.iadd, 1) := by decide +kernel
theorem dL_law_1682 : decode cL_law 1682 = .ok (.iaload, 1) := by decide +kernel
theorem dL_law_1683 : decode cL_law 1683 = .ok (.aload_n 3, 1) := by decide +kernel
theorem dL_law_1684 : decode cL_law 1684 = .ok (.invokestatic 188, 3) := by decide +kernel
theorem dL_law_1687 : decode cL_law 1687 = .ok (.istore 5, 2) := by decide +kernel
theorem dL_law_1689 : decode cL_law 1689 = .ok (.aload_n 2, 1) := by decide +kernel
theorem dL_law_1690 : decode cL_law 1690 = .ok (.aload_n 0, 1) := by decide +kernel
theorem dL_law_1691 : decode cL_law 1691 = .ok (.iload 4, 2) := by decide +kernel
theorem dL_law_1693 : decode cL_law 1693 = .ok (.iconst 1, 1) := by decide +kernel
theorem dL_law_1694 : decode cL_law 1694 = .ok (.iadd, 1) := by decide +kernel
theorem dL_law_1695 : decode cL_law 1695 = .ok (.iaload, 1) := by decide +kernel
theorem dL_law_1696 : decode cL_law 1696 = .ok (.invokevirtual 190, 3) := by decide +kernel
theorem dL_law_1699 : decode cL_law 1699 = .ok (.istore 6, 2) := by decide +kernel
theorem dL_law_1701 : decode cL_law 1701 = .ok (.aload_n 2, 1) := by decide +kernel
theorem dL_law_1702 : decode cL_law 1702 = .ok (.invokevirtual 101, 3) := by decide +kernel
theorem dL_law_1705 : decode cL_law 1705 = .ok (.iload 5, 2) := by decide +kernel
theorem dL_law_1707 : decode cL_law 1707 = .ok (.if_icmp .eq 5, 3) := by decide +kernel
theorem dL_law_1710 : decode cL_law 1710 = .ok (.iconst 0, 1) := by decide +kernel
theorem dL_law_1711 : decode cL_law 1711 = .ok (.ireturn, 1) := by decide +kernel
theorem dL_law_1712 : decode cL_law 1712 = .ok (.iload 5, 2) := by decide +kernel
theorem dL_law_1714 : decode cL_law 1714 = .ok (.ifCond .ne 15, 3) := by decide +kernel
theorem dL_law_1717 : decode cL_law 1717 = .ok (.aload_n 3, 1) := by decide +kernel
theorem dL_law_1718 : decode cL_law 1718 = .ok (.iconst 0, 1) := by decide +kernel
theorem dL_law_1719 : decode cL_law 1719 = .ok (.laload, 1) := by decide +kernel
theorem dL_law_1720 : decode cL_law 1720 = .ok (.iload 6, 2) := by decide +kernel
theorem dL_law_1722 : decode cL_law 1722 = .ok (.i2l, 1) := by decide +kernel
theorem dL_law_1723 : decode cL_law 1723 = .ok (.lcmp, 1) := by decide +kernel
theorem dL_law_1724 : decode cL_law 1724 = .ok (.ifCond .eq 5, 3) := by decide +kernel
theorem dL_law_1727 : decode cL_law 1727 = .ok (.iconst 0, 1) := by decide +kernel
theorem dL_law_1728 : decode cL_law 1728 = .ok (.ireturn, 1) := by decide +kernel
theorem dL_law_1729 : decode cL_law 1729 = .ok (.goto 59, 3) := by decide +kernel
theorem dL_law_1732 : decode cL_law 1732 = .ok (.aload_n 1, 1) := by decide +kernel
theorem dL_law_1733 : decode cL_law 1733 = .ok (.aload_n 0, 1) := by decide +kernel
theorem dL_law_1734 : decode cL_law 1734 = .ok (.iload 4, 2) := by decide +kernel
theorem dL_law_1736 : decode cL_law 1736 = .ok (.iconst 1, 1) := by decide +kernel
theorem dL_law_1737 : decode cL_law 1737 = .ok (.iadd, 1) := by decide +kernel
theorem dL_law_1738 : decode cL_law 1738 = .ok (.iaload, 1) := by decide +kernel
theorem dL_law_1739 : decode cL_law 1739 = .ok (.aload_n 3, 1) := by decide +kernel
theorem dL_law_1740 : decode cL_law 1740 = .ok (.invokestatic 191, 3) := by decide +kernel
theorem dL_law_1743 : decode cL_law 1743 = .ok (.istore 5, 2) := by decide +kernel
theorem dL_law_1745 : decode cL_law 1745 = .ok (.aload_n 2, 1) := by decide +kernel
theorem dL_law_1746 : decode cL_law 1746 = .ok (.aload_n 0, 1) := by decide +kernel
theorem dL_law_1747 : decode cL_law 1747 = .ok (.iload 4, 2) := by decide +kernel
theorem dL_law_1749 : decode cL_law 1749 = .ok (.iconst 1, 1) := by decide +kernel
theorem dL_law_1750 : decode cL_law 1750 = .ok (.iadd, 1) := by decide +kernel
theorem dL_law_1751 : decode cL_law 1751 = .ok (.iaload, 1) := by decide +kernel
theorem dL_law_1752 : decode cL_law 1752 = .ok (.invokevirtual 193, 3) := by decide +kernel
theorem dL_law_1755 : decode cL_law 1755 = .ok (.istore 6, 2) := by decide +kernel
theorem dL_law_1757 : decode cL_law 1757 = .ok (.aload_n 2, 1) := by decide +kernel
theorem dL_law_1758 : decode cL_law 1758 = .ok (.invokevirtual 101, 3) := by decide +kernel
theorem dL_law_1761 : decode cL_law 1761 = .ok (.iload 5, 2) := by decide +kernel
theorem dL_law_1763 : decode cL_law 1763 = .ok (.if_icmp .eq 5, 3) := by decide +kernel
theorem dL_law_1766 : decode cL_law 1766 = .ok (.iconst 0, 1) := by decide +kernel
theorem dL_law_1767 : decode cL_law 1767 = .ok (.ireturn, 1) := by decide +kernel
theorem dL_law_1768 : decode cL_law 1768 = .ok (.iload 5, 2) := by decide +kernel
theorem dL_law_1770 : decode cL_law 1770 = .ok (.ifCond .ne 15, 3) := by decide +kernel
theorem dL_law_1773 : decode cL_law 1773 = .ok (.aload_n 3, 1) := by decide +kernel
theorem dL_law_1774 : decode cL_law 1774 = .ok (.iconst 0, 1) := by decide +kernel
theorem dL_law_1775 : decode cL_law 1775 = .ok (.laload, 1) := by decide +kernel
theorem dL_law_1776 : decode cL_law 1776 = .ok (.iload 6, 2) := by decide +kernel
theorem dL_law_1778 : decode cL_law 1778 = .ok (.i2l, 1) := by decide +kernel
theorem dL_law_1779 : decode cL_law 1779 = .ok (.lcmp, 1) := by decide +kernel
theorem dL_law_1780 : decode cL_law 1780 = .ok (.ifCond .eq 5, 3) := by decide +kernel
theorem dL_law_1783 : decode cL_law 1783 = .ok (.iconst 0, 1) := by decide +kernel
theorem dL_law_1784 : decode cL_law 1784 = .ok (.ireturn, 1) := by decide +kernel
theorem dL_law_1785 : decode cL_law 1785 = .ok (.goto 3, 3) := by decide +kernel
theorem dL_law_1788 : decode cL_law 1788 = .ok (.iinc 4 8, 3) := by decide +kernel
theorem dL_law_1791 : decode cL_law 1791 = .ok (.goto (-1768), 3) := by decide +kernel
theorem dL_law_1794 : decode cL_law 1794 = .ok (.iconst 1, 1) := by decide +kernel
theorem dL_law_1795 : decode cL_law 1795 = .ok (.ireturn, 1) := by decide +kernel
end
section
/-! The abstract heap: what lies at an address; the judgement qX of a walk over it; one row an instruction. Kinds of arrays: 0 int, 1 boolean, 2 Parish, 3 long, 4 an int array that nobody writes (statics, the script). -/
abbrev qE : Type := (Nat × vp_A) ⊕ (Nat × List Value)
abbrev qH : Type := Nat → Option qE
abbrev qU (σ : qH) (a : Nat) (e : qE) : qH := fun b => if b = a then some e else σ b
/-- the ground: classes and slots, array classes, the heap at the law's entry, the static arrays' addresses, the arrays that nobody writes -/
abbrev qG : Type := va_G × (Nat → ClassId) × Heap × (Nat → Nat) × (Nat → Option (Nat × (Nat → Int32)))
abbrev qz (G : qG) : Nat → Prop := fun q => G.2.2.1.size ≤ q
def qtr (G : qG) (e : qE) : va_E := match e with
  | .inl (k, a) => .inl (G.2.1 k, a)
  | .inr o => .inr o
def qro (e : qE) : Bool := match e with
  | .inl (k, _) => k == 4
  | .inr _ => false
abbrev qtys (G : qG) : List (ClassId × FieldType) := [(G.2.1 0, .int), (G.2.1 1, .boolean), (G.2.1 2, .object RX2), (G.2.1 3, .long)]
/-- the heap H holds the abstract heap, its size is n (where that is told), what was there at the law's entry stands -/
def qW (G : qG) (σ : qH) (n : Option Nat) (H : Heap) : Prop :=
  (∀ m : Nat, n = some m → H.size = m) ∧ G.2.2.1.size ≤ H.size ∧ (∀ q : Nat, q < G.2.2.1.size → H[q]? = G.2.2.1[q]?) ∧
  (∃ ws : va_W, va_P G.1 vwCl ws H ∧ va_D (qz G) ws ∧ ∀ (a : Nat) (e : qE), σ a = some e → qro e = false → ∃ k : Nat, ws[k]? = some (a, qtr G e)) ∧
  (∀ (a : Nat) (x : vp_A), σ a = some (.inl (4, x)) → ∃ (m : Nat) (f : Nat → Int32), x = (m, .inl f) ∧ a < G.2.2.1.size ∧ G.2.2.2.2 a = some (m, f))
abbrev qst : List (String × Nat) := [("SHADOW", 0), ("POOL", 1), ("WORD", 2), ("DROP", 3), ("TRUST", 4), ("EVENING", 5), ("SURVEY", 6)]
def lw_face : List Cond := lw_tbl.filter (fun w => w.onTables && w.keepsFace)
abbrev qnest : List (String × Nat × MethodName × String) := [("SteepleWords", 36, ⟨RX5, "<init>", "()V"⟩, RX6), ("SteepleWords", 43, ⟨RX0, "<init>", "()V"⟩, RX6)]
abbrev qtexts : List (Nat × String) := [(303, "an argument is out of its range"), (58, "the text is full"), (74, "the text is not a parish"), (322, "no such measure"), (317, "no such teller"), (311, "no such steeple"), (217, "there are 16 measures"), (248, "no state is remembered"), (324, "no such save slot"), (299, "nothing is saved in this slot")]
/-- what the tables and the first heap say -/
def qT (G : qG) (U : State) : Prop :=
  va_K G.1 vwCl (qtys G) U ∧
  (∀ x ∈ qst, va_Z "SteepleWords$Text" x.1 "[I" (.ref (G.2.2.2.1 x.2)) (qz G) U G.2.2.1) ∧
  (∀ (a m : Nat) (f : Nat → Int32), G.2.2.2.2 a = some (m, f) → va_X a m f U G.2.2.1) ∧
  (∀ w ∈ lw_face, va_Nw w U) ∧ (∀ x ∈ qnest, va_Nw (.methodLinkNest x.1 x.2.1 x.2.2.1 x.2.2.2) U) ∧
  (∀ x ∈ qtexts, ∃ sa : Nat, vk_R RX6 x.1 x.2 sa U) ∧
  vx_Zq Bundle.tN "UNASSIGNED_STACK" Bundle.steD (qz G) U G.2.2.1 ∧ vx_Zq Bundle.tN "SUPPRESSED_SENTINEL" Bundle.listD (qz G) U G.2.2.1
theorem qT_warm {G : qG} {s U : State} (hW : s.WarmedH U.vm) (h : qT G s) : qT G U := by
  obtain ⟨h1, h2, h3, h4, h5, h6, h7, h8⟩ := h
  refine ⟨va_K.moved hW.alike h1, fun x hx => va_Z.moved hW.alike (h2 x hx), fun a m f h => va_X.moved hW.alike (h3 a m f h), fun w hw => ?_, fun x hx => va_Nw.warmM hW (h5 x hx), fun x hx => ?_, vx_Zq.moved hW.alike h7, vx_Zq.moved hW.alike h8⟩
  · have hg := (List.mem_filter.mp hw).2
    simp only [Bool.and_eq_true] at hg
    exact va_tabs hg.1 (rfl : (s.setVm U.vm).vm = U.vm) (Cond.before_shiftedFace (State.Shifted.of_warmed hW) w hg.2 (h4 w hw))
  · obtain ⟨sa, hs⟩ := h6 x hx
    exact ⟨sa, vk_R.warm hW hs⟩
theorem qT_blind {G : qG} {a : Array Value} {U : State} {g : JFrame} {mk : MethodId} (h : qT G U) : qT G (U.calling g mk a) := qT_warm (State.WarmedH.refl U) h
def lw_good : List Cond := lw_tbl.filter goodWord
theorem lg_in {w : Cond} (k : Nat) (h : lw_tbl[k]? = some w) (g : goodWord w = true) : w ∈ lw_good := List.mem_filter.mpr ⟨List.mem_of_getElem? h, g⟩
theorem lg_good {ws : List Cond} (h : ∀ w ∈ ws, w ∈ lw_good) : GoodIn lw_good ws := fun w hw => ⟨h w hw, good_of_word (List.mem_filter.mp (h w hw)).2⟩
/-- a result: returned, or thrown -/
abbrev qR : Type := (Option Value × qH × Option Nat) ⊕ (String × qH)
def qQ (G : qG) (r : qR) : Array Value → State → Outcome → State → Prop := fun _ st oc t => match r with
  | .inl (v, σ, n) => oc = .returned v ∧ qW G σ n t.heap ∧ st.heap.size ≤ t.heap.size
  | .inr _ => False
def qC (G : qG) (r : qR) : String → State → State → Prop := fun E st t => match r with
  | .inl _ => False
  | .inr (E', σ) => E = E' ∧ qW G σ none t.heap ∧ st.heap.size ≤ t.heap.size
abbrev qws (y : MethodName) (cc : ByteArray) (nL : Nat) (rt : Option FieldType) : List Cond := Cond.code y cc nL rt :: lw_good
/-- a method's contract: called with these values over this heap it comes to this result -/
def qM (l : Launch) (G : qG) (y : MethodName) (cc : ByteArray) (nL : Nat) (rt : Option FieldType) (rm : Room) (as : List Value) (σ : qH) (n : Option Nat) (r : qR) : Prop :=
  vx_Met l y (qws y cc nL rt) rm (va_Pc as (fun U => qW G σ n U.heap ∧ qT G U)) (qQ G r) (qC G r) rm.cells rm.slots (qz G)
/-- the walk: at pc with these locals, this stack, over this heap -/
def qX (l : Launch) (G : qG) (own nm : String) (cc : ByteArray) (nL : Nat) (rt : Option FieldType) (tab : List ExceptionTableEntry) (R : Room) (mc ms : Nat) (r : qR) (k j : Nat) (σ : qH) (n : Option Nat) (pc : Nat) (ls : List (Nat × Value)) (st : List Value) : Prop :=
  ∀ (p : Program) (e : Env) (s : State) (m : MethodId) (args : Array Value) (below : List Frame) (meth : Method) (c : Code),
    p.tables.exec = Jvm.exec → c.code = cc → c.maxLocals = nL → meth.sig.returnType = rt → meth.name = nm → s.vm.findClass own = some m.cls → (∀ w ∈ lw_good, w.before args s = true) → meth.locks = false → c.exceptionTable.toList = tab → qT G s → l.stackTraces = false →
    (∃ (σ0 : qH) (n0 : Option Nat), qW G σ0 n0 s.heap) →
    ∀ (H : Heap) (locs : List Loc) (arr : Array Slot), va_S (qz G) s.heap H locs → qW G σ n H → lv_has arr nL ls →
      W p l e R s m args below meth c H locs k j (vx_MQ below (qQ G r) (qC G r) args s mc ms (qz G)) (F0 m pc arr st)
section QX
variable {l : Launch} {G : qG} {own nm : String} {cc : ByteArray} {nL : Nat} {rt : Option FieldType} {tab : List ExceptionTableEntry} {R : Room} {mc ms : Nat} {r : qR} {k j : Nat} {σ : qH} {n : Option Nat} {pc : Nat} {ls : List (Nat × Value)} {st : List Value}
/-- lifting a row of the kit that only moves pc and stack -/
theorem q_lift {pc2 : Nat} {st2 : List Value} (h : ∀ (p : Program) (e : Env) (s : State) (m : MethodId) (args : Array Value) (below : List Frame) (meth : Method) (c : Code), p.tables.exec = Jvm.exec → c.code = cc → s.vm.findClass own = some m.cls → (∀ w ∈ lw_good, w.before args s = true) →
      ∀ (H : Heap) (locs : List Loc) (arr : Array Slot) (Q : State → Prop), lv_has arr nL ls → W p l e R s m args below meth c H locs k j Q (F0 m pc2 arr st2) → W p l e R s m args below meth c H locs k j Q (F0 m pc arr st))
    (kk : qX l G own nm cc nL rt tab R mc ms r k j σ n pc2 ls st2) : qX l G own nm cc nL rt tab R mc ms r k j σ n pc ls st := by
  intro p e s m args below meth c hx hb hml hr hn hown hts hlk htb hT hst hW0 H locs arr hS hW hl
  exact h p e s m args below meth c hx hb hown hts H locs arr _ hl (kk p e s m args below meth c hx hb hml hr hn hown hts hlk htb hT hst hW0 H locs arr hS hW hl)
/-- .. and one that moves the locals -/
theorem q_liftL {pc2 : Nat} {st2 : List Value} {ls2 : List (Nat × Value)} (h : ∀ (p : Program) (e : Env) (s : State) (m : MethodId) (args : Array Value) (below : List Frame) (meth : Method) (c : Code), p.tables.exec = Jvm.exec → c.code = cc →
      ∀ (H : Heap) (locs : List Loc) (arr : Array Slot) (Q : State → Prop), lv_has arr nL ls → (∀ arr2 : Array Slot, lv_has arr2 nL ls2 → W p l e R s m args below meth c H locs k j Q (F0 m pc2 arr2 st2)) → W p l e R s m args below meth c H locs k j Q (F0 m pc arr st))
    (kk : qX l G own nm cc nL rt tab R mc ms r k j σ n pc2 ls2 st2) : qX l G own nm cc nL rt tab R mc ms r k j σ n pc ls st := by
  intro p e s m args below meth c hx hb hml hr hn hown hts hlk htb hT hst hW0 H locs arr hS hW hl
  exact h p e s m args below meth c hx hb H locs arr _ hl (fun arr2 hl2 => kk p e s m args below meth c hx hb hml hr hn hown hts hlk htb hT hst hW0 H locs arr2 hS hW hl2)
/-- two ways -/
theorem q_lift2 {pc2 pc3 : Nat} {st2 : List Value} {P : Prop} (h : ∀ (p : Program) (e : Env) (s : State) (m : MethodId) (args : Array Value) (below : List Frame) (meth : Method) (c : Code), p.tables.exec = Jvm.exec → c.code = cc →
      ∀ (H : Heap) (locs : List Loc) (arr : Array Slot) (Q : State → Prop), (P → W p l e R s m args below meth c H locs k j Q (F0 m pc2 arr st2)) → (¬ P → W p l e R s m args below meth c H locs k j Q (F0 m pc3 arr st2)) → W p l e R s m args below meth c H locs k j Q (F0 m pc arr st))
    (k1 : P → qX l G own nm cc nL rt tab R mc ms r k j σ n pc2 ls st2) (k2 : ¬ P → qX l G own nm cc nL rt tab R mc ms r k j σ n pc3 ls st2) : qX l G own nm cc nL rt tab R mc ms r k j σ n pc ls st := by
  intro p e s m args below meth c hx hb hml hr hn hown hts hlk htb hT hst hW0 H locs arr hS hW hl
  exact h p e s m args below meth c hx hb H locs arr _ (fun hP => k1 hP p e s m args below meth c hx hb hml hr hn hown hts hlk htb hT hst hW0 H locs arr hS hW hl) (fun hP => k2 hP p e s m args below meth c hx hb hml hr hn hown hts hlk htb hT hst hW0 H locs arr hS hW hl)
theorem x_iconst {i : Int} (pc2 : Nat) (v : Int32) (d : decode cc pc = .ok (.iconst i, 1)) (hp : pc + 1 = pc2) (hv : Int32.ofInt i = v) (kk : qX l G own nm cc nL rt tab R mc ms r k j σ n pc2 ls (.int v :: st)) : qX l G own nm cc nL rt tab R mc ms r k j σ n pc ls st := by
  subst hp; exact q_lift (fun p e s m args below meth c hx hb _ _ H locs arr Q hl kk => lv_iconst hx hb d hv kk) kk
theorem x_bipush {i : Int} (pc2 : Nat) (v : Int32) (d : decode cc pc = .ok (.bipush i, 2)) (hp : pc + 2 = pc2) (hv : (Int8.ofInt i).toInt32 = v) (kk : qX l G own nm cc nL rt tab R mc ms r k j σ n pc2 ls (.int v :: st)) : qX l G own nm cc nL rt tab R mc ms r k j σ n pc ls st := by
  subst hp; exact q_lift (fun p e s m args below meth c hx hb _ _ H locs arr Q hl kk => lv_bipush hx hb d hv kk) kk
theorem x_sipush {i : Int} (pc2 : Nat) (v : Int32) (d : decode cc pc = .ok (.sipush i, 3)) (hp : pc + 3 = pc2) (hv : (Int16.ofInt i).toInt32 = v) (kk : qX l G own nm cc nL rt tab R mc ms r k j σ n pc2 ls (.int v :: st)) : qX l G own nm cc nL rt tab R mc ms r k j σ n pc ls st := by
  subst hp; exact q_lift (fun p e s m args below meth c hx hb _ _ H locs arr Q hl kk => lv_sipush hx hb d hv kk) kk
theorem x_lconst {i : Fin 2} (pc2 : Nat) (v : Int64) (d : decode cc pc = .ok (.lconst i, 1)) (hp : pc + 1 = pc2) (hv : Int64.ofNat (i : Nat) = v) (kk : qX l G own nm cc nL rt tab R mc ms r k j σ n pc2 ls (.long v :: st)) : qX l G own nm cc nL rt tab R mc ms r k j σ n pc ls st := by
  subst hp; exact q_lift (fun p e s m args below meth c hx hb _ _ H locs arr Q hl kk => lv_lconst hx hb d hv kk) kk
theorem x_iload_n {q : Fin 4} {v : Int32} (pc2 : Nat) (w : Nat) (d : decode cc pc = .ok (.iload_n q, 1)) (hp : pc + 1 = pc2) (hw : ls[w]? = some ((q : Nat), .int v)) (kk : qX l G own nm cc nL rt tab R mc ms r k j σ n pc2 ls (.int v :: st)) : qX l G own nm cc nL rt tab R mc ms r k j σ n pc ls st := by
  subst hp; exact q_lift (fun p e s m args below meth c hx hb _ _ H locs arr Q hl kk => lv_iload_n hx hb d rfl (lv_at hl w hw) kk) kk
theorem x_iload {q : Nat} {v : Int32} (pc2 : Nat) (w : Nat) (d : decode cc pc = .ok (.iload q, 2)) (hp : pc + 2 = pc2) (hw : ls[w]? = some (q, .int v)) (kk : qX l G own nm cc nL rt tab R mc ms r k j σ n pc2 ls (.int v :: st)) : qX l G own nm cc nL rt tab R mc ms r k j σ n pc ls st := by
  subst hp; exact q_lift (fun p e s m args below meth c hx hb _ _ H locs arr Q hl kk => lv_iload hx hb d (lv_at hl w hw) kk) kk
theorem x_istore_n {q0 : Fin 4} {v : Int32} (pc2 i : Nat) (ls2 : List (Nat × Value)) (d : decode cc pc = .ok (.istore_n q0, 1)) (hp : pc + 1 = pc2) (hi : (q0 : Nat) = i) (hn : i < nL) (hls : (i, Value.int v) :: ls.filter (fun q => !(q.1 == i) && !(q.1 + 1 == i && q.2.category == 2)) = ls2) (kk : qX l G own nm cc nL rt tab R mc ms r k j σ n pc2 ls2 st) : qX l G own nm cc nL rt tab R mc ms r k j σ n pc ls (.int v :: st) := by
  subst hp; exact q_liftL (fun p e s m args below meth c hx hb H locs arr Q hl kk => lv_istore_n hx hb d hi hl hn hls kk) kk
theorem x_istore {v : Int32} (pc2 i : Nat) (ls2 : List (Nat × Value)) (d : decode cc pc = .ok (.istore i, 2)) (hp : pc + 2 = pc2) (hn : i < nL) (hls : (i, Value.int v) :: ls.filter (fun q => !(q.1 == i) && !(q.1 + 1 == i && q.2.category == 2)) = ls2) (kk : qX l G own nm cc nL rt tab R mc ms r k j σ n pc2 ls2 st) : qX l G own nm cc nL rt tab R mc ms r k j σ n pc ls (.int v :: st) := by
  subst hp; exact q_liftL (fun p e s m args below meth c hx hb H locs arr Q hl kk => lv_istore hx hb d hl hn hls kk) kk
theorem x_lload_n {q : Fin 4} {v : Int64} (pc2 : Nat) (w : Nat) (d : decode cc pc = .ok (.lload_n q, 1)) (hp : pc + 1 = pc2) (hw : ls[w]? = some ((q : Nat), .long v)) (kk : qX l G own nm cc nL rt tab R mc ms r k j σ n pc2 ls (.long v :: st)) : qX l G own nm cc nL rt tab R mc ms r k j σ n pc ls st := by
  subst hp; exact q_lift (fun p e s m args below meth c hx hb _ _ H locs arr Q hl kk => lv_lload_n hx hb d rfl (lv_at hl w hw) kk) kk
theorem x_lload {q : Nat} {v : Int64} (pc2 : Nat) (w : Nat) (d : decode cc pc = .ok (.lload q, 2)) (hp : pc + 2 = pc2) (hw : ls[w]? = some (q, .long v)) (kk : qX l G own nm cc nL rt tab R mc ms r k j σ n pc2 ls (.long v :: st)) : qX l G own nm cc nL rt tab R mc ms r k j σ n pc ls st := by
  subst hp; exact q_lift (fun p e s m args below meth c hx hb _ _ H locs arr Q hl kk => lv_lload hx hb d (lv_at hl w hw) kk) kk
theorem x_lstore_n {q0 : Fin 4} {v : Int64} (pc2 i : Nat) (ls2 : List (Nat × Value)) (d : decode cc pc = .ok (.lstore_n q0, 1)) (hp : pc + 1 = pc2) (hi : (q0 : Nat) = i) (hn : i + 1 < nL) (hls : (i, Value.long v) :: ls.filter (fun q => !(q.1 == i) && (!(q.1 == i + 1) && !(q.1 + 1 == i && q.2.category == 2))) = ls2) (kk : qX l G own nm cc nL rt tab R mc ms r k j σ n pc2 ls2 st) : qX l G own nm cc nL rt tab R mc ms r k j σ n pc ls (.long v :: st) := by
  subst hp; exact q_liftL (fun p e s m args below meth c hx hb H locs arr Q hl kk => lv_lstore_n hx hb d hi hl hn hls kk) kk
theorem x_lstore {v : Int64} (pc2 i : Nat) (ls2 : List (Nat × Value)) (d : decode cc pc = .ok (.lstore i, 2)) (hp : pc + 2 = pc2) (hn : i + 1 < nL) (hls : (i, Value.long v) :: ls.filter (fun q => !(q.1 == i) && (!(q.1 == i + 1) && !(q.1 + 1 == i && q.2.category == 2))) = ls2) (kk : qX l G own nm cc nL rt tab R mc ms r k j σ n pc2 ls2 st) : qX l G own nm cc nL rt tab R mc ms r k j σ n pc ls (.long v :: st) := by
  subst hp; exact q_liftL (fun p e s m args below meth c hx hb H locs arr Q hl kk => lv_lstore hx hb d hl hn hls kk) kk
theorem x_aload_n {q : Fin 4} {v : Nat} (pc2 : Nat) (w : Nat) (d : decode cc pc = .ok (.aload_n q, 1)) (hp : pc + 1 = pc2) (hw : ls[w]? = some ((q : Nat), .ref v)) (kk : qX l G own nm cc nL rt tab R mc ms r k j σ n pc2 ls (.ref v :: st)) : qX l G own nm cc nL rt tab R mc ms r k j σ n pc ls st := by
  subst hp; exact q_lift (fun p e s m args below meth c hx hb _ _ H locs arr Q hl kk => lv_aload_n hx hb d rfl (lv_at hl w hw) kk) kk
theorem x_aload {q : Nat} {v : Nat} (pc2 : Nat) (w : Nat) (d : decode cc pc = .ok (.aload q, 2)) (hp : pc + 2 = pc2) (hw : ls[w]? = some (q, .ref v)) (kk : qX l G own nm cc nL rt tab R mc ms r k j σ n pc2 ls (.ref v :: st)) : qX l G own nm cc nL rt tab R mc ms r k j σ n pc ls st := by
  subst hp; exact q_lift (fun p e s m args below meth c hx hb _ _ H locs arr Q hl kk => lv_aload hx hb d (lv_at hl w hw) kk) kk
theorem x_astore_n {q0 : Fin 4} {v : Nat} (pc2 i : Nat) (ls2 : List (Nat × Value)) (d : decode cc pc = .ok (.astore_n q0, 1)) (hp : pc + 1 = pc2) (hi : (q0 : Nat) = i) (hn : i < nL) (hls : (i, Value.ref v) :: ls.filter (fun q => !(q.1 == i) && !(q.1 + 1 == i && q.2.category == 2)) = ls2) (kk : qX l G own nm cc nL rt tab R mc ms r k j σ n pc2 ls2 st) : qX l G own nm cc nL rt tab R mc ms r k j σ n pc ls (.ref v :: st) := by
  subst hp; exact q_liftL (fun p e s m args below meth c hx hb H locs arr Q hl kk => lv_astore_n hx hb d hi hl hn hls kk) kk
theorem x_astore {v : Nat} (pc2 i : Nat) (ls2 : List (Nat × Value)) (d : decode cc pc = .ok (.astore i, 2)) (hp : pc + 2 = pc2) (hn : i < nL) (hls : (i, Value.ref v) :: ls.filter (fun q => !(q.1 == i) && !(q.1 + 1 == i && q.2.category == 2)) = ls2) (kk : qX l G own nm cc nL rt tab R mc ms r k j σ n pc2 ls2 st) : qX l G own nm cc nL rt tab R mc ms r k j σ n pc ls (.ref v :: st) := by
  subst hp; exact q_liftL (fun p e s m args below meth c hx hb H locs arr Q hl kk => lv_astore hx hb d hl hn hls kk) kk
theorem x_iinc {q : Int} {x : Int32} (pc2 i w : Nat) (v : Int32) (ls2 : List (Nat × Value)) (d : decode cc pc = .ok (.iinc i q, 3)) (hp : pc + 3 = pc2) (hw : ls[w]? = some (i, .int x)) (hv : x + Int32.ofInt q = v) (hn : i < nL) (hls : (i, Value.int v) :: ls.filter (fun q => !(q.1 == i) && !(q.1 + 1 == i && q.2.category == 2)) = ls2) (kk : qX l G own nm cc nL rt tab R mc ms r k j σ n pc2 ls2 st) : qX l G own nm cc nL rt tab R mc ms r k j σ n pc ls st := by
  subst hp; exact q_liftL (fun p e s m args below meth c hx hb H locs arr Q hl kk => lv_iinc hx hb d hl hw hv hn hls kk) kk
theorem x_iadd {x y : Int32} (pc2 : Nat) (d : decode cc pc = .ok (.iadd, 1)) (hp : pc + 1 = pc2) (kk : qX l G own nm cc nL rt tab R mc ms r k j σ n pc2 ls (.int (x + y) :: st)) : qX l G own nm cc nL rt tab R mc ms r k j σ n pc ls (.int y :: .int x :: st) := by
  subst hp; exact q_lift (fun p e s m args below meth c hx hb _ _ H locs arr Q hl kk => lv_iadd hx hb d kk) kk
theorem x_isub {x y : Int32} (pc2 : Nat) (d : decode cc pc = .ok (.isub, 1)) (hp : pc + 1 = pc2) (kk : qX l G own nm cc nL rt tab R mc ms r k j σ n pc2 ls (.int (x - y) :: st)) : qX l G own nm cc nL rt tab R mc ms r k j σ n pc ls (.int y :: .int x :: st) := by
  subst hp; exact q_lift (fun p e s m args below meth c hx hb _ _ H locs arr Q hl kk => lv_isub hx hb d kk) kk
theorem x_imul {x y : Int32} (pc2 : Nat) (d : decode cc pc = .ok (.imul, 1)) (hp : pc + 1 = pc2) (kk : qX l G own nm cc nL rt tab R mc ms r k j σ n pc2 ls (.int (x * y) :: st)) : qX l G own nm cc nL rt tab R mc ms r k j σ n pc ls (.int y :: .int x :: st) := by
  subst hp; exact q_lift (fun p e s m args below meth c hx hb _ _ H locs arr Q hl kk => lv_imul hx hb d kk) kk
theorem x_iand {x y : Int32} (pc2 : Nat) (d : decode cc pc = .ok (.iand, 1)) (hp : pc + 1 = pc2) (kk : qX l G own nm cc nL rt tab R mc ms r k j σ n pc2 ls (.int (x &&& y) :: st)) : qX l G own nm cc nL rt tab R mc ms r k j σ n pc ls (.int y :: .int x :: st) := by
  subst hp; exact q_lift (fun p e s m args below meth c hx hb _ _ H locs arr Q hl kk => lv_iand hx hb d kk) kk
theorem x_ior {x y : Int32} (pc2 : Nat) (d : decode cc pc = .ok (.ior, 1)) (hp : pc + 1 = pc2) (kk : qX l G own nm cc nL rt tab R mc ms r k j σ n pc2 ls (.int (x ||| y) :: st)) : qX l G own nm cc nL rt tab R mc ms r k j σ n pc ls (.int y :: .int x :: st) := by
  subst hp; exact q_lift (fun p e s m args below meth c hx hb _ _ H locs arr Q hl kk => lv_ior hx hb d kk) kk
theorem x_ixor {x y : Int32} (pc2 : Nat) (d : decode cc pc = .ok (.ixor, 1)) (hp : pc + 1 = pc2) (kk : qX l G own nm cc nL rt tab R mc ms r k j σ n pc2 ls (.int (x ^^^ y) :: st)) : qX l G own nm cc nL rt tab R mc ms r k j σ n pc ls (.int y :: .int x :: st) := by
  subst hp; exact q_lift (fun p e s m args below meth c hx hb _ _ H locs arr Q hl kk => lv_ixor hx hb d kk) kk
theorem x_ladd {x y : Int64} (pc2 : Nat) (d : decode cc pc = .ok (.ladd, 1)) (hp : pc + 1 = pc2) (kk : qX l G own nm cc nL rt tab R mc ms r k j σ n pc2 ls (.long (x + y) :: st)) : qX l G own nm cc nL rt tab R mc ms r k j σ n pc ls (.long y :: .long x :: st) := by
  subst hp; exact q_lift (fun p e s m args below meth c hx hb _ _ H locs arr Q hl kk => lv_ladd hx hb d kk) kk
theorem x_lsub {x y : Int64} (pc2 : Nat) (d : decode cc pc = .ok (.lsub, 1)) (hp : pc + 1 = pc2) (kk : qX l G own nm cc nL rt tab R mc ms r k j σ n pc2 ls (.long (x - y) :: st)) : qX l G own nm cc nL rt tab R mc ms r k j σ n pc ls (.long y :: .long x :: st) := by
  subst hp; exact q_lift (fun p e s m args below meth c hx hb _ _ H locs arr Q hl kk => lv_lsub hx hb d kk) kk
theorem x_lmul {x y : Int64} (pc2 : Nat) (d : decode cc pc = .ok (.lmul, 1)) (hp : pc + 1 = pc2) (kk : qX l G own nm cc nL rt tab R mc ms r k j σ n pc2 ls (.long (x * y) :: st)) : qX l G own nm cc nL rt tab R mc ms r k j σ n pc ls (.long y :: .long x :: st) := by
  subst hp; exact q_lift (fun p e s m args below meth c hx hb _ _ H locs arr Q hl kk => lv_lmul hx hb d kk) kk
theorem x_land {x y : Int64} (pc2 : Nat) (d : decode cc pc = .ok (.land, 1)) (hp : pc + 1 = pc2) (kk : qX l G own nm cc nL rt tab R mc ms r k j σ n pc2 ls (.long (x &&& y) :: st)) : qX l G own nm cc nL rt tab R mc ms r k j σ n pc ls (.long y :: .long x :: st) := by
  subst hp; exact q_lift (fun p e s m args below meth c hx hb _ _ H locs arr Q hl kk => lv_land hx hb d kk) kk
theorem x_lor {x y : Int64} (pc2 : Nat) (d : decode cc pc = .ok (.lor, 1)) (hp : pc + 1 = pc2) (kk : qX l G own nm cc nL rt tab R mc ms r k j σ n pc2 ls (.long (x ||| y) :: st)) : qX l G own nm cc nL rt tab R mc ms r k j σ n pc ls (.long y :: .long x :: st) := by
  subst hp; exact q_lift (fun p e s m args below meth c hx hb _ _ H locs arr Q hl kk => lv_lor hx hb d kk) kk
theorem x_lxor {x y : Int64} (pc2 : Nat) (d : decode cc pc = .ok (.lxor, 1)) (hp : pc + 1 = pc2) (kk : qX l G own nm cc nL rt tab R mc ms r k j σ n pc2 ls (.long (x ^^^ y) :: st)) : qX l G own nm cc nL rt tab R mc ms r k j σ n pc ls (.long y :: .long x :: st) := by
  subst hp; exact q_lift (fun p e s m args below meth c hx hb _ _ H locs arr Q hl kk => lv_lxor hx hb d kk) kk
theorem x_idiv {x y : Int32} (pc2 : Nat) (hne : ¬ y = 0) (d : decode cc pc = .ok (.idiv, 1)) (hp : pc + 1 = pc2) (kk : qX l G own nm cc nL rt tab R mc ms r k j σ n pc2 ls (.int (x / y) :: st)) : qX l G own nm cc nL rt tab R mc ms r k j σ n pc ls (.int y :: .int x :: st) := by
  subst hp; exact q_lift (fun p e s m args below meth c hx hb _ _ H locs arr Q hl kk => lv_idiv hx hb d hne kk) kk
theorem x_irem {x y : Int32} (pc2 : Nat) (hne : ¬ y = 0) (d : decode cc pc = .ok (.irem, 1)) (hp : pc + 1 = pc2) (kk : qX l G own nm cc nL rt tab R mc ms r k j σ n pc2 ls (.int (x - x / y * y) :: st)) : qX l G own nm cc nL rt tab R mc ms r k j σ n pc ls (.int y :: .int x :: st) := by
  subst hp; exact q_lift (fun p e s m args below meth c hx hb _ _ H locs arr Q hl kk => lv_irem hx hb d hne kk) kk
theorem x_ldiv {x y : Int64} (pc2 : Nat) (hne : ¬ y = 0) (d : decode cc pc = .ok (.ldiv, 1)) (hp : pc + 1 = pc2) (kk : qX l G own nm cc nL rt tab R mc ms r k j σ n pc2 ls (.long (x / y) :: st)) : qX l G own nm cc nL rt tab R mc ms r k j σ n pc ls (.long y :: .long x :: st) := by
  subst hp; exact q_lift (fun p e s m args below meth c hx hb _ _ H locs arr Q hl kk => lv_ldiv hx hb d hne kk) kk
theorem x_lrem {x y : Int64} (pc2 : Nat) (hne : ¬ y = 0) (d : decode cc pc = .ok (.lrem, 1)) (hp : pc + 1 = pc2) (kk : qX l G own nm cc nL rt tab R mc ms r k j σ n pc2 ls (.long (x - x / y * y) :: st)) : qX l G own nm cc nL rt tab R mc ms r k j σ n pc ls (.long y :: .long x :: st) := by
  subst hp; exact q_lift (fun p e s m args below meth c hx hb _ _ H locs arr Q hl kk => lv_lrem hx hb d hne kk) kk
theorem x_ineg {x : Int32} (pc2 : Nat) (d : decode cc pc = .ok (.ineg, 1)) (hp : pc + 1 = pc2) (kk : qX l G own nm cc nL rt tab R mc ms r k j σ n pc2 ls (.int (-x) :: st)) : qX l G own nm cc nL rt tab R mc ms r k j σ n pc ls (.int x :: st) := by
  subst hp; exact q_lift (fun p e s m args below meth c hx hb _ _ H locs arr Q hl kk => lv_ineg hx hb d kk) kk
theorem x_i2l {x : Int32} (pc2 : Nat) (d : decode cc pc = .ok (.i2l, 1)) (hp : pc + 1 = pc2) (kk : qX l G own nm cc nL rt tab R mc ms r k j σ n pc2 ls (.long x.toInt64 :: st)) : qX l G own nm cc nL rt tab R mc ms r k j σ n pc ls (.int x :: st) := by
  subst hp; exact q_lift (fun p e s m args below meth c hx hb _ _ H locs arr Q hl kk => lv_i2l hx hb d rfl kk) kk
theorem x_l2i {x : Int64} (pc2 : Nat) (d : decode cc pc = .ok (.l2i, 1)) (hp : pc + 1 = pc2) (kk : qX l G own nm cc nL rt tab R mc ms r k j σ n pc2 ls (.int x.toInt32 :: st)) : qX l G own nm cc nL rt tab R mc ms r k j σ n pc ls (.long x :: st) := by
  subst hp; exact q_lift (fun p e s m args below meth c hx hb _ _ H locs arr Q hl kk => lv_l2i hx hb d rfl kk) kk
theorem x_lushr {x : Int64} {y : Int32} (pc2 : Nat) (d : decode cc pc = .ok (.lushr, 1)) (hp : pc + 1 = pc2) (kk : qX l G own nm cc nL rt tab R mc ms r k j σ n pc2 ls (.long (x.toUInt64 >>> (y.toInt64.toUInt64 &&& Int64.toUInt64 63)).toInt64 :: st)) : qX l G own nm cc nL rt tab R mc ms r k j σ n pc ls (.int y :: .long x :: st) := by
  subst hp; exact q_lift (fun p e s m args below meth c hx hb _ _ H locs arr Q hl kk => lv_lushr hx hb d rfl kk) kk
theorem x_lshl {x : Int64} {y : Int32} (pc2 : Nat) (d : decode cc pc = .ok (.lshl, 1)) (hp : pc + 1 = pc2) (kk : qX l G own nm cc nL rt tab R mc ms r k j σ n pc2 ls (.long (x <<< (y.toInt64 &&& 63)) :: st)) : qX l G own nm cc nL rt tab R mc ms r k j σ n pc ls (.int y :: .long x :: st) := by
  subst hp; exact q_lift (fun p e s m args below meth c hx hb _ _ H locs arr Q hl kk => lv_lshl hx hb d rfl kk) kk
theorem x_lcmp {x y : Int64} (pc2 : Nat) (d : decode cc pc = .ok (.lcmp, 1)) (hp : pc + 1 = pc2) (kk : qX l G own nm cc nL rt tab R mc ms r k j σ n pc2 ls (.int (lg_cmp x y) :: st)) : qX l G own nm cc nL rt tab R mc ms r k j σ n pc ls (.long y :: .long x :: st) := by
  subst hp; exact q_lift (fun p e s m args below meth c hx hb _ _ H locs arr Q hl kk => W.lcmp hx hb d kk) kk
theorem x_dup {va : Value} (pc2 : Nat) (hva : va.category = 1) (d : decode cc pc = .ok (.dup, 1)) (hp : pc + 1 = pc2) (kk : qX l G own nm cc nL rt tab R mc ms r k j σ n pc2 ls (va :: va :: st)) : qX l G own nm cc nL rt tab R mc ms r k j σ n pc ls (va :: st) := by
  subst hp; exact q_lift (fun p e s m args below meth c hx hb _ _ H locs arr Q hl kk => lv_dup hx hb d hva kk) kk
theorem x_pop {va : Value} (pc2 : Nat) (hva : va.category = 1) (d : decode cc pc = .ok (.pop, 1)) (hp : pc + 1 = pc2) (kk : qX l G own nm cc nL rt tab R mc ms r k j σ n pc2 ls (st)) : qX l G own nm cc nL rt tab R mc ms r k j σ n pc ls (va :: st) := by
  subst hp; exact q_lift (fun p e s m args below meth c hx hb _ _ H locs arr Q hl kk => lv_pop hx hb d hva kk) kk
theorem x_dup_x1 {va vb : Value} (pc2 : Nat) (hva : va.category = 1) (hvb : vb.category = 1) (d : decode cc pc = .ok (.dup_x1, 1)) (hp : pc + 1 = pc2) (kk : qX l G own nm cc nL rt tab R mc ms r k j σ n pc2 ls (va :: vb :: va :: st)) : qX l G own nm cc nL rt tab R mc ms r k j σ n pc ls (va :: vb :: st) := by
  subst hp; exact q_lift (fun p e s m args below meth c hx hb _ _ H locs arr Q hl kk => lv_dup_x1 hx hb d hva hvb kk) kk
theorem x_dup2 {va vb : Value} (pc2 : Nat) (hva : va.category = 1) (hvb : vb.category = 1) (d : decode cc pc = .ok (.dup2, 1)) (hp : pc + 1 = pc2) (kk : qX l G own nm cc nL rt tab R mc ms r k j σ n pc2 ls (va :: vb :: va :: vb :: st)) : qX l G own nm cc nL rt tab R mc ms r k j σ n pc ls (va :: vb :: st) := by
  subst hp; exact q_lift (fun p e s m args below meth c hx hb _ _ H locs arr Q hl kk => lv_dup2_11 hx hb d hva hvb kk) kk
theorem x_ldc {i : Nat} (pc2 : Nat) (v : Int32) (hw : Cond.constant own i v ∈ lw_good) (d : decode cc pc = .ok (.ldc i, 2)) (hp : pc + 2 = pc2) (kk : qX l G own nm cc nL rt tab R mc ms r k j σ n pc2 ls (.int v :: st)) : qX l G own nm cc nL rt tab R mc ms r k j σ n pc ls st := by
  subst hp; exact q_lift (fun p e s m args below meth c hx hb ho ht H locs arr Q hl kk => lv_ldc hx hb ho (ht _ hw) d kk) kk
theorem x_ldcw {i : Nat} (pc2 : Nat) (v : Int32) (hw : Cond.constant own i v ∈ lw_good) (d : decode cc pc = .ok (.ldc_w i, 3)) (hp : pc + 3 = pc2) (kk : qX l G own nm cc nL rt tab R mc ms r k j σ n pc2 ls (.int v :: st)) : qX l G own nm cc nL rt tab R mc ms r k j σ n pc ls st := by
  subst hp; exact q_lift (fun p e s m args below meth c hx hb ho ht H locs arr Q hl kk => lv_ldcw hx hb ho (ht _ hw) d kk) kk
theorem x_ldc2 {i : Nat} (pc2 : Nat) (v : Int64) (hw : Cond.constantLong own i v ∈ lw_good) (d : decode cc pc = .ok (.ldc2_w i, 3)) (hp : pc + 3 = pc2) (kk : qX l G own nm cc nL rt tab R mc ms r k j σ n pc2 ls (.long v :: st)) : qX l G own nm cc nL rt tab R mc ms r k j σ n pc ls st := by
  subst hp; exact q_lift (fun p e s m args below meth c hx hb ho ht H locs arr Q hl kk => lv_ldc2 hx hb ho (ht _ hw) d kk) kk
theorem x_goto {off : Int} (pc2 : Nat) (d : decode cc pc = .ok (.goto off, 3)) (hp : (pc : Int) + off = (pc2 : Int)) (kk : qX l G own nm cc nL rt tab R mc ms r k j σ n pc2 ls st) : qX l G own nm cc nL rt tab R mc ms r k j σ n pc ls st := q_lift (fun p e s m args below meth c hx hb _ _ H locs arr Q hl kk => lv_goto hx hb d hp kk) kk
theorem x_if_eq {off : Int} {x : Int32} (pc2 pc3 : Nat) (d : decode cc pc = .ok (.ifCond .eq off, 3)) (ht : (pc : Int) + off = (pc2 : Int)) (hp : pc + 3 = pc3) (k1 : x = 0 → qX l G own nm cc nL rt tab R mc ms r k j σ n pc2 ls st) (k2 : ¬ x = 0 → qX l G own nm cc nL rt tab R mc ms r k j σ n pc3 ls st) : qX l G own nm cc nL rt tab R mc ms r k j σ n pc ls (.int x :: st) := by
  subst hp; exact q_lift2 (fun p e s m args below meth c hx hb H locs arr Q h1 h2 => lv_if_eq hx hb d ht h1 h2) k1 k2
theorem x_if_lt {off : Int} {x : Int32} (pc2 pc3 : Nat) (d : decode cc pc = .ok (.ifCond .lt off, 3)) (ht : (pc : Int) + off = (pc2 : Int)) (hp : pc + 3 = pc3) (k1 : x < 0 → qX l G own nm cc nL rt tab R mc ms r k j σ n pc2 ls st) (k2 : ¬ x < 0 → qX l G own nm cc nL rt tab R mc ms r k j σ n pc3 ls st) : qX l G own nm cc nL rt tab R mc ms r k j σ n pc ls (.int x :: st) := by
  subst hp; exact q_lift2 (fun p e s m args below meth c hx hb H locs arr Q h1 h2 => lv_if_lt hx hb d ht h1 h2) k1 k2
theorem x_if_ge {off : Int} {x : Int32} (pc2 pc3 : Nat) (d : decode cc pc = .ok (.ifCond .ge off, 3)) (ht : (pc : Int) + off = (pc2 : Int)) (hp : pc + 3 = pc3) (k1 : 0 ≤ x → qX l G own nm cc nL rt tab R mc ms r k j σ n pc2 ls st) (k2 : ¬ 0 ≤ x → qX l G own nm cc nL rt tab R mc ms r k j σ n pc3 ls st) : qX l G own nm cc nL rt tab R mc ms r k j σ n pc ls (.int x :: st) := by
  subst hp; exact q_lift2 (fun p e s m args below meth c hx hb H locs arr Q h1 h2 => lv_if_ge hx hb d ht h1 h2) k1 k2
theorem x_if_gt {off : Int} {x : Int32} (pc2 pc3 : Nat) (d : decode cc pc = .ok (.ifCond .gt off, 3)) (ht : (pc : Int) + off = (pc2 : Int)) (hp : pc + 3 = pc3) (k1 : 0 < x → qX l G own nm cc nL rt tab R mc ms r k j σ n pc2 ls st) (k2 : ¬ 0 < x → qX l G own nm cc nL rt tab R mc ms r k j σ n pc3 ls st) : qX l G own nm cc nL rt tab R mc ms r k j σ n pc ls (.int x :: st) := by
  subst hp; exact q_lift2 (fun p e s m args below meth c hx hb H locs arr Q h1 h2 => lv_if_gt hx hb d ht h1 h2) k1 k2
theorem x_if_le {off : Int} {x : Int32} (pc2 pc3 : Nat) (d : decode cc pc = .ok (.ifCond .le off, 3)) (ht : (pc : Int) + off = (pc2 : Int)) (hp : pc + 3 = pc3) (k1 : x ≤ 0 → qX l G own nm cc nL rt tab R mc ms r k j σ n pc2 ls st) (k2 : ¬ x ≤ 0 → qX l G own nm cc nL rt tab R mc ms r k j σ n pc3 ls st) : qX l G own nm cc nL rt tab R mc ms r k j σ n pc ls (.int x :: st) := by
  subst hp; exact q_lift2 (fun p e s m args below meth c hx hb H locs arr Q h1 h2 => lv_if_le hx hb d ht h1 h2) k1 k2
theorem x_if_ne {off : Int} {x : Int32} (pc2 pc3 : Nat) (d : decode cc pc = .ok (.ifCond .ne off, 3)) (ht : (pc : Int) + off = (pc2 : Int)) (hp : pc + 3 = pc3) (k1 : ¬ x = 0 → qX l G own nm cc nL rt tab R mc ms r k j σ n pc2 ls st) (k2 : x = 0 → qX l G own nm cc nL rt tab R mc ms r k j σ n pc3 ls st) : qX l G own nm cc nL rt tab R mc ms r k j σ n pc ls (.int x :: st) := by
  subst hp; exact q_lift2 (P := ¬ x = 0) (fun p e s m args below meth c hx hb H locs arr Q h1 h2 => lv_if_ne hx hb d ht h1 (fun h => h2 (fun z => z h))) k1 (fun h => k2 (Decidable.not_not.mp h))
theorem x_icmp_eq {off : Int} {x y : Int32} (pc2 pc3 : Nat) (d : decode cc pc = .ok (.if_icmp .eq off, 3)) (ht : (pc : Int) + off = (pc2 : Int)) (hp : pc + 3 = pc3) (k1 : x = y → qX l G own nm cc nL rt tab R mc ms r k j σ n pc2 ls st) (k2 : ¬ x = y → qX l G own nm cc nL rt tab R mc ms r k j σ n pc3 ls st) : qX l G own nm cc nL rt tab R mc ms r k j σ n pc ls (.int y :: .int x :: st) := by
  subst hp; exact q_lift2 (fun p e s m args below meth c hx hb H locs arr Q h1 h2 => lv_icmp_eq hx hb d ht h1 h2) k1 k2
theorem x_icmp_lt {off : Int} {x y : Int32} (pc2 pc3 : Nat) (d : decode cc pc = .ok (.if_icmp .lt off, 3)) (ht : (pc : Int) + off = (pc2 : Int)) (hp : pc + 3 = pc3) (k1 : x < y → qX l G own nm cc nL rt tab R mc ms r k j σ n pc2 ls st) (k2 : ¬ x < y → qX l G own nm cc nL rt tab R mc ms r k j σ n pc3 ls st) : qX l G own nm cc nL rt tab R mc ms r k j σ n pc ls (.int y :: .int x :: st) := by
  subst hp; exact q_lift2 (fun p e s m args below meth c hx hb H locs arr Q h1 h2 => lv_icmp_lt hx hb d ht h1 h2) k1 k2
theorem x_icmp_ge {off : Int} {x y : Int32} (pc2 pc3 : Nat) (d : decode cc pc = .ok (.if_icmp .ge off, 3)) (ht : (pc : Int) + off = (pc2 : Int)) (hp : pc + 3 = pc3) (k1 : y ≤ x → qX l G own nm cc nL rt tab R mc ms r k j σ n pc2 ls st) (k2 : ¬ y ≤ x → qX l G own nm cc nL rt tab R mc ms r k j σ n pc3 ls st) : qX l G own nm cc nL rt tab R mc ms r k j σ n pc ls (.int y :: .int x :: st) := by
  subst hp; exact q_lift2 (fun p e s m args below meth c hx hb H locs arr Q h1 h2 => lv_icmp_ge hx hb d ht h1 h2) k1 k2
theorem x_icmp_gt {off : Int} {x y : Int32} (pc2 pc3 : Nat) (d : decode cc pc = .ok (.if_icmp .gt off, 3)) (ht : (pc : Int) + off = (pc2 : Int)) (hp : pc + 3 = pc3) (k1 : y < x → qX l G own nm cc nL rt tab R mc ms r k j σ n pc2 ls st) (k2 : ¬ y < x → qX l G own nm cc nL rt tab R mc ms r k j σ n pc3 ls st) : qX l G own nm cc nL rt tab R mc ms r k j σ n pc ls (.int y :: .int x :: st) := by
  subst hp; exact q_lift2 (fun p e s m args below meth c hx hb H locs arr Q h1 h2 => lv_icmp_gt hx hb d ht h1 h2) k1 k2
theorem x_icmp_le {off : Int} {x y : Int32} (pc2 pc3 : Nat) (d : decode cc pc = .ok (.if_icmp .le off, 3)) (ht : (pc : Int) + off = (pc2 : Int)) (hp : pc + 3 = pc3) (k1 : x ≤ y → qX l G own nm cc nL rt tab R mc ms r k j σ n pc2 ls st) (k2 : ¬ x ≤ y → qX l G own nm cc nL rt tab R mc ms r k j σ n pc3 ls st) : qX l G own nm cc nL rt tab R mc ms r k j σ n pc ls (.int y :: .int x :: st) := by
  subst hp; exact q_lift2 (fun p e s m args below meth c hx hb H locs arr Q h1 h2 => lv_icmp_le hx hb d ht h1 h2) k1 k2
theorem x_icmp_ne {off : Int} {x y : Int32} (pc2 pc3 : Nat) (d : decode cc pc = .ok (.if_icmp .ne off, 3)) (ht : (pc : Int) + off = (pc2 : Int)) (hp : pc + 3 = pc3) (k1 : ¬ x = y → qX l G own nm cc nL rt tab R mc ms r k j σ n pc2 ls st) (k2 : x = y → qX l G own nm cc nL rt tab R mc ms r k j σ n pc3 ls st) : qX l G own nm cc nL rt tab R mc ms r k j σ n pc ls (.int y :: .int x :: st) := by
  subst hp; exact q_lift2 (P := ¬ x = y) (fun p e s m args below meth c hx hb H locs arr Q h1 h2 => lv_icmp_ne hx hb d ht h1 (fun h => h2 (fun z => z h))) k1 (fun h => k2 (Decidable.not_not.mp h))
theorem x_sub (ls2 : List (Nat × Value)) (ks : List Nat) (h : lv_pick ls ks = ls2) (kk : qX l G own nm cc nL rt tab R mc ms r k j σ n pc ls2 st) : qX l G own nm cc nL rt tab R mc ms r k j σ n pc ls st := fun p e s m args below meth c hx hb hml hr hn hown hts hlk htb hT hst hW0 H locs arr hS hW hl => kk p e s m args below meth c hx hb hml hr hn hown hts hlk htb hT hst hW0 H locs arr hS hW (lv_sub hl ks h)
theorem x_lookup {dflt : Int} {ps : Array (Int × Int)} {len : Nat} {x : Int32} (off : Int) (pc2 : Nat) (d : decode cc pc = .ok (.lookupswitch dflt ps, len)) (hs : (ps.toList.zip (ps.toList.drop 1)).all (fun (a, next) => a.1 < next.1) = true) (ho : Op.lookupswitch.offset ps.toList dflt x.toInt = off) (ht : (pc : Int) + off = (pc2 : Int)) (kk : qX l G own nm cc nL rt tab R mc ms r k j σ n pc2 ls st) : qX l G own nm cc nL rt tab R mc ms r k j σ n pc ls (.int x :: st) := q_lift (fun p e s m args below meth c hx hb _ _ H locs arr Q hl kk => lv_lookup hx hb d hs ho ht kk) kk
theorem x_tableOut {dflt lo hi : Int} {offs : Array Int} {len : Nat} {x : Int32} (pc2 : Nat) (d : decode cc pc = .ok (.tableswitch dflt lo hi offs, len)) (h : x.toInt < lo ∨ hi < x.toInt) (ht : (pc : Int) + dflt = (pc2 : Int)) (kk : qX l G own nm cc nL rt tab R mc ms r k j σ n pc2 ls st) : qX l G own nm cc nL rt tab R mc ms r k j σ n pc ls (.int x :: st) := q_lift (fun p e s m args below meth c hx hb _ _ H locs arr Q hl kk => lv_tableOut hx hb d h ht kk) kk
theorem x_tableIn {dflt lo hi : Int} {offs : Array Int} {len : Nat} {x : Int32} (off : Int) (pc2 : Nat) (d : decode cc pc = .ok (.tableswitch dflt lo hi offs, len)) (h1 : ¬ x.toInt < lo) (h2 : ¬ hi < x.toInt) (ho : offs[(x.toInt - lo).toNat]? = some off) (ht : (pc : Int) + off = (pc2 : Int)) (kk : qX l G own nm cc nL rt tab R mc ms r k j σ n pc2 ls st) : qX l G own nm cc nL rt tab R mc ms r k j σ n pc ls (.int x :: st) := q_lift (fun p e s m args below meth c hx hb _ _ H locs arr Q hl kk => lv_tableIn hx hb d h1 h2 ho ht kk) kk
end QX
end
section
/-! What a method's function over the abstract heap may do; each has a row of the walk. -/
abbrev qin (j : Int32) (n : Nat) : Prop := ¬ (j < 0 ∨ n ≤ j.toNatClampNeg)
def gI (σ : qH) (a ci i : Nat) : Option Int32 := match σ a with
  | some (.inr (c, fs)) => if c = ci then (match fs[i]? with | some (.int v) => some v | _ => none) else none
  | _ => none
def gR (σ : qH) (a ci i : Nat) : Option Nat := match σ a with
  | some (.inr (c, fs)) => if c = ci then (match fs[i]? with | some (.ref v) => some v | _ => none) else none
  | _ => none
def gP (σ : qH) (a ci i : Nat) (v : Value) : Option qH := match σ a with
  | some (.inr (c, fs)) => if c = ci ∧ i < fs.length then some (qU σ a (.inr (ci, fs.set i v))) else none
  | _ => none
def aI (σ : qH) (a : Nat) (j : Int32) : Option Int32 := match σ a with
  | some (.inl (k, (n, .inl f))) => if (k = 0 ∨ k = 4) ∧ qin j n then some (f j.toNatClampNeg) else none
  | _ => none
def aZ (σ : qH) (a : Nat) (j : Int32) : Option Int32 := match σ a with
  | some (.inl (k, (n, .inl f))) => if k = 1 ∧ qin j n then some (f j.toNatClampNeg) else none
  | _ => none
def aJ (σ : qH) (a : Nat) (j : Int32) : Option Int64 := match σ a with
  | some (.inl (k, (n, .inr (.inl f)))) => if k = 3 ∧ qin j n then some (f j.toNatClampNeg) else none
  | _ => none
def aQ (σ : qH) (a : Nat) (j : Int32) : Option Nat := match σ a with
  | some (.inl (k, (n, .inr (.inr (.inr (.inr f)))))) => if k = 2 ∧ qin j n then f j.toNatClampNeg else none
  | _ => none
def aL (σ : qH) (a : Nat) : Option Int32 := match σ a with
  | some (.inl (k, (n, _))) => if k < 5 then some (Int32.ofNat n) else none
  | _ => none
def sI (σ : qH) (a : Nat) (j x : Int32) : Option qH := match σ a with
  | some (.inl (k, (n, .inl f))) => if k = 0 ∧ qin j n then some (qU σ a (.inl (0, (n, .inl (upd f j.toNatClampNeg x))))) else none
  | _ => none
def sZ (σ : qH) (a : Nat) (j x : Int32) : Option qH := match σ a with
  | some (.inl (k, (n, .inl f))) => if k = 1 ∧ qin j n then some (qU σ a (.inl (1, (n, .inl (upd f j.toNatClampNeg (vp_nar .boolean x)))))) else none
  | _ => none
def sJ (σ : qH) (a : Nat) (j : Int32) (x : Int64) : Option qH := match σ a with
  | some (.inl (k, (n, .inr (.inl f)))) => if k = 3 ∧ qin j n then some (qU σ a (.inl (3, (n, .inr (.inl (vp_updL f j.toNatClampNeg x)))))) else none
  | _ => none
def sQ (σ : qH) (a : Nat) (j : Int32) (v : Nat) : Option qH := match σ a, σ v with
  | some (.inl (k, (n, .inr (.inr (.inr (.inr f)))))), some (.inr (c, _)) => if (k = 2 ∧ c = 2) ∧ qin j n then some (qU σ a (.inl (2, (n, .inr (.inr (.inr (.inr (va_up f j.toNatClampNeg (some v))))))))) else none
  | _, _ => none
/-- System.arraycopy of ints -/
def sC (σ : qH) (a : Nat) (sp : Int32) (b : Nat) (dp n : Int32) : Option qH := match σ a, σ b with
  | some (.inl (k0, (n0, .inl f))), some (.inl (k1, (n1, .inl g))) => if (k0 = 0 ∧ k1 = 0) ∧ (¬ sp < 0 ∧ ¬ dp < 0 ∧ ¬ n < 0) ∧ sp.toNatClampNeg + n.toNatClampNeg ≤ n0 ∧ dp.toNatClampNeg + n.toNatClampNeg ≤ n1 then some (qU σ b (.inl (0, (n1, .inl (va_cpy f g sp.toNatClampNeg dp.toNatClampNeg n.toNatClampNeg))))) else none
  | _, _ => none
def b1 {α β : Type} (o : Option α) (f : α → Option β) : Option β := match o with
  | some a => f a
  | none => none
/-- a step that may throw -/
def bx {α β : Type} (o : Option (α ⊕ String)) (f : α → Option (β ⊕ String)) : Option (β ⊕ String) := match o with
  | some (.inl a) => f a
  | some (.inr e) => some (.inr e)
  | none => none
def qfuel : Nat := 100000
theorem b1_inv {α β : Type} {o : Option α} {f : α → Option β} {r : β} (h : b1 o f = some r) : ∃ a, o = some a ∧ f a = some r := by
  cases o with
  | none => cases h
  | some a => exact ⟨a, rfl, h⟩
theorem bx_inv {α β : Type} {o : Option (α ⊕ String)} {f : α → Option (β ⊕ String)} {r : β ⊕ String} (h : bx o f = some r) : (∃ a, o = some (.inl a) ∧ f a = some r) ∨ (∃ e, o = some (.inr e) ∧ r = .inr e) := by
  match o, h with
  | some (.inl a), h => exact Or.inl ⟨a, rfl, h⟩
  | some (.inr e), h => exact Or.inr ⟨e, rfl, (Option.some.inj h).symm⟩
theorem ite_inv {α : Type} {c : Prop} [Decidable c] {x y : Option α} {r : α} (h : (if c then x else y) = some r) : (c ∧ x = some r) ∨ (¬ c ∧ y = some r) := by
  by_cases hc : c
  · rw [if_pos hc] at h; exact Or.inl ⟨hc, h⟩
  · rw [if_neg hc] at h; exact Or.inr ⟨hc, h⟩
theorem ite_none {α : Type} {c : Prop} [Decidable c] {x : Option α} {r : α} (h : (if c then x else none) = some r) : c ∧ x = some r := by
  by_cases hc : c
  · rw [if_pos hc] at h; exact ⟨hc, h⟩
  · rw [if_neg hc] at h; cases h
theorem gI_inv {σ : qH} {a ci i : Nat} {v : Int32} (h : gI σ a ci i = some v) : ∃ fs, σ a = some (.inr (ci, fs)) ∧ fs[i]? = some (.int v) := by
  unfold gI at h
  split at h
  · rename_i c fs e
    obtain ⟨hk1, h9⟩ := ite_none h
    subst hk1
    split at h9
    · rename_i w e2
      cases h9
      exact ⟨fs, e, e2⟩
    · cases h9
  · cases h
theorem gR_inv {σ : qH} {a ci i : Nat} {v : Nat} (h : gR σ a ci i = some v) : ∃ fs, σ a = some (.inr (ci, fs)) ∧ fs[i]? = some (.ref v) := by
  unfold gR at h
  split at h
  · rename_i c fs e
    obtain ⟨hk1, h9⟩ := ite_none h
    subst hk1
    split at h9
    · rename_i w e2
      cases h9
      exact ⟨fs, e, e2⟩
    · cases h9
  · cases h
theorem gP_inv {σ σ' : qH} {a ci i : Nat} {v : Value} (h : gP σ a ci i v = some σ') : ∃ fs, σ a = some (.inr (ci, fs)) ∧ i < fs.length ∧ σ' = qU σ a (.inr (ci, fs.set i v)) := by
  unfold gP at h
  split at h
  · rename_i c fs e
    obtain ⟨⟨hk1, hl⟩, h9⟩ := ite_none h
    subst hk1
    exact ⟨fs, e, hl, (Option.some.inj h9).symm⟩
  · cases h
theorem aI_inv {σ : qH} {a : Nat} {j v : Int32} (h : aI σ a j = some v) : ∃ (k n : Nat) (f : Nat → Int32), σ a = some (.inl (k, (n, .inl f))) ∧ (k = 0 ∨ k = 4) ∧ qin j n ∧ v = f j.toNatClampNeg := by
  unfold aI at h
  split at h
  · rename_i k n f e
    obtain ⟨⟨h1, h2⟩, h9⟩ := ite_none h
    exact ⟨k, n, f, e, h1, h2, (Option.some.inj h9).symm⟩
  · cases h
theorem aZ_inv {σ : qH} {a : Nat} {j v : Int32} (h : aZ σ a j = some v) : ∃ (n : Nat) (f : Nat → Int32), σ a = some (.inl (1, (n, .inl f))) ∧ qin j n ∧ v = f j.toNatClampNeg := by
  unfold aZ at h
  split at h
  · rename_i k n f e
    obtain ⟨⟨hk1, h2⟩, h9⟩ := ite_none h
    subst hk1
    exact ⟨n, f, e, h2, (Option.some.inj h9).symm⟩
  · cases h
theorem aJ_inv {σ : qH} {a : Nat} {j : Int32} {v : Int64} (h : aJ σ a j = some v) : ∃ (n : Nat) (f : Nat → Int64), σ a = some (.inl (3, (n, .inr (.inl f)))) ∧ qin j n ∧ v = f j.toNatClampNeg := by
  unfold aJ at h
  split at h
  · rename_i k n f e
    obtain ⟨⟨hk1, h2⟩, h9⟩ := ite_none h
    subst hk1
    exact ⟨n, f, e, h2, (Option.some.inj h9).symm⟩
  · cases h
theorem aQ_inv {σ : qH} {a : Nat} {j : Int32} {v : Nat} (h : aQ σ a j = some v) : ∃ (n : Nat) (f : Nat → Option Nat), σ a = some (.inl (2, (n, .inr (.inr (.inr (.inr f)))))) ∧ qin j n ∧ f j.toNatClampNeg = some v := by
  unfold aQ at h
  split at h
  · rename_i k n f e
    obtain ⟨⟨hk1, h2⟩, h9⟩ := ite_none h
    subst hk1
    exact ⟨n, f, e, h2, h9⟩
  · cases h
theorem aL_inv {σ : qH} {a : Nat} {v : Int32} (h : aL σ a = some v) : ∃ (k : Nat) (x : vp_A), σ a = some (.inl (k, x)) ∧ k < 5 ∧ v = Int32.ofNat x.1 := by
  unfold aL at h
  split at h
  · rename_i k n y e
    obtain ⟨h1, h9⟩ := ite_none h
    exact ⟨k, (n, y), e, h1, (Option.some.inj h9).symm⟩
  · cases h
theorem sI_inv {σ σ' : qH} {a : Nat} {j x : Int32} (h : sI σ a j x = some σ') : ∃ (n : Nat) (f : Nat → Int32), σ a = some (.inl (0, (n, .inl f))) ∧ qin j n ∧ σ' = qU σ a (.inl (0, (n, .inl (upd f j.toNatClampNeg x)))) := by
  unfold sI at h
  split at h
  · rename_i k n f e
    obtain ⟨⟨hk1, h2⟩, h9⟩ := ite_none h
    subst hk1
    exact ⟨n, f, e, h2, (Option.some.inj h9).symm⟩
  · cases h
theorem sZ_inv {σ σ' : qH} {a : Nat} {j x : Int32} (h : sZ σ a j x = some σ') : ∃ (n : Nat) (f : Nat → Int32), σ a = some (.inl (1, (n, .inl f))) ∧ qin j n ∧ σ' = qU σ a (.inl (1, (n, .inl (upd f j.toNatClampNeg (vp_nar .boolean x))))) := by
  unfold sZ at h
  split at h
  · rename_i k n f e
    obtain ⟨⟨hk1, h2⟩, h9⟩ := ite_none h
    subst hk1
    exact ⟨n, f, e, h2, (Option.some.inj h9).symm⟩
  · cases h
theorem sJ_inv {σ σ' : qH} {a : Nat} {j : Int32} {x : Int64} (h : sJ σ a j x = some σ') : ∃ (n : Nat) (f : Nat → Int64), σ a = some (.inl (3, (n, .inr (.inl f)))) ∧ qin j n ∧ σ' = qU σ a (.inl (3, (n, .inr (.inl (vp_updL f j.toNatClampNeg x))))) := by
  unfold sJ at h
  split at h
  · rename_i k n f e
    obtain ⟨⟨hk1, h2⟩, h9⟩ := ite_none h
    subst hk1
    exact ⟨n, f, e, h2, (Option.some.inj h9).symm⟩
  · cases h
theorem sQ_inv {σ σ' : qH} {a v : Nat} {j : Int32} (h : sQ σ a j v = some σ') : ∃ (n : Nat) (f : Nat → Option Nat) (vs : List Value), σ a = some (.inl (2, (n, .inr (.inr (.inr (.inr f)))))) ∧ σ v = some (.inr (2, vs)) ∧ qin j n ∧ σ' = qU σ a (.inl (2, (n, .inr (.inr (.inr (.inr (va_up f j.toNatClampNeg (some v)))))))) := by
  unfold sQ at h
  split at h
  · rename_i k n f c vs e e2
    obtain ⟨⟨⟨hk1, hk2⟩, h2⟩, h9⟩ := ite_none h
    subst hk1
    subst hk2
    exact ⟨n, f, vs, e, e2, h2, (Option.some.inj h9).symm⟩
  · cases h
theorem sC_inv {σ σ' : qH} {a b : Nat} {sp dp n : Int32} (h : sC σ a sp b dp n = some σ') : ∃ (n0 n1 : Nat) (f g : Nat → Int32), σ a = some (.inl (0, (n0, .inl f))) ∧ σ b = some (.inl (0, (n1, .inl g))) ∧ (¬ sp < 0 ∧ ¬ dp < 0 ∧ ¬ n < 0) ∧ sp.toNatClampNeg + n.toNatClampNeg ≤ n0 ∧ dp.toNatClampNeg + n.toNatClampNeg ≤ n1 ∧ σ' = qU σ b (.inl (0, (n1, .inl (va_cpy f g sp.toNatClampNeg dp.toNatClampNeg n.toNatClampNeg)))) := by
  unfold sC at h
  split at h
  · rename_i k0 n0 f k1 n1 g e e2
    obtain ⟨⟨⟨hk1, hk2⟩, h2, h3, h4⟩, h9⟩ := ite_none h
    subst hk1
    subst hk2
    exact ⟨n0, n1, f, g, e, e2, h2, h3, h4, (Option.some.inj h9).symm⟩
  · cases h
/-- a cell of the abstract heap changes -/
theorem qW_put {G : qG} {σ : qH} {n : Option Nat} {H H1 : Heap} {a : Nat} {e0 e : qE} (hW : qW G σ n H) (ha : σ a = some e0) (h0 : qro e0 = false) (h1 : qro e = false) (he : va_at G.1 vwCl (a, qtr G e) H1) (z : H1.size = H.size) (oq : ∀ q : Nat, q ≠ a → H1[q]? = H[q]?) : qW G (qU σ a e) n H1 ∧ qz G a := by
  obtain ⟨w1, w2, w3, ⟨ws, hP, hD, hc⟩, w5⟩ := hW
  obtain ⟨k, hk⟩ := hc a e0 ha h0
  have hz : qz G a := hD.2 k _ hk
  have hl := (List.getElem?_eq_some_iff.mp hk).1
  refine ⟨⟨by rw [z]; exact w1, by rw [z]; exact w2, fun q hq => ?_, ⟨ws.set k (a, qtr G e), hP.set hD hk he oq, hD.set hk, fun b e2 hb hr => ?_⟩, fun b x hb => ?_⟩, hz⟩
  · rw [oq q (fun h => by subst h; exact absurd hz (Nat.not_le.mpr hq))]
    exact w3 q hq
  · by_cases hba : b = a
    · subst hba
      simp only [qU, if_pos] at hb
      cases hb
      exact ⟨k, by rw [List.getElem?_set_self hl]⟩
    · simp only [qU, if_neg hba] at hb
      obtain ⟨k2, hk2⟩ := hc b e2 hb hr
      refine ⟨k2, ?_⟩
      rw [List.getElem?_set_ne (fun h => hba ?_)]
      · exact hk2
      · subst h
        rw [hk] at hk2
        exact (congrArg Prod.fst (Option.some.inj hk2)).symm
  · by_cases hba : b = a
    · subst hba
      simp only [qU, if_pos] at hb
      cases hb
      simp [qro] at h1
    · simp only [qU, if_neg hba] at hb
      exact w5 b x hb
theorem qW_at {G : qG} {σ : qH} {n : Option Nat} {H : Heap} (hW : qW G σ n H) {a : Nat} {e : qE} (ha : σ a = some e) (h0 : qro e = false) : va_P G.1 vwCl [(a, qtr G e)] H := by
  obtain ⟨w1, w2, w3, ⟨ws, hP, hD, hc⟩, w5⟩ := hW
  obtain ⟨k, hk⟩ := hc a e ha h0
  intro i q hq
  have hi : i < 1 := (List.getElem?_eq_some_iff.mp hq).1
  have : i = 0 := by omega
  subst this
  cases hq
  exact hP k _ hk
/-- a new cell -/
theorem qW_new {G : qG} {σ : qH} {n : Nat} {H H1 : Heap} {e : qE} (hW : qW G σ (some n) H) (h1 : qro e = false) (he : va_at G.1 vwCl (n, qtr G e) H1) (z : H1.size = n + 1) (oq : ∀ q : Nat, q < n → H1[q]? = H[q]?) : qW G (qU σ n e) (some (n + 1)) H1 := by
  obtain ⟨w1, w2, w3, ⟨ws, hP, hD, hc⟩, w5⟩ := hW
  have w1 := w1 n rfl
  have hk : ∀ (k : Nat) (x : Nat × va_E), ws[k]? = some x → H1[x.1]? = H[x.1]? := fun k x hx => oq x.1 (by have := (hP k x hx).lt; omega)
  refine ⟨fun m hm => by cases hm; exact z, by omega, fun q hq => by rw [oq q (by omega)]; exact w3 q hq, ⟨ws ++ [(n, qtr G e)], (hP.kept hk).app (fun k x hx => ?_), hD.push hP w1.symm (by show G.2.2.1.size ≤ n; omega), fun b e2 hb hr => ?_⟩, fun b x hb => ?_⟩
  · have hz : k < 1 := (List.getElem?_eq_some_iff.mp hx).1
    rw [show k = 0 by omega] at hx
    cases hx
    exact he
  · by_cases hba : b = n
    · subst hba
      simp only [qU, if_pos] at hb
      cases hb
      exact ⟨ws.length, by simp⟩
    · simp only [qU, if_neg hba] at hb
      obtain ⟨k2, hk2⟩ := hc b e2 hb hr
      exact ⟨k2, by rw [List.getElem?_append_left (List.getElem?_eq_some_iff.mp hk2).1]; exact hk2⟩
  · by_cases hba : b = n
    · subst hba
      simp only [qU, if_pos] at hb
      cases hb
      simp [qro] at h1
    · simp only [qU, if_neg hba] at hb
      exact w5 b x hb
theorem qW_any {G : qG} {σ : qH} {n : Option Nat} {H : Heap} (h : qW G σ n H) : qW G σ none H := ⟨fun m hm => (by cases hm), h.2⟩
end
section
section QY
variable {l : Launch} {G : qG} {own nm : String} {cc : ByteArray} {nL : Nat} {rt : Option FieldType} {tab : List ExceptionTableEntry} {R : Room} {mc ms : Nat} {r : qR} {k j : Nat} {σ σ' : qH} {n : Option Nat} {pc : Nat} {ls : List (Nat × Value)} {st : List Value}
theorem x_get {a ci index N : Nat} {C : String} {T : u_T} {v : Value} {fs : List Value} (pc2 i : Nat) (hin : ∀ w ∈ u_ws C T N, w ∈ lw_good) (hc : vwCl[ci]? = some (C, T, N)) (hi : i < N) (hw : Cond.fieldLink own index (T i).1 (T i).2.1 (T i).2.2.1 ∈ lw_good) (h1 : σ a = some (.inr (ci, fs))) (h2 : fs[i]? = some v)
    (d : decode cc pc = .ok (.getfield index, 3)) (hp : pc + 3 = pc2) (kk : qX l G own nm cc nL rt tab R mc ms r k j σ n pc2 ls (v :: st)) : qX l G own nm cc nL rt tab R mc ms r k j σ n pc ls (.ref a :: st) := by
  subst hp
  intro p e s m args below meth c hx hb hml hr hn hown hts hlk htb hT hst hW0 H locs arr hS hW hl
  exact va_get (D := G.1) (cl := vwCl) (tys := qtys G) hx hb hts hin hown hT.1 (qW_at hW h1 rfl) 0 rfl hc i hi (hts _ hw) (fun _ h => h) h2 d (kk p e s m args below meth c hx hb hml hr hn hown hts hlk htb hT hst hW0 H locs arr hS hW hl)
theorem x_getI {a ci index N : Nat} {C : String} {T : u_T} {v : Int32} (pc2 i : Nat) (hin : ∀ w ∈ u_ws C T N, w ∈ lw_good) (hc : vwCl[ci]? = some (C, T, N)) (hi : i < N) (hw : Cond.fieldLink own index (T i).1 (T i).2.1 (T i).2.2.1 ∈ lw_good) (h : gI σ a ci i = some v)
    (d : decode cc pc = .ok (.getfield index, 3)) (hp : pc + 3 = pc2) (kk : qX l G own nm cc nL rt tab R mc ms r k j σ n pc2 ls (.int v :: st)) : qX l G own nm cc nL rt tab R mc ms r k j σ n pc ls (.ref a :: st) := by
  obtain ⟨fs, h1, h2⟩ := gI_inv h
  exact x_get pc2 i hin hc hi hw h1 h2 d hp kk
theorem x_getR {a ci index N : Nat} {C : String} {T : u_T} {v : Nat} (pc2 i : Nat) (hin : ∀ w ∈ u_ws C T N, w ∈ lw_good) (hc : vwCl[ci]? = some (C, T, N)) (hi : i < N) (hw : Cond.fieldLink own index (T i).1 (T i).2.1 (T i).2.2.1 ∈ lw_good) (h : gR σ a ci i = some v)
    (d : decode cc pc = .ok (.getfield index, 3)) (hp : pc + 3 = pc2) (kk : qX l G own nm cc nL rt tab R mc ms r k j σ n pc2 ls (.ref v :: st)) : qX l G own nm cc nL rt tab R mc ms r k j σ n pc ls (.ref a :: st) := by
  obtain ⟨fs, h1, h2⟩ := gR_inv h
  exact x_get pc2 i hin hc hi hw h1 h2 d hp kk
/-- a field is written: outside the constructor no final one -/
theorem x_put {a ci index N : Nat} {C : String} {T : u_T} {v : Value} {ty : FieldType} (pc2 i : Nat) (hin : ∀ w ∈ u_ws C T N, w ∈ lw_good) (ty0 : Nat → FieldType) (hty : ∀ k, k < N → parseFieldDescriptor (T k).2.2.1 = some (ty0 k)) (hnm : ∀ a, a < N → ∀ b, b < N → a ≠ b → (T a).2.1 ≠ (T b).2.1) (hc : vwCl[ci]? = some (C, T, N)) (hi : i < N) (hw : Cond.fieldLink own index (T i).1 (T i).2.1 (T i).2.2.1 ∈ lw_good) (hfin : (T i).2.2.2 = false) (hd : parseFieldDescriptor (T i).2.2.1 = some ty) (hnw : narrow ty v = v) (hfit : fits ty v = true) (h : gP σ a ci i v = some σ')
    (d : decode cc pc = .ok (.putfield index, 3)) (hp : pc + 3 = pc2) (kk : qX l G own nm cc nL rt tab R mc ms r k j σ' n pc2 ls st) : qX l G own nm cc nL rt tab R mc ms r k j σ n pc ls (v :: .ref a :: st) := by
  subst hp
  obtain ⟨fs, h1, hl0, rfl⟩ := gP_inv h
  intro p e s m args below meth c hx hb hml hr hn hown hts hlk htb hT hst hW0 H locs arr hS hW hl
  have hap := va_apart (own := own) hts hin ty0 hty hnm hT.1 hc
  obtain ⟨rr, h1b, cell, q1, q2, q3, q4⟩ := (qW_at hW h1 rfl) 0 _ rfl
  have hr2 : rr = (C, T, N) := Option.some.inj (h1b.symm.trans hc)
  subst hr2
  obtain ⟨hS2, hfc, kC, hkC, hkind⟩ := hT.1.1 ci _ hc
  obtain ⟨cf, kf, fi, f, hif, hsl⟩ := hS2 i hi
  have hlay := hts _ (hin _ (u_in_lay hi))
  unfold u_lay at hlay
  rw [if_neg (by rw [hfin]; decide)] at hlay
  have hst2 := (u_facts hfc hkC (u_lays hts hin hi) hif).1
  have h6 := u_store hfc hkC hkind hlay hif hd hnw hfit
  refine W.putK hx hb (f := f) ⟨hown, hts _ hw, ⟨_, _, _, hif⟩, hst2⟩ (by rw [q2]; exact h6) q1 q3 (by rw [hsl]; exact k2_hasslot (q4 i hi)) rfl rfl d fun H' e1 e2 e3 => ?_
  rw [hsl] at e1 ⊢
  obtain ⟨g1, g2⟩ := qW_put (e := .inr (ci, fs.set i v)) hW h1 rfl rfl ⟨_, hc, t_OB.to (V := updV (vp_V fs) i v) ⟨_, e1, q2, q3, t_set q4 hap hi v⟩ (fun j _ => vp_updV_set hl0 v j)⟩ e2 e3
  exact kk p e s m args below meth c hx hb hml hr hn hown hts hlk htb hT hst hW0 H' _ arr (hS.put e2 e3 g2) g1 hl
/-- a final field, in its class's constructor -/
theorem x_putF {a ci index N : Nat} {C : String} {T : u_T} {v : Value} {ty : FieldType} (pc2 i : Nat) (hin : ∀ w ∈ u_ws C T N, w ∈ lw_good) (ty0 : Nat → FieldType) (hty : ∀ k, k < N → parseFieldDescriptor (T k).2.2.1 = some (ty0 k)) (hnm : ∀ a, a < N → ∀ b, b < N → a ≠ b → (T a).2.1 ≠ (T b).2.1) (hc : vwCl[ci]? = some (C, T, N)) (hi : i < N) (hw : Cond.fieldLink own index (T i).1 (T i).2.1 (T i).2.2.1 ∈ lw_good) (hfin : (T i).2.2.2 = true) (hnm2 : nm = "<init>") (hdecl : (T i).1 = own) (hd : parseFieldDescriptor (T i).2.2.1 = some ty) (hnw : narrow ty v = v) (hfit : fits ty v = true) (h : gP σ a ci i v = some σ')
    (d : decode cc pc = .ok (.putfield index, 3)) (hp : pc + 3 = pc2) (kk : qX l G own nm cc nL rt tab R mc ms r k j σ' n pc2 ls st) : qX l G own nm cc nL rt tab R mc ms r k j σ n pc ls (v :: .ref a :: st) := by
  subst hp
  obtain ⟨fs, h1, hl0, rfl⟩ := gP_inv h
  intro p e s m args below meth c hx hb hml hr hn hown hts hlk htb hT hst hW0 H locs arr hS hW hl
  have hap := va_apart (own := own) hts hin ty0 hty hnm hT.1 hc
  obtain ⟨rr, h1b, cell, q1, q2, q3, q4⟩ := (qW_at hW h1 rfl) 0 _ rfl
  have hr2 : rr = (C, T, N) := Option.some.inj (h1b.symm.trans hc)
  subst hr2
  obtain ⟨hS2, hfc, kC, hkC, hkind⟩ := hT.1.1 ci _ hc
  obtain ⟨cf, kf, fi, f, hif, hsl⟩ := hS2 i hi
  have hlay := hts _ (hin _ (u_in_lay hi))
  unfold u_lay at hlay
  rw [if_pos hfin] at hlay
  have hst2 := (u_facts hfc hkC (u_lays hts hin hi) hif).1
  have hcf : m.cls = cf := by
    obtain ⟨_, _, c', _, _, _, -, -, hf', -, -, -, hown2, -⟩ := Cond.laysFinal_spec hlay
    have e1 : c' = cf := by have := hif.symm.trans hf'; simp at this; exact this.1.symm
    rw [hdecl] at hown2
    rw [← e1]; exact Option.some.inj (hown.symm.trans hown2)
  have h6 := u_fits hfc hkC hkind (Or.inr hlay) hif hd hnw hfit
  refine W.putFinK hx hb hown (hts _ hw) hif hst2 hcf (hn.trans hnm2) (by rw [q2]; exact h6) q1 q3 (by rw [hsl]; exact k2_hasslot (q4 i hi)) rfl rfl d fun H' e1 e2 e3 => ?_
  rw [hsl] at e1 ⊢
  obtain ⟨g1, g2⟩ := qW_put (e := .inr (ci, fs.set i v)) hW h1 rfl rfl ⟨_, hc, t_OB.to (V := updV (vp_V fs) i v) ⟨_, e1, q2, q3, t_set q4 hap hi v⟩ (fun j _ => vp_updV_set hl0 v j)⟩ e2 e3
  exact kk p e s m args below meth c hx hb hml hr hn hown hts hlk htb hT hst hW0 H' _ arr (hS.put e2 e3 g2) g1 hl
theorem x_aI {a : Nat} {q v : Int32} (pc2 : Nat) (h : aI σ a q = some v) (d : decode cc pc = .ok (.iaload, 1)) (hp : pc + 1 = pc2) (kk : qX l G own nm cc nL rt tab R mc ms r k j σ n pc2 ls (.int v :: st)) : qX l G own nm cc nL rt tab R mc ms r k j σ n pc ls (.int q :: .ref a :: st) := by
  subst hp
  obtain ⟨k0, n0, f, h1, h2, h3, rfl⟩ := aI_inv h
  intro p e s m args below meth c hx hb hml hr hn hown hts hlk htb hT hst hW0 H locs arr hS hW hl
  rcases h2 with rfl | rfl
  · exact va_iald (D := G.1) (cl := vwCl) (tys := qtys G) hx hb hT.1 (qW_at hW h1 rfl) 0 0 rfl rfl h3 d (kk p e s m args below meth c hx hb hml hr hn hown hts hlk htb hT hst hW0 H locs arr hS hW hl)
  · obtain ⟨m0, f0, e0, e1, e2⟩ := hW.2.2.2.2 a _ h1
    cases e0
    exact va_sld (A := qz G) (H0 := G.2.2.1) hx hb (hT.2.2.1 a _ _ e2) e1 (Nat.not_le.mpr e1) ⟨hW.2.1, fun q z4 z5 => hW.2.2.1 q z4, hS.2.2⟩ h3 d (kk p e s m args below meth c hx hb hml hr hn hown hts hlk htb hT hst hW0 H locs arr hS hW hl)
theorem x_aZ {a : Nat} {q v : Int32} (pc2 : Nat) (h : aZ σ a q = some v) (d : decode cc pc = .ok (.baload, 1)) (hp : pc + 1 = pc2) (kk : qX l G own nm cc nL rt tab R mc ms r k j σ n pc2 ls (.int v :: st)) : qX l G own nm cc nL rt tab R mc ms r k j σ n pc ls (.int q :: .ref a :: st) := by
  subst hp
  obtain ⟨n0, f, h1, h3, rfl⟩ := aZ_inv h
  intro p e s m args below meth c hx hb hml hr hn hown hts hlk htb hT hst hW0 H locs arr hS hW hl
  exact va_zald (D := G.1) (cl := vwCl) (tys := qtys G) hx hb hT.1 (qW_at hW h1 rfl) 0 1 rfl rfl h3 d (kk p e s m args below meth c hx hb hml hr hn hown hts hlk htb hT hst hW0 H locs arr hS hW hl)
theorem x_aJ {a : Nat} {q : Int32} {v : Int64} (pc2 : Nat) (h : aJ σ a q = some v) (d : decode cc pc = .ok (.laload, 1)) (hp : pc + 1 = pc2) (kk : qX l G own nm cc nL rt tab R mc ms r k j σ n pc2 ls (.long v :: st)) : qX l G own nm cc nL rt tab R mc ms r k j σ n pc ls (.int q :: .ref a :: st) := by
  subst hp
  obtain ⟨n0, f, h1, h3, rfl⟩ := aJ_inv h
  intro p e s m args below meth c hx hb hml hr hn hown hts hlk htb hT hst hW0 H locs arr hS hW hl
  exact va_lald (D := G.1) (cl := vwCl) (tys := qtys G) hx hb hT.1 (qW_at hW h1 rfl) 0 3 rfl rfl h3 d (kk p e s m args below meth c hx hb hml hr hn hown hts hlk htb hT hst hW0 H locs arr hS hW hl)
theorem x_aQ {a : Nat} {q : Int32} {v : Nat} (pc2 : Nat) (h : aQ σ a q = some v) (d : decode cc pc = .ok (.aaload, 1)) (hp : pc + 1 = pc2) (kk : qX l G own nm cc nL rt tab R mc ms r k j σ n pc2 ls (.ref v :: st)) : qX l G own nm cc nL rt tab R mc ms r k j σ n pc ls (.int q :: .ref a :: st) := by
  subst hp
  obtain ⟨n0, f, h1, h3, h4⟩ := aQ_inv h
  intro p e s m args below meth c hx hb hml hr hn hown hts hlk htb hT hst hW0 H locs arr hS hW hl
  refine va_aldq (D := G.1) (cl := vwCl) (tys := qtys G) hx hb hT.1 (qW_at hW h1 rfl) 0 2 rfl rfl h3 d ?_
  rw [h4]
  exact kk p e s m args below meth c hx hb hml hr hn hown hts hlk htb hT hst hW0 H locs arr hS hW hl
theorem x_aL {a : Nat} {v : Int32} (pc2 : Nat) (h : aL σ a = some v) (d : decode cc pc = .ok (.arraylength, 1)) (hp : pc + 1 = pc2) (kk : qX l G own nm cc nL rt tab R mc ms r k j σ n pc2 ls (.int v :: st)) : qX l G own nm cc nL rt tab R mc ms r k j σ n pc ls (.ref a :: st) := by
  subst hp
  obtain ⟨k0, x, h1, h2, rfl⟩ := aL_inv h
  intro p e s m args below meth c hx hb hml hr hn hown hts hlk htb hT hst hW0 H locs arr hS hW hl
  have K := kk p e s m args below meth c hx hb hml hr hn hown hts hlk htb hT hst hW0 H locs arr hS hW hl
  rcases (show k0 = 0 ∨ k0 = 1 ∨ k0 = 2 ∨ k0 = 3 ∨ k0 = 4 by omega) with rfl | rfl | rfl | rfl | rfl
  · exact va_alen (D := G.1) (cl := vwCl) (tys := qtys G) hx hb hT.1 (qW_at hW h1 rfl) 0 0 rfl rfl rfl d K
  · exact va_alen (D := G.1) (cl := vwCl) (tys := qtys G) hx hb hT.1 (qW_at hW h1 rfl) 0 1 rfl rfl rfl d K
  · exact va_alen (D := G.1) (cl := vwCl) (tys := qtys G) hx hb hT.1 (qW_at hW h1 rfl) 0 2 rfl rfl rfl d K
  · exact va_alen (D := G.1) (cl := vwCl) (tys := qtys G) hx hb hT.1 (qW_at hW h1 rfl) 0 3 rfl rfl rfl d K
  · obtain ⟨m0, f0, e0, e1, e2⟩ := hW.2.2.2.2 a _ h1
    subst e0
    exact va_slen (A := qz G) (H0 := G.2.2.1) hx hb (hT.2.2.1 a _ _ e2) e1 (Nat.not_le.mpr e1) ⟨hW.2.1, fun q z4 z5 => hW.2.2.1 q z4, hS.2.2⟩ d K
theorem x_sI {a : Nat} {q v : Int32} (pc2 : Nat) (h : sI σ a q v = some σ') (d : decode cc pc = .ok (.iastore, 1)) (hp : pc + 1 = pc2) (kk : qX l G own nm cc nL rt tab R mc ms r k j σ' n pc2 ls st) : qX l G own nm cc nL rt tab R mc ms r k j σ n pc ls (.int v :: .int q :: .ref a :: st) := by
  subst hp
  obtain ⟨n0, f, h1, h3, rfl⟩ := sI_inv h
  intro p e s m args below meth c hx hb hml hr hn hown hts hlk htb hT hst hW0 H locs arr hS hW hl
  have hP := qW_at hW h1 rfl
  refine W.iast hx hb (hP 0 _ rfl) ((hT.1.2 0 _ rfl).1 n0 (fun j => .int (f j))) (fun q => by cases q) (by show ¬ (q < 0 ∨ (arrV _ _ _).slots.size ≤ _); rw [arrV_size]; exact h3) rfl rfl d fun H1 e1 z oq => ?_
  obtain ⟨g1, g2⟩ := qW_put (e := .inl (0, (n0, .inl (upd f q.toNatClampNeg v)))) hW h1 rfl rfl (by
    show H1[a]? = some (vp_cell _ _)
    rw [e1]
    show some ((vp_cell _ _).setSlot _ _) = _
    rw [vp_cell_i, vp_cell_i, arrV_store]
    congr 2
    funext i
    by_cases hi : i = q.toNatClampNeg
    · subst hi
      simp [updV, upd]
    · simp [updV, upd, hi]) z oq
  exact kk p e s m args below meth c hx hb hml hr hn hown hts hlk htb hT hst hW0 H1 _ arr (hS.put z oq g2) g1 hl
theorem x_sZ {a : Nat} {q v : Int32} (pc2 : Nat) (h : sZ σ a q v = some σ') (d : decode cc pc = .ok (.bastore, 1)) (hp : pc + 1 = pc2) (kk : qX l G own nm cc nL rt tab R mc ms r k j σ' n pc2 ls st) : qX l G own nm cc nL rt tab R mc ms r k j σ n pc ls (.int v :: .int q :: .ref a :: st) := by
  subst hp
  obtain ⟨n0, f, h1, h3, rfl⟩ := sZ_inv h
  intro p e s m args below meth c hx hb hml hr hn hown hts hlk htb hT hst hW0 H locs arr hS hW hl
  have hP := qW_at hW h1 rfl
  refine W.zast hx hb (hP 0 _ rfl) ((hT.1.2 1 _ rfl).1 n0 (fun j => .int (f j))) (fun q => by cases q) (by show ¬ (q < 0 ∨ (arrV _ _ _).slots.size ≤ _); rw [arrV_size]; exact h3) rfl rfl d fun H1 e1 z oq => ?_
  obtain ⟨g1, g2⟩ := qW_put (e := .inl (1, (n0, .inl (upd f q.toNatClampNeg (vp_nar .boolean v))))) hW h1 rfl rfl (by
    show H1[a]? = some (vp_cell _ _)
    rw [e1]
    show some ((vp_cell _ _).setSlot _ _) = _
    rw [vp_cell_i, vp_cell_i, arrV_store]
    congr 2
    funext i
    by_cases hi : i = q.toNatClampNeg
    · subst hi
      simp [updV, upd, vp_nar]
      try rfl
    · simp [updV, upd, hi]) z oq
  exact kk p e s m args below meth c hx hb hml hr hn hown hts hlk htb hT hst hW0 H1 _ arr (hS.put z oq g2) g1 hl
theorem x_sJ {a : Nat} {q : Int32} {v : Int64} (pc2 : Nat) (h : sJ σ a q v = some σ') (d : decode cc pc = .ok (.lastore, 1)) (hp : pc + 1 = pc2) (kk : qX l G own nm cc nL rt tab R mc ms r k j σ' n pc2 ls st) : qX l G own nm cc nL rt tab R mc ms r k j σ n pc ls (.long v :: .int q :: .ref a :: st) := by
  subst hp
  obtain ⟨n0, f, h1, h3, rfl⟩ := sJ_inv h
  intro p e s m args below meth c hx hb hml hr hn hown hts hlk htb hT hst hW0 H locs arr hS hW hl
  have hP := qW_at hW h1 rfl
  refine W.last hx hb (hP 0 _ rfl) ((hT.1.2 3 _ rfl).1 n0 (fun j => .long (f j))) (fun q => by cases q) (by show ¬ (q < 0 ∨ (arrV _ _ _).slots.size ≤ _); rw [arrV_size]; exact h3) rfl rfl d fun H1 e1 z oq => ?_
  obtain ⟨g1, g2⟩ := qW_put (e := .inl (3, (n0, .inr (.inl (vp_updL f q.toNatClampNeg v))))) hW h1 rfl rfl (by
    show H1[a]? = some (vp_cell _ _)
    rw [e1]
    show some ((vp_cell _ _).setSlot _ _) = _
    rw [vp_cell_l, vp_cell_l, arrV_store]
    congr 2
    funext i
    by_cases hi : i = q.toNatClampNeg
    · subst hi
      simp [updV, vp_updL]
    · simp [updV, vp_updL, hi]) z oq
  exact kk p e s m args below meth c hx hb hml hr hn hown hts hlk htb hT hst hW0 H1 _ arr (hS.put z oq g2) g1 hl
theorem x_sQ {a v : Nat} {q : Int32} (pc2 : Nat) (h : sQ σ a q v = some σ') (d : decode cc pc = .ok (.aastore, 1)) (hp : pc + 1 = pc2) (kk : qX l G own nm cc nL rt tab R mc ms r k j σ' n pc2 ls st) : qX l G own nm cc nL rt tab R mc ms r k j σ n pc ls (.ref v :: .int q :: .ref a :: st) := by
  subst hp
  obtain ⟨n0, f, vs, h1, h1v, h3, rfl⟩ := sQ_inv h
  intro p e s m args below meth c hx hb hml hr hn hown hts hlk htb hT hst hW0 H locs arr hS hW hl
  have hP := qW_at hW h1 rfl
  have hPv := qW_at hW h1v rfl
  have hlt : q.toNatClampNeg < n0 := Nat.not_le.mp fun z => h3 (Or.inr z)
  have h0 : ¬ q < 0 := fun z => h3 (Or.inl z)
  obtain ⟨r', hr', cellV, g1, g2, g3, -⟩ := hPv 0 _ rfl
  have hcls := (hT.1.1 2 (RX2, TX2, 11) rfl).2
  obtain ⟨kA, comp, k1, k2, k3, -⟩ := (hT.1.2 2 _ rfl).2
  have hcomp : comp = G.1.1 2 := Option.some.inj (k3.symm.trans hcls.1)
  subst hcomp
  obtain ⟨kC, hkC, -⟩ := hcls.2
  refine W.aast hx hb (hP 0 _ rfl) (fun q h => by cases h) (fun h => by cases h) k1 k2 rfl hkC ⟨h0, by show _ < (arrV _ _ _).slots.size; rw [arrV_size]; exact hlt⟩ g1 (fun q h => by rw [g3] at h; cases h) (by rw [g2]; exact hkC) (by rw [g2]; exact va_assign hcls) rfl rfl d fun H1 e1 z oq => ?_
  obtain ⟨y1, y2⟩ := qW_put (e := .inl (2, (n0, .inr (.inr (.inr (.inr (va_up f q.toNatClampNeg (some v)))))))) hW h1 rfl rfl (by
    show H1[a]? = some (vp_cell _ _)
    rw [e1]
    show some ((vp_cell _ _).setSlot _ _) = _
    rw [vp_cell_q, vp_cell_q, arrV_store]
    congr 2
    funext i
    by_cases hi : i = q.toNatClampNeg
    · subst hi
      simp [updV, va_up, va_rf]
    · simp [updV, va_up, hi]) z oq
  exact kk p e s m args below meth c hx hb hml hr hn hown hts hlk htb hT hst hW0 H1 _ arr (hS.put z oq y2) y1 hl
end QY
end
section
section QZ
variable {l : Launch} {G : qG} {own nm : String} {cc : ByteArray} {nL : Nat} {rt : Option FieldType} {tab : List ExceptionTableEntry} {R : Room} {mc ms : Nat} {r : qR} {k j : Nat} {σ σ' : qH} {n : Option Nat} {pc : Nat} {ls : List (Nat × Value)} {st : List Value}
theorem qS_end {G : qG} {σ : qH} {n : Option Nat} {s : State} {H : Heap} {locs : List Loc} (hS : va_S (qz G) s.heap H locs) {t : State} (ht : t.heap = H) (hW : qW G σ n H) : qW G σ n t.heap ∧ s.heap.size ≤ t.heap.size := ⟨by rw [ht]; exact hW, by rw [ht]; exact hS.1⟩
/-- the ends -/
theorem x_iret {v : Int32} (hr0 : rt = some .int) (hr2 : r = .inl (some (.int v), σ, n)) (hk : k ≤ mc) (hj : j ≤ ms) (d : decode cc pc = .ok (.ireturn, 1)) : qX l G own nm cc nL rt tab R mc ms r k j σ n pc ls [.int v] := by
  subst hr2; subst hr0
  intro p e s m args below meth c hx hb hml hr hn hown hts hlk htb hT hst hW0 H locs arr hS hW hl
  refine W.widen hk hj (vx_ret (W.iret hx hb hr (fun t ht _ => ⟨rfl, qS_end hS ht hW⟩) hS.2.2 d hlk))
theorem x_zret {v : Int32} {ty : FieldType} (hr0 : rt = some ty) (hv : narrow ty (.int v) = .int v) (hr2 : r = .inl (some (.int v), σ, n)) (hk : k ≤ mc) (hj : j ≤ ms) (d : decode cc pc = .ok (.ireturn, 1)) : qX l G own nm cc nL rt tab R mc ms r k j σ n pc ls [.int v] := by
  subst hr2; subst hr0
  intro p e s m args below meth c hx hb hml hr hn hown hts hlk htb hT hst hW0 H locs arr hS hW hl
  refine W.widen hk hj (vx_ret (W.zret hx hb hr hv (fun t ht _ => ⟨rfl, qS_end hS ht hW⟩) hS.2.2 d hlk))
theorem x_lret {v : Int64} (hr0 : rt = some .long) (hr2 : r = .inl (some (.long v), σ, n)) (hk : k ≤ mc) (hj : j ≤ ms) (d : decode cc pc = .ok (.lreturn, 1)) : qX l G own nm cc nL rt tab R mc ms r k j σ n pc ls [.long v] := by
  subst hr2; subst hr0
  intro p e s m args below meth c hx hb hml hr hn hown hts hlk htb hT hst hW0 H locs arr hS hW hl
  refine W.widen hk hj (vx_ret (W.lret hx hb hr (fun t ht _ => ⟨rfl, qS_end hS ht hW⟩) hS.2.2 d hlk))
theorem x_vret (hr0 : rt = none) (hr2 : r = .inl (none, σ, n)) (hk : k ≤ mc) (hj : j ≤ ms) (d : decode cc pc = .ok (.return_, 1)) : qX l G own nm cc nL rt tab R mc ms r k j σ n pc ls [] := by
  subst hr2; subst hr0
  intro p e s m args below meth c hx hb hml hr hn hown hts hlk htb hT hst hW0 H locs arr hS hW hl
  refine W.widen hk hj (vx_ret (W.vret hx hb hr (fun t ht _ => ⟨rfl, qS_end hS ht hW⟩) hS.2.2 d hlk))
/-- a method's body, out of its walk -/
theorem q_body {y : MethodName} {as : List Value} {ls : List (Nat × Value)} (hst : l.stackTraces = false) (hy : plainName y.cls = true) (hyo : y.cls = own) (hyn : y.name = nm) (hl : (lg_sl as).length ≤ nL) (hls : lv_args 0 as = ls) (hmc : R.cells = mc) (hms : R.slots = ms)
    (kk : qX l G own nm cc nL rt [] R mc ms r 0 0 σ n 0 ls []) : qM l G y cc nL rt R as σ n r := by
  subst hyo; subst hyn; subst hls; subst hmc; subst hms
  refine vx_ofW (cc := cc) (maxL := nL) (ret := rt) hy rfl ?_
  intro p e s m args below meth c s₁ B hml htb hv
  obtain ⟨rfl, hW, hT⟩ := hv
  have hts := atoms_spec (ws := qws y cc nL rt) B.pre
  rw [lg_entry_eq]
  exact kk p e s m _ below meth c B.exec B.bytes hml B.returns (name_of_methodNamed B.named B.method).1 (findClass_of_methodNamed B.named) (fun w hw => hts w (List.mem_cons_of_mem _ hw)) B.notSynchronized (List.eq_nil_iff_forall_not_mem.mpr fun x hx => htb x hx) hT hst ⟨σ, n, hW⟩ s.heap [] _ va_S.rf hW (lv_entry as hl)
/-- what a call of a method needs of the tables -/
def qY (y : MethodName) (cc : ByteArray) (nL : Nat) (rt : Option FieldType) (na : Nat) : Prop :=
  Cond.code y cc nL rt ∈ lw_good ∧ Cond.initialized y.cls ∈ lw_good ∧ (y.cls ≠ "java/lang/invoke/MethodHandle" ∧ y.cls ≠ "java/lang/invoke/VarHandle" ∧ (parseMethodDescriptor y.desc).map (fun d => d.parameters.length) = some na)
theorem qY_call {y : MethodName} {cc : ByteArray} {nL na index : Nat} {rt : Option FieldType} {own : String} {R rm : Room} {s : State} {args : Array Value} (h : qY y cc nL rt na) (hts : ∀ w ∈ lw_good, w.before args s = true) (hl : Cond.methodLink own index y ∈ lw_good) (hR : rm.frames + 1 ≤ R.frames ∧ 8 + (nL + 11) + rm.locals ≤ R.locals) :
    CallB R s args own index y cc nL rt (qws y cc nL rt) rm rm.cells rm.slots na :=
  callB_of (Ts := lw_good) na hts (lg_good fun w hw => by rcases List.mem_cons.mp hw with e | e; · rw [e]; exact h.1
                                                          · exact e) rfl rfl rfl (hts _ h.2.1) (hts _ hl) h.2.2 hR
theorem q_blind {as : List Value} : FrameBlind (va_Pc as (fun U => qW G σ n U.heap ∧ qT G U)) := fun _ _ _ _ h => ⟨h.1, h.2.1, qT_blind h.2.2⟩
/-- behind a call that returned -/
theorem q_back {p : Program} {e : Env} {s : State} {m : MethodId} {args : Array Value} {below : List Frame} {meth : Method} {c : Code} {H : Heap} {locs : List Loc} {arr : Array Slot} {st0 rest st2 : List Value} {v : Option Value} {n' : Option Nat} {a : Array Value} {mcc msc : Nat}
    (hx : p.tables.exec = Jvm.exec) (hb : c.code = cc) (hml : c.maxLocals = nL) (hr : meth.sig.returnType = rt) (hn : meth.name = nm) (hown : s.vm.findClass own = some m.cls) (hts : ∀ w ∈ lw_good, w.before args s = true) (hlk : meth.locks = false) (htb : c.exceptionTable.toList = tab) (hT : qT G s) (hst : l.stackTraces = false)
    (hW0 : ∃ (σ0 : qH) (n0 : Option Nat), qW G σ0 n0 s.heap) (hS : va_S (qz G) s.heap H locs) (hW : qW G σ n H) (hl : lv_has arr nL ls)
    (hrun : vx_Run p l e R s m args below meth c H locs k j mcc msc (F0 m pc arr st0) rest (qQ G (.inl (v, σ', n')) a) (qC G (.inl (v, σ', n'))) (qz G)) (hst2 : v.toList ++ rest = st2)
    (kk : qX l G own nm cc nL rt tab R mc ms r (k + mcc) (j + msc) σ' n' (pc + 3) ls st2) :
    W p l e R s m args below meth c H locs k j (vx_MQ below (qQ G r) (qC G r) args s mc ms (qz G)) (F0 m pc arr st0) := by
  subst hst2
  intro T hT2 X
  rcases hrun T hT2 X with ⟨v2, st₀, t, T', L, h0, X', hL, e1, e2, ⟨hv, hw2, hsz⟩, stp⟩ | ⟨q, st₀, t, T', L, E, ce, h0, X', hL, e1, e2, hf, -⟩
  · cases hv
    rw [h0] at hsz
    have hS2 : va_S (qz G) s.heap T'.heap (locs ++ L) := by
      obtain ⟨σ0, n0, w0⟩ := hW0
      refine ⟨Nat.le_trans hS.1 (by rw [e1]; exact hsz), fun q h1 h2 => ?_, fun q hq => ?_⟩
      · have h3 : q < G.2.2.1.size := Nat.not_le.mp h2
        rw [e1, hw2.2.2.1 q h3, w0.2.2.1 q h3]
      · rcases List.mem_append.mp hq with h | h
        · exact hS.2.2 q h
        · exact hL q h
    obtain ⟨t2, a1, b1⟩ := kk p e s m args below meth c hx hb hml hr hn hown hts hlk htb hT hst hW0 T'.heap (locs ++ L) arr hS2 (by rw [e1]; exact hw2) hl T' rfl X'
    exact ⟨t2, stp t2 a1, b1⟩
  · exact absurd hf id
/-- .. that threw, where this method has no handler -/
theorem q_thrown {p : Program} {e : Env} {s : State} {m : MethodId} {args : Array Value} {below : List Frame} {meth : Method} {c : Code} {H : Heap} {locs : List Loc} {arr : Array Slot} {st0 rest : List Value} {E : String} {a : Array Value} {mcc msc : Nat}
    (hlk : meth.locks = false) (htb : c.exceptionTable.toList = [])
    (hW0 : ∃ (σ0 : qH) (n0 : Option Nat), qW G σ0 n0 s.heap) (hS : va_S (qz G) s.heap H locs) (hr2 : r = .inr (E, σ')) (hk : k + mcc ≤ mc) (hj : j + msc ≤ ms)
    (hrun : vx_Run p l e R s m args below meth c H locs k j mcc msc (F0 m pc arr st0) rest (qQ G (.inr (E, σ')) a) (qC G (.inr (E, σ'))) (qz G)) :
    W p l e R s m args below meth c H locs k j (vx_MQ below (qQ G r) (qC G r) args s mc ms (qz G)) (F0 m pc arr st0) := by
  subst hr2
  intro T hT2 X
  rcases hrun T hT2 X with ⟨v2, st₀, t, T', L, h0, X', hL, e1, e2, hf, stp⟩ | ⟨q, st₀, t, T', L, E2, ce, h0, X', hL, e1, e2, ⟨hE, hw2, hsz⟩, hce, hcv, hcl, stp⟩
  · exact absurd hf id
  · subst hE
    rw [h0] at hsz
    have hL2 : ∀ z ∈ locs ++ L, qz G z.base := fun q hq => by
      rcases List.mem_append.mp hq with h | h
      · exact hS.2.2 q h
      · exact hL q h
    obtain ⟨t2, a1, b1⟩ := vx_out (l := l) (p := p) (e := e) (R := R) (s := s) (m := m) (args := args) (below := below) (meth := meth) (c := c) (H := T'.heap) (locs := locs ++ L) (cells := k + mcc) (slots := j + msc) (mc := mc) (ms := ms) (free := qz G) (Qc := qQ G (.inr (E2, σ'))) (XC := qC G (.inr (E2, σ'))) (ls := arr) (rest := rest) (pc := pc) (E := E2) (ce := ce) (q := q) (by rw [htb]; exact fun x hx => nomatch hx) hlk (by rw [e1]; exact hce) hcv hcl (fun t3 ht3 _ => ⟨rfl, by rw [ht3, e1]; exact hw2, by rw [ht3, e1]; exact Nat.le_trans hS.1 hsz⟩) hL2 hk hj T' rfl X'
    exact ⟨t2, stp.trans a1, b1⟩
theorem x_callV {y : MethodName} {bytes : ByteArray} {maxL index ci na : Nat} {ret : Option FieldType} {rm : Room} {As rest st2 : List Value} {b : Nat} {v : Option Value} {n' : Option Nat} {fs : List Value} {C : String} {T : u_T} {N : Nat} (pc2 : Nat)
    (hM : qM l G y bytes maxL ret rm (.ref b :: As) σ n (.inl (v, σ', n'))) (hY : qY y bytes maxL ret na) (w1 : Cond.methodLink own index y ∈ lw_good) (w2 : Cond.instanceMethod y ∈ lw_good) (w3 : Cond.selects C y y ∈ lw_good) (hcell : σ b = some (.inr (ci, fs))) (hc : vwCl[ci]? = some (C, T, N)) (hs : st = As.reverse ++ .ref b :: rest) (hna : As.length = na)
    (hR : rm.frames + 1 ≤ R.frames ∧ 8 + (maxL + 11) + rm.locals ≤ R.locals) (hcat : (rest.map fun v => v.category).sum ≤ 8) (hk : k + rm.cells ≤ R.cells ∧ j + rm.slots ≤ R.slots) (d : decode cc pc = .ok (.invokevirtual index, 3)) (hp : pc + 3 = pc2) (hst2 : v.toList ++ rest = st2)
    (kk : qX l G own nm cc nL rt tab R mc ms r (k + rm.cells) (j + rm.slots) σ' n' pc2 ls st2) : qX l G own nm cc nL rt tab R mc ms r k j σ n pc ls st := by
  subst hp; subst hs
  intro p e s m args below meth c hx hb hml hr hn hown hts hlk htb hT hst hW0 H locs arr hS hW hl
  exact q_back hx hb hml hr hn hown hts hlk htb hT hst hW0 hS hW hl (vx_runV (Ts := lw_good) ⟨hx, hb, hml, hown, hts⟩ hM ⟨qY_call hY hts w1 hR, hts _ w2, hts _ w3⟩ ⟨q_blind, va_recv (q := (C, T, N)) hT.1 (qW_at hW hcell rfl) hc (q0 := 0) rfl, fun U hU hWU => ⟨rfl, by rw [hU]; exact hW, qT_warm hWU hT⟩⟩ rfl hna hl.1 rfl (lv_room hcat) d hk) hst2 kk
theorem x_callVX {y : MethodName} {bytes : ByteArray} {maxL index ci na : Nat} {ret : Option FieldType} {rm : Room} {As rest : List Value} {b : Nat} {E : String} {fs : List Value} {C : String} {T : u_T} {N : Nat}
    (hM : qM l G y bytes maxL ret rm (.ref b :: As) σ n (.inr (E, σ'))) (hY : qY y bytes maxL ret na) (w1 : Cond.methodLink own index y ∈ lw_good) (w2 : Cond.instanceMethod y ∈ lw_good) (w3 : Cond.selects C y y ∈ lw_good) (hcell : σ b = some (.inr (ci, fs))) (hc : vwCl[ci]? = some (C, T, N)) (hs : st = As.reverse ++ .ref b :: rest) (hna : As.length = na)
    (hR : rm.frames + 1 ≤ R.frames ∧ 8 + (maxL + 11) + rm.locals ≤ R.locals) (hcat : (rest.map fun v => v.category).sum ≤ 8) (hk : k + rm.cells ≤ R.cells ∧ j + rm.slots ≤ R.slots) (d : decode cc pc = .ok (.invokevirtual index, 3))
    (ht : tab = []) (hr2 : r = .inr (E, σ')) (hk2 : k + rm.cells ≤ mc) (hj2 : j + rm.slots ≤ ms) : qX l G own nm cc nL rt tab R mc ms r k j σ n pc ls st := by
  subst hs
  intro p e s m args below meth c hx hb hml hr hn hown hts hlk htb hT hst hW0 H locs arr hS hW hl
  exact q_thrown hlk (htb.trans ht) hW0 hS hr2 hk2 hj2 (vx_runV (Ts := lw_good) ⟨hx, hb, hml, hown, hts⟩ hM ⟨qY_call hY hts w1 hR, hts _ w2, hts _ w3⟩ ⟨q_blind, va_recv (q := (C, T, N)) hT.1 (qW_at hW hcell rfl) hc (q0 := 0) rfl, fun U hU hWU => ⟨rfl, by rw [hU]; exact hW, qT_warm hWU hT⟩⟩ rfl hna hl.1 rfl (lv_room hcat) d hk)
theorem x_callS {y : MethodName} {bytes : ByteArray} {maxL index na : Nat} {ret : Option FieldType} {rm : Room} {As rest st2 : List Value} {v : Option Value} {n' : Option Nat} (pc2 : Nat)
    (hM : qM l G y bytes maxL ret rm As σ n (.inl (v, σ', n'))) (hY : qY y bytes maxL ret na) (w1 : Cond.methodLink own index y ∈ lw_good) (w2 : Cond.static y ∈ lw_good) (hs : st = As.reverse ++ rest) (hna : As.length = na)
    (hR : rm.frames + 1 ≤ R.frames ∧ 8 + (maxL + 11) + rm.locals ≤ R.locals) (hcat : (rest.map fun v => v.category).sum ≤ 8) (hk : k + rm.cells ≤ R.cells ∧ j + rm.slots ≤ R.slots) (d : decode cc pc = .ok (.invokestatic index, 3)) (hp : pc + 3 = pc2) (hst2 : v.toList ++ rest = st2)
    (kk : qX l G own nm cc nL rt tab R mc ms r (k + rm.cells) (j + rm.slots) σ' n' pc2 ls st2) : qX l G own nm cc nL rt tab R mc ms r k j σ n pc ls st := by
  subst hp; subst hs
  intro p e s m args below meth c hx hb hml hr hn hown hts hlk htb hT hst hW0 H locs arr hS hW hl
  exact q_back hx hb hml hr hn hown hts hlk htb hT hst hW0 hS hW hl (vx_runS (Ts := lw_good) ⟨hx, hb, hml, hown, hts⟩ hM ⟨qY_call hY hts w1 hR, hts _ w2⟩ ⟨q_blind, fun U hU hWU => ⟨rfl, by rw [hU]; exact hW, qT_warm hWU hT⟩⟩ rfl hna hl.1 rfl (lv_room hcat) d hk) hst2 kk
theorem x_callSX {y : MethodName} {bytes : ByteArray} {maxL index na : Nat} {ret : Option FieldType} {rm : Room} {As rest : List Value} {E : String}
    (hM : qM l G y bytes maxL ret rm As σ n (.inr (E, σ'))) (hY : qY y bytes maxL ret na) (w1 : Cond.methodLink own index y ∈ lw_good) (w2 : Cond.static y ∈ lw_good) (hs : st = As.reverse ++ rest) (hna : As.length = na)
    (hR : rm.frames + 1 ≤ R.frames ∧ 8 + (maxL + 11) + rm.locals ≤ R.locals) (hcat : (rest.map fun v => v.category).sum ≤ 8) (hk : k + rm.cells ≤ R.cells ∧ j + rm.slots ≤ R.slots) (d : decode cc pc = .ok (.invokestatic index, 3))
    (ht : tab = []) (hr2 : r = .inr (E, σ')) (hk2 : k + rm.cells ≤ mc) (hj2 : j + rm.slots ≤ ms) : qX l G own nm cc nL rt tab R mc ms r k j σ n pc ls st := by
  subst hs
  intro p e s m args below meth c hx hb hml hr hn hown hts hlk htb hT hst hW0 H locs arr hS hW hl
  exact q_thrown hlk (htb.trans ht) hW0 hS hr2 hk2 hj2 (vx_runS (Ts := lw_good) ⟨hx, hb, hml, hown, hts⟩ hM ⟨qY_call hY hts w1 hR, hts _ w2⟩ ⟨q_blind, fun U hU hWU => ⟨rfl, by rw [hU]; exact hW, qT_warm hWU hT⟩⟩ rfl hna hl.1 rfl (lv_room hcat) d hk)
end QZ
end
