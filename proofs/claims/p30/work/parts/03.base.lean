/-! The abstract heap: what lies at an address; the judgement qX of a walk over it; one row an instruction. Kinds of arrays: 0 int, 1 boolean, 2 Parish, 3 none (long in whole), 4 an int array that nobody writes (statics, the script). -/
abbrev qE : Type := (Nat × vp_A) ⊕ (Nat × List Value)
abbrev qH : Type := Nat → Option qE
abbrev qU (σ : qH) (a : Nat) (e : qE) : qH := fun b => if b = a then some e else σ b
/-- the ground: classes and slots, array classes, the heap at the law's entry, the static arrays' addresses, the arrays that nobody writes -/
abbrev qG : Type := va_G × (Nat → ClassId) × Heap × (Nat → Nat) × (Nat → Option (Nat × (Nat → Int32)))
abbrev qz (G : qG) : Nat → Prop := fun q => G.2.2.1.size ≤ q
def qtr (G : qG) (e : qE) : va_E := match e with
  | .inl (k, a) => .inl (G.2.1 k, a)
  | .inr o => .inr o
def qro (e : qE) : Bool := match e with
  | .inl (k, _) => k == 4
  | .inr _ => false
abbrev qtys (G : qG) : List (ClassId × FieldType) := [(G.2.1 0, .int), (G.2.1 1, .boolean), (G.2.1 2, .object RX2), (G.2.1 3, .int)]
/-- the heap H holds the abstract heap, its size is n (where that is told), what was there at the law's entry stands -/
def qW (G : qG) (σ : qH) (n : Option Nat) (H : Heap) : Prop :=
  (∀ m : Nat, n = some m → H.size = m) ∧ G.2.2.1.size ≤ H.size ∧ (∀ q : Nat, q < G.2.2.1.size → H[q]? = G.2.2.1[q]?) ∧
  (∃ ws : va_W, va_P G.1 vwCl ws H ∧ va_D (qz G) ws ∧ ∀ (a : Nat) (e : qE), σ a = some e → qro e = false → ∃ k : Nat, ws[k]? = some (a, qtr G e)) ∧
  (∀ (a : Nat) (x : vp_A), σ a = some (.inl (4, x)) → ∃ (m : Nat) (f : Nat → Int32), x = (m, .inl f) ∧ a < G.2.2.1.size ∧ G.2.2.2.2 a = some (m, f))
abbrev qst : List (String × Nat) := [("SHADOW", 0), ("POOL", 1), ("WORD", 2), ("DROP", 3), ("TRUST", 4), ("EVENING", 5), ("SURVEY", 6)]
def lw_face : List Cond := lw_tbl.filter (fun w => w.onTables && w.keepsFace)
abbrev qnest : List (String × Nat × MethodName × String) := [("SteepleWords", 36, ⟨RX5, "<init>", "()V"⟩, RX6), ("SteepleWords", 43, ⟨RX0, "<init>", "()V"⟩, RX6)]
abbrev qtexts : List (Nat × String) := [(303, "an argument is out of its range"), (58, "the text is full"), (74, "the text is not a parish"), (322, "no such measure"), (317, "no such teller"), (311, "no such steeple"), (217, "there are 16 measures"), (248, "no state is remembered"), (324, "no such save slot"), (299, "nothing is saved in this slot")]
abbrev qI : String := "java/lang/IndexOutOfBoundsException"
abbrev qA : String := "java/lang/IllegalArgumentException"
abbrev qSt : String := "java/lang/IllegalStateException"
abbrev qnc : List (String × String) := [(qI, qA), (qI, qSt), (qA, qI), (qA, qSt), (qSt, qI), (qSt, qA)]
/-- what the tables and the first heap say -/
def qT (G : qG) (U : State) : Prop :=
  va_K G.1 vwCl (qtys G) U ∧
  (∀ x ∈ qst, va_Z "SteepleWords$Text" x.1 "[I" (.ref (G.2.2.2.1 x.2)) (qz G) U G.2.2.1) ∧
  (∀ (a m : Nat) (f : Nat → Int32), G.2.2.2.2 a = some (m, f) → va_X a m f U G.2.2.1) ∧
  (∀ w ∈ lw_face, va_Nw w U) ∧ (∀ x ∈ qnest, va_Nw (.methodLinkNest x.1 x.2.1 x.2.2.1 x.2.2.2) U) ∧
  (∀ x ∈ qtexts, ∃ sa : Nat, vk_R RX6 x.1 x.2 sa U) ∧ va_AO RX2 U ∧ (∀ x ∈ qnc, va_Nc x.1 x.2 U) ∧
  vx_Zq Bundle.tN "UNASSIGNED_STACK" Bundle.steD (qz G) U G.2.2.1 ∧ vx_Zq Bundle.tN "SUPPRESSED_SENTINEL" Bundle.listD (qz G) U G.2.2.1
theorem qT_warm {G : qG} {s U : State} (hW : s.WarmedH U.vm) (h : qT G s) : qT G U := by
  obtain ⟨h1, h2, h3, h4, h5, h6, h9, h10, h7, h8⟩ := h
  refine ⟨va_K.moved hW.alike h1, fun x hx => va_Z.moved hW.alike (h2 x hx), fun a m f h => va_X.moved hW.alike (h3 a m f h), fun w hw => ?_, fun x hx => va_Nw.warmM hW (h5 x hx), fun x hx => ?_, va_AO.moved hW.alike h9, fun x hx => va_Nc.moved hW.alike (h10 x hx), vx_Zq.moved hW.alike h7, vx_Zq.moved hW.alike h8⟩
  · have hg := (List.mem_filter.mp hw).2
    simp only [Bool.and_eq_true] at hg
    exact va_tabs hg.1 (rfl : (s.setVm U.vm).vm = U.vm) (Cond.before_shiftedFace (State.Shifted.of_warmed hW) w hg.2 (h4 w hw))
  · obtain ⟨sa, hs⟩ := h6 x hx
    exact ⟨sa, vk_R.warm hW hs⟩
theorem qT_blind {G : qG} {a : Array Value} {U : State} {g : JFrame} {mk : MethodId} (h : qT G U) : qT G (U.calling g mk a) := qT_warm (State.WarmedH.refl U) h
def lw_good : List Cond := lw_tbl.filter goodWord
theorem lg_in {w : Cond} (k : Nat) (h : lw_tbl[k]? = some w) (g : goodWord w = true) : w ∈ lw_good := List.mem_filter.mpr ⟨List.mem_of_getElem? h, g⟩
theorem lg_good {ws : List Cond} (h : ∀ w ∈ ws, w ∈ lw_good) : GoodIn lw_good ws := fun w hw => ⟨h w hw, good_of_word (List.mem_filter.mp (h w hw)).2⟩
/-- a result: returned, or thrown -/
abbrev qR : Type := (Option Value × qH × Option Nat) ⊕ (String × qH)
def qQ (G : qG) (r : qR) : Array Value → State → Outcome → State → Prop := fun _ st oc t => match r with
  | .inl (v, σ, n) => oc = .returned v ∧ qW G σ n t.heap ∧ st.heap.size ≤ t.heap.size
  | .inr _ => False
def qC (G : qG) (r : qR) : String → State → State → Prop := fun E st t => match r with
  | .inl _ => False
  | .inr (E', σ) => E = E' ∧ qW G σ none t.heap ∧ st.heap.size ≤ t.heap.size
abbrev qws (y : MethodName) (cc : ByteArray) (nL : Nat) (rt : Option FieldType) : List Cond := Cond.code y cc nL rt :: lw_good
/-- a method's contract: called with these values over this heap it comes to this result -/
def qM (l : Launch) (G : qG) (y : MethodName) (cc : ByteArray) (nL : Nat) (rt : Option FieldType) (rm : Room) (as : List Value) (σ : qH) (n : Option Nat) (r : qR) : Prop :=
  vx_Met l y (qws y cc nL rt) rm (va_Pc as (fun U => qW G σ n U.heap ∧ qT G U)) (qQ G r) (qC G r) rm.cells rm.slots (qz G)
/-- the walk: at pc with these locals, this stack, over this heap -/
def qX (l : Launch) (G : qG) (own nm : String) (cc : ByteArray) (nL : Nat) (rt : Option FieldType) (tab : List ExceptionTableEntry) (R : Room) (mc ms : Nat) (r : qR) (k j : Nat) (σ : qH) (n : Option Nat) (pc : Nat) (ls : List (Nat × Value)) (st : List Value) : Prop :=
  ∀ (p : Program) (e : Env) (s : State) (m : MethodId) (args : Array Value) (below : List Frame) (meth : Method) (c : Code),
    p.tables.exec = Jvm.exec → c.code = cc → c.maxLocals = nL → meth.sig.returnType = rt → meth.name = nm → s.vm.findClass own = some m.cls → (∀ w ∈ lw_good, w.before args s = true) → meth.locks = false → c.exceptionTable.toList = tab → qT G s → l.stackTraces = false →
    (∃ (σ0 : qH) (n0 : Option Nat), qW G σ0 n0 s.heap) →
    ∀ (H : Heap) (locs : List Loc) (arr : Array Slot), va_S (qz G) s.heap H locs → qW G σ n H → lv_has arr nL ls →
      W p l e R s m args below meth c H locs k j (vx_MQ below (qQ G r) (qC G r) args s mc ms (qz G)) (F0 m pc arr st)
def irm (x y : Int32) : Int32 := x - x / y * y
def lrm (x y : Int64) : Int64 := x - x / y * y
def lus (x : Int64) (y : Int32) : Int64 := (x.toUInt64 >>> (y.toInt64.toUInt64 &&& Int64.toUInt64 63)).toInt64
section QX
variable {l : Launch} {G : qG} {own nm : String} {cc : ByteArray} {nL : Nat} {rt : Option FieldType} {tab : List ExceptionTableEntry} {R : Room} {mc ms : Nat} {r : qR} {k j : Nat} {σ : qH} {n : Option Nat} {pc : Nat} {ls : List (Nat × Value)} {st : List Value}
/-- lifting a row of the kit that only moves pc and stack -/
theorem q_lift {pc2 : Nat} {st2 : List Value} (h : ∀ (p : Program) (e : Env) (s : State) (m : MethodId) (args : Array Value) (below : List Frame) (meth : Method) (c : Code), p.tables.exec = Jvm.exec → c.code = cc → s.vm.findClass own = some m.cls → (∀ w ∈ lw_good, w.before args s = true) →
      ∀ (H : Heap) (locs : List Loc) (arr : Array Slot) (Q : State → Prop), lv_has arr nL ls → W p l e R s m args below meth c H locs k j Q (F0 m pc2 arr st2) → W p l e R s m args below meth c H locs k j Q (F0 m pc arr st))
    (kk : qX l G own nm cc nL rt tab R mc ms r k j σ n pc2 ls st2) : qX l G own nm cc nL rt tab R mc ms r k j σ n pc ls st := by
  intro p e s m args below meth c hx hb hml hr hn hown hts hlk htb hT hst hW0 H locs arr hS hW hl
  exact h p e s m args below meth c hx hb hown hts H locs arr _ hl (kk p e s m args below meth c hx hb hml hr hn hown hts hlk htb hT hst hW0 H locs arr hS hW hl)
/-- .. and one that moves the locals -/
theorem q_liftL {pc2 : Nat} {st2 : List Value} {ls2 : List (Nat × Value)} (h : ∀ (p : Program) (e : Env) (s : State) (m : MethodId) (args : Array Value) (below : List Frame) (meth : Method) (c : Code), p.tables.exec = Jvm.exec → c.code = cc →
      ∀ (H : Heap) (locs : List Loc) (arr : Array Slot) (Q : State → Prop), lv_has arr nL ls → (∀ arr2 : Array Slot, lv_has arr2 nL ls2 → W p l e R s m args below meth c H locs k j Q (F0 m pc2 arr2 st2)) → W p l e R s m args below meth c H locs k j Q (F0 m pc arr st))
    (kk : qX l G own nm cc nL rt tab R mc ms r k j σ n pc2 ls2 st2) : qX l G own nm cc nL rt tab R mc ms r k j σ n pc ls st := by
  intro p e s m args below meth c hx hb hml hr hn hown hts hlk htb hT hst hW0 H locs arr hS hW hl
  exact h p e s m args below meth c hx hb H locs arr _ hl (fun arr2 hl2 => kk p e s m args below meth c hx hb hml hr hn hown hts hlk htb hT hst hW0 H locs arr2 hS hW hl2)
/-- two ways -/
theorem q_lift2 {pc2 pc3 : Nat} {st2 : List Value} {P : Prop} (h : ∀ (p : Program) (e : Env) (s : State) (m : MethodId) (args : Array Value) (below : List Frame) (meth : Method) (c : Code), p.tables.exec = Jvm.exec → c.code = cc →
      ∀ (H : Heap) (locs : List Loc) (arr : Array Slot) (Q : State → Prop), (P → W p l e R s m args below meth c H locs k j Q (F0 m pc2 arr st2)) → (¬ P → W p l e R s m args below meth c H locs k j Q (F0 m pc3 arr st2)) → W p l e R s m args below meth c H locs k j Q (F0 m pc arr st))
    (k1 : P → qX l G own nm cc nL rt tab R mc ms r k j σ n pc2 ls st2) (k2 : ¬ P → qX l G own nm cc nL rt tab R mc ms r k j σ n pc3 ls st2) : qX l G own nm cc nL rt tab R mc ms r k j σ n pc ls st := by
  intro p e s m args below meth c hx hb hml hr hn hown hts hlk htb hT hst hW0 H locs arr hS hW hl
  exact h p e s m args below meth c hx hb H locs arr _ (fun hP => k1 hP p e s m args below meth c hx hb hml hr hn hown hts hlk htb hT hst hW0 H locs arr hS hW hl) (fun hP => k2 hP p e s m args below meth c hx hb hml hr hn hown hts hlk htb hT hst hW0 H locs arr hS hW hl)
theorem x_iconst {i : Int} (pc2 : Nat) (v : Int32) (d : decode cc pc = .ok (.iconst i, 1)) (hp : pc + 1 = pc2) (hv : Int32.ofInt i = v) (kk : qX l G own nm cc nL rt tab R mc ms r k j σ n pc2 ls (.int v :: st)) : qX l G own nm cc nL rt tab R mc ms r k j σ n pc ls st := by
  subst hp; exact q_lift (fun p e s m args below meth c hx hb _ _ H locs arr Q hl kk => lv_iconst hx hb d hv kk) kk
theorem x_bipush {i : Int} (pc2 : Nat) (v : Int32) (d : decode cc pc = .ok (.bipush i, 2)) (hp : pc + 2 = pc2) (hv : (Int8.ofInt i).toInt32 = v) (kk : qX l G own nm cc nL rt tab R mc ms r k j σ n pc2 ls (.int v :: st)) : qX l G own nm cc nL rt tab R mc ms r k j σ n pc ls st := by
  subst hp; exact q_lift (fun p e s m args below meth c hx hb _ _ H locs arr Q hl kk => lv_bipush hx hb d hv kk) kk
theorem x_sipush {i : Int} (pc2 : Nat) (v : Int32) (d : decode cc pc = .ok (.sipush i, 3)) (hp : pc + 3 = pc2) (hv : (Int16.ofInt i).toInt32 = v) (kk : qX l G own nm cc nL rt tab R mc ms r k j σ n pc2 ls (.int v :: st)) : qX l G own nm cc nL rt tab R mc ms r k j σ n pc ls st := by
  subst hp; exact q_lift (fun p e s m args below meth c hx hb _ _ H locs arr Q hl kk => lv_sipush hx hb d hv kk) kk
theorem x_lconst {i : Fin 2} (pc2 : Nat) (v : Int64) (d : decode cc pc = .ok (.lconst i, 1)) (hp : pc + 1 = pc2) (hv : Int64.ofNat (i : Nat) = v) (kk : qX l G own nm cc nL rt tab R mc ms r k j σ n pc2 ls (.long v :: st)) : qX l G own nm cc nL rt tab R mc ms r k j σ n pc ls st := by
  subst hp; exact q_lift (fun p e s m args below meth c hx hb _ _ H locs arr Q hl kk => lv_lconst hx hb d hv kk) kk
theorem x_iload_n {q : Fin 4} {v : Int32} (pc2 : Nat) (w : Nat) (d : decode cc pc = .ok (.iload_n q, 1)) (hp : pc + 1 = pc2) (hw : ls[w]? = some ((q : Nat), .int v)) (kk : qX l G own nm cc nL rt tab R mc ms r k j σ n pc2 ls (.int v :: st)) : qX l G own nm cc nL rt tab R mc ms r k j σ n pc ls st := by
  subst hp; exact q_lift (fun p e s m args below meth c hx hb _ _ H locs arr Q hl kk => lv_iload_n hx hb d rfl (lv_at hl w hw) kk) kk
theorem x_iload {q : Nat} {v : Int32} (pc2 : Nat) (w : Nat) (d : decode cc pc = .ok (.iload q, 2)) (hp : pc + 2 = pc2) (hw : ls[w]? = some (q, .int v)) (kk : qX l G own nm cc nL rt tab R mc ms r k j σ n pc2 ls (.int v :: st)) : qX l G own nm cc nL rt tab R mc ms r k j σ n pc ls st := by
  subst hp; exact q_lift (fun p e s m args below meth c hx hb _ _ H locs arr Q hl kk => lv_iload hx hb d (lv_at hl w hw) kk) kk
theorem x_istore_n {q0 : Fin 4} {v : Int32} (pc2 i : Nat) (ls2 : List (Nat × Value)) (d : decode cc pc = .ok (.istore_n q0, 1)) (hp : pc + 1 = pc2) (hi : (q0 : Nat) = i) (hn : i < nL) (hls : (i, Value.int v) :: ls.filter (fun q => !(q.1 == i) && !(q.1 + 1 == i && q.2.category == 2)) = ls2) (kk : qX l G own nm cc nL rt tab R mc ms r k j σ n pc2 ls2 st) : qX l G own nm cc nL rt tab R mc ms r k j σ n pc ls (.int v :: st) := by
  subst hp; exact q_liftL (fun p e s m args below meth c hx hb H locs arr Q hl kk => lv_istore_n hx hb d hi hl hn hls kk) kk
theorem x_istore {v : Int32} (pc2 i : Nat) (ls2 : List (Nat × Value)) (d : decode cc pc = .ok (.istore i, 2)) (hp : pc + 2 = pc2) (hn : i < nL) (hls : (i, Value.int v) :: ls.filter (fun q => !(q.1 == i) && !(q.1 + 1 == i && q.2.category == 2)) = ls2) (kk : qX l G own nm cc nL rt tab R mc ms r k j σ n pc2 ls2 st) : qX l G own nm cc nL rt tab R mc ms r k j σ n pc ls (.int v :: st) := by
  subst hp; exact q_liftL (fun p e s m args below meth c hx hb H locs arr Q hl kk => lv_istore hx hb d hl hn hls kk) kk
theorem x_lload_n {q : Fin 4} {v : Int64} (pc2 : Nat) (w : Nat) (d : decode cc pc = .ok (.lload_n q, 1)) (hp : pc + 1 = pc2) (hw : ls[w]? = some ((q : Nat), .long v)) (kk : qX l G own nm cc nL rt tab R mc ms r k j σ n pc2 ls (.long v :: st)) : qX l G own nm cc nL rt tab R mc ms r k j σ n pc ls st := by
  subst hp; exact q_lift (fun p e s m args below meth c hx hb _ _ H locs arr Q hl kk => lv_lload_n hx hb d rfl (lv_at hl w hw) kk) kk
theorem x_lload {q : Nat} {v : Int64} (pc2 : Nat) (w : Nat) (d : decode cc pc = .ok (.lload q, 2)) (hp : pc + 2 = pc2) (hw : ls[w]? = some (q, .long v)) (kk : qX l G own nm cc nL rt tab R mc ms r k j σ n pc2 ls (.long v :: st)) : qX l G own nm cc nL rt tab R mc ms r k j σ n pc ls st := by
  subst hp; exact q_lift (fun p e s m args below meth c hx hb _ _ H locs arr Q hl kk => lv_lload hx hb d (lv_at hl w hw) kk) kk
theorem x_lstore_n {q0 : Fin 4} {v : Int64} (pc2 i : Nat) (ls2 : List (Nat × Value)) (d : decode cc pc = .ok (.lstore_n q0, 1)) (hp : pc + 1 = pc2) (hi : (q0 : Nat) = i) (hn : i + 1 < nL) (hls : (i, Value.long v) :: ls.filter (fun q => !(q.1 == i) && (!(q.1 == i + 1) && !(q.1 + 1 == i && q.2.category == 2))) = ls2) (kk : qX l G own nm cc nL rt tab R mc ms r k j σ n pc2 ls2 st) : qX l G own nm cc nL rt tab R mc ms r k j σ n pc ls (.long v :: st) := by
  subst hp; exact q_liftL (fun p e s m args below meth c hx hb H locs arr Q hl kk => lv_lstore_n hx hb d hi hl hn hls kk) kk
theorem x_lstore {v : Int64} (pc2 i : Nat) (ls2 : List (Nat × Value)) (d : decode cc pc = .ok (.lstore i, 2)) (hp : pc + 2 = pc2) (hn : i + 1 < nL) (hls : (i, Value.long v) :: ls.filter (fun q => !(q.1 == i) && (!(q.1 == i + 1) && !(q.1 + 1 == i && q.2.category == 2))) = ls2) (kk : qX l G own nm cc nL rt tab R mc ms r k j σ n pc2 ls2 st) : qX l G own nm cc nL rt tab R mc ms r k j σ n pc ls (.long v :: st) := by
  subst hp; exact q_liftL (fun p e s m args below meth c hx hb H locs arr Q hl kk => lv_lstore hx hb d hl hn hls kk) kk
theorem x_aload_n {q : Fin 4} {v : Nat} (pc2 : Nat) (w : Nat) (d : decode cc pc = .ok (.aload_n q, 1)) (hp : pc + 1 = pc2) (hw : ls[w]? = some ((q : Nat), .ref v)) (kk : qX l G own nm cc nL rt tab R mc ms r k j σ n pc2 ls (.ref v :: st)) : qX l G own nm cc nL rt tab R mc ms r k j σ n pc ls st := by
  subst hp; exact q_lift (fun p e s m args below meth c hx hb _ _ H locs arr Q hl kk => lv_aload_n hx hb d rfl (lv_at hl w hw) kk) kk
theorem x_aload {q : Nat} {v : Nat} (pc2 : Nat) (w : Nat) (d : decode cc pc = .ok (.aload q, 2)) (hp : pc + 2 = pc2) (hw : ls[w]? = some (q, .ref v)) (kk : qX l G own nm cc nL rt tab R mc ms r k j σ n pc2 ls (.ref v :: st)) : qX l G own nm cc nL rt tab R mc ms r k j σ n pc ls st := by
  subst hp; exact q_lift (fun p e s m args below meth c hx hb _ _ H locs arr Q hl kk => lv_aload hx hb d (lv_at hl w hw) kk) kk
theorem x_astore_n {q0 : Fin 4} {v : Nat} (pc2 i : Nat) (ls2 : List (Nat × Value)) (d : decode cc pc = .ok (.astore_n q0, 1)) (hp : pc + 1 = pc2) (hi : (q0 : Nat) = i) (hn : i < nL) (hls : (i, Value.ref v) :: ls.filter (fun q => !(q.1 == i) && !(q.1 + 1 == i && q.2.category == 2)) = ls2) (kk : qX l G own nm cc nL rt tab R mc ms r k j σ n pc2 ls2 st) : qX l G own nm cc nL rt tab R mc ms r k j σ n pc ls (.ref v :: st) := by
  subst hp; exact q_liftL (fun p e s m args below meth c hx hb H locs arr Q hl kk => lv_astore_n hx hb d hi hl hn hls kk) kk
theorem x_astore {v : Nat} (pc2 i : Nat) (ls2 : List (Nat × Value)) (d : decode cc pc = .ok (.astore i, 2)) (hp : pc + 2 = pc2) (hn : i < nL) (hls : (i, Value.ref v) :: ls.filter (fun q => !(q.1 == i) && !(q.1 + 1 == i && q.2.category == 2)) = ls2) (kk : qX l G own nm cc nL rt tab R mc ms r k j σ n pc2 ls2 st) : qX l G own nm cc nL rt tab R mc ms r k j σ n pc ls (.ref v :: st) := by
  subst hp; exact q_liftL (fun p e s m args below meth c hx hb H locs arr Q hl kk => lv_astore hx hb d hl hn hls kk) kk
theorem x_iinc {q : Int} {x : Int32} (pc2 i w : Nat) (v : Int32) (ls2 : List (Nat × Value)) (d : decode cc pc = .ok (.iinc i q, 3)) (hp : pc + 3 = pc2) (hw : ls[w]? = some (i, .int x)) (hv : x + Int32.ofInt q = v) (hn : i < nL) (hls : (i, Value.int v) :: ls.filter (fun q => !(q.1 == i) && !(q.1 + 1 == i && q.2.category == 2)) = ls2) (kk : qX l G own nm cc nL rt tab R mc ms r k j σ n pc2 ls2 st) : qX l G own nm cc nL rt tab R mc ms r k j σ n pc ls st := by
  subst hp; exact q_liftL (fun p e s m args below meth c hx hb H locs arr Q hl kk => lv_iinc hx hb d hl hw hv hn hls kk) kk
theorem x_iadd {x y : Int32} (pc2 : Nat) (d : decode cc pc = .ok (.iadd, 1)) (hp : pc + 1 = pc2) (kk : qX l G own nm cc nL rt tab R mc ms r k j σ n pc2 ls (.int (x + y) :: st)) : qX l G own nm cc nL rt tab R mc ms r k j σ n pc ls (.int y :: .int x :: st) := by
  subst hp; exact q_lift (fun p e s m args below meth c hx hb _ _ H locs arr Q hl kk => lv_iadd hx hb d kk) kk
theorem x_isub {x y : Int32} (pc2 : Nat) (d : decode cc pc = .ok (.isub, 1)) (hp : pc + 1 = pc2) (kk : qX l G own nm cc nL rt tab R mc ms r k j σ n pc2 ls (.int (x - y) :: st)) : qX l G own nm cc nL rt tab R mc ms r k j σ n pc ls (.int y :: .int x :: st) := by
  subst hp; exact q_lift (fun p e s m args below meth c hx hb _ _ H locs arr Q hl kk => lv_isub hx hb d kk) kk
theorem x_imul {x y : Int32} (pc2 : Nat) (d : decode cc pc = .ok (.imul, 1)) (hp : pc + 1 = pc2) (kk : qX l G own nm cc nL rt tab R mc ms r k j σ n pc2 ls (.int (x * y) :: st)) : qX l G own nm cc nL rt tab R mc ms r k j σ n pc ls (.int y :: .int x :: st) := by
  subst hp; exact q_lift (fun p e s m args below meth c hx hb _ _ H locs arr Q hl kk => lv_imul hx hb d kk) kk
theorem x_iand {x y : Int32} (pc2 : Nat) (d : decode cc pc = .ok (.iand, 1)) (hp : pc + 1 = pc2) (kk : qX l G own nm cc nL rt tab R mc ms r k j σ n pc2 ls (.int (x &&& y) :: st)) : qX l G own nm cc nL rt tab R mc ms r k j σ n pc ls (.int y :: .int x :: st) := by
  subst hp; exact q_lift (fun p e s m args below meth c hx hb _ _ H locs arr Q hl kk => lv_iand hx hb d kk) kk
theorem x_ior {x y : Int32} (pc2 : Nat) (d : decode cc pc = .ok (.ior, 1)) (hp : pc + 1 = pc2) (kk : qX l G own nm cc nL rt tab R mc ms r k j σ n pc2 ls (.int (x ||| y) :: st)) : qX l G own nm cc nL rt tab R mc ms r k j σ n pc ls (.int y :: .int x :: st) := by
  subst hp; exact q_lift (fun p e s m args below meth c hx hb _ _ H locs arr Q hl kk => lv_ior hx hb d kk) kk
theorem x_ixor {x y : Int32} (pc2 : Nat) (d : decode cc pc = .ok (.ixor, 1)) (hp : pc + 1 = pc2) (kk : qX l G own nm cc nL rt tab R mc ms r k j σ n pc2 ls (.int (x ^^^ y) :: st)) : qX l G own nm cc nL rt tab R mc ms r k j σ n pc ls (.int y :: .int x :: st) := by
  subst hp; exact q_lift (fun p e s m args below meth c hx hb _ _ H locs arr Q hl kk => lv_ixor hx hb d kk) kk
theorem x_ladd {x y : Int64} (pc2 : Nat) (d : decode cc pc = .ok (.ladd, 1)) (hp : pc + 1 = pc2) (kk : qX l G own nm cc nL rt tab R mc ms r k j σ n pc2 ls (.long (x + y) :: st)) : qX l G own nm cc nL rt tab R mc ms r k j σ n pc ls (.long y :: .long x :: st) := by
  subst hp; exact q_lift (fun p e s m args below meth c hx hb _ _ H locs arr Q hl kk => lv_ladd hx hb d kk) kk
theorem x_lsub {x y : Int64} (pc2 : Nat) (d : decode cc pc = .ok (.lsub, 1)) (hp : pc + 1 = pc2) (kk : qX l G own nm cc nL rt tab R mc ms r k j σ n pc2 ls (.long (x - y) :: st)) : qX l G own nm cc nL rt tab R mc ms r k j σ n pc ls (.long y :: .long x :: st) := by
  subst hp; exact q_lift (fun p e s m args below meth c hx hb _ _ H locs arr Q hl kk => lv_lsub hx hb d kk) kk
theorem x_lmul {x y : Int64} (pc2 : Nat) (d : decode cc pc = .ok (.lmul, 1)) (hp : pc + 1 = pc2) (kk : qX l G own nm cc nL rt tab R mc ms r k j σ n pc2 ls (.long (x * y) :: st)) : qX l G own nm cc nL rt tab R mc ms r k j σ n pc ls (.long y :: .long x :: st) := by
  subst hp; exact q_lift (fun p e s m args below meth c hx hb _ _ H locs arr Q hl kk => lv_lmul hx hb d kk) kk
theorem x_land {x y : Int64} (pc2 : Nat) (d : decode cc pc = .ok (.land, 1)) (hp : pc + 1 = pc2) (kk : qX l G own nm cc nL rt tab R mc ms r k j σ n pc2 ls (.long (x &&& y) :: st)) : qX l G own nm cc nL rt tab R mc ms r k j σ n pc ls (.long y :: .long x :: st) := by
  subst hp; exact q_lift (fun p e s m args below meth c hx hb _ _ H locs arr Q hl kk => lv_land hx hb d kk) kk
theorem x_lor {x y : Int64} (pc2 : Nat) (d : decode cc pc = .ok (.lor, 1)) (hp : pc + 1 = pc2) (kk : qX l G own nm cc nL rt tab R mc ms r k j σ n pc2 ls (.long (x ||| y) :: st)) : qX l G own nm cc nL rt tab R mc ms r k j σ n pc ls (.long y :: .long x :: st) := by
  subst hp; exact q_lift (fun p e s m args below meth c hx hb _ _ H locs arr Q hl kk => lv_lor hx hb d kk) kk
theorem x_lxor {x y : Int64} (pc2 : Nat) (d : decode cc pc = .ok (.lxor, 1)) (hp : pc + 1 = pc2) (kk : qX l G own nm cc nL rt tab R mc ms r k j σ n pc2 ls (.long (x ^^^ y) :: st)) : qX l G own nm cc nL rt tab R mc ms r k j σ n pc ls (.long y :: .long x :: st) := by
  subst hp; exact q_lift (fun p e s m args below meth c hx hb _ _ H locs arr Q hl kk => lv_lxor hx hb d kk) kk
theorem x_idiv {x y : Int32} (pc2 : Nat) (hne : ¬ y = 0) (d : decode cc pc = .ok (.idiv, 1)) (hp : pc + 1 = pc2) (kk : qX l G own nm cc nL rt tab R mc ms r k j σ n pc2 ls (.int (x / y) :: st)) : qX l G own nm cc nL rt tab R mc ms r k j σ n pc ls (.int y :: .int x :: st) := by
  subst hp; exact q_lift (fun p e s m args below meth c hx hb _ _ H locs arr Q hl kk => lv_idiv hx hb d hne kk) kk
theorem x_irem {x y : Int32} (pc2 : Nat) (hne : ¬ y = 0) (d : decode cc pc = .ok (.irem, 1)) (hp : pc + 1 = pc2) (kk : qX l G own nm cc nL rt tab R mc ms r k j σ n pc2 ls (.int (irm x y) :: st)) : qX l G own nm cc nL rt tab R mc ms r k j σ n pc ls (.int y :: .int x :: st) := by
  subst hp; exact q_lift (fun p e s m args below meth c hx hb _ _ H locs arr Q hl kk => lv_irem hx hb d hne kk) kk
theorem x_ldiv {x y : Int64} (pc2 : Nat) (hne : ¬ y = 0) (d : decode cc pc = .ok (.ldiv, 1)) (hp : pc + 1 = pc2) (kk : qX l G own nm cc nL rt tab R mc ms r k j σ n pc2 ls (.long (x / y) :: st)) : qX l G own nm cc nL rt tab R mc ms r k j σ n pc ls (.long y :: .long x :: st) := by
  subst hp; exact q_lift (fun p e s m args below meth c hx hb _ _ H locs arr Q hl kk => lv_ldiv hx hb d hne kk) kk
theorem x_lrem {x y : Int64} (pc2 : Nat) (hne : ¬ y = 0) (d : decode cc pc = .ok (.lrem, 1)) (hp : pc + 1 = pc2) (kk : qX l G own nm cc nL rt tab R mc ms r k j σ n pc2 ls (.long (lrm x y) :: st)) : qX l G own nm cc nL rt tab R mc ms r k j σ n pc ls (.long y :: .long x :: st) := by
  subst hp; exact q_lift (fun p e s m args below meth c hx hb _ _ H locs arr Q hl kk => lv_lrem hx hb d hne kk) kk
theorem x_ineg {x : Int32} (pc2 : Nat) (d : decode cc pc = .ok (.ineg, 1)) (hp : pc + 1 = pc2) (kk : qX l G own nm cc nL rt tab R mc ms r k j σ n pc2 ls (.int (-x) :: st)) : qX l G own nm cc nL rt tab R mc ms r k j σ n pc ls (.int x :: st) := by
  subst hp; exact q_lift (fun p e s m args below meth c hx hb _ _ H locs arr Q hl kk => lv_ineg hx hb d kk) kk
theorem x_i2l {x : Int32} (pc2 : Nat) (d : decode cc pc = .ok (.i2l, 1)) (hp : pc + 1 = pc2) (kk : qX l G own nm cc nL rt tab R mc ms r k j σ n pc2 ls (.long x.toInt64 :: st)) : qX l G own nm cc nL rt tab R mc ms r k j σ n pc ls (.int x :: st) := by
  subst hp; exact q_lift (fun p e s m args below meth c hx hb _ _ H locs arr Q hl kk => lv_i2l hx hb d rfl kk) kk
theorem x_l2i {x : Int64} (pc2 : Nat) (d : decode cc pc = .ok (.l2i, 1)) (hp : pc + 1 = pc2) (kk : qX l G own nm cc nL rt tab R mc ms r k j σ n pc2 ls (.int x.toInt32 :: st)) : qX l G own nm cc nL rt tab R mc ms r k j σ n pc ls (.long x :: st) := by
  subst hp; exact q_lift (fun p e s m args below meth c hx hb _ _ H locs arr Q hl kk => lv_l2i hx hb d rfl kk) kk
theorem x_lushr {x : Int64} {y : Int32} (pc2 : Nat) (d : decode cc pc = .ok (.lushr, 1)) (hp : pc + 1 = pc2) (kk : qX l G own nm cc nL rt tab R mc ms r k j σ n pc2 ls (.long (lus x y) :: st)) : qX l G own nm cc nL rt tab R mc ms r k j σ n pc ls (.int y :: .long x :: st) := by
  subst hp; exact q_lift (fun p e s m args below meth c hx hb _ _ H locs arr Q hl kk => lv_lushr hx hb d rfl kk) kk
theorem x_lshl {x : Int64} {y : Int32} (pc2 : Nat) (d : decode cc pc = .ok (.lshl, 1)) (hp : pc + 1 = pc2) (kk : qX l G own nm cc nL rt tab R mc ms r k j σ n pc2 ls (.long (x <<< (y.toInt64 &&& 63)) :: st)) : qX l G own nm cc nL rt tab R mc ms r k j σ n pc ls (.int y :: .long x :: st) := by
  subst hp; exact q_lift (fun p e s m args below meth c hx hb _ _ H locs arr Q hl kk => lv_lshl hx hb d rfl kk) kk
theorem x_lcmp {x y : Int64} (pc2 : Nat) (d : decode cc pc = .ok (.lcmp, 1)) (hp : pc + 1 = pc2) (kk : qX l G own nm cc nL rt tab R mc ms r k j σ n pc2 ls (.int (lg_cmp x y) :: st)) : qX l G own nm cc nL rt tab R mc ms r k j σ n pc ls (.long y :: .long x :: st) := by
  subst hp; exact q_lift (fun p e s m args below meth c hx hb _ _ H locs arr Q hl kk => W.lcmp hx hb d kk) kk
theorem x_dup {va : Value} (pc2 : Nat) (hva : va.category = 1) (d : decode cc pc = .ok (.dup, 1)) (hp : pc + 1 = pc2) (kk : qX l G own nm cc nL rt tab R mc ms r k j σ n pc2 ls (va :: va :: st)) : qX l G own nm cc nL rt tab R mc ms r k j σ n pc ls (va :: st) := by
  subst hp; exact q_lift (fun p e s m args below meth c hx hb _ _ H locs arr Q hl kk => lv_dup hx hb d hva kk) kk
theorem x_pop {va : Value} (pc2 : Nat) (hva : va.category = 1) (d : decode cc pc = .ok (.pop, 1)) (hp : pc + 1 = pc2) (kk : qX l G own nm cc nL rt tab R mc ms r k j σ n pc2 ls (st)) : qX l G own nm cc nL rt tab R mc ms r k j σ n pc ls (va :: st) := by
  subst hp; exact q_lift (fun p e s m args below meth c hx hb _ _ H locs arr Q hl kk => lv_pop hx hb d hva kk) kk
theorem x_dup_x1 {va vb : Value} (pc2 : Nat) (hva : va.category = 1) (hvb : vb.category = 1) (d : decode cc pc = .ok (.dup_x1, 1)) (hp : pc + 1 = pc2) (kk : qX l G own nm cc nL rt tab R mc ms r k j σ n pc2 ls (va :: vb :: va :: st)) : qX l G own nm cc nL rt tab R mc ms r k j σ n pc ls (va :: vb :: st) := by
  subst hp; exact q_lift (fun p e s m args below meth c hx hb _ _ H locs arr Q hl kk => lv_dup_x1 hx hb d hva hvb kk) kk
theorem x_dup2 {va vb : Value} (pc2 : Nat) (hva : va.category = 1) (hvb : vb.category = 1) (d : decode cc pc = .ok (.dup2, 1)) (hp : pc + 1 = pc2) (kk : qX l G own nm cc nL rt tab R mc ms r k j σ n pc2 ls (va :: vb :: va :: vb :: st)) : qX l G own nm cc nL rt tab R mc ms r k j σ n pc ls (va :: vb :: st) := by
  subst hp; exact q_lift (fun p e s m args below meth c hx hb _ _ H locs arr Q hl kk => lv_dup2_11 hx hb d hva hvb kk) kk
theorem x_ldc {i : Nat} (pc2 : Nat) (v : Int32) (hw : Cond.constant own i v ∈ lw_good) (d : decode cc pc = .ok (.ldc i, 2)) (hp : pc + 2 = pc2) (kk : qX l G own nm cc nL rt tab R mc ms r k j σ n pc2 ls (.int v :: st)) : qX l G own nm cc nL rt tab R mc ms r k j σ n pc ls st := by
  subst hp; exact q_lift (fun p e s m args below meth c hx hb ho ht H locs arr Q hl kk => lv_ldc hx hb ho (ht _ hw) d kk) kk
theorem x_ldcw {i : Nat} (pc2 : Nat) (v : Int32) (hw : Cond.constant own i v ∈ lw_good) (d : decode cc pc = .ok (.ldc_w i, 3)) (hp : pc + 3 = pc2) (kk : qX l G own nm cc nL rt tab R mc ms r k j σ n pc2 ls (.int v :: st)) : qX l G own nm cc nL rt tab R mc ms r k j σ n pc ls st := by
  subst hp; exact q_lift (fun p e s m args below meth c hx hb ho ht H locs arr Q hl kk => lv_ldcw hx hb ho (ht _ hw) d kk) kk
theorem x_ldc2 {i : Nat} (pc2 : Nat) (v : Int64) (hw : Cond.constantLong own i v ∈ lw_good) (d : decode cc pc = .ok (.ldc2_w i, 3)) (hp : pc + 3 = pc2) (kk : qX l G own nm cc nL rt tab R mc ms r k j σ n pc2 ls (.long v :: st)) : qX l G own nm cc nL rt tab R mc ms r k j σ n pc ls st := by
  subst hp; exact q_lift (fun p e s m args below meth c hx hb ho ht H locs arr Q hl kk => lv_ldc2 hx hb ho (ht _ hw) d kk) kk
theorem x_goto {off : Int} (pc2 : Nat) (d : decode cc pc = .ok (.goto off, 3)) (hp : (pc : Int) + off = (pc2 : Int)) (kk : qX l G own nm cc nL rt tab R mc ms r k j σ n pc2 ls st) : qX l G own nm cc nL rt tab R mc ms r k j σ n pc ls st := q_lift (fun p e s m args below meth c hx hb _ _ H locs arr Q hl kk => lv_goto hx hb d hp kk) kk
theorem x_if_eq {off : Int} {x : Int32} (pc2 pc3 : Nat) (d : decode cc pc = .ok (.ifCond .eq off, 3)) (ht : (pc : Int) + off = (pc2 : Int)) (hp : pc + 3 = pc3) (k1 : x = 0 → qX l G own nm cc nL rt tab R mc ms r k j σ n pc2 ls st) (k2 : ¬ x = 0 → qX l G own nm cc nL rt tab R mc ms r k j σ n pc3 ls st) : qX l G own nm cc nL rt tab R mc ms r k j σ n pc ls (.int x :: st) := by
  subst hp; exact q_lift2 (fun p e s m args below meth c hx hb H locs arr Q h1 h2 => lv_if_eq hx hb d ht h1 h2) k1 k2
theorem x_if_lt {off : Int} {x : Int32} (pc2 pc3 : Nat) (d : decode cc pc = .ok (.ifCond .lt off, 3)) (ht : (pc : Int) + off = (pc2 : Int)) (hp : pc + 3 = pc3) (k1 : x < 0 → qX l G own nm cc nL rt tab R mc ms r k j σ n pc2 ls st) (k2 : ¬ x < 0 → qX l G own nm cc nL rt tab R mc ms r k j σ n pc3 ls st) : qX l G own nm cc nL rt tab R mc ms r k j σ n pc ls (.int x :: st) := by
  subst hp; exact q_lift2 (fun p e s m args below meth c hx hb H locs arr Q h1 h2 => lv_if_lt hx hb d ht h1 h2) k1 k2
theorem x_if_ge {off : Int} {x : Int32} (pc2 pc3 : Nat) (d : decode cc pc = .ok (.ifCond .ge off, 3)) (ht : (pc : Int) + off = (pc2 : Int)) (hp : pc + 3 = pc3) (k1 : 0 ≤ x → qX l G own nm cc nL rt tab R mc ms r k j σ n pc2 ls st) (k2 : ¬ 0 ≤ x → qX l G own nm cc nL rt tab R mc ms r k j σ n pc3 ls st) : qX l G own nm cc nL rt tab R mc ms r k j σ n pc ls (.int x :: st) := by
  subst hp; exact q_lift2 (fun p e s m args below meth c hx hb H locs arr Q h1 h2 => lv_if_ge hx hb d ht h1 h2) k1 k2
theorem x_if_gt {off : Int} {x : Int32} (pc2 pc3 : Nat) (d : decode cc pc = .ok (.ifCond .gt off, 3)) (ht : (pc : Int) + off = (pc2 : Int)) (hp : pc + 3 = pc3) (k1 : 0 < x → qX l G own nm cc nL rt tab R mc ms r k j σ n pc2 ls st) (k2 : ¬ 0 < x → qX l G own nm cc nL rt tab R mc ms r k j σ n pc3 ls st) : qX l G own nm cc nL rt tab R mc ms r k j σ n pc ls (.int x :: st) := by
  subst hp; exact q_lift2 (fun p e s m args below meth c hx hb H locs arr Q h1 h2 => lv_if_gt hx hb d ht h1 h2) k1 k2
theorem x_if_le {off : Int} {x : Int32} (pc2 pc3 : Nat) (d : decode cc pc = .ok (.ifCond .le off, 3)) (ht : (pc : Int) + off = (pc2 : Int)) (hp : pc + 3 = pc3) (k1 : x ≤ 0 → qX l G own nm cc nL rt tab R mc ms r k j σ n pc2 ls st) (k2 : ¬ x ≤ 0 → qX l G own nm cc nL rt tab R mc ms r k j σ n pc3 ls st) : qX l G own nm cc nL rt tab R mc ms r k j σ n pc ls (.int x :: st) := by
  subst hp; exact q_lift2 (fun p e s m args below meth c hx hb H locs arr Q h1 h2 => lv_if_le hx hb d ht h1 h2) k1 k2
theorem x_if_ne {off : Int} {x : Int32} (pc2 pc3 : Nat) (d : decode cc pc = .ok (.ifCond .ne off, 3)) (ht : (pc : Int) + off = (pc2 : Int)) (hp : pc + 3 = pc3) (k1 : ¬ x = 0 → qX l G own nm cc nL rt tab R mc ms r k j σ n pc2 ls st) (k2 : x = 0 → qX l G own nm cc nL rt tab R mc ms r k j σ n pc3 ls st) : qX l G own nm cc nL rt tab R mc ms r k j σ n pc ls (.int x :: st) := by
  subst hp; exact q_lift2 (P := ¬ x = 0) (fun p e s m args below meth c hx hb H locs arr Q h1 h2 => lv_if_ne hx hb d ht h1 (fun h => h2 (fun z => z h))) k1 (fun h => k2 (Decidable.not_not.mp h))
theorem x_icmp_eq {off : Int} {x y : Int32} (pc2 pc3 : Nat) (d : decode cc pc = .ok (.if_icmp .eq off, 3)) (ht : (pc : Int) + off = (pc2 : Int)) (hp : pc + 3 = pc3) (k1 : x = y → qX l G own nm cc nL rt tab R mc ms r k j σ n pc2 ls st) (k2 : ¬ x = y → qX l G own nm cc nL rt tab R mc ms r k j σ n pc3 ls st) : qX l G own nm cc nL rt tab R mc ms r k j σ n pc ls (.int y :: .int x :: st) := by
  subst hp; exact q_lift2 (fun p e s m args below meth c hx hb H locs arr Q h1 h2 => lv_icmp_eq hx hb d ht h1 h2) k1 k2
theorem x_icmp_lt {off : Int} {x y : Int32} (pc2 pc3 : Nat) (d : decode cc pc = .ok (.if_icmp .lt off, 3)) (ht : (pc : Int) + off = (pc2 : Int)) (hp : pc + 3 = pc3) (k1 : x < y → qX l G own nm cc nL rt tab R mc ms r k j σ n pc2 ls st) (k2 : ¬ x < y → qX l G own nm cc nL rt tab R mc ms r k j σ n pc3 ls st) : qX l G own nm cc nL rt tab R mc ms r k j σ n pc ls (.int y :: .int x :: st) := by
  subst hp; exact q_lift2 (fun p e s m args below meth c hx hb H locs arr Q h1 h2 => lv_icmp_lt hx hb d ht h1 h2) k1 k2
theorem x_icmp_ge {off : Int} {x y : Int32} (pc2 pc3 : Nat) (d : decode cc pc = .ok (.if_icmp .ge off, 3)) (ht : (pc : Int) + off = (pc2 : Int)) (hp : pc + 3 = pc3) (k1 : y ≤ x → qX l G own nm cc nL rt tab R mc ms r k j σ n pc2 ls st) (k2 : ¬ y ≤ x → qX l G own nm cc nL rt tab R mc ms r k j σ n pc3 ls st) : qX l G own nm cc nL rt tab R mc ms r k j σ n pc ls (.int y :: .int x :: st) := by
  subst hp; exact q_lift2 (fun p e s m args below meth c hx hb H locs arr Q h1 h2 => lv_icmp_ge hx hb d ht h1 h2) k1 k2
theorem x_icmp_gt {off : Int} {x y : Int32} (pc2 pc3 : Nat) (d : decode cc pc = .ok (.if_icmp .gt off, 3)) (ht : (pc : Int) + off = (pc2 : Int)) (hp : pc + 3 = pc3) (k1 : y < x → qX l G own nm cc nL rt tab R mc ms r k j σ n pc2 ls st) (k2 : ¬ y < x → qX l G own nm cc nL rt tab R mc ms r k j σ n pc3 ls st) : qX l G own nm cc nL rt tab R mc ms r k j σ n pc ls (.int y :: .int x :: st) := by
  subst hp; exact q_lift2 (fun p e s m args below meth c hx hb H locs arr Q h1 h2 => lv_icmp_gt hx hb d ht h1 h2) k1 k2
theorem x_icmp_le {off : Int} {x y : Int32} (pc2 pc3 : Nat) (d : decode cc pc = .ok (.if_icmp .le off, 3)) (ht : (pc : Int) + off = (pc2 : Int)) (hp : pc + 3 = pc3) (k1 : x ≤ y → qX l G own nm cc nL rt tab R mc ms r k j σ n pc2 ls st) (k2 : ¬ x ≤ y → qX l G own nm cc nL rt tab R mc ms r k j σ n pc3 ls st) : qX l G own nm cc nL rt tab R mc ms r k j σ n pc ls (.int y :: .int x :: st) := by
  subst hp; exact q_lift2 (fun p e s m args below meth c hx hb H locs arr Q h1 h2 => lv_icmp_le hx hb d ht h1 h2) k1 k2
theorem x_icmp_ne {off : Int} {x y : Int32} (pc2 pc3 : Nat) (d : decode cc pc = .ok (.if_icmp .ne off, 3)) (ht : (pc : Int) + off = (pc2 : Int)) (hp : pc + 3 = pc3) (k1 : ¬ x = y → qX l G own nm cc nL rt tab R mc ms r k j σ n pc2 ls st) (k2 : x = y → qX l G own nm cc nL rt tab R mc ms r k j σ n pc3 ls st) : qX l G own nm cc nL rt tab R mc ms r k j σ n pc ls (.int y :: .int x :: st) := by
  subst hp; exact q_lift2 (P := ¬ x = y) (fun p e s m args below meth c hx hb H locs arr Q h1 h2 => lv_icmp_ne hx hb d ht h1 (fun h => h2 (fun z => z h))) k1 (fun h => k2 (Decidable.not_not.mp h))
theorem x_sub (ls2 : List (Nat × Value)) (ks : List Nat) (h : lv_pick ls ks = ls2) (kk : qX l G own nm cc nL rt tab R mc ms r k j σ n pc ls2 st) : qX l G own nm cc nL rt tab R mc ms r k j σ n pc ls st := fun p e s m args below meth c hx hb hml hr hn hown hts hlk htb hT hst hW0 H locs arr hS hW hl => kk p e s m args below meth c hx hb hml hr hn hown hts hlk htb hT hst hW0 H locs arr hS hW (lv_sub hl ks h)
theorem x_lookup {dflt : Int} {ps : Array (Int × Int)} {len : Nat} {x : Int32} (off : Int) (pc2 : Nat) (d : decode cc pc = .ok (.lookupswitch dflt ps, len)) (hs : (ps.toList.zip (ps.toList.drop 1)).all (fun (a, next) => a.1 < next.1) = true) (ho : Op.lookupswitch.offset ps.toList dflt x.toInt = off) (ht : (pc : Int) + off = (pc2 : Int)) (kk : qX l G own nm cc nL rt tab R mc ms r k j σ n pc2 ls st) : qX l G own nm cc nL rt tab R mc ms r k j σ n pc ls (.int x :: st) := q_lift (fun p e s m args below meth c hx hb _ _ H locs arr Q hl kk => lv_lookup hx hb d hs ho ht kk) kk
theorem x_tableOut {dflt lo hi : Int} {offs : Array Int} {len : Nat} {x : Int32} (pc2 : Nat) (d : decode cc pc = .ok (.tableswitch dflt lo hi offs, len)) (h : x.toInt < lo ∨ hi < x.toInt) (ht : (pc : Int) + dflt = (pc2 : Int)) (kk : qX l G own nm cc nL rt tab R mc ms r k j σ n pc2 ls st) : qX l G own nm cc nL rt tab R mc ms r k j σ n pc ls (.int x :: st) := q_lift (fun p e s m args below meth c hx hb _ _ H locs arr Q hl kk => lv_tableOut hx hb d h ht kk) kk
theorem x_tableIn {dflt lo hi : Int} {offs : Array Int} {len : Nat} {x : Int32} (off : Int) (pc2 : Nat) (d : decode cc pc = .ok (.tableswitch dflt lo hi offs, len)) (h1 : ¬ x.toInt < lo) (h2 : ¬ hi < x.toInt) (ho : offs[(x.toInt - lo).toNat]? = some off) (ht : (pc : Int) + off = (pc2 : Int)) (kk : qX l G own nm cc nL rt tab R mc ms r k j σ n pc2 ls st) : qX l G own nm cc nL rt tab R mc ms r k j σ n pc ls (.int x :: st) := q_lift (fun p e s m args below meth c hx hb _ _ H locs arr Q hl kk => lv_tableIn hx hb d h1 h2 ho ht kk) kk
theorem x_wide (k2 j2 : Nat) (h1 : k ≤ k2) (h2 : j ≤ j2) (kk : qX l G own nm cc nL rt tab R mc ms r k2 j2 σ n pc ls st) : qX l G own nm cc nL rt tab R mc ms r k j σ n pc ls st := fun p e s m args below meth c hx hb hml hr hn hown hts hlk htb hT hst hW0 H locs arr hS hW hl => W.widen h1 h2 (kk p e s m args below meth c hx hb hml hr hn hown hts hlk htb hT hst hW0 H locs arr hS hW hl)
end QX
