section QZ
variable {l : Launch} {G : qG} {own nm : String} {cc : ByteArray} {nL : Nat} {rt : Option FieldType} {tab : List ExceptionTableEntry} {R : Room} {mc ms : Nat} {r : qR} {k j : Nat} {σ σ' : qH} {n : Option Nat} {pc : Nat} {ls : List (Nat × Value)} {st : List Value}
theorem qS_end {G : qG} {σ : qH} {n : Option Nat} {s : State} {H : Heap} {locs : List Loc} (hS : va_S (qz G) s.heap H locs) {t : State} (ht : t.heap = H) (hW : qW G σ n H) : qW G σ n t.heap ∧ s.heap.size ≤ t.heap.size := ⟨by rw [ht]; exact hW, by rw [ht]; exact hS.1⟩
/-- the ends -/
theorem x_iret {v : Int32} (hr0 : rt = some .int) (hr2 : r = .inl (some (.int v), σ, n)) (hk : k ≤ mc) (hj : j ≤ ms) (d : decode cc pc = .ok (.ireturn, 1)) : qX l G own nm cc nL rt tab R mc ms r k j σ n pc ls [.int v] := by
  subst hr2; subst hr0
  intro p e s m args below meth c hx hb hml hr hn hown hts hlk htb hT hst hW0 H locs arr hS hW hl
  refine W.widen hk hj (vx_ret (W.iret hx hb hr (fun t ht _ => ⟨rfl, qS_end hS ht hW⟩) hS.2.2 d hlk))
theorem x_zret {v : Int32} {ty : FieldType} (hr0 : rt = some ty) (hv : narrow ty (.int v) = .int v) (hr2 : r = .inl (some (.int v), σ, n)) (hk : k ≤ mc) (hj : j ≤ ms) (d : decode cc pc = .ok (.ireturn, 1)) : qX l G own nm cc nL rt tab R mc ms r k j σ n pc ls [.int v] := by
  subst hr2; subst hr0
  intro p e s m args below meth c hx hb hml hr hn hown hts hlk htb hT hst hW0 H locs arr hS hW hl
  refine W.widen hk hj (vx_ret (W.zret hx hb hr hv (fun t ht _ => ⟨rfl, qS_end hS ht hW⟩) hS.2.2 d hlk))
theorem x_lret {v : Int64} (hr0 : rt = some .long) (hr2 : r = .inl (some (.long v), σ, n)) (hk : k ≤ mc) (hj : j ≤ ms) (d : decode cc pc = .ok (.lreturn, 1)) : qX l G own nm cc nL rt tab R mc ms r k j σ n pc ls [.long v] := by
  subst hr2; subst hr0
  intro p e s m args below meth c hx hb hml hr hn hown hts hlk htb hT hst hW0 H locs arr hS hW hl
  refine W.widen hk hj (vx_ret (W.lret hx hb hr (fun t ht _ => ⟨rfl, qS_end hS ht hW⟩) hS.2.2 d hlk))
theorem x_vret (hr0 : rt = none) (hr2 : r = .inl (none, σ, n)) (hk : k ≤ mc) (hj : j ≤ ms) (d : decode cc pc = .ok (.return_, 1)) : qX l G own nm cc nL rt tab R mc ms r k j σ n pc ls [] := by
  subst hr2; subst hr0
  intro p e s m args below meth c hx hb hml hr hn hown hts hlk htb hT hst hW0 H locs arr hS hW hl
  refine W.widen hk hj (vx_ret (W.vret hx hb hr (fun t ht _ => ⟨rfl, qS_end hS ht hW⟩) hS.2.2 d hlk))
theorem q_ofW {y : MethodName} {ws ws' : List Cond} {rm : Room} {Pc : Array Value → State → Prop} {Qc : Array Value → State → Outcome → State → Prop} {XC : String → State → State → Prop} {free : Addr → Prop} {cc : ByteArray} {maxL : Nat} {ret : Option FieldType}
    (hy : plainFor y = true) (hw : ws = Cond.code y cc maxL ret :: ws')
    (body : ∀ p e s m args below meth c s₁, BodyLoose p l y (headSpec ws rm) cc maxL ret e s m args below meth c s₁ → c.maxLocals = maxL → (∀ x ∈ c.exceptionTable.toList, False) → Pc args s →
      W p l e (headSpec ws rm).room s m args below meth c s.heap [] 0 0 (vx_MQ below Qc XC args s mc ms free) (entryFrame m args maxL)) : vx_Met l y ws rm Pc Qc XC mc ms free := by
  refine MetFree.of_bodySF (code := cc) (maxLocals := maxL) (ret := ret) hy ?_ ?_
  · intro args s m h hn
    obtain ⟨meth, c, h1, h2, h3, h4, h5, h6, -, -⟩ := Cond.code_spec hn (atoms_spec (ws := ws) h _ (by rw [hw]; exact List.mem_cons_self))
    exact ⟨meth, c, h1, h2, h3, h4, h5, h6⟩
  · intro p e s m args below meth c s₁ B hml hP _
    have hh0 : s₁.heap = s.heap := by rw [B.state]; rfl
    have ht : ∀ x ∈ c.exceptionTable.toList, False := by
      obtain ⟨meth9, c9, h1, h2, -, -, -, -, h7, -⟩ := Cond.code_spec B.named (atoms_spec (ws := ws) B.pre _ (by rw [hw]; exact List.mem_cons_self))
      cases Option.some.inj (h1.symm.trans B.method)
      cases Option.some.inj (h2.symm.trans (Stand.of_body B).code)
      intro x hx
      rw [Array.isEmpty_iff.mp h7] at hx
      cases hx
    obtain ⟨t, a1, o, b1, b2, b3⟩ := body p e s m args below meth c s₁ B hml ht hP s₁ hh0 (Stand.of_body B)
    exact ⟨t, o, a1, b1, b2, b3⟩
/-- a method's body, out of its walk -/
theorem q_body {y : MethodName} {as : List Value} {ls : List (Nat × Value)} (hst : l.stackTraces = false) (hy : plainFor y = true) (hyo : y.cls = own) (hyn : y.name = nm) (hl : (lg_sl as).length ≤ nL) (hls : lv_args 0 as = ls) (hmc : R.cells = mc) (hms : R.slots = ms)
    (kk : qX l G own nm cc nL rt [] R mc ms r 0 0 σ n 0 ls []) : qM l G y cc nL rt R as σ n r := by
  subst hyo; subst hyn; subst hls; subst hmc; subst hms
  refine q_ofW (cc := cc) (maxL := nL) (ret := rt) hy rfl ?_
  intro p e s m args below meth c s₁ B hml htb hv
  obtain ⟨rfl, hW, hT⟩ := hv
  have hts := atoms_spec (ws := qws y cc nL rt) B.pre
  rw [lg_entry_eq]
  exact kk p e s m _ below meth c B.exec B.bytes hml B.returns (name_of_methodNamed B.named B.method).1 (findClass_of_methodNamed B.named) (fun w hw => hts w (List.mem_cons_of_mem _ hw)) B.notSynchronized (List.eq_nil_iff_forall_not_mem.mpr fun x hx => htb x hx) hT hst ⟨σ, n, hW⟩ s.heap [] _ va_S.rf hW (lv_entry as hl)
/-- what a call of a method needs of the tables -/
def qY (y : MethodName) (cc : ByteArray) (nL : Nat) (rt : Option FieldType) (na : Nat) : Prop :=
  Cond.code y cc nL rt ∈ lw_good ∧ Cond.initialized y.cls ∈ lw_good ∧ (y.cls ≠ "java/lang/invoke/MethodHandle" ∧ y.cls ≠ "java/lang/invoke/VarHandle" ∧ (parseMethodDescriptor y.desc).map (fun d => d.parameters.length) = some na)
theorem qY_call {y : MethodName} {cc : ByteArray} {nL na index : Nat} {rt : Option FieldType} {own : String} {R rm : Room} {s : State} {args : Array Value} (h : qY y cc nL rt na) (hts : ∀ w ∈ lw_good, w.before args s = true) (hl : Cond.methodLink own index y ∈ lw_good) (hR : rm.frames + 1 ≤ R.frames ∧ 8 + (nL + 11) + rm.locals ≤ R.locals) :
    CallB R s args own index y cc nL rt (qws y cc nL rt) rm rm.cells rm.slots na :=
  callB_of (Ts := lw_good) na hts (lg_good fun w hw => by rcases List.mem_cons.mp hw with e | e; · rw [e]; exact h.1
                                                          · exact e) rfl rfl rfl (hts _ h.2.1) (hts _ hl) h.2.2 hR
theorem q_blind {as : List Value} : FrameBlind (va_Pc as (fun U => qW G σ n U.heap ∧ qT G U)) := fun _ _ _ _ h => ⟨h.1, h.2.1, qT_blind h.2.2⟩
/-- behind a call that returned -/
theorem q_back {p : Program} {e : Env} {s : State} {m : MethodId} {args : Array Value} {below : List Frame} {meth : Method} {c : Code} {H : Heap} {locs : List Loc} {arr : Array Slot} {st0 rest st2 : List Value} {v : Option Value} {n' : Option Nat} {a : Array Value} {mcc msc : Nat}
    (hx : p.tables.exec = Jvm.exec) (hb : c.code = cc) (hml : c.maxLocals = nL) (hr : meth.sig.returnType = rt) (hn : meth.name = nm) (hown : s.vm.findClass own = some m.cls) (hts : ∀ w ∈ lw_good, w.before args s = true) (hlk : meth.locks = false) (htb : c.exceptionTable.toList = tab) (hT : qT G s) (hst : l.stackTraces = false)
    (hW0 : ∃ (σ0 : qH) (n0 : Option Nat), qW G σ0 n0 s.heap) (hS : va_S (qz G) s.heap H locs) (hW : qW G σ n H) (hl : lv_has arr nL ls)
    (hrun : vx_Run p l e R s m args below meth c H locs k j mcc msc (F0 m pc arr st0) rest (qQ G (.inl (v, σ', n')) a) (qC G (.inl (v, σ', n'))) (qz G)) (hst2 : v.toList ++ rest = st2)
    (kk : qX l G own nm cc nL rt tab R mc ms r (k + mcc) (j + msc) σ' n' (pc + 3) ls st2) :
    W p l e R s m args below meth c H locs k j (vx_MQ below (qQ G r) (qC G r) args s mc ms (qz G)) (F0 m pc arr st0) := by
  subst hst2
  intro T hT2 X
  rcases hrun T hT2 X with ⟨v2, st₀, t, T', L, h0, X', hL, e1, e2, ⟨hv, hw2, hsz⟩, stp⟩ | ⟨q, st₀, t, T', L, E, ce, h0, X', hL, e1, e2, hf, -⟩
  · cases hv
    rw [h0] at hsz
    have hS2 : va_S (qz G) s.heap T'.heap (locs ++ L) := by
      obtain ⟨σ0, n0, w0⟩ := hW0
      refine ⟨Nat.le_trans hS.1 (by rw [e1]; exact hsz), fun q h1 h2 => ?_, fun q hq => ?_⟩
      · have h3 : q < G.2.2.1.size := Nat.not_le.mp h2
        rw [e1, hw2.2.2.1 q h3, w0.2.2.1 q h3]
      · rcases List.mem_append.mp hq with h | h
        · exact hS.2.2 q h
        · exact hL q h
    obtain ⟨t2, a1, b1⟩ := kk p e s m args below meth c hx hb hml hr hn hown hts hlk htb hT hst hW0 T'.heap (locs ++ L) arr hS2 (by rw [e1]; exact hw2) hl T' rfl X'
    exact ⟨t2, stp t2 a1, b1⟩
  · exact absurd hf id
/-- .. that threw, where this method has no handler -/
theorem q_thrown {p : Program} {e : Env} {s : State} {m : MethodId} {args : Array Value} {below : List Frame} {meth : Method} {c : Code} {H : Heap} {locs : List Loc} {arr : Array Slot} {st0 rest : List Value} {E : String} {a : Array Value} {mcc msc : Nat}
    (hlk : meth.locks = false) (htb : c.exceptionTable.toList = [])
    (hW0 : ∃ (σ0 : qH) (n0 : Option Nat), qW G σ0 n0 s.heap) (hS : va_S (qz G) s.heap H locs) (hr2 : r = .inr (E, σ')) (hk : k + mcc ≤ mc) (hj : j + msc ≤ ms)
    (hrun : vx_Run p l e R s m args below meth c H locs k j mcc msc (F0 m pc arr st0) rest (qQ G (.inr (E, σ')) a) (qC G (.inr (E, σ'))) (qz G)) :
    W p l e R s m args below meth c H locs k j (vx_MQ below (qQ G r) (qC G r) args s mc ms (qz G)) (F0 m pc arr st0) := by
  subst hr2
  intro T hT2 X
  rcases hrun T hT2 X with ⟨v2, st₀, t, T', L, h0, X', hL, e1, e2, hf, stp⟩ | ⟨q, st₀, t, T', L, E2, ce, h0, X', hL, e1, e2, ⟨hE, hw2, hsz⟩, hce, hcv, hcl, stp⟩
  · exact absurd hf id
  · subst hE
    rw [h0] at hsz
    have hL2 : ∀ z ∈ locs ++ L, qz G z.base := fun q hq => by
      rcases List.mem_append.mp hq with h | h
      · exact hS.2.2 q h
      · exact hL q h
    obtain ⟨t2, a1, b1⟩ := vx_out (l := l) (p := p) (e := e) (R := R) (s := s) (m := m) (args := args) (below := below) (meth := meth) (c := c) (H := T'.heap) (locs := locs ++ L) (cells := k + mcc) (slots := j + msc) (mc := mc) (ms := ms) (free := qz G) (Qc := qQ G (.inr (E2, σ'))) (XC := qC G (.inr (E2, σ'))) (ls := arr) (rest := rest) (pc := pc) (E := E2) (ce := ce) (q := q) (by rw [htb]; exact fun x hx => nomatch hx) hlk (by rw [e1]; exact hce) hcv hcl (fun t3 ht3 _ => ⟨rfl, by rw [ht3, e1]; exact hw2, by rw [ht3, e1]; exact Nat.le_trans hS.1 hsz⟩) hL2 hk hj T' rfl X'
    exact ⟨t2, stp.trans a1, b1⟩
theorem x_callV {y : MethodName} {bytes : ByteArray} {maxL index ci na : Nat} {ret : Option FieldType} {rm : Room} {As rest st2 : List Value} {b : Nat} {v : Option Value} {n' : Option Nat} {fs : List Value} {C : String} {T : u_T} {N : Nat} (pc2 k2 j2 : Nat)
    (hM : qM l G y bytes maxL ret rm (.ref b :: As) σ n (.inl (v, σ', n'))) (hY : qY y bytes maxL ret na) (w1 : Cond.methodLink own index y ∈ lw_good) (w2 : Cond.instanceMethod y ∈ lw_good) (w3 : Cond.selects C y y ∈ lw_good) (hcell : σ b = some (.inr (ci, fs))) (hc : vwCl[ci]? = some (C, T, N)) (hs : st = As.reverse ++ .ref b :: rest) (hna : As.length = na)
    (hR : rm.frames + 1 ≤ R.frames ∧ 8 + (maxL + 11) + rm.locals ≤ R.locals) (hcat : (rest.map fun v => v.category).sum ≤ 8) (hk : k + rm.cells ≤ R.cells ∧ j + rm.slots ≤ R.slots) (d : decode cc pc = .ok (.invokevirtual index, 3)) (hp : pc + 3 = pc2) (hst2 : v.toList ++ rest = st2)
    (hk2 : k + rm.cells = k2) (hj2 : j + rm.slots = j2) (kk : qX l G own nm cc nL rt tab R mc ms r k2 j2 σ' n' pc2 ls st2) : qX l G own nm cc nL rt tab R mc ms r k j σ n pc ls st := by
  subst hp; subst hs; subst hk2; subst hj2
  intro p e s m args below meth c hx hb hml hr hn hown hts hlk htb hT hst hW0 H locs arr hS hW hl
  exact q_back hx hb hml hr hn hown hts hlk htb hT hst hW0 hS hW hl (vx_runV (Ts := lw_good) ⟨hx, hb, hml, hown, hts⟩ hM ⟨qY_call hY hts w1 hR, hts _ w2, hts _ w3⟩ ⟨q_blind, va_recv (q := (C, T, N)) hT.1 (qW_at hW hcell rfl) hc (q0 := 0) rfl, fun U hU hWU => ⟨rfl, by rw [hU]; exact hW, qT_warm hWU hT⟩⟩ rfl hna hl.1 rfl (lv_room hcat) d hk) hst2 kk
theorem x_callVX {y : MethodName} {bytes : ByteArray} {maxL index ci na : Nat} {ret : Option FieldType} {rm : Room} {As rest : List Value} {b : Nat} {E : String} {fs : List Value} {C : String} {T : u_T} {N : Nat}
    (hM : qM l G y bytes maxL ret rm (.ref b :: As) σ n (.inr (E, σ'))) (hY : qY y bytes maxL ret na) (w1 : Cond.methodLink own index y ∈ lw_good) (w2 : Cond.instanceMethod y ∈ lw_good) (w3 : Cond.selects C y y ∈ lw_good) (hcell : σ b = some (.inr (ci, fs))) (hc : vwCl[ci]? = some (C, T, N)) (hs : st = As.reverse ++ .ref b :: rest) (hna : As.length = na)
    (hR : rm.frames + 1 ≤ R.frames ∧ 8 + (maxL + 11) + rm.locals ≤ R.locals) (hcat : (rest.map fun v => v.category).sum ≤ 8) (hk : k + rm.cells ≤ R.cells ∧ j + rm.slots ≤ R.slots) (d : decode cc pc = .ok (.invokevirtual index, 3))
    (ht : tab = []) (hr2 : r = .inr (E, σ')) (hk2 : k + rm.cells ≤ mc) (hj2 : j + rm.slots ≤ ms) : qX l G own nm cc nL rt tab R mc ms r k j σ n pc ls st := by
  subst hs
  intro p e s m args below meth c hx hb hml hr hn hown hts hlk htb hT hst hW0 H locs arr hS hW hl
  exact q_thrown hlk (htb.trans ht) hW0 hS hr2 hk2 hj2 (vx_runV (Ts := lw_good) ⟨hx, hb, hml, hown, hts⟩ hM ⟨qY_call hY hts w1 hR, hts _ w2, hts _ w3⟩ ⟨q_blind, va_recv (q := (C, T, N)) hT.1 (qW_at hW hcell rfl) hc (q0 := 0) rfl, fun U hU hWU => ⟨rfl, by rw [hU]; exact hW, qT_warm hWU hT⟩⟩ rfl hna hl.1 rfl (lv_room hcat) d hk)
theorem x_callS {y : MethodName} {bytes : ByteArray} {maxL index na : Nat} {ret : Option FieldType} {rm : Room} {As rest st2 : List Value} {v : Option Value} {n' : Option Nat} (pc2 k2 j2 : Nat)
    (hM : qM l G y bytes maxL ret rm As σ n (.inl (v, σ', n'))) (hY : qY y bytes maxL ret na) (w1 : Cond.methodLink own index y ∈ lw_good) (w2 : Cond.static y ∈ lw_good) (hs : st = As.reverse ++ rest) (hna : As.length = na)
    (hR : rm.frames + 1 ≤ R.frames ∧ 8 + (maxL + 11) + rm.locals ≤ R.locals) (hcat : (rest.map fun v => v.category).sum ≤ 8) (hk : k + rm.cells ≤ R.cells ∧ j + rm.slots ≤ R.slots) (d : decode cc pc = .ok (.invokestatic index, 3)) (hp : pc + 3 = pc2) (hst2 : v.toList ++ rest = st2)
    (hk2 : k + rm.cells = k2) (hj2 : j + rm.slots = j2) (kk : qX l G own nm cc nL rt tab R mc ms r k2 j2 σ' n' pc2 ls st2) : qX l G own nm cc nL rt tab R mc ms r k j σ n pc ls st := by
  subst hp; subst hs; subst hk2; subst hj2
  intro p e s m args below meth c hx hb hml hr hn hown hts hlk htb hT hst hW0 H locs arr hS hW hl
  exact q_back hx hb hml hr hn hown hts hlk htb hT hst hW0 hS hW hl (vx_runS (Ts := lw_good) ⟨hx, hb, hml, hown, hts⟩ hM ⟨qY_call hY hts w1 hR, hts _ w2⟩ ⟨q_blind, fun U hU hWU => ⟨rfl, by rw [hU]; exact hW, qT_warm hWU hT⟩⟩ rfl hna hl.1 rfl (lv_room hcat) d hk) hst2 kk
theorem x_callSX {y : MethodName} {bytes : ByteArray} {maxL index na : Nat} {ret : Option FieldType} {rm : Room} {As rest : List Value} {E : String}
    (hM : qM l G y bytes maxL ret rm As σ n (.inr (E, σ'))) (hY : qY y bytes maxL ret na) (w1 : Cond.methodLink own index y ∈ lw_good) (w2 : Cond.static y ∈ lw_good) (hs : st = As.reverse ++ rest) (hna : As.length = na)
    (hR : rm.frames + 1 ≤ R.frames ∧ 8 + (maxL + 11) + rm.locals ≤ R.locals) (hcat : (rest.map fun v => v.category).sum ≤ 8) (hk : k + rm.cells ≤ R.cells ∧ j + rm.slots ≤ R.slots) (d : decode cc pc = .ok (.invokestatic index, 3))
    (ht : tab = []) (hr2 : r = .inr (E, σ')) (hk2 : k + rm.cells ≤ mc) (hj2 : j + rm.slots ≤ ms) : qX l G own nm cc nL rt tab R mc ms r k j σ n pc ls st := by
  subst hs
  intro p e s m args below meth c hx hb hml hr hn hown hts hlk htb hT hst hW0 H locs arr hS hW hl
  exact q_thrown hlk (htb.trans ht) hW0 hS hr2 hk2 hj2 (vx_runS (Ts := lw_good) ⟨hx, hb, hml, hown, hts⟩ hM ⟨qY_call hY hts w1 hR, hts _ w2⟩ ⟨q_blind, fun U hU hWU => ⟨rfl, by rw [hU]; exact hW, qT_warm hWU hT⟩⟩ rfl hna hl.1 rfl (lv_room hcat) d hk)
end QZ
