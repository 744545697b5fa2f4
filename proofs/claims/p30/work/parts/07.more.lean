section QV
variable {l : Launch} {G : qG} {own nm : String} {cc : ByteArray} {nL : Nat} {rt : Option FieldType} {tab : List ExceptionTableEntry} {R : Room} {mc ms : Nat} {r : qR} {k j : Nat} {σ σ' : qH} {n : Option Nat} {pc : Nat} {ls : List (Nat × Value)} {st : List Value}
theorem x_getstatic {index : Nat} (pc2 : Nat) (x : String × Nat) (hx9 : x ∈ qst) (hw : Cond.fieldLink own index "SteepleWords$Text" x.1 "[I" ∈ lw_good) (d : decode cc pc = .ok (.getstatic index, 3)) (hp : pc + 3 = pc2) (kk : qX l G own nm cc nL rt tab R mc ms r k j σ n pc2 ls (.ref (G.2.2.2.1 x.2) :: st)) : qX l G own nm cc nL rt tab R mc ms r k j σ n pc ls st := by
  subst hp
  intro p e s m args below meth c hx hb hml hr hn hown hts hlk htb hT hst hW0 H locs arr hS hW hl
  have hZ : va_Z "SteepleWords$Text" x.1 "[I" (.ref (G.2.2.2.1 x.2)) (qz G) s s.heap := by
    obtain ⟨σ0, n0, w0⟩ := hW0
    exact va_Z.kept (hT.2.1 x hx9) (fun a h1 h2 => w0.2.2.1 a h1)
  exact va_gets hx hb hZ hS hown (hts _ hw) (fun _ h => h) d (kk p e s m args below meth c hx hb hml hr hn hown hts hlk htb hT hst hW0 H locs arr hS hW hl)
theorem x_copy {index : Nat} {a b : Nat} {sp dp len : Int32} (pc2 : Nat) (hk0 : k = 0) (w1 : Cond.methodLink own index arraycopyName ∈ lw_good) (w2 : Cond.native arraycopyName ∈ lw_good) (w3 : Cond.static arraycopyName ∈ lw_good) (w4 : Cond.initialized "java/lang/System" ∈ lw_good) (h : sC σ a sp b dp len = some σ')
    (hf : 1 ≤ R.frames) (hlo : (st.map fun v => v.category).sum + (nativeFrameWords "java/lang/System" "arraycopy" 5 + 11) ≤ R.locals) (d : decode cc pc = .ok (.invokestatic index, 3)) (hp : pc + 3 = pc2) (kk : qX l G own nm cc nL rt tab R mc ms r k j σ' n pc2 ls st) : qX l G own nm cc nL rt tab R mc ms r k j σ n pc ls (.int len :: .int dp :: .ref b :: .int sp :: .ref a :: st) := by
  subst hp; subst hk0
  obtain ⟨n0, n1, f, g, h1, h2, ⟨h3, h4, h5⟩, h6, h7, rfl⟩ := sC_inv h
  intro p e s m args below meth c hx hb hml hr hn hown hts hlk htb hT hst hW0 H locs arr hS hW hl
  obtain ⟨w1', w2', w3', ⟨ws, hP, hD, hc⟩, w5'⟩ := id hW
  obtain ⟨k0, hk0⟩ := hc a _ h1 rfl
  obtain ⟨k1, hk1⟩ := hc b _ h2 rfl
  have hl1 := (List.getElem?_eq_some_iff.mp hk1).1
  have hS0 : va_S (qz G) H H locs := ⟨Nat.le_refl _, fun _ _ _ => rfl, hS.2.2⟩
  refine va_copyi (D := G.1) (cl := vwCl) (tys := qtys G) hx hb (hml.trans hl.1.symm) hown (hts _ w1) (hts _ w2) (hts _ w3) (hts _ w4) hT.1 hP hD hS0 k0 k1 0 0 hk0 hk1 rfl rfl rfl h3 h4 h5 h6 h7 (fun _ _ => rfl) hf hlo d fun H1 locs1 hP1 hD1 hS1 => ?_
  intro T hT2 X
  have hz : H1.size = H.size := by
    have q1 := X.heapSize
    have q2 := hS.1
    have q3 := hS1.1
    rw [hT2] at q1
    omega
  refine kk p e s m args below meth c hx hb hml hr hn hown hts hlk htb hT hst hW0 H1 locs1 arr ⟨Nat.le_trans hS.1 hS1.1, fun q q1 q2 => (hS1.2.1 q (Nat.lt_of_lt_of_le q1 hS.1) q2).trans (hS.2.1 q q1 q2), hS1.2.2⟩ ⟨by rw [hz]; exact w1', by rw [hz]; exact w2', fun q hq => ?_, ⟨_, hP1, hD1, fun b2 e2 hb2 hr2 => ?_⟩, fun b2 x hb2 => ?_⟩ hl T hT2 X
  · rw [hS1.2.1 q (Nat.lt_of_lt_of_le hq w2') (Nat.not_le.mpr hq)]
    exact w3' q hq
  · by_cases hba : b2 = b
    · subst hba
      simp only [qU, if_pos] at hb2
      cases hb2
      exact ⟨k1, by rw [List.getElem?_set_self hl1]; rfl⟩
    · simp only [qU, if_neg hba] at hb2
      obtain ⟨k2, hk2⟩ := hc b2 e2 hb2 hr2
      refine ⟨k2, ?_⟩
      rw [List.getElem?_set_ne (fun z => hba ?_)]
      · exact hk2
      · subst z
        rw [hk1] at hk2
        exact (congrArg Prod.fst (Option.some.inj hk2)).symm
  · by_cases hba : b2 = b
    · subst hba
      simp only [qU, if_pos] at hb2
      cases hb2
    · simp only [qU, if_neg hba] at hb2
      exact w5' b2 x hb2
theorem x_new {C : String} {T : u_T} {N ci index n0 : Nat} {fs : List Value} (pc2 : Nat) (hin : ∀ w ∈ u_ws C T N, w ∈ lw_good) (ty : Nat → FieldType) (hty : ∀ k, k < N → parseFieldDescriptor (T k).2.2.1 = some (ty k)) (w1 : Cond.classLink own index C ∈ lw_good) (w2 : Cond.instantiable C N ∈ lw_good) (w3 : Cond.initialized C ∈ lw_good) (hc : vwCl[ci]? = some (C, T, N)) (hfs : ∀ j, j < N → defaultValue (ty j) = vp_V fs j)
    (hk : k + 1 ≤ R.cells) (hj : j + N ≤ R.slots) (d : decode cc pc = .ok (.new index, 3)) (hp : pc + 3 = pc2) (kk : qX l G own nm cc nL rt tab R mc ms r (k + 1) (j + N) (qU σ n0 (.inr (ci, fs))) (some (n0 + 1)) pc2 ls (.ref n0 :: st)) : qX l G own nm cc nL rt tab R mc ms r k j σ (some n0) pc ls st := by
  subst hp
  intro p e s m args below meth c hx hb hml hr hn hown hts hlk htb hT hst hW0 H locs arr hS hW hl
  have hKn := hT.1.1 ci _ hc
  have hz := hW.1 n0 rfl
  refine W.newcK hx hb hown (hts _ w1) (hts _ w2) (hts _ w3) rfl d hk hj hKn.2.1 hz fun H1 kC hkC e1 z1 o1 => ?_
  exact kk p e s m args below meth c hx hb hml hr hn hown hts hlk htb hT hst hW0 H1 locs arr ⟨by rw [z1]; have := hS.1; omega, fun q q1 q2 => (o1 q (by rw [← hz]; exact Nat.lt_of_lt_of_le q1 hS.1)).trans (hS.2.1 q q1 q2), hS.2.2⟩ (qW_new hW rfl ⟨_, hc, (u_born ty hts hin hKn hkC e1 hty).to hfs⟩ z1 o1) hl
theorem x_newI {n0 N : Nat} {len : Int32} (pc2 : Nat) (w1 : Cond.arrayClass .int ∈ lw_good) (hn0 : ¬ len < 0) (hN : len.toNatClampNeg = N) (hb : N * componentBytes .int ≤ 536870912) (hk : k + 1 ≤ R.cells) (hj : j + N ≤ R.slots) (d : decode cc pc = .ok (.newarray .int, 2)) (hp : pc + 2 = pc2)
    (kk : qX l G own nm cc nL rt tab R mc ms r (k + 1) (j + N) (qU σ n0 (.inl (0, (N, .inl (fun _ => 0))))) (some (n0 + 1)) pc2 ls (.ref n0 :: st)) : qX l G own nm cc nL rt tab R mc ms r k j σ (some n0) pc ls (.int len :: st) := by
  subst hp
  intro p e s m args below meth c hx hb2 hml hr hn hown hts hlk htb hT hst hW0 H locs arr hS hW hl
  have hz := hW.1 n0 rfl
  refine va_newaK hx hb2 (atype := .int) (hts _ w1) rfl d rfl hn0 hN hb hk hj hz fun H1 cA e1 z1 o1 hAr hNm => ?_
  have hcA : cA = G.2.1 0 := Option.some.inj (hNm.symm.trans (hT.1.2 0 _ rfl).2)
  subst hcA
  exact kk p e s m args below meth c hx hb2 hml hr hn hown hts hlk htb hT hst hW0 H1 locs arr ⟨by rw [z1]; have := hS.1; omega, fun q q1 q2 => (o1 q (by rw [← hz]; exact Nat.lt_of_lt_of_le q1 hS.1)).trans (hS.2.1 q q1 q2), hS.2.2⟩ (qW_new hW rfl e1 z1 o1) hl
theorem x_newZ {n0 N : Nat} {len : Int32} (pc2 : Nat) (w1 : Cond.arrayClass .boolean ∈ lw_good) (hn0 : ¬ len < 0) (hN : len.toNatClampNeg = N) (hb : N * componentBytes .boolean ≤ 536870912) (hk : k + 1 ≤ R.cells) (hj : j + N ≤ R.slots) (d : decode cc pc = .ok (.newarray .boolean, 2)) (hp : pc + 2 = pc2)
    (kk : qX l G own nm cc nL rt tab R mc ms r (k + 1) (j + N) (qU σ n0 (.inl (1, (N, .inl (fun _ => 0))))) (some (n0 + 1)) pc2 ls (.ref n0 :: st)) : qX l G own nm cc nL rt tab R mc ms r k j σ (some n0) pc ls (.int len :: st) := by
  subst hp
  intro p e s m args below meth c hx hb2 hml hr hn hown hts hlk htb hT hst hW0 H locs arr hS hW hl
  have hz := hW.1 n0 rfl
  refine va_newaK hx hb2 (atype := .boolean) (hts _ w1) rfl d rfl hn0 hN hb hk hj hz fun H1 cA e1 z1 o1 hAr hNm => ?_
  have hcA : cA = G.2.1 1 := Option.some.inj (hNm.symm.trans (hT.1.2 1 _ rfl).2)
  subst hcA
  exact kk p e s m args below meth c hx hb2 hml hr hn hown hts hlk htb hT hst hW0 H1 locs arr ⟨by rw [z1]; have := hS.1; omega, fun q q1 q2 => (o1 q (by rw [← hz]; exact Nat.lt_of_lt_of_le q1 hS.1)).trans (hS.2.1 q q1 q2), hS.2.2⟩ (qW_new hW rfl e1 z1 o1) hl
theorem x_newQ {index n0 N : Nat} {len : Int32} (pc2 : Nat) (w1 : Cond.classLink own index RX2 ∈ lw_good) (hn0 : ¬ len < 0) (hN : len.toNatClampNeg = N) (hb : N * 4 ≤ 536870912) (hk : k + 1 ≤ R.cells) (hj : j + N ≤ R.slots) (d : decode cc pc = .ok (.anewarray index, 3)) (hp : pc + 3 = pc2)
    (kk : qX l G own nm cc nL rt tab R mc ms r (k + 1) (j + N) (qU σ n0 (.inl (2, (N, .inr (.inr (.inr (.inr (fun _ => none)))))))) (some (n0 + 1)) pc2 ls (.ref n0 :: st)) : qX l G own nm cc nL rt tab R mc ms r k j σ (some n0) pc ls (.int len :: st) := by
  subst hp
  intro p e s m args below meth c hx hb2 hml hr hn hown hts hlk htb hT hst hW0 H locs arr hS hW hl
  have hz := hW.1 n0 rfl
  subst hN
  refine W.anew hx hb2 hown (hts _ w1) (va_AO.use hT.2.2.2.2.2.2.1) rfl d rfl hn0 hb hk hj fun cA kA comp f1 f2 f3 f4 => ?_
  have hcA : cA = G.2.1 2 := by
    obtain ⟨kA2, comp2, g1, g2, g3, g4⟩ := (hT.1.2 2 _ rfl).2
    exact Option.some.inj (f1.symm.trans g4)
  subst hcA
  generalize hH1 : H.push ({ cls := G.2.1 2, slots := Array.replicate len.toNatClampNeg .null, vm := .none } : Cell) = H1
  have z1 : H1.size = H.size + 1 := by rw [← hH1, Array.size_push]
  have e1 : H1[H.size]? = some (arrV (G.2.1 2) len.toNatClampNeg (fun _ => .null)) := by rw [← hH1, Array.getElem?_push_size, ← arrV_new]
  have o1 : ∀ q : Nat, q < H.size → H1[q]? = H[q]? := fun q hq => by rw [← hH1, Array.getElem?_push, if_neg (Nat.ne_of_lt hq)]
  rw [hz] at e1 z1 o1 ⊢
  exact kk p e s m args below meth c hx hb2 hml hr hn hown hts hlk htb hT hst hW0 H1 locs arr ⟨by rw [z1]; have := hS.1; omega, fun q q1 q2 => (o1 q (by rw [← hz]; exact Nat.lt_of_lt_of_le q1 hS.1)).trans (hS.2.1 q q1 q2), hS.2.2⟩ (qW_new hW rfl e1 z1 o1) hl
theorem x_objInit {index a : Nat} (pc2 : Nat) (w1 : Cond.methodLink own index objectInit ∈ lw_good) (w2 : Cond.instanceMethod objectInit ∈ lw_good) (w3 : Cond.code objectInit ⟨#[0xb1]⟩ 1 none ∈ lw_good) (hf : 1 ≤ R.frames) (hlo : 2 * 0 + (st.map fun v => v.category).sum + 12 ≤ R.locals) (d : decode cc pc = .ok (.invokespecial index, 3)) (hp : pc + 3 = pc2)
    (kk : qX l G own nm cc nL rt tab R mc ms r k j σ n pc2 ls st) : qX l G own nm cc nL rt tab R mc ms r k j σ n pc ls (.ref a :: st) := by
  subst hp
  intro p e s m args below meth c hx hb hml hr hn hown hts hlk htb hT hst hW0 H locs arr hS hW hl
  exact W.objInit hx hb hown (hts _ w1) (hts _ w2) (hts _ w3) rfl (by rw [hml]; exact hl.1) rfl d hf hlo (kk p e s m args below meth c hx hb hml hr hn hown hts hlk htb hT hst hW0 H locs arr hS hW hl)
/-- throw new E("text") -/
theorem x_throwS {cls text : String} {names : List String} {ik is ic : Nat} (hcls : Bundle.fit cls = true) (hnames : ∀ n ∈ names, Bundle.fit n = true) (how : own = RX6)
    (w1 : Cond.classLink own ik cls ∈ lw_good) (w2 : Cond.initialized cls ∈ lw_good) (w3 : (is, text) ∈ qtexts) (hat : ∀ w ∈ vx_atS own ic cls names, w ∈ lw_good ∨ w ∈ lw_face)
    (hgood : ∀ w ∈ Cond.classLink own ik cls :: Cond.initialized cls :: vx_atS own ic cls names, vx_ot w = true) (ht : tab = [])
    (d0 : decode cc pc = .ok (.new ik, 3)) (d3 : decode cc (pc + 3) = .ok (.dup, 1)) (d4 : decode cc (pc + 4) = .ok (.ldc is, 2)) (d6 : decode cc (pc + 6) = .ok (.invokespecial ic, 3)) (d9 : decode cc (pc + 9) = .ok (.athrow, 1))
    (hRf : names.length + 3 < R.frames) (hRl : (st.map fun v => v.category).sum + (13 * (names.length + 1) + 43) ≤ R.locals) (hRc : k + 1 ≤ R.cells) (hRs : j + 6 ≤ R.slots) (hr2 : r = .inr (cls, σ)) (hk2 : k + 1 ≤ mc) (hj2 : j + 6 ≤ ms) : qX l G own nm cc nL rt tab R mc ms r k j σ n pc ls st := by
  subst hr2
  intro p e s m args below meth c hx hb hml hr hn hown hts hlk htb hT hst hW0 H locs arr hS hW hl
  obtain ⟨h1, h2, h3, h4, h5, h6, h9, h10, h7, h8⟩ := id hT
  obtain ⟨sa, hsa⟩ := h6 _ w3
  have hk : ∀ a : Nat, a < G.2.2.1.size → ¬ qz G a → s.heap[a]? = G.2.2.1[a]? := by
    obtain ⟨σ0, n0, w0⟩ := hW0
    exact fun a q1 q2 => w0.2.2.1 a q1
  refine vx_throwS (A := qz G) hx hb hst hown hcls hnames (hts _ w1) (hts _ w2) (by rw [how]; exact hsa) (fun w hw => ?_) hgood (vx_Zq.kept h7 hk) (vx_Zq.kept h8 hk) hS (by rw [hml]; exact hl.1) d0 d3 d4 d6 d9 (by rw [htb, ht]; exact fun x hx => nomatch hx) hRf hRl hRc hRs hlk (fun t hA hz hq => ⟨rfl, ⟨fun m hm => (by cases hm), Nat.le_trans hW.2.1 hz, fun q h => (hq q (Nat.lt_of_lt_of_le h hW.2.1)).trans (hW.2.2.1 q h), ?_, hW.2.2.2.2⟩, Nat.le_trans hS.1 hz⟩) hS.2.2 hk2 hj2
  · rcases hat w hw with h | h
    · exact hts w h
    · have hg := (List.mem_filter.mp h).2
      simp only [Bool.and_eq_true] at hg
      exact va_Nw.use hg.1 (h4 w h)
  · obtain ⟨ws, hP, hD, hc⟩ := hW.2.2.2.1
    exact ⟨ws, hP.kept (fun k q hk => hq q.1 (hP k q hk).lt), hD, hc⟩
theorem x_throwSW {cls text : String} {names : List String} {ik is ic : Nat} (hcls : Bundle.fit cls = true) (hnames : ∀ n ∈ names, Bundle.fit n = true) (how : own = RX6)
    (w1 : Cond.classLink own ik cls ∈ lw_good) (w2 : Cond.initialized cls ∈ lw_good) (w3 : (is, text) ∈ qtexts) (hat : ∀ w ∈ vx_atS own ic cls names, w ∈ lw_good ∨ w ∈ lw_face)
    (hgood : ∀ w ∈ Cond.classLink own ik cls :: Cond.initialized cls :: vx_atS own ic cls names, vx_ot w = true) (ht : tab = [])
    (d0 : decode cc pc = .ok (.new ik, 3)) (d3 : decode cc (pc + 3) = .ok (.dup, 1)) (d4 : decode cc (pc + 4) = .ok (.ldc_w is, 3)) (d7 : decode cc (pc + 7) = .ok (.invokespecial ic, 3)) (d10 : decode cc (pc + 10) = .ok (.athrow, 1))
    (hRf : names.length + 3 < R.frames) (hRl : (st.map fun v => v.category).sum + (13 * (names.length + 1) + 43) ≤ R.locals) (hRc : k + 1 ≤ R.cells) (hRs : j + 6 ≤ R.slots) (hr2 : r = .inr (cls, σ)) (hk2 : k + 1 ≤ mc) (hj2 : j + 6 ≤ ms) : qX l G own nm cc nL rt tab R mc ms r k j σ n pc ls st := by
  subst hr2
  intro p e s m args below meth c hx hb hml hr hn hown hts hlk htb hT hst hW0 H locs arr hS hW hl
  obtain ⟨h1, h2, h3, h4, h5, h6, h9, h10, h7, h8⟩ := id hT
  obtain ⟨sa, hsa⟩ := h6 _ w3
  have hk : ∀ a : Nat, a < G.2.2.1.size → ¬ qz G a → s.heap[a]? = G.2.2.1[a]? := by
    obtain ⟨σ0, n0, w0⟩ := hW0
    exact fun a q1 q2 => w0.2.2.1 a q1
  refine vx_throwSW (A := qz G) hx hb hst hown hcls hnames (hts _ w1) (hts _ w2) (by rw [how]; exact hsa) (fun w hw => ?_) hgood (vx_Zq.kept h7 hk) (vx_Zq.kept h8 hk) hS (by rw [hml]; exact hl.1) d0 d3 d4 d7 d10 (by rw [htb, ht]; exact fun x hx => nomatch hx) hRf hRl hRc hRs hlk (fun t hA hz hq => ⟨rfl, ⟨fun m hm => (by cases hm), Nat.le_trans hW.2.1 hz, fun q h => (hq q (Nat.lt_of_lt_of_le h hW.2.1)).trans (hW.2.2.1 q h), ?_, hW.2.2.2.2⟩, Nat.le_trans hS.1 hz⟩) hS.2.2 hk2 hj2
  · rcases hat w hw with h | h
    · exact hts w h
    · have hg := (List.mem_filter.mp h).2
      simp only [Bool.and_eq_true] at hg
      exact va_Nw.use hg.1 (h4 w h)
  · obtain ⟨ws, hP, hD, hc⟩ := hW.2.2.2.1
    exact ⟨ws, hP.kept (fun k q hk => hq q.1 (hP k q hk).lt), hD, hc⟩
theorem q_met {y : MethodName} {as : List Value} {rm : Room} {x : Option Value × qH × Option Nat} (h : qM l G y cc nL rt rm as σ n (.inl x)) : Met l y (qws y cc nL rt) rm (va_Pc as (fun U => qW G σ n U.heap ∧ qT G U)) (qQ G (.inl x)) rm.cells rm.slots (qz G) := by
  intro p e ha hc hk s m args below hf happ hP hK
  obtain ⟨i, o, h1, h2, h3, h4⟩ := h p e ha hc hk s m args below hf happ hP hK
  refine ⟨i, o, h1, h2, h3, ?_⟩
  rcases h4 with h4 | ⟨q, -, E, ce, L, hx, -⟩
  · exact h4
  · exact absurd hx id
theorem q_backM {p : Program} {e : Env} {s : State} {m : MethodId} {args : Array Value} {below : List Frame} {meth : Method} {c : Code} {H : Heap} {locs : List Loc} {g : JFrame} {rest : List Value} {x : Option Value × qH × Option Nat} {a : Array Value} {mcc msc : Nat}
    (h : va_Run p l e R s m args below meth c H locs k j mcc msc g rest (qQ G (.inl x) a) (qz G)) : vx_Run p l e R s m args below meth c H locs k j mcc msc g rest (qQ G (.inl x) a) (qC G (.inl x)) (qz G) := by
  intro T hT X
  obtain ⟨v, st₀, t, T', L, h1, h2, h3, h4, h5, h6, h7⟩ := h T hT X
  exact Or.inl ⟨v, st₀, t, T', L, h1, h2, h3, h4, h5, h6, h7⟩
theorem x_callI {y : MethodName} {bytes : ByteArray} {maxL index na : Nat} {rm : Room} {As rest : List Value} {b : Nat} {n' : Option Nat} (pc2 k2 j2 : Nat)
    (hM : qM l G y bytes maxL none rm (.ref b :: As) σ n (.inl (none, σ', n'))) (hY : qY y bytes maxL none na) (hyi : y.name = "<init>") (w1 : Cond.methodLink own index y ∈ lw_good) (w2 : Cond.instanceMethod y ∈ lw_good) (hs : st = As.reverse ++ .ref b :: rest) (hna : As.length = na)
    (hR : rm.frames + 1 ≤ R.frames ∧ 8 + (maxL + 11) + rm.locals ≤ R.locals) (hcat : (rest.map fun v => v.category).sum ≤ 8) (hk : k + rm.cells ≤ R.cells ∧ j + rm.slots ≤ R.slots) (d : decode cc pc = .ok (.invokespecial index, 3)) (hp : pc + 3 = pc2)
    (hk2 : k + rm.cells = k2) (hj2 : j + rm.slots = j2) (kk : qX l G own nm cc nL rt tab R mc ms r k2 j2 σ' n' pc2 ls rest) : qX l G own nm cc nL rt tab R mc ms r k j σ n pc ls st := by
  subst hp; subst hs; subst hk2; subst hj2
  intro p e s m args below meth c hx hb hml hr hn hown hts hlk htb hT hst hW0 H locs arr hS hW hl
  exact q_back hx hb hml hr hn hown hts hlk htb hT hst hW0 hS hW hl (q_backM (va_runI (Ts := lw_good) ⟨hx, hb, hml, hown, hts⟩ (q_met hM) ⟨qY_call hY hts w1 hR, hyi, hts _ w2⟩ ⟨q_blind, fun U hU hWU => ⟨rfl, by rw [hU]; exact hW, qT_warm hWU hT⟩⟩ rfl hna hl.1 rfl (lv_room hcat) d hk)) rfl kk
theorem x_callIN {y : MethodName} {host : String} {bytes : ByteArray} {maxL index na : Nat} {rm : Room} {As rest : List Value} {b : Nat} {n' : Option Nat} (pc2 k2 j2 : Nat)
    (hM : qM l G y bytes maxL none rm (.ref b :: As) σ n (.inl (none, σ', n'))) (hY : qY y bytes maxL none na) (hyi : y.name = "<init>") (w1 : (own, index, y, host) ∈ qnest) (w2 : Cond.instanceMethod y ∈ lw_good) (hs : st = As.reverse ++ .ref b :: rest) (hna : As.length = na)
    (hR : rm.frames + 1 ≤ R.frames ∧ 8 + (maxL + 11) + rm.locals ≤ R.locals) (hcat : (rest.map fun v => v.category).sum ≤ 8) (hk : k + rm.cells ≤ R.cells ∧ j + rm.slots ≤ R.slots) (d : decode cc pc = .ok (.invokespecial index, 3)) (hp : pc + 3 = pc2)
    (hk2 : k + rm.cells = k2) (hj2 : j + rm.slots = j2) (kk : qX l G own nm cc nL rt tab R mc ms r k2 j2 σ' n' pc2 ls rest) : qX l G own nm cc nL rt tab R mc ms r k j σ n pc ls st := by
  subst hp; subst hs; subst hk2; subst hj2
  intro p e s m args below meth c hx hb hml hr hn hown hts hlk htb hT hst hW0 H locs arr hS hW hl
  exact q_back hx hb hml hr hn hown hts hlk htb hT hst hW0 hS hW hl (q_backM (va_runIN (Ts := lw_good) ⟨hx, hb, hml, hown, hts⟩ (q_met hM) ⟨va_cnB (ws := qws y bytes maxL none) na hts (lg_good (List.forall_mem_cons.mpr ⟨hY.1, fun _ h => h⟩)) rfl rfl rfl (hT.2.2.2.2.1 _ w1) (hts _ hY.2.1) hY.2.2 hR, hyi, hts _ w2⟩ ⟨q_blind, fun U hU hWU => ⟨rfl, by rw [hU]; exact hW, qT_warm hWU hT⟩⟩ rfl hna hl.1 rfl (lv_room hcat) d hk)) rfl kk
theorem x_anyn (kk : qX l G own nm cc nL rt tab R mc ms r k j σ none pc ls st) : qX l G own nm cc nL rt tab R mc ms r k j σ n pc ls st := fun p e s m args below meth c hx hb hml hr hn hown hts hlk htb hT hst hW0 H locs arr hS hW hl => kk p e s m args below meth c hx hb hml hr hn hown hts hlk htb hT hst hW0 H locs arr hS (qW_any hW) hl
/-- methods with handlers -/
abbrev qwsW (y : MethodName) (cc : ByteArray) (nL : Nat) (rt : Option FieldType) (hh : List (Nat × Nat × Nat × Nat)) : List Cond := Cond.codeWith y cc nL rt hh :: lw_good
def qMW (l : Launch) (G : qG) (y : MethodName) (cc : ByteArray) (nL : Nat) (rt : Option FieldType) (hh : List (Nat × Nat × Nat × Nat)) (rm : Room) (as : List Value) (σ : qH) (n : Option Nat) (r : qR) : Prop :=
  vx_Met l y (qwsW y cc nL rt hh) rm (va_Pc as (fun U => qW G σ n U.heap ∧ qT G U)) (qQ G r) (qC G r) rm.cells rm.slots (qz G)
theorem q_bodyW {y : MethodName} {as : List Value} {ls : List (Nat × Value)} {hh : List (Nat × Nat × Nat × Nat)} (hst : l.stackTraces = false) (hy : plainName y.cls = true) (hyo : y.cls = own) (hyn : y.name = nm) (hl : (lg_sl as).length ≤ nL) (hls : lv_args 0 as = ls) (hmc : R.cells = mc) (hms : R.slots = ms) (ht : tableOf hh = tab)
    (kk : qX l G own nm cc nL rt tab R mc ms r 0 0 σ n 0 ls []) : qMW l G y cc nL rt hh R as σ n r := by
  subst hyo; subst hyn; subst hls; subst hmc; subst hms; subst ht
  refine vx_ofWH (cc := cc) (maxL := nL) (ret := rt) (hh := hh) hy rfl ?_
  intro p e s m args below meth c s₁ B hml hv
  obtain ⟨rfl, hW, hT⟩ := hv
  have hts := atoms_spec (ws := qwsW y cc nL rt hh) B.pre
  rw [lg_entry_eq]
  exact kk p e s m _ below meth c B.exec B.bytes hml B.returns (name_of_methodNamed B.named B.method).1 (findClass_of_methodNamed B.named) (fun w hw => hts w (List.mem_cons_of_mem _ hw)) B.notSynchronized (vx_table (x := y) B (hts _ List.mem_cons_self)) hT hst ⟨σ, n, hW⟩ s.heap [] _ va_S.rf hW (lv_entry as hl)
def qYW (y : MethodName) (cc : ByteArray) (nL : Nat) (rt : Option FieldType) (hh : List (Nat × Nat × Nat × Nat)) (na : Nat) : Prop :=
  Cond.codeWith y cc nL rt hh ∈ lw_good ∧ Cond.initialized y.cls ∈ lw_good ∧ (y.cls ≠ "java/lang/invoke/MethodHandle" ∧ y.cls ≠ "java/lang/invoke/VarHandle" ∧ (parseMethodDescriptor y.desc).map (fun d => d.parameters.length) = some na)
theorem x_callSW {y : MethodName} {bytes : ByteArray} {maxL index na : Nat} {ret : Option FieldType} {hh : List (Nat × Nat × Nat × Nat)} {rm : Room} {As rest st2 : List Value} {v : Option Value} {n' : Option Nat} (pc2 k2 j2 : Nat)
    (hM : qMW l G y bytes maxL ret hh rm As σ n (.inl (v, σ', n'))) (hY : qYW y bytes maxL ret hh na) (w1 : Cond.methodLink own index y ∈ lw_good) (w2 : Cond.static y ∈ lw_good) (hs : st = As.reverse ++ rest) (hna : As.length = na)
    (hR : rm.frames + 1 ≤ R.frames ∧ 8 + (maxL + 11) + rm.locals ≤ R.locals) (hcat : (rest.map fun v => v.category).sum ≤ 8) (hk : k + rm.cells ≤ R.cells ∧ j + rm.slots ≤ R.slots) (d : decode cc pc = .ok (.invokestatic index, 3)) (hp : pc + 3 = pc2) (hst2 : v.toList ++ rest = st2)
    (hk2 : k + rm.cells = k2) (hj2 : j + rm.slots = j2) (kk : qX l G own nm cc nL rt tab R mc ms r k2 j2 σ' n' pc2 ls st2) : qX l G own nm cc nL rt tab R mc ms r k j σ n pc ls st := by
  subst hp; subst hs; subst hk2; subst hj2
  intro p e s m args below meth c hx hb hml hr hn hown hts hlk htb hT hst hW0 H locs arr hS hW hl
  exact q_back hx hb hml hr hn hown hts hlk htb hT hst hW0 hS hW hl (vx_runSX (Ts := lw_good) ⟨hx, hb, hml, hown, hts⟩ hM ⟨⟨rfl, rfl, hR.1, hR.2, pay_in hts (lg_good (List.forall_mem_cons.mpr ⟨hY.1, fun _ h => h⟩)), List.mem_cons_self⟩, hts _ hY.1, hts _ hY.2.1, ⟨hY.2.2.1, hY.2.2.2.1⟩, fun sig h => by
    have h2 := hY.2.2.2.2
    rw [h] at h2
    exact (Option.some.inj h2).symm, hts _ w1, hts _ w2⟩ ⟨q_blind, fun U hU hWU => ⟨rfl, by rw [hU]; exact hW, qT_warm hWU hT⟩⟩ rfl hna hl.1 rfl (lv_room hcat) d hk) hst2 kk
/-- a call that throws, caught by the row x of this method's table -/
theorem x_callVC {y : MethodName} {bytes : ByteArray} {maxL index ci na : Nat} {ret : Option FieldType} {rm : Room} {As rest : List Value} {b : Nat} {E name : String} {fs : List Value} {C : String} {T : u_T} {N : Nat} (k2 j2 : Nat) (pre : List ExceptionTableEntry) (x : ExceptionTableEntry) (suf : List ExceptionTableEntry)
    (hM : qM l G y bytes maxL ret rm (.ref b :: As) σ n (.inr (E, σ'))) (hY : qY y bytes maxL ret na) (w1 : Cond.methodLink own index y ∈ lw_good) (w2 : Cond.instanceMethod y ∈ lw_good) (w3 : Cond.selects C y y ∈ lw_good) (hcell : σ b = some (.inr (ci, fs))) (hc : vwCl[ci]? = some (C, T, N)) (hs : st = As.reverse ++ .ref b :: rest) (hna : As.length = na)
    (hR : rm.frames + 1 ≤ R.frames ∧ 8 + (maxL + 11) + rm.locals ≤ R.locals) (hcat : (rest.map fun v => v.category).sum ≤ 8) (hk : k + rm.cells ≤ R.cells ∧ j + rm.slots ≤ R.slots) (d : decode cc pc = .ok (.invokevirtual index, 3))
    (hsplit : tab = pre ++ x :: suf) (hpass : ∀ z ∈ pre, z.catchType ≠ 0 ∧ ∃ nm : String, Cond.classLink own z.catchType nm ∈ lw_good ∧ (E, nm) ∈ qnc) (hcov : covers x pc = true) (h0 : x.catchType ≠ 0) (w4 : Cond.classLink own x.catchType name ∈ lw_good) (w5 : Cond.castable E name ∈ lw_face)
    (hk2 : k + rm.cells = k2) (hj2 : j + rm.slots = j2) (kk : ∀ q : Nat, qX l G own nm cc nL rt tab R mc ms r k2 j2 σ' none x.handlerPc ls [.ref q]) : qX l G own nm cc nL rt tab R mc ms r k j σ n pc ls st := by
  subst hs; subst hk2; subst hj2
  intro p e s m args below meth c hx hb hml hr hn hown hts hlk htb hT hst hW0 H locs arr hS hW hl
  have hrun := vx_runV (Ts := lw_good) (p := p) (l := l) (e := e) (R := R) (s := s) (m := m) (args := args) (below := below) (meth := meth) (c := c) (H := H) (locs := locs) (cells := k) (slots := j) (g := F0 m pc arr (As.reverse ++ .ref b :: rest)) (rest := rest) ⟨hx, hb, hml, hown, hts⟩ hM ⟨qY_call hY hts w1 hR, hts _ w2, hts _ w3⟩ ⟨q_blind, va_recv (q := (C, T, N)) hT.1 (qW_at hW hcell rfl) hc (q0 := 0) rfl, fun U hU hWU => ⟨rfl, by rw [hU]; exact hW, qT_warm hWU hT⟩⟩ rfl hna hl.1 rfl (lv_room hcat) d hk
  intro T1 hT2 X
  rcases hrun T1 hT2 X with ⟨v2, st₀, t, T', L, h0, X', hL, e1, e2, hf, stp⟩ | ⟨q, st₀, t, T', L, E2, ce, h0', X', hL, e1, e2, ⟨hE, hw2, hsz⟩, hce, hcv, hcl, stp⟩
  · exact absurd hf id
  · subst hE
    rw [h0'] at hsz
    have hS2 : va_S (qz G) s.heap T'.heap (locs ++ L) := by
      obtain ⟨σ0, n0, w0⟩ := hW0
      refine ⟨Nat.le_trans hS.1 (by rw [e1]; exact hsz), fun q h1 h2 => ?_, fun q hq => ?_⟩
      · have h3 : q < G.2.2.1.size := Nat.not_le.mp h2
        rw [e1, hw2.2.2.1 q h3, w0.2.2.1 q h3]
      · rcases List.mem_append.mp hq with h | h
        · exact hS.2.2 q h
        · exact hL q h
    have hg := (List.mem_filter.mp w5).2
    simp only [Bool.and_eq_true] at hg
    obtain ⟨t2, a1, b1⟩ := vx_catch (p := p) (l := l) (e := e) (R := R) (s := s) (m := m) (args := args) (below := below) (meth := meth) (c := c) (H := T'.heap) (locs := locs ++ L) (cells := k + rm.cells) (slots := j + rm.slots) (pc := pc) (ls := arr) (rest := rest) (q := q) (ce := ce) hown pre x suf (by rw [htb]; exact hsplit) (fun z hz => by
      obtain ⟨z1, nm2, z2, z3⟩ := hpass z hz
      exact Or.inr ⟨z1, nm2, hts _ z2, hT.2.2.2.2.2.2.2.1 _ z3⟩) hcov h0 (hts _ w4) (va_Nw.use hg.1 (hT.2.2.2.1 _ w5)) (by rw [e1]; exact hce) hcv hcl (kk q p e s m args below meth c hx hb hml hr hn hown hts hlk htb hT hst hW0 T'.heap (locs ++ L) arr hS2 (by rw [e1]; exact hw2) hl) T' rfl X'
    exact ⟨t2, stp.trans a1, b1⟩
end QV
