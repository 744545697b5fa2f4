section QV
variable {l : Launch} {G : qG} {own nm : String} {cc : ByteArray} {nL : Nat} {rt : Option FieldType} {tab : List ExceptionTableEntry} {R : Room} {mc ms : Nat} {r : qR} {k j : Nat} {σ σ' : qH} {n : Option Nat} {pc : Nat} {ls : List (Nat × Value)} {st : List Value}
theorem x_getstatic {index : Nat} (pc2 : Nat) (x : String × Nat) (hx9 : x ∈ qst) (hw : Cond.fieldLink own index "SteepleWords$Text" x.1 "[I" ∈ lw_good) (d : decode cc pc = .ok (.getstatic index, 3)) (hp : pc + 3 = pc2) (kk : qX l G own nm cc nL rt tab R mc ms r k j σ n pc2 ls (.ref (G.2.2.2.1 x.2) :: st)) : qX l G own nm cc nL rt tab R mc ms r k j σ n pc ls st := by
  subst hp
  intro p e s m args below meth c hx hb hml hr hn hown hts hlk htb hT hst hW0 H locs arr hS hW hl
  have hZ : va_Z "SteepleWords$Text" x.1 "[I" (.ref (G.2.2.2.1 x.2)) (qz G) s s.heap := by
    obtain ⟨σ0, n0, w0⟩ := hW0
    exact va_Z.kept (hT.2.1 x hx9) (fun a h1 h2 => w0.2.2.1 a h1)
  exact va_gets hx hb hZ hS hown (hts _ hw) (fun _ h => h) d (kk p e s m args below meth c hx hb hml hr hn hown hts hlk htb hT hst hW0 H locs arr hS hW hl)
theorem x_copy {index : Nat} {a b : Nat} {sp dp len : Int32} (pc2 : Nat) (hk0 : k = 0) (w1 : Cond.methodLink own index arraycopyName ∈ lw_good) (w2 : Cond.native arraycopyName ∈ lw_good) (w3 : Cond.static arraycopyName ∈ lw_good) (w4 : Cond.initialized "java/lang/System" ∈ lw_good) (h : sC σ a sp b dp len = some σ')
    (hf : 1 ≤ R.frames) (hlo : (st.map fun v => v.category).sum + (nativeFrameWords "java/lang/System" "arraycopy" 5 + 11) ≤ R.locals) (d : decode cc pc = .ok (.invokestatic index, 3)) (hp : pc + 3 = pc2) (kk : qX l G own nm cc nL rt tab R mc ms r k j σ' n pc2 ls st) : qX l G own nm cc nL rt tab R mc ms r k j σ n pc ls (.int len :: .int dp :: .ref b :: .int sp :: .ref a :: st) := by
  subst hp; subst hk0
  obtain ⟨n0, n1, f, g, h1, h2, ⟨h3, h4, h5⟩, h6, h7, rfl⟩ := sC_inv h
  intro p e s m args below meth c hx hb hml hr hn hown hts hlk htb hT hst hW0 H locs arr hS hW hl
  obtain ⟨w1', w2', w3', ⟨ws, hP, hD, hc⟩, w5'⟩ := id hW
  obtain ⟨k0, hk0⟩ := hc a _ h1 rfl
  obtain ⟨k1, hk1⟩ := hc b _ h2 rfl
  have hl1 := (List.getElem?_eq_some_iff.mp hk1).1
  have hS0 : va_S (qz G) H H locs := ⟨Nat.le_refl _, fun _ _ _ => rfl, hS.2.2⟩
  refine va_copyi (D := G.1) (cl := vwCl) (tys := qtys G) hx hb (hml.trans hl.1.symm) hown (hts _ w1) (hts _ w2) (hts _ w3) (hts _ w4) hT.1 hP hD hS0 k0 k1 0 0 hk0 hk1 rfl rfl rfl h3 h4 h5 h6 h7 (fun _ _ => rfl) hf hlo d fun H1 locs1 hP1 hD1 hS1 => ?_
  intro T hT2 X
  have hz : H1.size = H.size := by
    have q1 := X.heapSize
    have q2 := hS.1
    have q3 := hS1.1
    rw [hT2] at q1
    omega
  refine kk p e s m args below meth c hx hb hml hr hn hown hts hlk htb hT hst hW0 H1 locs1 arr ⟨Nat.le_trans hS.1 hS1.1, fun q q1 q2 => (hS1.2.1 q (Nat.lt_of_lt_of_le q1 hS.1) q2).trans (hS.2.1 q q1 q2), hS1.2.2⟩ ⟨by rw [hz]; exact w1', by rw [hz]; exact w2', fun q hq => ?_, ⟨_, hP1, hD1, fun b2 e2 hb2 hr2 => ?_⟩, fun b2 x hb2 => ?_⟩ hl T hT2 X
  · rw [hS1.2.1 q (Nat.lt_of_lt_of_le hq w2') (Nat.not_le.mpr hq)]
    exact w3' q hq
  · by_cases hba : b2 = b
    · subst hba
      simp only [qU, if_pos] at hb2
      cases hb2
      exact ⟨k1, by rw [List.getElem?_set_self hl1]; rfl⟩
    · simp only [qU, if_neg hba] at hb2
      obtain ⟨k2, hk2⟩ := hc b2 e2 hb2 hr2
      refine ⟨k2, ?_⟩
      rw [List.getElem?_set_ne (fun z => hba ?_)]
      · exact hk2
      · subst z
        rw [hk1] at hk2
        exact (congrArg Prod.fst (Option.some.inj hk2)).symm
  · by_cases hba : b2 = b
    · subst hba
      simp only [qU, if_pos] at hb2
      cases hb2
    · simp only [qU, if_neg hba] at hb2
      exact w5' b2 x hb2
theorem x_new {C : String} {T : u_T} {N ci index n0 : Nat} {fs : List Value} (pc2 : Nat) (hin : ∀ w ∈ u_ws C T N, w ∈ lw_good) (ty : Nat → FieldType) (hty : ∀ k, k < N → parseFieldDescriptor (T k).2.2.1 = some (ty k)) (w1 : Cond.classLink own index C ∈ lw_good) (w2 : Cond.instantiable C N ∈ lw_good) (w3 : Cond.initialized C ∈ lw_good) (hc : vwCl[ci]? = some (C, T, N)) (hfs : ∀ j, j < N → defaultValue (ty j) = vp_V fs j)
    (hk : k + 1 ≤ R.cells) (hj : j + N ≤ R.slots) (d : decode cc pc = .ok (.new index, 3)) (hp : pc + 3 = pc2) (kk : qX l G own nm cc nL rt tab R mc ms r (k + 1) (j + N) (qU σ n0 (.inr (ci, fs))) (some (n0 + 1)) pc2 ls (.ref n0 :: st)) : qX l G own nm cc nL rt tab R mc ms r k j σ (some n0) pc ls st := by
  subst hp
  intro p e s m args below meth c hx hb hml hr hn hown hts hlk htb hT hst hW0 H locs arr hS hW hl
  have hKn := hT.1.1 ci _ hc
  have hz := hW.1 n0 rfl
  refine W.newcK hx hb hown (hts _ w1) (hts _ w2) (hts _ w3) rfl d hk hj hKn.2.1 hz fun H1 kC hkC e1 z1 o1 => ?_
  exact kk p e s m args below meth c hx hb hml hr hn hown hts hlk htb hT hst hW0 H1 locs arr ⟨by rw [z1]; have := hS.1; omega, fun q q1 q2 => (o1 q (by rw [← hz]; exact Nat.lt_of_lt_of_le q1 hS.1)).trans (hS.2.1 q q1 q2), hS.2.2⟩ (qW_new hW rfl ⟨_, hc, (u_born ty hts hin hKn hkC e1 hty).to hfs⟩ z1 o1) hl
theorem x_newI {n0 N : Nat} {len : Int32} (pc2 : Nat) (w1 : Cond.arrayClass .int ∈ lw_good) (hn0 : ¬ len < 0) (hN : len.toNatClampNeg = N) (hb : N * componentBytes .int ≤ 536870912) (hk : k + 1 ≤ R.cells) (hj : j + N ≤ R.slots) (d : decode cc pc = .ok (.newarray .int, 2)) (hp : pc + 2 = pc2)
    (kk : qX l G own nm cc nL rt tab R mc ms r (k + 1) (j + N) (qU σ n0 (.inl (0, (N, .inl (fun _ => 0))))) (some (n0 + 1)) pc2 ls (.ref n0 :: st)) : qX l G own nm cc nL rt tab R mc ms r k j σ (some n0) pc ls (.int len :: st) := by
  subst hp
  intro p e s m args below meth c hx hb2 hml hr hn hown hts hlk htb hT hst hW0 H locs arr hS hW hl
  have hz := hW.1 n0 rfl
  refine va_newaK hx hb2 (atype := .int) (hts _ w1) rfl d rfl hn0 hN hb hk hj hz fun H1 cA e1 z1 o1 hAr hNm => ?_
  have hcA : cA = G.2.1 0 := Option.some.inj (hNm.symm.trans (hT.1.2 0 _ rfl).2)
  subst hcA
  exact kk p e s m args below meth c hx hb2 hml hr hn hown hts hlk htb hT hst hW0 H1 locs arr ⟨by rw [z1]; have := hS.1; omega, fun q q1 q2 => (o1 q (by rw [← hz]; exact Nat.lt_of_lt_of_le q1 hS.1)).trans (hS.2.1 q q1 q2), hS.2.2⟩ (qW_new hW rfl e1 z1 o1) hl
theorem x_newZ {n0 N : Nat} {len : Int32} (pc2 : Nat) (w1 : Cond.arrayClass .boolean ∈ lw_good) (hn0 : ¬ len < 0) (hN : len.toNatClampNeg = N) (hb : N * componentBytes .boolean ≤ 536870912) (hk : k + 1 ≤ R.cells) (hj : j + N ≤ R.slots) (d : decode cc pc = .ok (.newarray .boolean, 2)) (hp : pc + 2 = pc2)
    (kk : qX l G own nm cc nL rt tab R mc ms r (k + 1) (j + N) (qU σ n0 (.inl (1, (N, .inl (fun _ => 0))))) (some (n0 + 1)) pc2 ls (.ref n0 :: st)) : qX l G own nm cc nL rt tab R mc ms r k j σ (some n0) pc ls (.int len :: st) := by
  subst hp
  intro p e s m args below meth c hx hb2 hml hr hn hown hts hlk htb hT hst hW0 H locs arr hS hW hl
  have hz := hW.1 n0 rfl
  refine va_newaK hx hb2 (atype := .boolean) (hts _ w1) rfl d rfl hn0 hN hb hk hj hz fun H1 cA e1 z1 o1 hAr hNm => ?_
  have hcA : cA = G.2.1 1 := Option.some.inj (hNm.symm.trans (hT.1.2 1 _ rfl).2)
  subst hcA
  exact kk p e s m args below meth c hx hb2 hml hr hn hown hts hlk htb hT hst hW0 H1 locs arr ⟨by rw [z1]; have := hS.1; omega, fun q q1 q2 => (o1 q (by rw [← hz]; exact Nat.lt_of_lt_of_le q1 hS.1)).trans (hS.2.1 q q1 q2), hS.2.2⟩ (qW_new hW rfl e1 z1 o1) hl
theorem x_newJ {n0 N : Nat} {len : Int32} (pc2 : Nat) (w1 : Cond.arrayClass .long ∈ lw_good) (hn0 : ¬ len < 0) (hN : len.toNatClampNeg = N) (hb : N * componentBytes .long ≤ 536870912) (hk : k + 1 ≤ R.cells) (hj : j + N ≤ R.slots) (d : decode cc pc = .ok (.newarray .long, 2)) (hp : pc + 2 = pc2)
    (kk : qX l G own nm cc nL rt tab R mc ms r (k + 1) (j + N) (qU σ n0 (.inl (3, (N, .inr (.inl (fun _ => 0)))))) (some (n0 + 1)) pc2 ls (.ref n0 :: st)) : qX l G own nm cc nL rt tab R mc ms r k j σ (some n0) pc ls (.int len :: st) := by
  subst hp
  intro p e s m args below meth c hx hb2 hml hr hn hown hts hlk htb hT hst hW0 H locs arr hS hW hl
  have hz := hW.1 n0 rfl
  refine va_newaK hx hb2 (atype := .long) (hts _ w1) rfl d rfl hn0 hN hb hk hj hz fun H1 cA e1 z1 o1 hAr hNm => ?_
  have hcA : cA = G.2.1 3 := Option.some.inj (hNm.symm.trans (hT.1.2 3 _ rfl).2)
  subst hcA
  exact kk p e s m args below meth c hx hb2 hml hr hn hown hts hlk htb hT hst hW0 H1 locs arr ⟨by rw [z1]; have := hS.1; omega, fun q q1 q2 => (o1 q (by rw [← hz]; exact Nat.lt_of_lt_of_le q1 hS.1)).trans (hS.2.1 q q1 q2), hS.2.2⟩ (qW_new hW rfl e1 z1 o1) hl
theorem x_newQ {index n0 N : Nat} {len : Int32} (pc2 : Nat) (w1 : Cond.classLink own index RX2 ∈ lw_good) (hn0 : ¬ len < 0) (hN : len.toNatClampNeg = N) (hb : N * 4 ≤ 536870912) (hk : k + 1 ≤ R.cells) (hj : j + N ≤ R.slots) (d : decode cc pc = .ok (.anewarray index, 3)) (hp : pc + 3 = pc2)
    (kk : qX l G own nm cc nL rt tab R mc ms r (k + 1) (j + N) (qU σ n0 (.inl (2, (N, .inr (.inr (.inr (.inr (fun _ => none)))))))) (some (n0 + 1)) pc2 ls (.ref n0 :: st)) : qX l G own nm cc nL rt tab R mc ms r k j σ (some n0) pc ls (.int len :: st) := by
  subst hp
  intro p e s m args below meth c hx hb2 hml hr hn hown hts hlk htb hT hst hW0 H locs arr hS hW hl
  have hz := hW.1 n0 rfl
  subst hN
  refine W.anew hx hb2 hown (hts _ w1) (va_AO.use hT.2.2.2.2.2.2.1) rfl d rfl hn0 hb hk hj fun cA kA comp f1 f2 f3 f4 => ?_
  have hcA : cA = G.2.1 2 := by
    obtain ⟨kA2, comp2, g1, g2, g3, g4⟩ := (hT.1.2 2 _ rfl).2
    exact Option.some.inj (f1.symm.trans g4)
  subst hcA
  generalize hH1 : H.push ({ cls := G.2.1 2, slots := Array.replicate len.toNatClampNeg .null, vm := .none } : Cell) = H1
  have z1 : H1.size = H.size + 1 := by rw [← hH1, Array.size_push]
  have e1 : H1[H.size]? = some (arrV (G.2.1 2) len.toNatClampNeg (fun _ => .null)) := by rw [← hH1, Array.getElem?_push_size, ← arrV_new]
  have o1 : ∀ q : Nat, q < H.size → H1[q]? = H[q]? := fun q hq => by rw [← hH1, Array.getElem?_push, if_neg (Nat.ne_of_lt hq)]
  rw [hz] at e1 z1 o1 ⊢
  exact kk p e s m args below meth c hx hb2 hml hr hn hown hts hlk htb hT hst hW0 H1 locs arr ⟨by rw [z1]; have := hS.1; omega, fun q q1 q2 => (o1 q (by rw [← hz]; exact Nat.lt_of_lt_of_le q1 hS.1)).trans (hS.2.1 q q1 q2), hS.2.2⟩ (qW_new hW rfl e1 z1 o1) hl
theorem x_objInit {index a : Nat} (pc2 : Nat) (w1 : Cond.methodLink own index objectInit ∈ lw_good) (w2 : Cond.instanceMethod objectInit ∈ lw_good) (w3 : Cond.code objectInit ⟨#[0xb1]⟩ 1 none ∈ lw_good) (hf : 1 ≤ R.frames) (hlo : 2 * 0 + (st.map fun v => v.category).sum + 12 ≤ R.locals) (d : decode cc pc = .ok (.invokespecial index, 3)) (hp : pc + 3 = pc2)
    (kk : qX l G own nm cc nL rt tab R mc ms r k j σ n pc2 ls st) : qX l G own nm cc nL rt tab R mc ms r k j σ n pc ls (.ref a :: st) := by
  subst hp
  intro p e s m args below meth c hx hb hml hr hn hown hts hlk htb hT hst hW0 H locs arr hS hW hl
  exact W.objInit hx hb hown (hts _ w1) (hts _ w2) (hts _ w3) rfl (by rw [hml]; exact hl.1) rfl d hf hlo (kk p e s m args below meth c hx hb hml hr hn hown hts hlk htb hT hst hW0 H locs arr hS hW hl)
/-- throw new E("text") -/
theorem x_throwS {cls text : String} {names : List String} {ik is ic : Nat} (hcls : Bundle.fit cls = true) (hnames : ∀ n ∈ names, Bundle.fit n = true) (how : own = RX6)
    (w1 : Cond.classLink own ik cls ∈ lw_good) (w2 : Cond.initialized cls ∈ lw_good) (w3 : (is, text) ∈ qtexts) (hat : ∀ w ∈ vx_atS own ic cls names, w ∈ lw_good ∨ w ∈ lw_face)
    (hgood : ∀ w ∈ Cond.classLink own ik cls :: Cond.initialized cls :: vx_atS own ic cls names, vx_ot w = true) (ht : tab = [])
    (d0 : decode cc pc = .ok (.new ik, 3)) (d3 : decode cc (pc + 3) = .ok (.dup, 1)) (d4 : decode cc (pc + 4) = .ok (.ldc is, 2)) (d6 : decode cc (pc + 6) = .ok (.invokespecial ic, 3)) (d9 : decode cc (pc + 9) = .ok (.athrow, 1))
    (hRf : names.length + 3 < R.frames) (hRl : (st.map fun v => v.category).sum + (13 * (names.length + 1) + 43) ≤ R.locals) (hRc : k + 1 ≤ R.cells) (hRs : j + 6 ≤ R.slots) (hr2 : r = .inr (cls, σ)) (hk2 : k + 1 ≤ mc) (hj2 : j + 6 ≤ ms) : qX l G own nm cc nL rt tab R mc ms r k j σ n pc ls st := by
  subst hr2
  intro p e s m args below meth c hx hb hml hr hn hown hts hlk htb hT hst hW0 H locs arr hS hW hl
  obtain ⟨h1, h2, h3, h4, h5, h6, h9, h7, h8⟩ := id hT
  obtain ⟨sa, hsa⟩ := h6 _ w3
  have hk : ∀ a : Nat, a < G.2.2.1.size → ¬ qz G a → s.heap[a]? = G.2.2.1[a]? := by
    obtain ⟨σ0, n0, w0⟩ := hW0
    exact fun a q1 q2 => w0.2.2.1 a q1
  refine vx_throwS (A := qz G) hx hb hst hown hcls hnames (hts _ w1) (hts _ w2) (by rw [how]; exact hsa) (fun w hw => ?_) hgood (vx_Zq.kept h7 hk) (vx_Zq.kept h8 hk) hS (by rw [hml]; exact hl.1) d0 d3 d4 d6 d9 (by rw [htb, ht]; exact fun x hx => nomatch hx) hRf hRl hRc hRs hlk (fun t hA hz hq => ⟨rfl, ⟨fun m hm => (by cases hm), Nat.le_trans hW.2.1 hz, fun q h => (hq q (Nat.lt_of_lt_of_le h hW.2.1)).trans (hW.2.2.1 q h), ?_, hW.2.2.2.2⟩, Nat.le_trans hS.1 hz⟩) hS.2.2 hk2 hj2
  · rcases hat w hw with h | h
    · exact hts w h
    · have hg := (List.mem_filter.mp h).2
      simp only [Bool.and_eq_true] at hg
      exact va_Nw.use hg.1 (h4 w h)
  · obtain ⟨ws, hP, hD, hc⟩ := hW.2.2.2.1
    exact ⟨ws, hP.kept (fun k q hk => hq q.1 (hP k q hk).lt), hD, hc⟩
theorem x_throwSW {cls text : String} {names : List String} {ik is ic : Nat} (hcls : Bundle.fit cls = true) (hnames : ∀ n ∈ names, Bundle.fit n = true) (how : own = RX6)
    (w1 : Cond.classLink own ik cls ∈ lw_good) (w2 : Cond.initialized cls ∈ lw_good) (w3 : (is, text) ∈ qtexts) (hat : ∀ w ∈ vx_atS own ic cls names, w ∈ lw_good ∨ w ∈ lw_face)
    (hgood : ∀ w ∈ Cond.classLink own ik cls :: Cond.initialized cls :: vx_atS own ic cls names, vx_ot w = true) (ht : tab = [])
    (d0 : decode cc pc = .ok (.new ik, 3)) (d3 : decode cc (pc + 3) = .ok (.dup, 1)) (d4 : decode cc (pc + 4) = .ok (.ldc_w is, 3)) (d7 : decode cc (pc + 7) = .ok (.invokespecial ic, 3)) (d10 : decode cc (pc + 10) = .ok (.athrow, 1))
    (hRf : names.length + 3 < R.frames) (hRl : (st.map fun v => v.category).sum + (13 * (names.length + 1) + 43) ≤ R.locals) (hRc : k + 1 ≤ R.cells) (hRs : j + 6 ≤ R.slots) (hr2 : r = .inr (cls, σ)) (hk2 : k + 1 ≤ mc) (hj2 : j + 6 ≤ ms) : qX l G own nm cc nL rt tab R mc ms r k j σ n pc ls st := by
  subst hr2
  intro p e s m args below meth c hx hb hml hr hn hown hts hlk htb hT hst hW0 H locs arr hS hW hl
  obtain ⟨h1, h2, h3, h4, h5, h6, h9, h7, h8⟩ := id hT
  obtain ⟨sa, hsa⟩ := h6 _ w3
  have hk : ∀ a : Nat, a < G.2.2.1.size → ¬ qz G a → s.heap[a]? = G.2.2.1[a]? := by
    obtain ⟨σ0, n0, w0⟩ := hW0
    exact fun a q1 q2 => w0.2.2.1 a q1
  refine vx_throwSW (A := qz G) hx hb hst hown hcls hnames (hts _ w1) (hts _ w2) (by rw [how]; exact hsa) (fun w hw => ?_) hgood (vx_Zq.kept h7 hk) (vx_Zq.kept h8 hk) hS (by rw [hml]; exact hl.1) d0 d3 d4 d7 d10 (by rw [htb, ht]; exact fun x hx => nomatch hx) hRf hRl hRc hRs hlk (fun t hA hz hq => ⟨rfl, ⟨fun m hm => (by cases hm), Nat.le_trans hW.2.1 hz, fun q h => (hq q (Nat.lt_of_lt_of_le h hW.2.1)).trans (hW.2.2.1 q h), ?_, hW.2.2.2.2⟩, Nat.le_trans hS.1 hz⟩) hS.2.2 hk2 hj2
  · rcases hat w hw with h | h
    · exact hts w h
    · have hg := (List.mem_filter.mp h).2
      simp only [Bool.and_eq_true] at hg
      exact va_Nw.use hg.1 (h4 w h)
  · obtain ⟨ws, hP, hD, hc⟩ := hW.2.2.2.1
    exact ⟨ws, hP.kept (fun k q hk => hq q.1 (hP k q hk).lt), hD, hc⟩
end QV
