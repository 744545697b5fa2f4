section QY
variable {l : Launch} {G : qG} {own nm : String} {cc : ByteArray} {nL : Nat} {rt : Option FieldType} {tab : List ExceptionTableEntry} {R : Room} {mc ms : Nat} {r : qR} {k j : Nat} {σ σ' : qH} {n : Option Nat} {pc : Nat} {ls : List (Nat × Value)} {st : List Value}
theorem x_get {a ci index N : Nat} {C : String} {T : u_T} {v : Value} {fs : List Value} (pc2 i : Nat) (hin : ∀ w ∈ u_ws C T N, w ∈ lw_good) (hc : vwCl[ci]? = some (C, T, N)) (hi : i < N) (hw : Cond.fieldLink own index (T i).1 (T i).2.1 (T i).2.2.1 ∈ lw_good) (h1 : σ a = some (.inr (ci, fs))) (h2 : fs[i]? = some v)
    (d : decode cc pc = .ok (.getfield index, 3)) (hp : pc + 3 = pc2) (kk : qX l G own nm cc nL rt tab R mc ms r k j σ n pc2 ls (v :: st)) : qX l G own nm cc nL rt tab R mc ms r k j σ n pc ls (.ref a :: st) := by
  subst hp
  intro p e s m args below meth c hx hb hml hr hn hown hts hlk htb hT hst hW0 H locs arr hS hW hl
  exact va_get (D := G.1) (cl := vwCl) (tys := qtys G) hx hb hts hin hown hT.1 (qW_at hW h1 rfl) 0 rfl hc i hi (hts _ hw) (fun _ h => h) h2 d (kk p e s m args below meth c hx hb hml hr hn hown hts hlk htb hT hst hW0 H locs arr hS hW hl)
theorem x_getI {a ci index N : Nat} {C : String} {T : u_T} {v : Int32} (pc2 i : Nat) (hin : ∀ w ∈ u_ws C T N, w ∈ lw_good) (hc : vwCl[ci]? = some (C, T, N)) (hi : i < N) (hw : Cond.fieldLink own index (T i).1 (T i).2.1 (T i).2.2.1 ∈ lw_good) (h : gI σ a ci i = some v)
    (d : decode cc pc = .ok (.getfield index, 3)) (hp : pc + 3 = pc2) (kk : qX l G own nm cc nL rt tab R mc ms r k j σ n pc2 ls (.int v :: st)) : qX l G own nm cc nL rt tab R mc ms r k j σ n pc ls (.ref a :: st) := by
  obtain ⟨fs, h1, h2⟩ := gI_inv h
  exact x_get pc2 i hin hc hi hw h1 h2 d hp kk
theorem x_getR {a ci index N : Nat} {C : String} {T : u_T} {v : Nat} (pc2 i : Nat) (hin : ∀ w ∈ u_ws C T N, w ∈ lw_good) (hc : vwCl[ci]? = some (C, T, N)) (hi : i < N) (hw : Cond.fieldLink own index (T i).1 (T i).2.1 (T i).2.2.1 ∈ lw_good) (h : gR σ a ci i = some v)
    (d : decode cc pc = .ok (.getfield index, 3)) (hp : pc + 3 = pc2) (kk : qX l G own nm cc nL rt tab R mc ms r k j σ n pc2 ls (.ref v :: st)) : qX l G own nm cc nL rt tab R mc ms r k j σ n pc ls (.ref a :: st) := by
  obtain ⟨fs, h1, h2⟩ := gR_inv h
  exact x_get pc2 i hin hc hi hw h1 h2 d hp kk
/-- a field is written: outside the constructor no final one -/
theorem x_put {a ci index N : Nat} {C : String} {T : u_T} {v : Value} {ty : FieldType} (pc2 i : Nat) (hin : ∀ w ∈ u_ws C T N, w ∈ lw_good) (ty0 : Nat → FieldType) (hty : ∀ k, k < N → parseFieldDescriptor (T k).2.2.1 = some (ty0 k)) (hnm : ∀ a, a < N → ∀ b, b < N → a ≠ b → (T a).2.1 ≠ (T b).2.1) (hc : vwCl[ci]? = some (C, T, N)) (hi : i < N) (hw : Cond.fieldLink own index (T i).1 (T i).2.1 (T i).2.2.1 ∈ lw_good) (hfin : (T i).2.2.2 = false) (hd : parseFieldDescriptor (T i).2.2.1 = some ty) (hnw : narrow ty v = v) (hfit : fits ty v = true) (h : gP σ a ci i v = some σ')
    (d : decode cc pc = .ok (.putfield index, 3)) (hp : pc + 3 = pc2) (kk : qX l G own nm cc nL rt tab R mc ms r k j σ' n pc2 ls st) : qX l G own nm cc nL rt tab R mc ms r k j σ n pc ls (v :: .ref a :: st) := by
  subst hp
  obtain ⟨fs, h1, hl0, rfl⟩ := gP_inv h
  intro p e s m args below meth c hx hb hml hr hn hown hts hlk htb hT hst hW0 H locs arr hS hW hl
  have hap := va_apart (own := own) hts hin ty0 hty hnm hT.1 hc
  obtain ⟨rr, h1b, cell, q1, q2, q3, q4⟩ := (qW_at hW h1 rfl) 0 _ rfl
  have hr2 : rr = (C, T, N) := Option.some.inj (h1b.symm.trans hc)
  subst hr2
  obtain ⟨hS2, hfc, kC, hkC, hkind⟩ := hT.1.1 ci _ hc
  obtain ⟨cf, kf, fi, f, hif, hsl⟩ := hS2 i hi
  have hlay := hts _ (hin _ (u_in_lay hi))
  unfold u_lay at hlay
  rw [if_neg (by rw [hfin]; decide)] at hlay
  have hst2 := (u_facts hfc hkC (u_lays hts hin hi) hif).1
  have h6 := u_store hfc hkC hkind hlay hif hd hnw hfit
  refine W.putK hx hb (f := f) ⟨hown, hts _ hw, ⟨_, _, _, hif⟩, hst2⟩ (by rw [q2]; exact h6) q1 q3 (by rw [hsl]; exact k2_hasslot (q4 i hi)) rfl rfl d fun H' e1 e2 e3 => ?_
  rw [hsl] at e1 ⊢
  obtain ⟨g1, g2⟩ := qW_put (e := .inr (ci, fs.set i v)) hW h1 rfl rfl ⟨_, hc, t_OB.to (V := updV (vp_V fs) i v) ⟨_, e1, q2, q3, t_set q4 hap hi v⟩ (fun j _ => vp_updV_set hl0 v j)⟩ e2 e3
  exact kk p e s m args below meth c hx hb hml hr hn hown hts hlk htb hT hst hW0 H' _ arr (hS.put e2 e3 g2) g1 hl
/-- a final field, in its class's constructor -/
theorem x_putF {a ci index N : Nat} {C : String} {T : u_T} {v : Value} {ty : FieldType} (pc2 i : Nat) (hin : ∀ w ∈ u_ws C T N, w ∈ lw_good) (ty0 : Nat → FieldType) (hty : ∀ k, k < N → parseFieldDescriptor (T k).2.2.1 = some (ty0 k)) (hnm : ∀ a, a < N → ∀ b, b < N → a ≠ b → (T a).2.1 ≠ (T b).2.1) (hc : vwCl[ci]? = some (C, T, N)) (hi : i < N) (hw : Cond.fieldLink own index (T i).1 (T i).2.1 (T i).2.2.1 ∈ lw_good) (hfin : (T i).2.2.2 = true) (hnm2 : nm = "<init>") (hdecl : (T i).1 = own) (hd : parseFieldDescriptor (T i).2.2.1 = some ty) (hnw : narrow ty v = v) (hfit : fits ty v = true) (h : gP σ a ci i v = some σ')
    (d : decode cc pc = .ok (.putfield index, 3)) (hp : pc + 3 = pc2) (kk : qX l G own nm cc nL rt tab R mc ms r k j σ' n pc2 ls st) : qX l G own nm cc nL rt tab R mc ms r k j σ n pc ls (v :: .ref a :: st) := by
  subst hp
  obtain ⟨fs, h1, hl0, rfl⟩ := gP_inv h
  intro p e s m args below meth c hx hb hml hr hn hown hts hlk htb hT hst hW0 H locs arr hS hW hl
  have hap := va_apart (own := own) hts hin ty0 hty hnm hT.1 hc
  obtain ⟨rr, h1b, cell, q1, q2, q3, q4⟩ := (qW_at hW h1 rfl) 0 _ rfl
  have hr2 : rr = (C, T, N) := Option.some.inj (h1b.symm.trans hc)
  subst hr2
  obtain ⟨hS2, hfc, kC, hkC, hkind⟩ := hT.1.1 ci _ hc
  obtain ⟨cf, kf, fi, f, hif, hsl⟩ := hS2 i hi
  have hlay := hts _ (hin _ (u_in_lay hi))
  unfold u_lay at hlay
  rw [if_pos hfin] at hlay
  have hst2 := (u_facts hfc hkC (u_lays hts hin hi) hif).1
  have hcf : m.cls = cf := by
    obtain ⟨_, _, c', _, _, _, -, -, hf', -, -, -, hown2, -⟩ := Cond.laysFinal_spec hlay
    have e1 : c' = cf := by have := hif.symm.trans hf'; simp at this; exact this.1.symm
    rw [hdecl] at hown2
    rw [← e1]; exact Option.some.inj (hown.symm.trans hown2)
  have h6 := u_fits hfc hkC hkind (Or.inr hlay) hif hd hnw hfit
  refine W.putFinK hx hb hown (hts _ hw) hif hst2 hcf (hn.trans hnm2) (by rw [q2]; exact h6) q1 q3 (by rw [hsl]; exact k2_hasslot (q4 i hi)) rfl rfl d fun H' e1 e2 e3 => ?_
  rw [hsl] at e1 ⊢
  obtain ⟨g1, g2⟩ := qW_put (e := .inr (ci, fs.set i v)) hW h1 rfl rfl ⟨_, hc, t_OB.to (V := updV (vp_V fs) i v) ⟨_, e1, q2, q3, t_set q4 hap hi v⟩ (fun j _ => vp_updV_set hl0 v j)⟩ e2 e3
  exact kk p e s m args below meth c hx hb hml hr hn hown hts hlk htb hT hst hW0 H' _ arr (hS.put e2 e3 g2) g1 hl
theorem x_aI {a : Nat} {q v : Int32} (pc2 : Nat) (h : aI σ a q = some v) (d : decode cc pc = .ok (.iaload, 1)) (hp : pc + 1 = pc2) (kk : qX l G own nm cc nL rt tab R mc ms r k j σ n pc2 ls (.int v :: st)) : qX l G own nm cc nL rt tab R mc ms r k j σ n pc ls (.int q :: .ref a :: st) := by
  subst hp
  obtain ⟨k0, n0, f, h1, h2, h3, rfl⟩ := aI_inv h
  intro p e s m args below meth c hx hb hml hr hn hown hts hlk htb hT hst hW0 H locs arr hS hW hl
  rcases h2 with rfl | rfl
  · exact va_iald (D := G.1) (cl := vwCl) (tys := qtys G) hx hb hT.1 (qW_at hW h1 rfl) 0 0 rfl rfl h3 d (kk p e s m args below meth c hx hb hml hr hn hown hts hlk htb hT hst hW0 H locs arr hS hW hl)
  · obtain ⟨m0, f0, e0, e1, e2⟩ := hW.2.2.2.2 a _ h1
    cases e0
    exact va_sld (A := qz G) (H0 := G.2.2.1) hx hb (hT.2.2.1 a _ _ e2) e1 (Nat.not_le.mpr e1) ⟨hW.2.1, fun q z4 z5 => hW.2.2.1 q z4, hS.2.2⟩ h3 d (kk p e s m args below meth c hx hb hml hr hn hown hts hlk htb hT hst hW0 H locs arr hS hW hl)
theorem x_aZ {a : Nat} {q v : Int32} (pc2 : Nat) (h : aZ σ a q = some v) (d : decode cc pc = .ok (.baload, 1)) (hp : pc + 1 = pc2) (kk : qX l G own nm cc nL rt tab R mc ms r k j σ n pc2 ls (.int v :: st)) : qX l G own nm cc nL rt tab R mc ms r k j σ n pc ls (.int q :: .ref a :: st) := by
  subst hp
  obtain ⟨n0, f, h1, h3, rfl⟩ := aZ_inv h
  intro p e s m args below meth c hx hb hml hr hn hown hts hlk htb hT hst hW0 H locs arr hS hW hl
  exact va_zald (D := G.1) (cl := vwCl) (tys := qtys G) hx hb hT.1 (qW_at hW h1 rfl) 0 1 rfl rfl h3 d (kk p e s m args below meth c hx hb hml hr hn hown hts hlk htb hT hst hW0 H locs arr hS hW hl)
theorem x_aQ {a : Nat} {q : Int32} {v : Nat} (pc2 : Nat) (h : aQ σ a q = some v) (d : decode cc pc = .ok (.aaload, 1)) (hp : pc + 1 = pc2) (kk : qX l G own nm cc nL rt tab R mc ms r k j σ n pc2 ls (.ref v :: st)) : qX l G own nm cc nL rt tab R mc ms r k j σ n pc ls (.int q :: .ref a :: st) := by
  subst hp
  obtain ⟨n0, f, h1, h3, h4⟩ := aQ_inv h
  intro p e s m args below meth c hx hb hml hr hn hown hts hlk htb hT hst hW0 H locs arr hS hW hl
  refine va_aldq (D := G.1) (cl := vwCl) (tys := qtys G) hx hb hT.1 (qW_at hW h1 rfl) 0 2 rfl rfl h3 d ?_
  rw [h4]
  exact kk p e s m args below meth c hx hb hml hr hn hown hts hlk htb hT hst hW0 H locs arr hS hW hl
theorem x_aL {a : Nat} {v : Int32} (pc2 : Nat) (h : aL σ a = some v) (d : decode cc pc = .ok (.arraylength, 1)) (hp : pc + 1 = pc2) (kk : qX l G own nm cc nL rt tab R mc ms r k j σ n pc2 ls (.int v :: st)) : qX l G own nm cc nL rt tab R mc ms r k j σ n pc ls (.ref a :: st) := by
  subst hp
  obtain ⟨k0, x, h1, h2, rfl⟩ := aL_inv h
  intro p e s m args below meth c hx hb hml hr hn hown hts hlk htb hT hst hW0 H locs arr hS hW hl
  have K := kk p e s m args below meth c hx hb hml hr hn hown hts hlk htb hT hst hW0 H locs arr hS hW hl
  rcases (show k0 = 0 ∨ k0 = 1 ∨ k0 = 2 ∨ k0 = 3 ∨ k0 = 4 by omega) with rfl | rfl | rfl | rfl | rfl
  · exact va_alen (D := G.1) (cl := vwCl) (tys := qtys G) hx hb hT.1 (qW_at hW h1 rfl) 0 0 rfl rfl rfl d K
  · exact va_alen (D := G.1) (cl := vwCl) (tys := qtys G) hx hb hT.1 (qW_at hW h1 rfl) 0 1 rfl rfl rfl d K
  · exact va_alen (D := G.1) (cl := vwCl) (tys := qtys G) hx hb hT.1 (qW_at hW h1 rfl) 0 2 rfl rfl rfl d K
  · exact va_alen (D := G.1) (cl := vwCl) (tys := qtys G) hx hb hT.1 (qW_at hW h1 rfl) 0 3 rfl rfl rfl d K
  · obtain ⟨m0, f0, e0, e1, e2⟩ := hW.2.2.2.2 a _ h1
    subst e0
    exact va_slen (A := qz G) (H0 := G.2.2.1) hx hb (hT.2.2.1 a _ _ e2) e1 (Nat.not_le.mpr e1) ⟨hW.2.1, fun q z4 z5 => hW.2.2.1 q z4, hS.2.2⟩ d K
theorem x_sI {a : Nat} {q v : Int32} (pc2 : Nat) (h : sI σ a q v = some σ') (d : decode cc pc = .ok (.iastore, 1)) (hp : pc + 1 = pc2) (kk : qX l G own nm cc nL rt tab R mc ms r k j σ' n pc2 ls st) : qX l G own nm cc nL rt tab R mc ms r k j σ n pc ls (.int v :: .int q :: .ref a :: st) := by
  subst hp
  obtain ⟨n0, f, h1, h3, rfl⟩ := sI_inv h
  intro p e s m args below meth c hx hb hml hr hn hown hts hlk htb hT hst hW0 H locs arr hS hW hl
  have hP := qW_at hW h1 rfl
  refine W.iast hx hb (hP 0 _ rfl) ((hT.1.2 0 _ rfl).1 n0 (fun j => .int (f j))) (fun q => by cases q) (by show ¬ (q < 0 ∨ (arrV _ _ _).slots.size ≤ _); rw [arrV_size]; exact h3) rfl rfl d fun H1 e1 z oq => ?_
  obtain ⟨g1, g2⟩ := qW_put (e := .inl (0, (n0, .inl (upd f q.toNatClampNeg v)))) hW h1 rfl rfl (by
    show H1[a]? = some (vp_cell _ _)
    rw [e1]
    show some ((vp_cell _ _).setSlot _ _) = _
    rw [vp_cell_i, vp_cell_i, arrV_store]
    congr 2
    funext i
    by_cases hi : i = q.toNatClampNeg
    · subst hi
      simp [updV, upd]
    · simp [updV, upd, hi]) z oq
  exact kk p e s m args below meth c hx hb hml hr hn hown hts hlk htb hT hst hW0 H1 _ arr (hS.put z oq g2) g1 hl
theorem x_sZ {a : Nat} {q v : Int32} (pc2 : Nat) (h : sZ σ a q v = some σ') (d : decode cc pc = .ok (.bastore, 1)) (hp : pc + 1 = pc2) (kk : qX l G own nm cc nL rt tab R mc ms r k j σ' n pc2 ls st) : qX l G own nm cc nL rt tab R mc ms r k j σ n pc ls (.int v :: .int q :: .ref a :: st) := by
  subst hp
  obtain ⟨n0, f, h1, h3, rfl⟩ := sZ_inv h
  intro p e s m args below meth c hx hb hml hr hn hown hts hlk htb hT hst hW0 H locs arr hS hW hl
  have hP := qW_at hW h1 rfl
  refine W.zast hx hb (hP 0 _ rfl) ((hT.1.2 1 _ rfl).1 n0 (fun j => .int (f j))) (fun q => by cases q) (by show ¬ (q < 0 ∨ (arrV _ _ _).slots.size ≤ _); rw [arrV_size]; exact h3) rfl rfl d fun H1 e1 z oq => ?_
  obtain ⟨g1, g2⟩ := qW_put (e := .inl (1, (n0, .inl (upd f q.toNatClampNeg (vp_nar .boolean v))))) hW h1 rfl rfl (by
    show H1[a]? = some (vp_cell _ _)
    rw [e1]
    show some ((vp_cell _ _).setSlot _ _) = _
    rw [vp_cell_i, vp_cell_i, arrV_store]
    congr 2
    funext i
    by_cases hi : i = q.toNatClampNeg
    · subst hi
      simp [updV, upd, vp_nar]
      try rfl
    · simp [updV, upd, hi]) z oq
  exact kk p e s m args below meth c hx hb hml hr hn hown hts hlk htb hT hst hW0 H1 _ arr (hS.put z oq g2) g1 hl
theorem x_sQ {a v : Nat} {q : Int32} (pc2 : Nat) (h : sQ σ a q v = some σ') (d : decode cc pc = .ok (.aastore, 1)) (hp : pc + 1 = pc2) (kk : qX l G own nm cc nL rt tab R mc ms r k j σ' n pc2 ls st) : qX l G own nm cc nL rt tab R mc ms r k j σ n pc ls (.ref v :: .int q :: .ref a :: st) := by
  subst hp
  obtain ⟨n0, f, vs, h1, h1v, h3, rfl⟩ := sQ_inv h
  intro p e s m args below meth c hx hb hml hr hn hown hts hlk htb hT hst hW0 H locs arr hS hW hl
  have hP := qW_at hW h1 rfl
  have hPv := qW_at hW h1v rfl
  have hlt : q.toNatClampNeg < n0 := Nat.not_le.mp fun z => h3 (Or.inr z)
  have h0 : ¬ q < 0 := fun z => h3 (Or.inl z)
  obtain ⟨r', hr', cellV, g1, g2, g3, -⟩ := hPv 0 _ rfl
  have hcls := (hT.1.1 2 (RX2, TX2, 11) rfl).2
  obtain ⟨kA, comp, k1, k2, k3, -⟩ := (hT.1.2 2 _ rfl).2
  have hcomp : comp = G.1.1 2 := Option.some.inj (k3.symm.trans hcls.1)
  subst hcomp
  obtain ⟨kC, hkC, -⟩ := hcls.2
  refine W.aast hx hb (hP 0 _ rfl) (fun q h => by cases h) (fun h => by cases h) k1 k2 rfl hkC ⟨h0, by show _ < (arrV _ _ _).slots.size; rw [arrV_size]; exact hlt⟩ g1 (fun q h => by rw [g3] at h; cases h) (by rw [g2]; exact hkC) (by rw [g2]; exact va_assign hcls) rfl rfl d fun H1 e1 z oq => ?_
  obtain ⟨y1, y2⟩ := qW_put (e := .inl (2, (n0, .inr (.inr (.inr (.inr (va_up f q.toNatClampNeg (some v)))))))) hW h1 rfl rfl (by
    show H1[a]? = some (vp_cell _ _)
    rw [e1]
    show some ((vp_cell _ _).setSlot _ _) = _
    rw [vp_cell_q, vp_cell_q, arrV_store]
    congr 2
    funext i
    by_cases hi : i = q.toNatClampNeg
    · subst hi
      simp [updV, va_up, va_rf]
    · simp [updV, va_up, hi]) z oq
  exact kk p e s m args below meth c hx hb hml hr hn hown hts hlk htb hT hst hW0 H1 _ arr (hS.put z oq y2) y1 hl
end QY
