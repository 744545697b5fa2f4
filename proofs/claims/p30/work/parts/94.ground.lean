/-! Layer 3: what the Statement gives of the law's start: the static arrays' contents, the tables' words, the ground qG. -/
theorem k3_eq {args : Array Value} {s : State} {t : Term} {v : Int32} (h : (Cond.eq t (.int v)).before args s = true) : t.eval args s none [] s = some (.int v) := by
  have h := Cond.before_iff.mp h
  simp only [Cond.value, Term.int_eval] at h
  cases ht : t.eval args s none [] s with
  | none => simp [ht] at h
  | some w =>
    rw [ht] at h
    cases w <;> simp at h
    rw [h]
/-- an int array that a term names, by what is said of its length and of each of its ints -/
theorem k3_arr {args : Array Value} {s : State} {t : Term} (F : List Int32) (hN : F.length < 2 ^ 31) (ha : (Cond.arrayOf t .int).before args s = true) (hl : (Cond.eq (.length t) (.int (nI F.length))).before args s = true)
    (he : ∀ j, j < F.length → (Cond.eq (.elem t (.int (nI j))) (.int (F.getD j 0))).before args s = true) : ∃ a : Nat, t.eval args s none [] s = some (.ref a) ∧ a < s.heap.size ∧ va_X a F.length (fun j => F.getD j 0) s s.heap := by
  have h1 := k3_eq hl
  obtain ⟨a, cell, ht, hc, hv⟩ := Term.length_spec h1
  obtain ⟨hcb, hkn, -, -⟩ := State.arrayAt?_spec hc
  have hsm : cell.slots.size < 2 ^ 31 := by
    refine Classical.byContradiction fun hn => ?_
    have hn : ¬ cell.slots.size < 2147483648 := hn
    simp [Term.eval, ht, hc, hn] at h1
  have hv : nI F.length = nI cell.slots.size := by
    have := hv
    simp only [Value.int.injEq] at this
    exact this
  have hsz : cell.slots.size = F.length := by
    have e := congrArg Int32.toNatClampNeg hv
    rw [nI_clamp hN, nI_clamp hsm] at e
    exact e.symm
  have hbl : a < s.heap.size := (Array.getElem?_eq_some_iff.mp hcb).1
  refine ⟨a, ht, hbl, cell, hcb, (Cond.arrayOf_spec (first := s) (o := none) (idx := []) ha ht hcb).1, hkn, hsz, fun j hj => ?_⟩
  obtain ⟨a', j', cell', e1, e2, e3, -, e4⟩ := Term.elem_spec (k3_eq (he j hj))
  have ea : a' = a := by have := e1.symm.trans ht; simpa using this
  subst ea
  have ec : cell' = cell := Option.some.inj (e3.symm.trans hc)
  subst ec
  have ej : j' = nI j := by
    have := e2.symm.trans (Term.int_eval (args := args) (first := s) (o := none) (idx := []) (s := s) (nI j))
    simpa using this
  subst ej
  rw [nI_clamp (by omega)] at e4
  exact e4
/-- the arrays that nobody writes, at the law's entry -/
noncomputable def k3_ro (s : State) (a : Nat) : Option (Nat × (Nat → Int32)) :=
  @dite _ (∃ x : Nat × (Nat → Int32), va_X a x.1 x.2 s s.heap) (Classical.propDecidable _) (fun h => some (Classical.choose h)) (fun _ => none)
theorem k3_ro_spec {s : State} {a m : Nat} {f : Nat → Int32} (h : k3_ro s a = some (m, f)) : va_X a m f s s.heap := by
  unfold k3_ro at h
  split at h
  · rename_i hx
    have e := Option.some.inj h
    have := Classical.choose_spec hx
    rw [e] at this
    exact this
  · cases h
theorem k3_ro_of {s : State} {a m : Nat} {f : Nat → Int32} (h : va_X a m f s s.heap) : ∃ g : Nat → Int32, k3_ro s a = some (m, g) ∧ ∀ j, j < m → g j = f j := by
  have hx : ∃ x : Nat × (Nat → Int32), va_X a x.1 x.2 s s.heap := ⟨(m, f), h⟩
  have e : k3_ro s a = some (Classical.choose hx) := by unfold k3_ro; rw [dif_pos hx]
  obtain ⟨c1, q1, -, -, q4, q5⟩ := Classical.choose_spec hx
  obtain ⟨c2, r1, -, -, r4, r5⟩ := h
  have ec : c1 = c2 := Option.some.inj (q1.symm.trans r1)
  subst ec
  have em : (Classical.choose hx).1 = m := q4.symm.trans r4
  refine ⟨(Classical.choose hx).2, by rw [e, ← em], fun j hj => ?_⟩
  have := (q5 j (by rw [em]; exact hj)).symm.trans (r5 j hj)
  simpa using this
/-- the abstract heap at the law's entry -/
noncomputable def k3_h (s : State) : qH := fun a => (k3_ro s a).map (fun x => .inl (4, (x.1, .inl x.2)))
theorem k3_h_of {s : State} {a m : Nat} {f : Nat → Int32} (h : va_X a m f s s.heap) : ∃ g : Nat → Int32, k3_h s a = some (.inl (4, (m, .inl g))) ∧ ∀ j, j < m → g j = f j := by
  obtain ⟨g, h1, h2⟩ := k3_ro_of h
  exact ⟨g, by unfold k3_h; rw [h1]; rfl, h2⟩
/-- the heap at the entry holds it -/
theorem k3_W {s : State} {G : qG} (h1 : G.2.2.1 = s.heap) (h2 : G.2.2.2.2 = k3_ro s) : qW G (k3_h s) (some s.heap.size) s.heap := by
  refine ⟨fun m e => by cases e; rfl, by rw [h1]; exact Nat.le_refl _, fun q _ => by rw [h1], ⟨[], fun k q h => by simp at h, ⟨fun i j p q h => by simp at h, fun k q h => by simp at h⟩, fun a e ha hro => ?_⟩, fun a x ha => ?_⟩
  · unfold k3_h at ha
    cases hr : k3_ro s a with
    | none => rw [hr] at ha; cases ha
    | some y =>
      rw [hr] at ha
      have e1 := Option.some.inj ha
      subst e1
      cases hro
  · unfold k3_h at ha
    cases hr : k3_ro s a with
    | none => rw [hr] at ha; cases ha
    | some y =>
      rw [hr] at ha
      have e1 := Option.some.inj ha
      have e2 : (y.1, Sum.inl y.2) = x := by
        have := Sum.inl.inj e1
        exact (Prod.mk.inj this).2
      obtain ⟨scr, hq, -⟩ := k3_ro_spec (m := y.1) (f := y.2) hr
      exact ⟨y.1, y.2, e2.symm, by rw [h1]; exact (Array.getElem?_eq_some_iff.mp hq).1, by rw [h2]; exact hr⟩
/-- a message: the string that the entry holds -/
theorem k3_txt {args : Array Value} {s : State} {own tx : String} {k : Nat} (h : (Cond.stringRef own k tx).before args s = true) : ∃ sa : Nat, vk_R own k tx sa s := by
  have h0 := h
  simp only [Cond.before, Cond.holds, Cond.value] at h
  cases hc : s.vm.findClass own with
  | none => simp [hc] at h
  | some c =>
    have hev : (Term.string own k).eval args s none [] s = (s.resolvedAt? own k).bind (fun r => match r with | .string a => some (.ref a) | _ => none) := by
      simp only [Term.eval, State.resolvedAt?, hc, Option.bind_eq_bind, Option.bind_some]
      cases s.vm.classes[c]? with
      | none => rfl
      | some kk =>
        simp only [Option.bind_some]
        cases (kk.resolved[k]?).join with
        | none => rfl
        | some r => cases r <;> rfl
    cases hr : s.resolvedAt? own k with
    | none => simp [hc, hr] at h
    | some r =>
      cases r <;> simp [hc, hr] at h
      rename_i a
      exact ⟨a, vk_R.of h0 (by rw [hev, hr]; rfl)⟩
theorem k3_gt {args : Array Value} {s : State} (hts : ∀ w ∈ lw_tbl, w.before args s = true) {w : Cond} (h : w ∈ lw_good) : w.before args s = true := hts w (List.mem_filter.mp h).1
theorem k3_ac {args : Array Value} {s : State} {ty : FieldType} (h : (Cond.arrayClass ty).before args s = true) : ∃ cA : ClassId, ArrOfT s cA ty ∧ s.vm.findClass ("[" ++ ty.toString) = some cA := by
  obtain ⟨c, k, comp, h1, h2, h3⟩ := Cond.arrayClass_spec (first := s) (o := none) (idx := []) h
  exact ⟨c, fun N z => ⟨(fun k h => by cases h), k, h2, comp, h3⟩, h1⟩
theorem k3_ao {args : Array Value} {s : State} {C : String} (h : (Cond.arrayOver (.object C)).before args s = true) : ∃ cA : ClassId, ArrOfT s cA (.object C) ∧ va_RA s cA (.object C) := by
  obtain ⟨comp, c, k, h1, -, h3, h4, h5⟩ := Cond.arrayOver_spec (first := s) (o := none) (idx := []) h
  exact ⟨c, fun N z => ⟨(fun k h => by cases h), k, h3, comp, h4⟩, k, comp, h3, h4, h1, h5⟩
/-- classes and slots -/
theorem k3_cl {args : Array Value} {s : State} (hts : ∀ w ∈ lw_tbl, w.before args s = true) : ∃ D : va_G, ∀ (c : Nat) (q : vw_C), vwCl[c]? = some q → u_Kn s q.1 q.2.1 q.2.2 (D.1 c) (D.2 c) := by
  have hg : ∀ w ∈ lw_good, w.before args s = true := fun w hw => k3_gt hts hw
  obtain ⟨c0, i0, K0⟩ := u_known (n := 4) hg inX0 (hg _ wd_132)
  obtain ⟨c1, i1, K1⟩ := u_known (n := 3) hg inX1 (hg _ wd_91)
  obtain ⟨c2, i2, K2⟩ := u_known (n := 11) hg inX2 (hg _ wd_42)
  obtain ⟨c5, i5, K5⟩ := u_known (n := 5) hg inX5 (hg _ wd_110)
  obtain ⟨c6, i6, K6⟩ := u_known (n := 7) hg inX6 (hg _ wd_34)
  refine ⟨(fun k => [c0, c1, c2, c5, c6].getD k 0, fun k => [i0, i1, i2, i5, i6].getD k i0), fun c q hq => ?_⟩
  rcases (show c = 0 ∨ c = 1 ∨ c = 2 ∨ c = 3 ∨ c = 4 ∨ 5 ≤ c by omega) with rfl | rfl | rfl | rfl | rfl | h
  · cases hq; exact K0
  · cases hq; exact K1
  · cases hq; exact K2
  · cases hq; exact K5
  · cases hq; exact K6
  · rw [List.getElem?_eq_none (show [(RX0, TX0, 4), (RX1, TX1, 3), (RX2, TX2, 11), (RX5, TX5, 5), (RX6, TX6, 7)].length ≤ c from h)] at hq
    cases hq
