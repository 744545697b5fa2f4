/-! What a method's function over the abstract heap may do; each has a row of the walk. -/
abbrev qin (j : Int32) (n : Nat) : Prop := ¬ (j < 0 ∨ n ≤ j.toNatClampNeg)
def gI (σ : qH) (a ci i : Nat) : Option Int32 := match σ a with
  | some (.inr (c, fs)) => if c = ci then (match fs[i]? with | some (.int v) => some v | _ => none) else none
  | _ => none
def gR (σ : qH) (a ci i : Nat) : Option Nat := match σ a with
  | some (.inr (c, fs)) => if c = ci then (match fs[i]? with | some (.ref v) => some v | _ => none) else none
  | _ => none
def gP (σ : qH) (a ci i : Nat) (v : Value) : Option qH := match σ a with
  | some (.inr (c, fs)) => if c = ci ∧ i < fs.length then some (qU σ a (.inr (ci, fs.set i v))) else none
  | _ => none
def aI (σ : qH) (a : Nat) (j : Int32) : Option Int32 := match σ a with
  | some (.inl (k, (n, .inl f))) => if (k = 0 ∨ k = 4) ∧ qin j n then some (f j.toNatClampNeg) else none
  | _ => none
def aZ (σ : qH) (a : Nat) (j : Int32) : Option Int32 := match σ a with
  | some (.inl (k, (n, .inl f))) => if k = 1 ∧ qin j n then some (f j.toNatClampNeg) else none
  | _ => none
def aJ (σ : qH) (a : Nat) (j : Int32) : Option Int64 := match σ a with
  | some (.inl (k, (n, .inr (.inl f)))) => if k = 3 ∧ qin j n then some (f j.toNatClampNeg) else none
  | _ => none
def aQ (σ : qH) (a : Nat) (j : Int32) : Option Nat := match σ a with
  | some (.inl (k, (n, .inr (.inr (.inr (.inr f)))))) => if k = 2 ∧ qin j n then f j.toNatClampNeg else none
  | _ => none
def aL (σ : qH) (a : Nat) : Option Int32 := match σ a with
  | some (.inl (k, (n, _))) => if k < 5 then some (Int32.ofNat n) else none
  | _ => none
def sI (σ : qH) (a : Nat) (j x : Int32) : Option qH := match σ a with
  | some (.inl (k, (n, .inl f))) => if k = 0 ∧ qin j n then some (qU σ a (.inl (0, (n, .inl (upd f j.toNatClampNeg x))))) else none
  | _ => none
def sZ (σ : qH) (a : Nat) (j x : Int32) : Option qH := match σ a with
  | some (.inl (k, (n, .inl f))) => if k = 1 ∧ qin j n then some (qU σ a (.inl (1, (n, .inl (upd f j.toNatClampNeg (vp_nar .boolean x)))))) else none
  | _ => none
def sJ (σ : qH) (a : Nat) (j : Int32) (x : Int64) : Option qH := match σ a with
  | some (.inl (k, (n, .inr (.inl f)))) => if k = 3 ∧ qin j n then some (qU σ a (.inl (3, (n, .inr (.inl (vp_updL f j.toNatClampNeg x)))))) else none
  | _ => none
def sQ (σ : qH) (a : Nat) (j : Int32) (v : Nat) : Option qH := match σ a, σ v with
  | some (.inl (k, (n, .inr (.inr (.inr (.inr f)))))), some (.inr (c, _)) => if (k = 2 ∧ c = 2) ∧ qin j n then some (qU σ a (.inl (2, (n, .inr (.inr (.inr (.inr (va_up f j.toNatClampNeg (some v))))))))) else none
  | _, _ => none
/-- System.arraycopy of ints -/
def sC (σ : qH) (a : Nat) (sp : Int32) (b : Nat) (dp n : Int32) : Option qH := match σ a, σ b with
  | some (.inl (k0, (n0, .inl f))), some (.inl (k1, (n1, .inl g))) => if (k0 = 0 ∧ k1 = 0) ∧ (¬ sp < 0 ∧ ¬ dp < 0 ∧ ¬ n < 0) ∧ sp.toNatClampNeg + n.toNatClampNeg ≤ n0 ∧ dp.toNatClampNeg + n.toNatClampNeg ≤ n1 then some (qU σ b (.inl (0, (n1, .inl (va_cpy f g sp.toNatClampNeg dp.toNatClampNeg n.toNatClampNeg))))) else none
  | _, _ => none
def b1 {α β : Type} (o : Option α) (f : α → Option β) : Option β := match o with
  | some a => f a
  | none => none
/-- a step that may throw -/
def bx {α β : Type} (o : Option (α ⊕ String)) (f : α → Option (β ⊕ String)) : Option (β ⊕ String) := match o with
  | some (.inl a) => f a
  | some (.inr e) => some (.inr e)
  | none => none
def qfuel : Nat := 100000
theorem b1_inv {α β : Type} {o : Option α} {f : α → Option β} {r : β} (h : b1 o f = some r) : ∃ a, o = some a ∧ f a = some r := by
  cases o with
  | none => cases h
  | some a => exact ⟨a, rfl, h⟩
theorem bx_inv {α β : Type} {o : Option (α ⊕ String)} {f : α → Option (β ⊕ String)} {r : β ⊕ String} (h : bx o f = some r) : (∃ a, o = some (.inl a) ∧ f a = some r) ∨ (∃ e, o = some (.inr e) ∧ r = .inr e) := by
  match o, h with
  | some (.inl a), h => exact Or.inl ⟨a, rfl, h⟩
  | some (.inr e), h => exact Or.inr ⟨e, rfl, (Option.some.inj h).symm⟩
theorem ite_inv {α : Type} {c : Prop} [Decidable c] {x y : Option α} {r : α} (h : (if c then x else y) = some r) : (c ∧ x = some r) ∨ (¬ c ∧ y = some r) := by
  by_cases hc : c
  · rw [if_pos hc] at h; exact Or.inl ⟨hc, h⟩
  · rw [if_neg hc] at h; exact Or.inr ⟨hc, h⟩
theorem ite_none {α : Type} {c : Prop} [Decidable c] {x : Option α} {r : α} (h : (if c then x else none) = some r) : c ∧ x = some r := by
  by_cases hc : c
  · rw [if_pos hc] at h; exact ⟨hc, h⟩
  · rw [if_neg hc] at h; cases h
theorem gI_inv {σ : qH} {a ci i : Nat} {v : Int32} (h : gI σ a ci i = some v) : ∃ fs, σ a = some (.inr (ci, fs)) ∧ fs[i]? = some (.int v) := by
  unfold gI at h
  split at h
  · rename_i c fs e
    obtain ⟨hk1, h9⟩ := ite_none h
    subst hk1
    split at h9
    · rename_i w e2
      cases h9
      exact ⟨fs, e, e2⟩
    · cases h9
  · cases h
theorem gR_inv {σ : qH} {a ci i : Nat} {v : Nat} (h : gR σ a ci i = some v) : ∃ fs, σ a = some (.inr (ci, fs)) ∧ fs[i]? = some (.ref v) := by
  unfold gR at h
  split at h
  · rename_i c fs e
    obtain ⟨hk1, h9⟩ := ite_none h
    subst hk1
    split at h9
    · rename_i w e2
      cases h9
      exact ⟨fs, e, e2⟩
    · cases h9
  · cases h
theorem gP_inv {σ σ' : qH} {a ci i : Nat} {v : Value} (h : gP σ a ci i v = some σ') : ∃ fs, σ a = some (.inr (ci, fs)) ∧ i < fs.length ∧ σ' = qU σ a (.inr (ci, fs.set i v)) := by
  unfold gP at h
  split at h
  · rename_i c fs e
    obtain ⟨⟨hk1, hl⟩, h9⟩ := ite_none h
    subst hk1
    exact ⟨fs, e, hl, (Option.some.inj h9).symm⟩
  · cases h
theorem aI_inv {σ : qH} {a : Nat} {j v : Int32} (h : aI σ a j = some v) : ∃ (k n : Nat) (f : Nat → Int32), σ a = some (.inl (k, (n, .inl f))) ∧ (k = 0 ∨ k = 4) ∧ qin j n ∧ v = f j.toNatClampNeg := by
  unfold aI at h
  split at h
  · rename_i k n f e
    obtain ⟨⟨h1, h2⟩, h9⟩ := ite_none h
    exact ⟨k, n, f, e, h1, h2, (Option.some.inj h9).symm⟩
  · cases h
theorem aZ_inv {σ : qH} {a : Nat} {j v : Int32} (h : aZ σ a j = some v) : ∃ (n : Nat) (f : Nat → Int32), σ a = some (.inl (1, (n, .inl f))) ∧ qin j n ∧ v = f j.toNatClampNeg := by
  unfold aZ at h
  split at h
  · rename_i k n f e
    obtain ⟨⟨hk1, h2⟩, h9⟩ := ite_none h
    subst hk1
    exact ⟨n, f, e, h2, (Option.some.inj h9).symm⟩
  · cases h
theorem aJ_inv {σ : qH} {a : Nat} {j : Int32} {v : Int64} (h : aJ σ a j = some v) : ∃ (n : Nat) (f : Nat → Int64), σ a = some (.inl (3, (n, .inr (.inl f)))) ∧ qin j n ∧ v = f j.toNatClampNeg := by
  unfold aJ at h
  split at h
  · rename_i k n f e
    obtain ⟨⟨hk1, h2⟩, h9⟩ := ite_none h
    subst hk1
    exact ⟨n, f, e, h2, (Option.some.inj h9).symm⟩
  · cases h
theorem aQ_inv {σ : qH} {a : Nat} {j : Int32} {v : Nat} (h : aQ σ a j = some v) : ∃ (n : Nat) (f : Nat → Option Nat), σ a = some (.inl (2, (n, .inr (.inr (.inr (.inr f)))))) ∧ qin j n ∧ f j.toNatClampNeg = some v := by
  unfold aQ at h
  split at h
  · rename_i k n f e
    obtain ⟨⟨hk1, h2⟩, h9⟩ := ite_none h
    subst hk1
    exact ⟨n, f, e, h2, h9⟩
  · cases h
theorem aL_inv {σ : qH} {a : Nat} {v : Int32} (h : aL σ a = some v) : ∃ (k : Nat) (x : vp_A), σ a = some (.inl (k, x)) ∧ k < 5 ∧ v = Int32.ofNat x.1 := by
  unfold aL at h
  split at h
  · rename_i k n y e
    obtain ⟨h1, h9⟩ := ite_none h
    exact ⟨k, (n, y), e, h1, (Option.some.inj h9).symm⟩
  · cases h
theorem sI_inv {σ σ' : qH} {a : Nat} {j x : Int32} (h : sI σ a j x = some σ') : ∃ (n : Nat) (f : Nat → Int32), σ a = some (.inl (0, (n, .inl f))) ∧ qin j n ∧ σ' = qU σ a (.inl (0, (n, .inl (upd f j.toNatClampNeg x)))) := by
  unfold sI at h
  split at h
  · rename_i k n f e
    obtain ⟨⟨hk1, h2⟩, h9⟩ := ite_none h
    subst hk1
    exact ⟨n, f, e, h2, (Option.some.inj h9).symm⟩
  · cases h
theorem sZ_inv {σ σ' : qH} {a : Nat} {j x : Int32} (h : sZ σ a j x = some σ') : ∃ (n : Nat) (f : Nat → Int32), σ a = some (.inl (1, (n, .inl f))) ∧ qin j n ∧ σ' = qU σ a (.inl (1, (n, .inl (upd f j.toNatClampNeg (vp_nar .boolean x))))) := by
  unfold sZ at h
  split at h
  · rename_i k n f e
    obtain ⟨⟨hk1, h2⟩, h9⟩ := ite_none h
    subst hk1
    exact ⟨n, f, e, h2, (Option.some.inj h9).symm⟩
  · cases h
theorem sJ_inv {σ σ' : qH} {a : Nat} {j : Int32} {x : Int64} (h : sJ σ a j x = some σ') : ∃ (n : Nat) (f : Nat → Int64), σ a = some (.inl (3, (n, .inr (.inl f)))) ∧ qin j n ∧ σ' = qU σ a (.inl (3, (n, .inr (.inl (vp_updL f j.toNatClampNeg x))))) := by
  unfold sJ at h
  split at h
  · rename_i k n f e
    obtain ⟨⟨hk1, h2⟩, h9⟩ := ite_none h
    subst hk1
    exact ⟨n, f, e, h2, (Option.some.inj h9).symm⟩
  · cases h
theorem sQ_inv {σ σ' : qH} {a v : Nat} {j : Int32} (h : sQ σ a j v = some σ') : ∃ (n : Nat) (f : Nat → Option Nat) (vs : List Value), σ a = some (.inl (2, (n, .inr (.inr (.inr (.inr f)))))) ∧ σ v = some (.inr (2, vs)) ∧ qin j n ∧ σ' = qU σ a (.inl (2, (n, .inr (.inr (.inr (.inr (va_up f j.toNatClampNeg (some v)))))))) := by
  unfold sQ at h
  split at h
  · rename_i k n f c vs e e2
    obtain ⟨⟨⟨hk1, hk2⟩, h2⟩, h9⟩ := ite_none h
    subst hk1
    subst hk2
    exact ⟨n, f, vs, e, e2, h2, (Option.some.inj h9).symm⟩
  · cases h
theorem sC_inv {σ σ' : qH} {a b : Nat} {sp dp n : Int32} (h : sC σ a sp b dp n = some σ') : ∃ (n0 n1 : Nat) (f g : Nat → Int32), σ a = some (.inl (0, (n0, .inl f))) ∧ σ b = some (.inl (0, (n1, .inl g))) ∧ (¬ sp < 0 ∧ ¬ dp < 0 ∧ ¬ n < 0) ∧ sp.toNatClampNeg + n.toNatClampNeg ≤ n0 ∧ dp.toNatClampNeg + n.toNatClampNeg ≤ n1 ∧ σ' = qU σ b (.inl (0, (n1, .inl (va_cpy f g sp.toNatClampNeg dp.toNatClampNeg n.toNatClampNeg)))) := by
  unfold sC at h
  split at h
  · rename_i k0 n0 f k1 n1 g e e2
    obtain ⟨⟨⟨hk1, hk2⟩, h2, h3, h4⟩, h9⟩ := ite_none h
    subst hk1
    subst hk2
    exact ⟨n0, n1, f, g, e, e2, h2, h3, h4, (Option.some.inj h9).symm⟩
  · cases h
/-- a cell of the abstract heap changes -/
theorem qW_put {G : qG} {σ : qH} {n : Option Nat} {H H1 : Heap} {a : Nat} {e0 e : qE} (hW : qW G σ n H) (ha : σ a = some e0) (h0 : qro e0 = false) (h1 : qro e = false) (he : va_at G.1 vwCl (a, qtr G e) H1) (z : H1.size = H.size) (oq : ∀ q : Nat, q ≠ a → H1[q]? = H[q]?) : qW G (qU σ a e) n H1 ∧ qz G a := by
  obtain ⟨w1, w2, w3, ⟨ws, hP, hD, hc⟩, w5⟩ := hW
  obtain ⟨k, hk⟩ := hc a e0 ha h0
  have hz : qz G a := hD.2 k _ hk
  have hl := (List.getElem?_eq_some_iff.mp hk).1
  refine ⟨⟨by rw [z]; exact w1, by rw [z]; exact w2, fun q hq => ?_, ⟨ws.set k (a, qtr G e), hP.set hD hk he oq, hD.set hk, fun b e2 hb hr => ?_⟩, fun b x hb => ?_⟩, hz⟩
  · rw [oq q (fun h => by subst h; exact absurd hz (Nat.not_le.mpr hq))]
    exact w3 q hq
  · by_cases hba : b = a
    · subst hba
      simp only [qU, if_pos] at hb
      cases hb
      exact ⟨k, by rw [List.getElem?_set_self hl]⟩
    · simp only [qU, if_neg hba] at hb
      obtain ⟨k2, hk2⟩ := hc b e2 hb hr
      refine ⟨k2, ?_⟩
      rw [List.getElem?_set_ne (fun h => hba ?_)]
      · exact hk2
      · subst h
        rw [hk] at hk2
        exact (congrArg Prod.fst (Option.some.inj hk2)).symm
  · by_cases hba : b = a
    · subst hba
      simp only [qU, if_pos] at hb
      cases hb
      simp [qro] at h1
    · simp only [qU, if_neg hba] at hb
      exact w5 b x hb
theorem qW_at {G : qG} {σ : qH} {n : Option Nat} {H : Heap} (hW : qW G σ n H) {a : Nat} {e : qE} (ha : σ a = some e) (h0 : qro e = false) : va_P G.1 vwCl [(a, qtr G e)] H := by
  obtain ⟨w1, w2, w3, ⟨ws, hP, hD, hc⟩, w5⟩ := hW
  obtain ⟨k, hk⟩ := hc a e ha h0
  intro i q hq
  have hi : i < 1 := (List.getElem?_eq_some_iff.mp hq).1
  have : i = 0 := by omega
  subst this
  cases hq
  exact hP k _ hk
/-- a new cell -/
theorem qW_new {G : qG} {σ : qH} {n : Nat} {H H1 : Heap} {e : qE} (hW : qW G σ (some n) H) (h1 : qro e = false) (he : va_at G.1 vwCl (n, qtr G e) H1) (z : H1.size = n + 1) (oq : ∀ q : Nat, q < n → H1[q]? = H[q]?) : qW G (qU σ n e) (some (n + 1)) H1 := by
  obtain ⟨w1, w2, w3, ⟨ws, hP, hD, hc⟩, w5⟩ := hW
  have w1 := w1 n rfl
  have hk : ∀ (k : Nat) (x : Nat × va_E), ws[k]? = some x → H1[x.1]? = H[x.1]? := fun k x hx => oq x.1 (by have := (hP k x hx).lt; omega)
  refine ⟨fun m hm => by cases hm; exact z, by omega, fun q hq => by rw [oq q (by omega)]; exact w3 q hq, ⟨ws ++ [(n, qtr G e)], (hP.kept hk).app (fun k x hx => ?_), hD.push hP w1.symm (by show G.2.2.1.size ≤ n; omega), fun b e2 hb hr => ?_⟩, fun b x hb => ?_⟩
  · have hz : k < 1 := (List.getElem?_eq_some_iff.mp hx).1
    rw [show k = 0 by omega] at hx
    cases hx
    exact he
  · by_cases hba : b = n
    · subst hba
      simp only [qU, if_pos] at hb
      cases hb
      exact ⟨ws.length, by simp⟩
    · simp only [qU, if_neg hba] at hb
      obtain ⟨k2, hk2⟩ := hc b e2 hb hr
      exact ⟨k2, by rw [List.getElem?_append_left (List.getElem?_eq_some_iff.mp hk2).1]; exact hk2⟩
  · by_cases hba : b = n
    · subst hba
      simp only [qU, if_pos] at hb
      cases hb
      simp [qro] at h1
    · simp only [qU, if_neg hba] at hb
      exact w5 b x hb
theorem qW_any {G : qG} {σ : qH} {n : Option Nat} {H : Heap} (h : qW G σ n H) : qW G σ none H := ⟨fun m hm => (by cases hm), h.2⟩
