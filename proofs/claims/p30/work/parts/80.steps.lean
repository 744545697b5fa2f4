/-! p30: a walk of the law over one object or two, as a step from states to states. -/
def Ht {ρ : Type} (I J : qH → Prop) (X : qH → Option ρ) (out : qH → ρ) : Prop := ∀ σ, I σ → ∃ σ', X σ = some (out σ') ∧ J σ'
section HT
variable {ρ ρ2 ε : Type} {I J K : qH → Prop} {X Y : qH → Option ρ} {out : qH → ρ} {out2 : qH → ρ2}
theorem ht_ret : Ht I I (fun σ => some (out σ)) out := fun σ h => ⟨σ, rfl, h⟩
theorem ht_eq (h : ∀ σ, X σ = Y σ) (k : Ht I J Y out) : Ht I J X out := fun σ hσ => by
  obtain ⟨s, e, j⟩ := k σ hσ
  exact ⟨s, by rw [h]; exact e, j⟩
theorem ht_same (h : ∀ σ, I σ → X σ = some (out σ)) : Ht I I X out := fun σ hσ => ⟨σ, h σ hσ, hσ⟩
theorem ht_pos {c : Prop} [Decidable c] {A B : qH → Option ρ} (hc : c) (k : Ht I J A out) : Ht I J (fun σ => if c then A σ else B σ) out := fun σ hσ => by
  obtain ⟨s, e, j⟩ := k σ hσ
  exact ⟨s, by show (if c then A σ else B σ) = _; rw [if_pos hc]; exact e, j⟩
theorem ht_neg {c : Prop} [Decidable c] {A B : qH → Option ρ} (hc : ¬ c) (k : Ht I J B out) : Ht I J (fun σ => if c then A σ else B σ) out := fun σ hσ => by
  obtain ⟨s, e, j⟩ := k σ hσ
  exact ⟨s, by show (if c then A σ else B σ) = _; rw [if_neg hc]; exact e, j⟩
theorem ht_seq {X : qH → Option (Int32 × qH)} {v : Int32} {f : Int32 → qH → Option ρ2} (h : Ht I K X (fun s => (v, s))) (k : Ht K J (f v) out2) : Ht I J (fun σ => b2 (X σ) f) out2 := fun σ hσ => by
  obtain ⟨s, e, j⟩ := h σ hσ
  obtain ⟨s2, e2, j2⟩ := k s j
  exact ⟨s2, by show b2 (X σ) f = _; rw [e]; exact e2, j2⟩
theorem ht_seq3 {X : qH → Option (Int32 × Int32 × qH)} {v w : Int32} {f : Int32 → Int32 → qH → Option ρ2} (h : Ht I K X (fun s => (v, w, s))) (k : Ht K J (f v w) out2) : Ht I J (fun σ => b3 (X σ) f) out2 := fun σ hσ => by
  obtain ⟨s, e, j⟩ := h σ hσ
  obtain ⟨s2, e2, j2⟩ := k s j
  exact ⟨s2, by show b3 (X σ) f = _; rw [e]; exact e2, j2⟩
theorem ht_seq7 {X : qH → Option (Int32 × Int32 × Int32 × Int32 × Int32 × Int32 × qH)} {v1 v2 v3 v4 v5 v6 : Int32} {f : Int32 → Int32 → Int32 → Int32 → Int32 → Int32 → qH → Option ρ2} (h : Ht I K X (fun s => (v1, v2, v3, v4, v5, v6, s))) (k : Ht K J (f v1 v2 v3 v4 v5 v6) out2) : Ht I J (fun σ => b7 (X σ) f) out2 := fun σ hσ => by
  obtain ⟨s, e, j⟩ := h σ hσ
  obtain ⟨s2, e2, j2⟩ := k s j
  exact ⟨s2, by show b7 (X σ) f = _; rw [e]; exact e2, j2⟩
theorem ht_b1 {X : qH → Option Int32} {v : Int32} {F : Int32 → qH → Option ρ2} (h : ∀ σ, I σ → X σ = some v) (k : Ht I J (F v) out2) : Ht I J (fun σ => b1 (X σ) (fun x => F x σ)) out2 := fun σ hσ => by
  obtain ⟨s2, e2, j2⟩ := k σ hσ
  exact ⟨s2, by show b1 (X σ) (fun x => F x σ) = _; rw [h σ hσ]; exact e2, j2⟩
theorem ht_b1c {o : Option Int32} {v : Int32} {F : Int32 → qH → Option ρ2} (h : o = some v) (k : Ht I J (F v) out2) : Ht I J (fun σ => b1 o (fun x => F x σ)) out2 := fun σ hσ => by
  obtain ⟨s2, e2, j2⟩ := k σ hσ
  exact ⟨s2, by show b1 o (fun x => F x σ) = _; rw [h]; exact e2, j2⟩
theorem ht_bc {R : qH → Option (qH ⊕ ε)} {f : qH → Option ρ2} {g : qH → ε → Option ρ2} (h : Ht I K R (fun s => .inl s)) (k : Ht K J f out2) : Ht I J (fun σ => bc (R σ) f (g σ)) out2 := fun σ hσ => by
  obtain ⟨s, e, j⟩ := h σ hσ
  obtain ⟨s2, e2, j2⟩ := k s j
  exact ⟨s2, by show bc (R σ) f (g σ) = _; rw [e]; exact e2, j2⟩
theorem ht_bcu {R : Option (Unit ⊕ ε)} {f : Unit → qH → Option ρ2} {g : qH → ε → Option ρ2} (h : R = some (.inl ())) (k : Ht I J (f ()) out2) : Ht I J (fun σ => bc R (fun x => f x σ) (g σ)) out2 := fun σ hσ => by
  obtain ⟨s2, e2, j2⟩ := k σ hσ
  exact ⟨s2, by show bc R (fun x => f x σ) (g σ) = _; rw [h]; exact e2, j2⟩
end HT
/-- one object's state: the parish, what is remembered, what is saved; its text is empty -/
abbrev SS : Type := AS × List AS × (Nat → Option AS)
def f0 : Nat → Nat := fun _ => 0
def Ob (σ : qH) (p : Nat) (S : SS) : Prop := isC σ p S.1 S.2.1 S.2.2 0 f0 ∧ okS S.1 S.2.1 S.2.2 0 f0
def At (σ0 : qH) (p : Nat) (S : SS) (σ : qH) : Prop := Ob σ p S ∧ Ch σ0 σ p (p + 135)
def Op (p : Nat) (S S' : SS) (X : qH → Option (Int32 × qH)) (v : Int32) : Prop := ∀ σ0, Ht (At σ0 p S) (At σ0 p S') X (fun s => (v, s))
theorem op_mk {p : Nat} {S S' : SS} {X : qH → Option (Int32 × qH)} {v : Int32} (h : ∀ σ, Ob σ p S → ∃ σ', X σ = some (v, σ') ∧ Ob σ' p S' ∧ Ch σ σ' p (p + 135)) : Op p S S' X v := fun σ0 σ hσ => by
  obtain ⟨s, e, o, c⟩ := h σ hσ.1
  exact ⟨s, e, o, hσ.2.tr c⟩
theorem op_un {p : Nat} {S S' : SS} {X : qH → Option (Int32 × qH)} {v : Int32} (h : Op p S S' X v) {σ : qH} (hσ : Ob σ p S) : ∃ σ', X σ = some (v, σ') ∧ Ob σ' p S' ∧ Ch σ σ' p (p + 135) := by
  obtain ⟨s, e, o, c⟩ := h σ σ ⟨hσ, Ch.rf⟩
  exact ⟨s, e, o, c⟩
theorem op_same {p : Nat} {S : SS} {X : qH → Option (Int32 × qH)} {v : Int32} (h : ∀ σ, Ob σ p S → X σ = some (v, σ)) : Op p S S X v := op_mk fun σ hσ => ⟨σ, h σ hσ, hσ, Ch.rf⟩
theorem Ob_off {σ σ' : qH} {p : Nat} {S : SS} (h : Ob σ p S) (o : ∀ a, p ≤ a → a ≤ p + 135 → σ' a = σ a) : Ob σ' p S := ⟨C_all h.1 o, h.2⟩
/-- two objects, and all else as it was -/
def At2 (σ0 : qH) (p q : Nat) (S T : SS) (σ : qH) : Prop := Ob σ p S ∧ Ob σ q T ∧ ∀ a, (a < p ∨ p + 135 < a) → (a < q ∨ q + 135 < a) → σ a = σ0 a
def Tw (p q : Nat) (S T S' T' : SS) (X : qH → Option (Int32 × qH)) (v : Int32) : Prop := ∀ σ0, Ht (At2 σ0 p q S T) (At2 σ0 p q S' T') X (fun s => (v, s))
abbrev Apt (p q : Nat) : Prop := p + 135 < q ∨ q + 135 < p
theorem op_p {p q : Nat} {S S' T : SS} {X : qH → Option (Int32 × qH)} {v : Int32} (hd : Apt p q) (h : Op p S S' X v) : Tw p q S T S' T X v := fun σ0 σ ⟨h1, h2, h3⟩ => by
  obtain ⟨s, e, o, c⟩ := op_un h h1
  exact ⟨s, e, o, Ob_off h2 (fun a ha hb => c a (by omega)), fun a ha hb => (c a ha).trans (h3 a ha hb)⟩
theorem op_q {p q : Nat} {S T T' : SS} {X : qH → Option (Int32 × qH)} {v : Int32} (hd : Apt p q) (h : Op q T T' X v) : Tw p q S T S T' X v := fun σ0 σ ⟨h1, h2, h3⟩ => by
  obtain ⟨s, e, o, c⟩ := op_un h h2
  exact ⟨s, e, Ob_off h1 (fun a ha hb => c a (by omega)), o, fun a ha hb => (c a hb).trans (h3 a ha hb)⟩
theorem tw_un {p q : Nat} {S T S' T' : SS} {X : qH → Option (Int32 × qH)} {v : Int32} (h : Tw p q S T S' T' X v) {σ : qH} (h1 : Ob σ p S) (h2 : Ob σ q T) : ∃ σ', X σ = some (v, σ') ∧ Ob σ' p S' ∧ Ob σ' q T' ∧ ∀ a, (a < p ∨ p + 135 < a) → (a < q ∨ q + 135 < a) → σ' a = σ a := by
  obtain ⟨s, e, o1, o2, o3⟩ := h σ σ ⟨h1, h2, fun _ _ _ => rfl⟩
  exact ⟨s, e, o1, o2, o3⟩
theorem b2_eta {A B : Type} {o : Option (A × B)} : b2 o (fun v s => some (v, s)) = o := by cases o <;> rfl
theorem bc2_ok {X : Option ((Int32 × qH) ⊕ (String × qH))} {v : Int32} {s : qH} {g : String → qH → Option (Int32 × qH)} (h : X = some (.inl (v, s))) : bc2 X (fun v s => some (v, s)) g = some (v, s) := by rw [h, bc2_s]
theorem bc_ok {X : Option (Int32 ⊕ String)} {v : Int32} {g : String → Option Int32} (h : X = some (.inl v)) : bc X (fun v => some v) g = some v := by rw [h, bc_s]
section CL
variable {tst : Nat → Nat} {p : Nat} {a b c : Int32} {σ : qH}
theorem call_0 : FL_call tst p (0 : Int32) a b c σ = FL_tryAppend p a σ := by
  unfold FL_call; rw [if_pos rfl, b2_eta]
theorem call_2 : FL_call tst p (2 : Int32) a b c σ = b1 (FL_tryAbout p a σ) (fun v => some (v, σ)) := by
  unfold FL_call; rw [if_neg (by decide), if_neg (by decide), if_pos rfl]
theorem call_3 : FL_call tst p (3 : Int32) a b c σ = b1 (FL_tryOf p a b σ) (fun v => some (v, σ)) := by
  unfold FL_call; rw [if_neg (by decide), if_neg (by decide), if_neg (by decide), if_pos rfl]
theorem call_4 : FL_call tst p (4 : Int32) a b c σ = b1 (FL_tryTeller p a b σ) (fun v => some (v, σ)) := by
  unfold FL_call; rw [if_neg (by decide), if_neg (by decide), if_neg (by decide), if_neg (by decide), if_pos rfl]
theorem call_5 : FL_call tst p (5 : Int32) a b c σ = b1 (FL_trySteeple p a b σ) (fun v => some (v, σ)) := by
  unfold FL_call; rw [if_neg (by decide), if_neg (by decide), if_neg (by decide), if_neg (by decide), if_neg (by decide), if_pos rfl]
theorem call_6 : FL_call tst p (6 : Int32) a b c σ = b1 (FL_tryVote p a b σ) (fun v => some (v, σ)) := by
  unfold FL_call; rw [if_neg (by decide), if_neg (by decide), if_neg (by decide), if_neg (by decide), if_neg (by decide), if_neg (by decide), if_pos rfl]
theorem call_7 : FL_call tst p (7 : Int32) a b c σ = FL_tryBest p a b c σ := by
  unfold FL_call; rw [if_neg (by decide), if_neg (by decide), if_neg (by decide), if_neg (by decide), if_neg (by decide), if_neg (by decide), if_neg (by decide), if_pos rfl, b2_eta]
theorem call_8 : FL_call tst p (8 : Int32) a b c σ = b1 (FL_trySetting p a σ) (fun v => some (v, σ)) := by
  unfold FL_call; rw [if_neg (by decide), if_neg (by decide), if_neg (by decide), if_neg (by decide), if_neg (by decide), if_neg (by decide), if_neg (by decide), if_neg (by decide), if_pos rfl]
theorem call_9 : FL_call tst p (9 : Int32) a b c σ = FL_tryDrop p a σ := by
  unfold FL_call; rw [if_neg (by decide), if_neg (by decide), if_neg (by decide), if_neg (by decide), if_neg (by decide), if_neg (by decide), if_neg (by decide), if_neg (by decide), if_neg (by decide), if_pos rfl, b2_eta]
theorem call_10 : FL_call tst p (10 : Int32) a b c σ = FL_tryTrust p a b σ := by
  unfold FL_call; rw [if_neg (by decide), if_neg (by decide), if_neg (by decide), if_neg (by decide), if_neg (by decide), if_neg (by decide), if_neg (by decide), if_neg (by decide), if_neg (by decide), if_neg (by decide), if_pos rfl, b2_eta]
theorem call_11 : FL_call tst p (11 : Int32) a b c σ = FL_trySurvey p a b σ := by
  unfold FL_call; rw [if_neg (by decide), if_neg (by decide), if_neg (by decide), if_neg (by decide), if_neg (by decide), if_neg (by decide), if_neg (by decide), if_neg (by decide), if_neg (by decide), if_neg (by decide), if_neg (by decide), if_pos rfl, b2_eta]
theorem call_12 : FL_call tst p (12 : Int32) a b c σ = FL_tryLay p a b σ := by
  unfold FL_call; rw [if_neg (by decide), if_neg (by decide), if_neg (by decide), if_neg (by decide), if_neg (by decide), if_neg (by decide), if_neg (by decide), if_neg (by decide), if_neg (by decide), if_neg (by decide), if_neg (by decide), if_neg (by decide), if_pos rfl, b2_eta]
theorem call_13 : FL_call tst p (13 : Int32) a b c σ = FL_tryUndo p σ := by
  unfold FL_call; rw [if_neg (by decide), if_neg (by decide), if_neg (by decide), if_neg (by decide), if_neg (by decide), if_neg (by decide), if_neg (by decide), if_neg (by decide), if_neg (by decide), if_neg (by decide), if_neg (by decide), if_neg (by decide), if_neg (by decide), if_pos rfl, b2_eta]
theorem call_14 : FL_call tst p (14 : Int32) a b c σ = b1 (FL_tryApart p a b σ) (fun v => some (v, σ)) := by
  unfold FL_call; rw [if_neg (by decide), if_neg (by decide), if_neg (by decide), if_neg (by decide), if_neg (by decide), if_neg (by decide), if_neg (by decide), if_neg (by decide), if_neg (by decide), if_neg (by decide), if_neg (by decide), if_neg (by decide), if_neg (by decide), if_neg (by decide), if_pos rfl]
theorem call_15 : FL_call tst p (15 : Int32) a b c σ = FL_tryAgainst p a σ := by
  unfold FL_call; rw [if_neg (by decide), if_neg (by decide), if_neg (by decide), if_neg (by decide), if_neg (by decide), if_neg (by decide), if_neg (by decide), if_neg (by decide), if_neg (by decide), if_neg (by decide), if_neg (by decide), if_neg (by decide), if_neg (by decide), if_neg (by decide), if_neg (by decide), if_pos rfl, b2_eta]
theorem call_16 : FL_call tst p (16 : Int32) a b c σ = FL_tryWithout p a b σ := by
  unfold FL_call; rw [if_neg (by decide), if_neg (by decide), if_neg (by decide), if_neg (by decide), if_neg (by decide), if_neg (by decide), if_neg (by decide), if_neg (by decide), if_neg (by decide), if_neg (by decide), if_neg (by decide), if_neg (by decide), if_neg (by decide), if_neg (by decide), if_neg (by decide), if_neg (by decide), if_pos rfl, b2_eta]
theorem call_17 : FL_call tst p (17 : Int32) a b c σ = FL_trySwings p a b σ := by
  unfold FL_call; rw [if_neg (by decide), if_neg (by decide), if_neg (by decide), if_neg (by decide), if_neg (by decide), if_neg (by decide), if_neg (by decide), if_neg (by decide), if_neg (by decide), if_neg (by decide), if_neg (by decide), if_neg (by decide), if_neg (by decide), if_neg (by decide), if_neg (by decide), if_neg (by decide), if_neg (by decide), if_pos rfl, b2_eta]
theorem call_18 : FL_call tst p (18 : Int32) a b c σ = FL_tryKeep p a σ := by
  unfold FL_call; rw [if_neg (by decide), if_neg (by decide), if_neg (by decide), if_neg (by decide), if_neg (by decide), if_neg (by decide), if_neg (by decide), if_neg (by decide), if_neg (by decide), if_neg (by decide), if_neg (by decide), if_neg (by decide), if_neg (by decide), if_neg (by decide), if_neg (by decide), if_neg (by decide), if_neg (by decide), if_neg (by decide), if_pos rfl, b2_eta]
theorem call_19 : FL_call tst p (19 : Int32) a b c σ = FL_tryBack p a σ := by
  unfold FL_call; rw [if_neg (by decide), if_neg (by decide), if_neg (by decide), if_neg (by decide), if_neg (by decide), if_neg (by decide), if_neg (by decide), if_neg (by decide), if_neg (by decide), if_neg (by decide), if_neg (by decide), if_neg (by decide), if_neg (by decide), if_neg (by decide), if_neg (by decide), if_neg (by decide), if_neg (by decide), if_neg (by decide), if_neg (by decide), b2_eta]
end CL
