/-! Layer 2: what the functions mean. Rows to simplify with, and the words for a parish. -/
theorem b1_s {α β : Type} {a : α} {f : α → Option β} : b1 (some a) f = f a := rfl
theorem b2_s {A B β : Type} {a : A} {b : B} {f : A → B → Option β} : b2 (some (a, b)) f = f a b := rfl
theorem b3_s {A B C β : Type} {a : A} {b : B} {c : C} {f : A → B → C → Option β} : b3 (some (a, b, c)) f = f a b c := rfl
theorem b4_s {A B C D β : Type} {a : A} {b : B} {c : C} {d : D} {f : A → B → C → D → Option β} : b4 (some (a, b, c, d)) f = f a b c d := rfl
theorem bx_s {α β : Type} {a : α} {f : α → Option (β ⊕ String)} : bx (some (.inl a)) f = f a := rfl
theorem bx_e {α β : Type} {e : String} {f : α → Option (β ⊕ String)} : bx (some (.inr e)) f = some (.inr e) := rfl
theorem bxw_s {α β : Type} {a : α} {σ : qH} {f : α → Option (β ⊕ (String × qH))} : bxw (some (.inl a)) σ f = f a := rfl
theorem bxw_e {α β : Type} {e : String} {σ : qH} {f : α → Option (β ⊕ (String × qH))} : bxw (some (.inr e)) σ f = some (.inr (e, σ)) := rfl
theorem gC_e {σ : qH} {a ci : Nat} {fs : List Value} (h : σ a = some (.inr (ci, fs))) : gC σ a ci = some () := by simp [gC, h]
theorem gI_e {σ : qH} {a ci i : Nat} {fs : List Value} {v : Int32} (h : σ a = some (.inr (ci, fs))) (h2 : fs[i]? = some (.int v)) : gI σ a ci i = some v := by simp [gI, h, h2]
theorem gR_e {σ : qH} {a ci i : Nat} {fs : List Value} {v : Nat} (h : σ a = some (.inr (ci, fs))) (h2 : fs[i]? = some (.ref v)) : gR σ a ci i = some v := by simp [gR, h, h2]
theorem gP_e {σ : qH} {a ci i : Nat} {fs : List Value} {v : Value} (h : σ a = some (.inr (ci, fs))) (h2 : i < fs.length) : gP σ a ci i v = some (qU σ a (.inr (ci, fs.set i v))) := by simp [gP, h, h2]
theorem qin_n {i n : Nat} (h : i < n) (hn : n < 2 ^ 31) : qin (nI i) n := nI_in h hn
theorem aI_e {σ : qH} {a n i : Nat} {f : Nat → Int32} (h : σ a = some (.inl (0, (n, .inl f)))) (hi : i < n) (hn : n < 2 ^ 31) : aI σ a (nI i) = some (f i) := by
  have h2 := qin_n hi hn
  unfold aI
  rw [h]
  show (if (0 = 0 ∨ 0 = 4) ∧ qin (nI i) n then some (f (nI i).toNatClampNeg) else none) = _
  rw [if_pos ⟨Or.inl rfl, h2⟩, nI_clamp (by omega)]
theorem aI_e4 {σ : qH} {a n i : Nat} {f : Nat → Int32} (h : σ a = some (.inl (4, (n, .inl f)))) (hi : i < n) (hn : n < 2 ^ 31) : aI σ a (nI i) = some (f i) := by
  have h2 := qin_n hi hn
  unfold aI
  rw [h]
  show (if (4 = 0 ∨ 4 = 4) ∧ qin (nI i) n then some (f (nI i).toNatClampNeg) else none) = _
  rw [if_pos ⟨Or.inr rfl, h2⟩, nI_clamp (by omega)]
theorem sI_e {σ : qH} {a n i : Nat} {f : Nat → Int32} {x : Int32} (h : σ a = some (.inl (0, (n, .inl f)))) (hi : i < n) (hn : n < 2 ^ 31) : sI σ a (nI i) x = some (qU σ a (.inl (0, (n, .inl (upd f i x))))) := by
  have h2 := qin_n hi hn
  unfold sI
  rw [h]
  show (if 0 = 0 ∧ qin (nI i) n then some (qU σ a (.inl (0, (n, .inl (upd f (nI i).toNatClampNeg x))))) else none) = _
  rw [if_pos ⟨rfl, h2⟩, nI_clamp (by omega)]
theorem aL_e {σ : qH} {a k : Nat} {x : vp_A} (h : σ a = some (.inl (k, x))) (hk : k < 5) : aL σ a = some (nI x.1) := by
  obtain ⟨n, y⟩ := x
  simp [aL, h, hk, nI]
theorem qU_s {σ : qH} {a : Nat} {e : qE} : qU σ a e a = some e := by simp
theorem qU_n {σ : qH} {a b : Nat} {e : qE} (h : b ≠ a) : qU σ a e b = σ b := by simp [h]
theorem qf {n : Nat} (h : n < 100000) : ∃ q, qfuel = n + 1 + q := ⟨100000 - (n + 1), by show 100000 = _; omega⟩
/-- literals -/
theorem nl {n : Nat} : (OfNat.ofNat n : Int32) = nI n := rfl
/-- a measure: steeple, teller, kind, a, b, c, e -/
abbrev Me : Type := Nat → Nat
def bnd (h : Nat) : Nat := if h < 1 then 1 else if 999 < h then 999 else h
def lst (m : Me) : Nat := if m 2 = 2 then m 3 else if m 5 ≤ m 6 then 1 else bnd (m 3 * (m 5 - m 6) / m 4)
def gst (m : Me) : Nat := if m 2 = 2 then m 4 else bnd ((m 3 * (m 5 + m 6) + m 4 - 1) / m 4)
def okM (m : Me) : Prop := m 0 < 3 ∧ m 1 < 6 ∧ m 2 ≤ 2 ∧ 1 ≤ m 3 ∧ m 3 ≤ 999 ∧ 1 ≤ m 4 ∧ m 4 ≤ 999 ∧ m 5 ≤ 400 ∧ m 6 ≤ 20 ∧ (m 2 = 2 → m 3 ≤ m 4)
theorem bnd_r (h : Nat) : 1 ≤ bnd h ∧ bnd h ≤ 999 := by
  unfold bnd; split
  · omega
  · split <;> omega
theorem bnd_mono {a b : Nat} (h : a ≤ b) : bnd a ≤ bnd b := by
  unfold bnd; split <;> split <;> (try split) <;> (try split) <;> omega
theorem lst_r {m : Me} (h : okM m) : 1 ≤ lst m ∧ lst m ≤ 999 := by
  obtain ⟨-, -, -, h3, h3', -⟩ := h
  unfold lst; split
  · omega
  · split
    · omega
    · exact bnd_r _
theorem gst_r {m : Me} (h : okM m) : 1 ≤ gst m ∧ gst m ≤ 999 := by
  obtain ⟨-, -, -, -, -, h4, h4', -⟩ := h
  unfold gst; split
  · omega
  · exact bnd_r _
theorem lst_gst {m : Me} (h : okM m) : lst m ≤ gst m := by
  have hg := gst_r h
  obtain ⟨-, -, -, -, -, h4, h4', -, -, hk⟩ := h
  unfold lst; split
  · rename_i h2
    unfold gst; rw [if_pos h2]; exact hk h2
  · rename_i h2
    split
    · exact hg.1
    · unfold gst; rw [if_neg h2]
      refine bnd_mono (Nat.div_le_div_right ?_)
      have : m 3 * (m 5 - m 6) ≤ m 3 * (m 5 + m 6) := Nat.mul_le_mul_left _ (by omega)
      omega
/-- a parish: its measures, trust, right, wrong, surveyed, settings; came, evenings, surveys, lost -/
abbrev AS : Type := List Me × (Nat → Nat) × (Nat → Nat) × (Nat → Nat) × (Nat → Int32) × (Nat → Nat) × (Nat × Nat × Nat × Nat)
abbrev aM (A : AS) : List Me := A.1
abbrev aT (A : AS) : Nat → Nat := A.2.1
abbrev aRt (A : AS) : Nat → Nat := A.2.2.1
abbrev aWr (A : AS) : Nat → Nat := A.2.2.2.1
abbrev aSv (A : AS) : Nat → Int32 := A.2.2.2.2.1
abbrev aSt (A : AS) : Nat → Nat := A.2.2.2.2.2.1
abbrev aCm (A : AS) : Nat := A.2.2.2.2.2.2.1
abbrev aEv (A : AS) : Nat := A.2.2.2.2.2.2.2.1
abbrev aSu (A : AS) : Nat := A.2.2.2.2.2.2.2.2.1
abbrev aLo (A : AS) : Nat := A.2.2.2.2.2.2.2.2.2
def M0 : Me := fun _ => 0
abbrev mk (A : AS) (k : Nat) : Me := (aM A).getD k M0
def okA (A : AS) : Prop := (aM A).length ≤ 16 ∧ (∀ k, k < (aM A).length → okM (mk A k)) ∧ (∀ t, t < 6 → aT A t ≤ 9) ∧ aSt A 0 ≤ 5 ∧ aSt A 1 ≤ 50
/-- the class's parish at q: its object, and its six rows behind it -/
def isP (σ : qH) (q : Nat) (A : AS) : Prop := ∃ (m t r w v s : Nat → Int32),
  σ q = some (.inr (2, [.ref (q + 1), .ref (q + 2), .ref (q + 3), .ref (q + 4), .ref (q + 5), .ref (q + 6), .int (nI (aM A).length), .int (nI (aCm A)), .int (nI (aEv A)), .int (nI (aSu A)), .int (nI (aLo A))])) ∧
  σ (q + 1) = some (.inl (0, (144, .inl m))) ∧ σ (q + 2) = some (.inl (0, (6, .inl t))) ∧ σ (q + 3) = some (.inl (0, (6, .inl r))) ∧ σ (q + 4) = some (.inl (0, (6, .inl w))) ∧ σ (q + 5) = some (.inl (0, (3, .inl v))) ∧ σ (q + 6) = some (.inl (0, (2, .inl s))) ∧
  (∀ k, k < (aM A).length → (∀ j, j < 7 → m (9 * k + j) = nI (mk A k j)) ∧ m (9 * k + 7) = nI (lst (mk A k)) ∧ m (9 * k + 8) = nI (gst (mk A k))) ∧
  (∀ i, i < 6 → t i = nI (aT A i) ∧ r i = nI (aRt A i) ∧ w i = nI (aWr A i)) ∧ (∀ i, i < 3 → v i = aSv A i) ∧ (∀ i, i < 2 → s i = nI (aSt A i))
/-- the reference's row of 142 numbers at a -/
def isZ (σ : qH) (a : Nat) (A : AS) : Prop := ∃ z : Nat → Int32, σ a = some (.inl (0, (142, .inl z))) ∧
  z 0 = nI (aM A).length ∧ z 1 = nI (aCm A) ∧ z 2 = nI (aEv A) ∧ z 3 = nI (aSu A) ∧ z 4 = nI (aLo A) ∧ z 5 = nI (fb_sm (aRt A) 6) ∧ z 6 = nI (fb_sm (aWr A) 6) ∧
  (∀ i, i < 2 → z (7 + i) = nI (aSt A i)) ∧ (∀ i, i < 6 → z (9 + i) = nI (aT A i) ∧ z (15 + i) = nI (aRt A i) ∧ z (21 + i) = nI (aWr A i)) ∧ (∀ i, i < 3 → z (27 + i) = aSv A i) ∧
  (∀ k, k < (aM A).length → ∀ j, j < 7 → z (30 + 7 * k + j) = nI (mk A k j))
