/-! Layer 2: the teller mostly right. -/
def enc : Option Nat → Int32
  | none => -1
  | some j => nI j
abbrev cR (A : AS) (j : Nat) : Int32 := nI (aRt A j)
abbrev cS (A : AS) (j : Nat) : Int32 := nI (aRt A j) + nI (aWr A j)
abbrev cD (A : AS) (k j : Nat) : Int32 := cR A k * cS A j - cR A j * cS A k
def truer (A : AS) (k j : Nat) : Bool := if cD A k j = 0 then (if cS A k ≤ cS A j then false else true) else (if cD A k j ≤ 0 then false else true)
def trS (A : AS) (k : Nat) : Option Nat → Option Nat
  | none => if cS A k ≤ 0 then none else some k
  | some j => if cS A k ≤ 0 then some j else if truer A k j then some k else some j
def trL (A : AS) : Nat → Nat → Option Nat → Option Nat
  | 0, _, o => o
  | d + 1, k, o => trL A d (k + 1) (trS A k o)
def o6 (o : Option Nat) : Prop := ∀ j, o = some j → j < 6
theorem trS_6 {A : AS} {k : Nat} {o : Option Nat} (hk : k < 6) (h : o6 o) : o6 (trS A k o) := by
  intro j hj
  cases o with
  | none =>
    have hj' : (if cS A k ≤ 0 then none else some k) = some j := hj
    by_cases c : cS A k ≤ 0
    · rw [if_pos c] at hj'; cases hj'
    · rw [if_neg c] at hj'; cases hj'; exact hk
  | some i =>
    have hi := h i rfl
    have hj' : (if cS A k ≤ 0 then some i else if truer A k i = true then some k else some i) = some j := hj
    by_cases c : cS A k ≤ 0
    · rw [if_pos c] at hj'; cases hj'; exact hi
    · rw [if_neg c] at hj'
      by_cases c2 : truer A k i = true
      · rw [if_pos c2] at hj'; cases hj'; exact hk
      · rw [if_neg c2] at hj'; cases hj'; exact hi
theorem enc_n {j : Nat} (h : j < 6) : ¬ enc (some j) = (-1 : Int32) := fun hh => by
  have := congrArg Int32.toInt hh
  rw [show enc (some j) = nI j from rfl, nI_toInt (by omega), show (-1 : Int32).toInt = -1 from rfl] at this
  omega
section TR
variable {σ : qH} {q : Nat} {A : AS}
theorem isTruer_e (h : isP σ q A) {k j : Nat} (hk : k < 6) (hj : j < 6) : FX2_isTruer q (nI k) (nI j) σ = some (if truer A k j then 1 else 0) := by
  have pk := p_t h hk
  have pj := p_t h hj
  unfold FX2_isTruer truer
  simp only [p_gC h, b1_s, (p_R h).2.2.1, (p_R h).2.2.2.1, pk.2.1, pk.2.2, pj.2.1, pj.2.2]
  by_cases c : cD A k j = 0
  · by_cases c2 : cS A k ≤ cS A j
    · rw [if_pos c, if_pos c2, if_pos c, if_pos c2]; rfl
    · rw [if_pos c, if_neg c2, if_pos c, if_neg c2]; rfl
  · by_cases c2 : cD A k j ≤ 0
    · rw [if_neg c, if_pos c2, if_neg c, if_pos c2]; rfl
    · rw [if_neg c, if_neg c2, if_neg c, if_neg c2]; rfl
theorem tmL (h : isP σ q A) : ∀ (d k q2 : Nat) (o : Option Nat), k + d = 6 → o6 o → FX2_tellerMostlyRight_L4 q σ (d + 1 + q2) (enc o) (nI k) = some (enc (trL A d k o))
  | 0, k, q2, o, hk, ho => by
    have e : k = 6 := by omega
    subst e
    rw [show 0 + 1 + q2 = q2 + 1 by omega, FX2_tellerMostlyRight_L4]
    rw [if_pos (show (6 : Int32) ≤ nI 6 from Int32.le_refl _)]; rfl
  | d + 1, k, q2, o, hk, ho => by
    have hk6 : k < 6 := by omega
    have pk := p_t h hk6
    have l6 : ((6 : Int32) ≤ nI k) = (6 ≤ k) := le_nI (a := 6) (by omega) (by omega)
    have ih := tmL h d (k + 1) q2 (trS A k o) (by omega) (trS_6 hk6 ho)
    rw [show d + 1 + 1 + q2 = (d + 1 + q2) + 1 by omega, FX2_tellerMostlyRight_L4, trL, ← ih]
    simp only [l6, if_neg (show ¬ 6 ≤ k by omega), (p_R h).2.2.1, (p_R h).2.2.2.1, b1_s, pk.2.1, pk.2.2, nI_1]
    cases o with
    | none =>
      by_cases c : cS A k ≤ 0
      · rw [if_pos c, b1_s, show trS A k none = none from if_pos c]
      · rw [if_neg c, if_pos (show enc none = (-1 : Int32) from rfl), b1_s, show trS A k none = some k from if_neg c]; rfl
    | some j =>
      have hj := ho j rfl
      by_cases c : cS A k ≤ 0
      · rw [if_pos c, b1_s, show trS A k (some j) = some j from if_pos c]
      · have e1 : FX2_isTruer q (nI k) (enc (some j)) σ = some (if truer A k j then 1 else 0) := isTruer_e h hk6 hj
        have e2 : trS A k (some j) = if truer A k j then some k else some j := if_neg c
        rw [if_neg c, if_neg (enc_n hj), e1, b1_s, e2]
        by_cases c2 : truer A k j = true
        · rw [if_pos c2, if_pos c2, if_neg (show ¬ (1 : Int32) = 0 by decide), b1_s]; rfl
        · rw [if_neg c2, if_neg c2, if_pos (show (0 : Int32) = 0 from rfl), b1_s]
theorem tellerMostlyRight_e (h : isP σ q A) : FX2_tellerMostlyRight q σ = some (enc (trL A 6 0 none)) := by
  obtain ⟨q3, hq⟩ := qf (n := 6) (by omega)
  have e := tmL h 6 0 q3 none (by omega) (fun j hj => by cases hj)
  rw [← hq] at e
  have e' : FX2_tellerMostlyRight_L4 q σ qfuel (-1) 0 = some (enc (trL A 6 0 none)) := e
  unfold FX2_tellerMostlyRight
  rw [p_gC h, b1_s, e', b1_s]
end TR
