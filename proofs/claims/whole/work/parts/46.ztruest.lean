/-! Layer 2: the reference's teller mostly right. -/
section ZT
variable {σ : qH} {a b : Nat} {A : AS}
theorem z_tI (h : isZ σ a A) {k : Nat} (hk : k < 6) : aI σ a (15 + nI k) = some (cR A k) ∧ aI σ a (21 + nI k) = some (nI (aWr A k)) := (z_t h hk).2
theorem ztrL (h : isZ σ a A) (hg : gR σ b 5 3 = some a) : ∀ (d k q2 : Nat) (o : Option Nat), k + d = 6 → o6 o → FX7_truest_L9 b σ (d + 1 + q2) (enc o) (nI k) = some (enc (trL A d k o))
  | 0, k, q2, o, hk, ho => by
    have e : k = 6 := by omega
    subst e
    rw [show 0 + 1 + q2 = q2 + 1 by omega, FX7_truest_L9]
    rw [if_pos (show (6 : Int32) ≤ nI 6 from Int32.le_refl _)]; rfl
  | d + 1, k, q2, o, hk, ho => by
    have hk6 : k < 6 := by omega
    have pk := z_tI h hk6
    have l6 : ((6 : Int32) ≤ nI k) = (6 ≤ k) := le_nI (a := 6) (by omega) (by omega)
    have ih := ztrL h hg d (k + 1) q2 (trS A k o) (by omega) (trS_6 hk6 ho)
    rw [show d + 1 + 1 + q2 = (d + 1 + q2) + 1 by omega, FX7_truest_L9, trL, ← ih]
    simp only [l6, if_neg (show ¬ 6 ≤ k by omega), hg, b1_s, pk.1, pk.2, nI_1]
    cases o with
    | none =>
      by_cases c : cS A k ≤ 0
      · rw [if_pos c, b1_s, show trS A k none = none from if_pos c]
      · rw [if_neg c, if_pos (show enc none = (-1 : Int32) from rfl), b1_s, if_pos (show enc none = (-1 : Int32) from rfl), b1_s, if_pos (show (0 : Int32) < 1 by decide), b1_s, b1_s, show trS A k none = some k from if_neg c]; rfl
    | some j =>
      have hj := ho j rfl
      have pj := z_tI h hj
      by_cases c : cS A k ≤ 0
      · rw [if_pos c, b1_s, show trS A k (some j) = some j from if_pos c]
      · have e2 : trS A k (some j) = if truer A k j then some k else some j := if_neg c
        rw [if_neg c]
        simp only [if_neg (enc_n hj)]
        simp only [show enc (some j) = nI j from rfl, pj.1, pj.2, b1_s]
        have et : truer A k j = if cD A k j = 0 then (if cS A k ≤ cS A j then false else true) else (if cD A k j ≤ 0 then false else true) := rfl
        by_cases c1 : (0 : Int32) < cD A k j
        · have n0 : ¬ cD A k j = 0 := fun hh => by rw [hh] at c1; exact absurd c1 (by decide)
          rw [if_neg n0, if_neg (Int32.not_le.mpr c1)] at et
          rw [if_pos c1, b1_s, b1_s, e2, et]; rfl
        · by_cases c2 : cD A k j = 0
          · rw [if_pos c2] at et
            rw [if_neg c1, if_pos c2]
            by_cases c3 : cS A k ≤ cS A j
            · rw [if_pos c3] at et
              rw [if_pos c3, b1_s, b1_s, e2, et]; rfl
            · rw [if_neg c3] at et
              rw [if_neg c3, b1_s, b1_s, e2, et]; rfl
          · rw [if_neg c2, if_pos (Int32.not_lt.mp c1)] at et
            rw [if_neg c1, if_neg c2, b1_s, b1_s, e2, et]; rfl
end ZT
