/-! Layer 2: does a teller tell a height of a steeple. -/
def tlB (A : AS) (t s x : Nat) : Nat → Nat → Bool
  | 0, _ => false
  | d + 1, k => if mk A k 0 = s ∧ mk A k 1 = t ∧ telP (mk A k) x then true else tlB A t s x d (k + 1)
theorem tlB_t {A : AS} {t s x d k : Nat} (h : mk A k 0 = s ∧ mk A k 1 = t ∧ telP (mk A k) x) : tlB A t s x (d + 1) k = true := if_pos h
theorem tlB_f {A : AS} {t s x d k : Nat} (h : ¬ (mk A k 0 = s ∧ mk A k 1 = t ∧ telP (mk A k) x)) : tlB A t s x (d + 1) k = tlB A t s x d (k + 1) := if_neg h
section TL
variable {σ : qH} {q : Nat} {A : AS}
theorem thL (h : isP σ q A) (hA : okA A) {t s x : Nat} (ht : t < 2 ^ 31) (hs : s < 2 ^ 31) (hx : x < 2 ^ 31) : ∀ (d k q2 : Nat), k + d = nM A → FX2_tellsHeight_L3 q (nI t) (nI s) (nI x) σ (d + 1 + q2) (nI k) = some (if tlB A t s x d k then 1 else 0)
  | 0, k, q2, hk => by
    have n31 := n16 hA
    have e : k = nM A := by omega
    subst e
    rw [show 0 + 1 + q2 = q2 + 1 by omega, FX2_tellsHeight_L3]
    simp only [p_cnt h, b1_s, le_nI n31 n31, Nat.le_refl, if_true]
    rfl
  | d + 1, k, q2, hk => by
    have n31 := n16 hA
    have hkn : k < nM A := by omega
    have mb := mk_b hA hkn
    have ih := thL h hA ht hs hx d (k + 1) q2 (by omega)
    rw [show d + 1 + 1 + q2 = (d + 1 + q2) + 1 by omega, FX2_tellsHeight_L3]
    simp only [p_cnt h, b1_s, le_nI n31 (show k < 2 ^ 31 by omega), if_neg (show ¬ nM A ≤ k by omega), isOf_e h hA hkn hs, number_1 h hA hkn, tells_e h hA hkn hx, bI_ite, nI_1, eq_nI (show mk A k 1 < 2 ^ 31 by omega) ht]
    rw [ih]
    by_cases c1 : mk A k 0 = s
    · by_cases c2 : mk A k 1 = t
      · by_cases c3 : lst (mk A k) ≤ x ∧ x ≤ gst (mk A k)
        · rw [tlB_t ⟨c1, c2, c3⟩, if_pos c1, if_pos c2, if_pos c3]; rfl
        · rw [tlB_f (fun hh => c3 hh.2.2), if_pos c1, if_pos c2, if_neg c3]
      · rw [tlB_f (fun hh => c2 hh.2.1), if_pos c1, if_neg c2]
    · rw [tlB_f (fun hh => c1 hh.1), if_neg c1]
theorem tellsHeight_e (h : isP σ q A) (hA : okA A) {t s x : Nat} (ht : t < 2 ^ 31) (hs : s < 2 ^ 31) (hx : x < 2 ^ 31) : FX2_tellsHeight q (nI t) (nI s) (nI x) σ = some (if tlB A t s x (nM A) 0 then 1 else 0) := by
  have n16' : nM A ≤ 16 := hA.1
  obtain ⟨q3, hq⟩ := qf (n := nM A) (by omega)
  have e := thL h hA ht hs hx (nM A) 0 q3 (by omega)
  rw [← hq] at e
  unfold FX2_tellsHeight
  rw [p_gC h, b1_s]; exact e
end TL
section TZ
variable {σ : qH} {a : Nat} {A : AS}
end TZ
