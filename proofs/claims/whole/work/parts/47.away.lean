/-! Layer 2: feet between a measure's range and a height. -/
def awy (m : Me) (x : Nat) : Nat := max (lst m - x) (x - gst m)
section AW
variable {σ : qH} {q a : Nat} {A : AS}
theorem feetFrom_e (h : isP σ q A) (hA : okA A) {k x : Nat} (hk : k < nM A) (hx : x < 2 ^ 30) : FX2_feetFrom q (nI k) (nI x) σ = some (nI (awy (mk A k) x)) := by
  have mb := mk_b hA hk
  unfold FX2_feetFrom
  simp only [p_gC h, b1_s, number_7 h hA hk, number_8 h hA hk, max_e]
  rw [mx_sub (by omega) hx hx (by omega)]; rfl
theorem away_e (h : isZ σ a A) (hA : okA A) {k x : Nat} (hk : k < nM A) (hx : x < 2 ^ 30) : FX7_away a (nI k) (nI x) σ = some (nI (awy (mk A k) x)) := by
  have mb := mk_b hA hk
  have lg := lst_gst (hA.2.1 k hk)
  unfold FX7_away awy
  simp only [zleast_e h hA hk, zgreat_e h hA hk, b1_s, le_nI (show lst (mk A k) < 2 ^ 31 by omega) (show x < 2 ^ 31 by omega), le_nI (show x < 2 ^ 31 by omega) (show gst (mk A k) < 2 ^ 31 by omega)]
  by_cases c1 : lst (mk A k) ≤ x
  · by_cases c2 : x ≤ gst (mk A k)
    · rw [if_pos c1, if_pos c2, b1_s, show max (lst (mk A k) - x) (x - gst (mk A k)) = 0 by omega]; rfl
    · rw [if_pos c1, if_neg c2, pk_sub (by omega), b1_s, show max (lst (mk A k) - x) (x - gst (mk A k)) = x - gst (mk A k) by omega]
  · rw [if_neg c1, pk_sub (by omega), b1_s, show max (lst (mk A k) - x) (x - gst (mk A k)) = lst (mk A k) - x by omega]
end AW
