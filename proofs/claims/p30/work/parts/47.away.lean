/-! Layer 2: feet between a measure's range and a height. -/
def awy (m : Me) (x : Nat) : Nat := max (lst m - x) (x - gst m)
section AW
variable {σ : qH} {q a : Nat} {A : AS}
theorem feetFrom_e (h : isP σ q A) (hA : okA A) {k x : Nat} (hk : k < nM A) (hx : x < 2 ^ 30) : FX2_feetFrom q (nI k) (nI x) σ = some (nI (awy (mk A k) x)) := by
  have mb := mk_b hA hk
  unfold FX2_feetFrom
  simp only [p_gC h, b1_s, number_7 h hA hk, number_8 h hA hk, max_e]
  rw [mx_sub (by omega) hx hx (by omega)]; rfl
end AW
