/-! Layer 2: the loudest measure against a height. -/
theorem dif_le0 {x y : Nat} (hx : x < 2 ^ 30) (hy : y < 2 ^ 30) : (nI x - nI y ≤ 0) = (x ≤ y) := by
  apply propext
  rw [Int32.le_iff_toInt_le, nI_sT hx hy, show (0 : Int32).toInt = 0 from rfl]; omega
def louder (A : AS) (x : Nat) (m m' : Me) : Bool := if wt A m = wt A m' then (if awy m x ≤ awy m' x then false else true) else (if wt A m ≤ wt A m' then false else true)
theorem awy_b {m : Me} {x : Nat} (h : okM m) (hx : x < 2 ^ 30) : awy m x < 2 ^ 30 := by
  have h1 := lst_r h
  unfold awy; omega
section LO
variable {σ : qH} {q : Nat} {A : AS}
theorem isLouder_e (h : isP σ q A) (hA : okA A) {k j x : Nat} (hk : k < nM A) (hj : j < nM A) (hx : x < 2 ^ 30) : FX2_isLouder q (nI k) (nI j) (nI x) σ = some (if louder A x (mk A k) (mk A j) then 1 else 0) := by
  have w1 := wt_b hA hk
  have w2 := wt_b hA hj
  have a1 := awy_b (hA.2.1 k hk) hx
  have a2 := awy_b (hA.2.1 j hj) hx
  unfold FX2_isLouder louder
  simp only [p_gC h, b1_s, weight_e h hA hk, weight_e h hA hj, feetFrom_e h hA hk hx, feetFrom_e h hA hj hx, dif_eq (show wt A (mk A k) < 2 ^ 30 by omega) (show wt A (mk A j) < 2 ^ 30 by omega), dif_le0 (show wt A (mk A k) < 2 ^ 30 by omega) (show wt A (mk A j) < 2 ^ 30 by omega), le_nI (show awy (mk A k) x < 2 ^ 31 by omega) (show awy (mk A j) x < 2 ^ 31 by omega)]
  by_cases c : wt A (mk A k) = wt A (mk A j)
  · by_cases c2 : awy (mk A k) x ≤ awy (mk A j) x
    · rw [if_pos c, if_pos c2, if_pos c, if_pos c2]; rfl
    · rw [if_pos c, if_neg c2, if_pos c, if_neg c2]; rfl
  · by_cases c2 : wt A (mk A k) ≤ wt A (mk A j)
    · rw [if_neg c, if_pos c2, if_neg c, if_pos c2]; rfl
    · rw [if_neg c, if_neg c2, if_neg c, if_neg c2]; rfl
end LO
