/-! Layer 2: the reference's counts. -/
theorem mx_le {x y : Int32} : (if x ≤ y then y else x) = mx x y := by
  unfold mx
  by_cases c : x < y
  · rw [if_pos c, if_pos (Int32.le_of_lt c)]
  · by_cases c2 : x ≤ y
    · have : x = y := Int32.le_antisymm c2 (Int32.not_lt.mp c)
      subst this; simp
    · rw [if_neg c, if_neg c2]
theorem mx_0 {x : Int32} : (if x ≤ 0 then 0 else x) = mx 0 x := by
  unfold mx
  by_cases c : x ≤ 0
  · rw [if_pos c, if_neg (Int32.not_lt.mpr c)]
  · rw [if_neg c, if_pos (Int32.not_le.mp c)]
theorem some_ite {α : Type} {p : Prop} [Decidable p] {x y : α} : (if p then some x else some y) = some (if p then x else y) := by split <;> rfl
section ZL
variable {σ : qH} {a : Nat} {A : AS}
end ZL
