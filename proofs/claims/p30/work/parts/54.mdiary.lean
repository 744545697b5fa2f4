/-! Layer 2: the reference's diary and its kept rows. -/
def shd (z : Nat → Int32) (y : Nat) : Nat → Int32 := fun j => if y ≤ j ∧ j < 1846 then z (j + 142) else z j
section MD
variable {σ : qH} {m N : Nat} {A : AS} {L : List AS} {K : Nat → Option AS} {f : Nat → Nat} {rf : Int32}
theorem take14 {A : AS} {L : List AS} {j : Nat} (h : j + 1 < 14) : ((A :: L).take 14).getD (j + 1) newA = L.getD j newA := by
  rw [List.getD_eq_getElem?_getD, List.getElem?_take_of_lt h, List.getElem?_cons_succ, ← List.getD_eq_getElem?_getD]
theorem take14l {A : AS} {L : List AS} : ((A :: L).take 14).length = min 14 (L.length + 1) := by
  rw [List.length_take, List.length_cons]
end MD
