/-! Layer 2: the actions and the save slots, side by side. -/
section AC
variable {σ : qH} {n N : Nat} {A : AS} {L : List AS} {K : Nat → Option AS} {f : Nat → Nat} {rf : Int32}
theorem le16 (hA : okA A) : ((16 : Int32) ≤ nI (nM A)) = (16 ≤ nM A) := le_nI (a := 16) (by omega) (by have := hA.1; have n9 : nM A = (aM A).length := rfl; omega)
end AC
