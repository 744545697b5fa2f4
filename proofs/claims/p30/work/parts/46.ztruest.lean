/-! Layer 2: the reference's teller mostly right. -/
section ZT
variable {σ : qH} {a b : Nat} {A : AS}
theorem z_tI (h : isZ σ a A) {k : Nat} (hk : k < 6) : aI σ a (15 + nI k) = some (cR A k) ∧ aI σ a (21 + nI k) = some (nI (aWr A k)) := (z_t h hk).2
end ZT
