/-! Layer 2: the reference's row read. -/
theorem ltn {x y : Int32} : (x < y) = ¬ (y ≤ x) := propext Int32.not_le.symm
section ZR
variable {σ : qH} {a : Nat} {A : AS}
theorem z_i (h : isZ σ a A) {i : Nat} {v : Int32} (hi : i < 142) (hv : ∀ z : Nat → Int32, σ a = some (.inl (0, (142, .inl z))) → z i = v) : aI σ a (nI i) = some v := by
  obtain ⟨z, h0, -⟩ := h
  rw [aI_e h0 hi (by omega), hv z h0]
theorem z_u {z z' : Nat → Int32} (h : σ a = some (.inl (0, (142, .inl z)))) (h' : σ a = some (.inl (0, (142, .inl z')))) : z = z' := by
  rw [h] at h'
  simpa using h'
theorem z_n (h : isZ σ a A) : aI σ a 0 = some (nI (nM A)) := by
  obtain ⟨z, h0, h1, -⟩ := h; rw [show (0 : Int32) = nI 0 from rfl, aI_e h0 (by omega) (by omega), h1]
theorem z_c (h : isZ σ a A) : aI σ a 1 = some (nI (aCm A)) ∧ aI σ a 2 = some (nI (aEv A)) ∧ aI σ a 3 = some (nI (aSu A)) ∧ aI σ a 4 = some (nI (aLo A)) ∧ aI σ a 5 = some (nI (fb_sm (aRt A) 6)) ∧ aI σ a 6 = some (nI (fb_sm (aWr A) 6)) := by
  obtain ⟨z, h0, -, h1, h2, h3, h4, h5, h6, -⟩ := h
  refine ⟨?_, ?_, ?_, ?_, ?_, ?_⟩
  · rw [show (1 : Int32) = nI 1 from rfl, aI_e h0 (by omega) (by omega), h1]
  · rw [show (2 : Int32) = nI 2 from rfl, aI_e h0 (by omega) (by omega), h2]
  · rw [show (3 : Int32) = nI 3 from rfl, aI_e h0 (by omega) (by omega), h3]
  · rw [show (4 : Int32) = nI 4 from rfl, aI_e h0 (by omega) (by omega), h4]
  · rw [show (5 : Int32) = nI 5 from rfl, aI_e h0 (by omega) (by omega), h5]
  · rw [show (6 : Int32) = nI 6 from rfl, aI_e h0 (by omega) (by omega), h6]
theorem z_s (h : isZ σ a A) {i : Nat} (hi : i < 2) : aI σ a (nI (7 + i)) = some (nI (aSt A i)) := by
  obtain ⟨z, h0, -, -, -, -, -, -, -, h1, -⟩ := h; rw [aI_e h0 (by omega) (by omega), h1 i hi]
theorem z_s0 (h : isZ σ a A) : aI σ a 7 = some (nI (aSt A 0)) := z_s h (i := 0) (by omega)
theorem z_s1 (h : isZ σ a A) : aI σ a 8 = some (nI (aSt A 1)) := z_s h (i := 1) (by omega)
theorem z_t (h : isZ σ a A) {i : Nat} (hi : i < 6) : aI σ a (9 + nI i) = some (nI (aT A i)) ∧ aI σ a (15 + nI i) = some (nI (aRt A i)) ∧ aI σ a (21 + nI i) = some (nI (aWr A i)) := by
  obtain ⟨z, h0, -, -, -, -, -, -, -, -, h1, -⟩ := h
  rw [show (9 : Int32) = nI 9 from rfl, show (15 : Int32) = nI 15 from rfl, show (21 : Int32) = nI 21 from rfl, nI_add, nI_add, nI_add, aI_e h0 (by omega) (by omega), aI_e h0 (by omega) (by omega), aI_e h0 (by omega) (by omega)]
  obtain ⟨g1, g2, g3⟩ := h1 i hi
  rw [g1, g2, g3]; exact ⟨rfl, rfl, rfl⟩
theorem z_v (h : isZ σ a A) {i : Nat} (hi : i < 3) : aI σ a (27 + nI i) = some (aSv A i) := by
  obtain ⟨z, h0, -, -, -, -, -, -, -, -, -, h1, -⟩ := h
  rw [show (27 : Int32) = nI 27 from rfl, nI_add, aI_e h0 (by omega) (by omega), h1 i hi]
end ZR
