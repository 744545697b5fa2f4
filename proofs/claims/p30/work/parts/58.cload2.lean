/-! Layer 2: the class's load. -/
section TM
variable {σ : qH} {q : Nat} {A : AS}
theorem tryM_t {x : Me} (h : isP σ q A) (hA : okA A) (hx : okM x) (hf : fitP (nI (x 2)) (nI (x 3)) (nI (x 4)) (nI (x 5)) (nI (x 6))) (hn : nM A < 16) : ∃ σ', FX2_tryMeasure q (nI (x 0)) (nI (x 1)) (nI (x 2)) (nI (x 3)) (nI (x 4)) (nI (x 5)) (nI (x 6)) σ = some (1, σ') ∧ isP σ' q (addA A x) ∧ Off σ σ' q := by
  have c1 : inZ (nI (x 0)) 0 2 := (inZ_nI (by have := hx.1; omega)).mpr (by have := hx.1; omega)
  have c2 : inZ (nI (x 1)) 0 5 := (inZ_nI (by have := hx.2.1; omega)).mpr (by have := hx.2.1; omega)
  obtain ⟨σ1, e1, h1, o1⟩ := addMeasure_e h hA hn hx
  unfold FX2_tryMeasure
  simp only [p_gC h, b1_s, isSteeple_e, isTeller_e, fits_e, isFull_e h hA, bI_ite]
  rw [if_pos c1, if_pos c2, if_pos hf, if_neg (by omega), e1, b2_s]
  exact ⟨σ1, rfl, h1, o1⟩
theorem tryM_f {s t k a b c e : Int32} (h : isP σ q A) (hA : okA A) (hn : ¬ (inZ s 0 2 ∧ inZ t 0 5 ∧ fitP k a b c e ∧ nM A < 16)) : FX2_tryMeasure q s t k a b c e σ = some (0, σ) := by
  rcases tryMeasure_e (s := s) (t := t) (k := k) (a := a) (b := b) (c := c) (e := e) h hA with ⟨x, hx, h16, -, ⟨a1, a2, a3⟩, -⟩ | ⟨-, e1⟩
  · exact absurd ⟨a1, a2, a3, h16⟩ hn
  · exact e1
end TM
