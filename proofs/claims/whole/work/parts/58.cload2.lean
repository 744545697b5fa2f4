/-! Layer 2: the class's load. -/
section TM
variable {σ : qH} {q : Nat} {A : AS}
theorem tryM_t {x : Me} (h : isP σ q A) (hA : okA A) (hx : okM x) (hf : fitP (nI (x 2)) (nI (x 3)) (nI (x 4)) (nI (x 5)) (nI (x 6))) (hn : nM A < 16) : ∃ σ', FX2_tryMeasure q (nI (x 0)) (nI (x 1)) (nI (x 2)) (nI (x 3)) (nI (x 4)) (nI (x 5)) (nI (x 6)) σ = some (1, σ') ∧ isP σ' q (addA A x) ∧ Off σ σ' q := by
  have c1 : inZ (nI (x 0)) 0 2 := (inZ_nI (by have := hx.1; omega)).mpr (by have := hx.1; omega)
  have c2 : inZ (nI (x 1)) 0 5 := (inZ_nI (by have := hx.2.1; omega)).mpr (by have := hx.2.1; omega)
  obtain ⟨σ1, e1, h1, o1⟩ := addMeasure_e h hA hn hx
  unfold FX2_tryMeasure
  simp only [p_gC h, b1_s, isSteeple_e, isTeller_e, fits_e, isFull_e h hA, bI_ite]
  rw [if_pos c1, if_pos c2, if_pos hf, if_neg (by omega), e1, b2_s]
  exact ⟨σ1, rfl, h1, o1⟩
theorem tryM_f {s t k a b c e : Int32} (h : isP σ q A) (hA : okA A) (hn : ¬ (inZ s 0 2 ∧ inZ t 0 5 ∧ fitP k a b c e ∧ nM A < 16)) : FX2_tryMeasure q s t k a b c e σ = some (0, σ) := by
  rcases tryMeasure_e (s := s) (t := t) (k := k) (a := a) (b := b) (c := c) (e := e) h hA with ⟨x, hx, h16, -, ⟨a1, a2, a3⟩, -⟩ | ⟨-, e1⟩
  · exact absurd ⟨a1, a2, a3, h16⟩ hn
  · exact e1
end TM
theorem doC_100 {l : List Nat} {A : AS} : doC 100 l A = if l.getD 0 0 < nM A then (drpA A (l.getD 0 0), 0) else (A, 1) := if_pos rfl
theorem doC_111 {l : List Nat} {A : AS} : doC 111 l A = if nM A < 16 then (addA A (mm7 (l.getD 0 0) (l.getD 1 0) 1 (l.getD 2 0) (l.getD 3 0) (l.getD 4 0) (l.getD 5 0)), 0) else (A, 1) := by
  unfold doC; rw [if_neg (by decide), if_pos rfl]
theorem doC_113 {l : List Nat} {A : AS} : doC 113 l A = (eve A, 0) := by
  unfold doC; rw [if_neg (by decide), if_neg (by decide), if_pos rfl]
theorem doC_115 {l : List Nat} {A : AS} : doC 115 l A = if nM A < 16 then (addA A (mm7 (l.getD 0 0) (l.getD 1 0) 0 (l.getD 2 0) (l.getD 3 0) (l.getD 4 0) (l.getD 5 0)), 0) else (A, 1) := by
  unfold doC; rw [if_neg (by decide), if_neg (by decide), if_neg (by decide), if_pos rfl]
theorem doC_116 {l : List Nat} {A : AS} : doC 116 l A = (truA A (l.getD 0 0) (l.getD 1 0), 0) := by
  unfold doC; rw [if_neg (by decide), if_neg (by decide), if_neg (by decide), if_neg (by decide), if_pos rfl]
theorem doC_118 {l : List Nat} {A : AS} : doC 118 l A = ((srv A (l.getD 0 0) (l.getD 1 0)).2, 0) := by
  unfold doC; rw [if_neg (by decide), if_neg (by decide), if_neg (by decide), if_neg (by decide), if_neg (by decide), if_pos rfl]
theorem doC_119 {l : List Nat} {A : AS} : doC 119 l A = if l.getD 2 0 ≤ l.getD 3 0 ∧ nM A < 16 then (addA A (mm7 (l.getD 0 0) (l.getD 1 0) 2 (l.getD 2 0) (l.getD 3 0) 0 0), 0) else (A, 1) := by
  unfold doC; rw [if_neg (by decide), if_neg (by decide), if_neg (by decide), if_neg (by decide), if_neg (by decide), if_neg (by decide)]
/-- the three kinds of measures of a text -/
theorem mmS {l : List Nat} (h : inF fS l) : okM (mm7 (l.getD 0 0) (l.getD 1 0) 0 (l.getD 2 0) (l.getD 3 0) (l.getD 4 0) (l.getD 5 0)) ∧ fitP (nI 0) (nI (l.getD 2 0)) (nI (l.getD 3 0)) (nI (l.getD 4 0)) (nI (l.getD 5 0)) := by
  have h0 : 0 ≤ l.getD 0 0 ∧ l.getD 0 0 ≤ 2 := h 0 _ rfl
  have h1 : 0 ≤ l.getD 1 0 ∧ l.getD 1 0 ≤ 5 := h 1 _ rfl
  have h2 : 1 ≤ l.getD 2 0 ∧ l.getD 2 0 ≤ 20 := h 2 _ rfl
  have h3 : 1 ≤ l.getD 3 0 ∧ l.getD 3 0 ≤ 40 := h 3 _ rfl
  have h4 : 1 ≤ l.getD 4 0 ∧ l.getD 4 0 ≤ 400 := h 4 _ rfl
  have h5 : 0 ≤ l.getD 5 0 ∧ l.getD 5 0 ≤ 20 := h 5 _ rfl
  exact ⟨mm7_ok (by omega) (by omega) (by omega) (by omega) (by omega) (by omega) (by omega) (by omega) (by omega) (by omega), Or.inl ⟨rfl, (inZ_nI (by omega)).mpr (by omega), (inZ_nI (by omega)).mpr (by omega), (inZ_nI (by omega)).mpr (by omega), (inZ_nI (by omega)).mpr (by omega)⟩⟩
theorem mmO {l : List Nat} (h : inF fO l) : okM (mm7 (l.getD 0 0) (l.getD 1 0) 1 (l.getD 2 0) (l.getD 3 0) (l.getD 4 0) (l.getD 5 0)) ∧ fitP (nI 1) (nI (l.getD 2 0)) (nI (l.getD 3 0)) (nI (l.getD 4 0)) (nI (l.getD 5 0)) := by
  have h0 : 0 ≤ l.getD 0 0 ∧ l.getD 0 0 ≤ 2 := h 0 _ rfl
  have h1 : 0 ≤ l.getD 1 0 ∧ l.getD 1 0 ≤ 5 := h 1 _ rfl
  have h2 : 1 ≤ l.getD 2 0 ∧ l.getD 2 0 ≤ 9 := h 2 _ rfl
  have h3 : 1 ≤ l.getD 3 0 ∧ l.getD 3 0 ≤ 60 := h 3 _ rfl
  have h4 : 1 ≤ l.getD 4 0 ∧ l.getD 4 0 ≤ 400 := h 4 _ rfl
  have h5 : 0 ≤ l.getD 5 0 ∧ l.getD 5 0 ≤ 20 := h 5 _ rfl
  exact ⟨mm7_ok (by omega) (by omega) (by omega) (by omega) (by omega) (by omega) (by omega) (by omega) (by omega) (by omega), Or.inr (Or.inl ⟨rfl, (inZ_nI (by omega)).mpr (by omega), (inZ_nI (by omega)).mpr (by omega), (inZ_nI (by omega)).mpr (by omega), (inZ_nI (by omega)).mpr (by omega)⟩)⟩
theorem mmW {l : List Nat} (h : inF fW l) (hab : l.getD 2 0 ≤ l.getD 3 0) : okM (mm7 (l.getD 0 0) (l.getD 1 0) 2 (l.getD 2 0) (l.getD 3 0) 0 0) := by
  have h0 : 0 ≤ l.getD 0 0 ∧ l.getD 0 0 ≤ 2 := h 0 _ rfl
  have h1 : 0 ≤ l.getD 1 0 ∧ l.getD 1 0 ≤ 5 := h 1 _ rfl
  have h2 : 1 ≤ l.getD 2 0 ∧ l.getD 2 0 ≤ 999 := h 2 _ rfl
  have h3 : 1 ≤ l.getD 3 0 ∧ l.getD 3 0 ≤ 999 := h 3 _ rfl
  exact mm7_ok (by omega) (by omega) (by omega) (by omega) (by omega) (by omega) (by omega) (by omega) (by omega) (by omega)
theorem mmWf {l : List Nat} (h : inF fW l) : fitP (nI 2) (nI (l.getD 2 0)) (nI (l.getD 3 0)) (nI 0) (nI 0) ↔ l.getD 2 0 ≤ l.getD 3 0 := by
  have h2 : 1 ≤ l.getD 2 0 ∧ l.getD 2 0 ≤ 999 := h 2 _ rfl
  have h3 : 1 ≤ l.getD 3 0 ∧ l.getD 3 0 ≤ 999 := h 3 _ rfl
  refine ⟨fun z => ?_, fun z => Or.inr (Or.inr ⟨rfl, (inZ_nI (by omega)).mpr (by omega), (inZ_nI (by omega)).mpr (by omega), ?_, rfl, rfl⟩)⟩
  · rcases z with z | z | z
    · exact absurd z.1 (by decide)
    · exact absurd z.1 (by decide)
    · have := z.2.2.2.1
      rw [nI_toInt (by omega), nI_toInt (by omega)] at this
      omega
  · rw [nI_toInt (by omega), nI_toInt (by omega)]; omega
theorem doC_2 {c : Nat} {l : List Nat} {A : AS} {F : FT} (hF : frm c = some F) : (doC c l A).2 = 0 ∨ (doC c l A).2 = 1 := by
  rcases frm_c hF with ⟨rfl, -⟩ | ⟨rfl, -⟩ | ⟨rfl, -⟩ | ⟨rfl, -⟩ | ⟨rfl, -⟩ | ⟨rfl, -⟩ | ⟨rfl, -⟩
  · rw [doC_100]; split
    · exact Or.inl rfl
    · exact Or.inr rfl
  · rw [doC_111]; split
    · exact Or.inl rfl
    · exact Or.inr rfl
  · rw [doC_113]; exact Or.inl rfl
  · rw [doC_115]; split
    · exact Or.inl rfl
    · exact Or.inr rfl
  · rw [doC_116]; exact Or.inl rfl
  · rw [doC_118]; exact Or.inl rfl
  · rw [doC_119]; split
    · exact Or.inl rfl
    · exact Or.inr rfl
theorem doCom_e {σ : qH} {n N p c : Nat} {A : AS} {ts ns : Nat → Int32} {l : List Nat} {F : FT} (h0 : σ n = some (oC n)) (hp : isP σ (n + 1) A) (hA : okA A) (ht : tX σ (n + 117) N p (nI c) ts ns) (hF : frm c = some F) (hl : inF F l) (hn : ∀ j, j < F.length → ns j = nI (l.getD j 0)) : ∃ σ', FX6_doCommandOfText n σ = some (if (doC c l A).2 = 0 then 1 else 0, σ') ∧ isP σ' (n + 1) (doC c l A).1 ∧ okA (doC c l A).1 ∧ Off σ σ' (n + 1) := by
  have g0 : gR σ n 4 0 = some (n + 1) := gR_e h0 rfl
  have g5 : gR σ n 4 5 = some (n + 117) := gR_e h0 rfl
  have gc : gC σ n 4 = some () := gC_e h0
  have r := X_r ht
  have nu : ∀ i, i < 6 → FX5_number (n + 117) (nI i) σ = some (ns i) := fun i hi => by
    unfold FX5_number
    rw [r.1, b1_s, r.2.2.2.2.2, b1_s, aI_e ht.2.2 hi (by omega), b1_s]
  have n0 : FX5_number (n + 117) 0 σ = some (ns 0) := nu 0 (by omega)
  have n1 : FX5_number (n + 117) 1 σ = some (ns 1) := nu 1 (by omega)
  have n2 : FX5_number (n + 117) 2 σ = some (ns 2) := nu 2 (by omega)
  have n3 : FX5_number (n + 117) 3 σ = some (ns 3) := nu 3 (by omega)
  have n4 : FX5_number (n + 117) 4 σ = some (ns 4) := nu 4 (by omega)
  have n5 : FX5_number (n + 117) 5 σ = some (ns 5) := nu 5 (by omega)
  have cm : FX5_command (n + 117) σ = some (nI c) := by
    unfold FX5_command
    rw [r.1, b1_s, r.2.2.2.2.1, b1_s]
  unfold FX6_doCommandOfText
  simp only [gc, g0, g5, n0, n1, n2, n3, n4, n5, cm, b1_s]
  rcases frm_c hF with ⟨rfl, rfl⟩ | ⟨rfl, rfl⟩ | ⟨rfl, rfl⟩ | ⟨rfl, rfl⟩ | ⟨rfl, rfl⟩ | ⟨rfl, rfl⟩ | ⟨rfl, rfl⟩
  · have m0 := hn 0 (by decide)
    have l0 : 0 ≤ l.getD 0 0 ∧ l.getD 0 0 ≤ 15 := hl 0 _ rfl
    rw [if_pos (show nI 100 = (100 : Int32) from rfl), doC_100, m0]
    rcases tryDrop_e (x := nI (l.getD 0 0)) hp hA with ⟨k, k1, k2, σ1, e1, p1, o1⟩ | ⟨k1, e1⟩
    · have hk16 := hA.1
      have n9 : nM A = (aM A).length := rfl
      have : l.getD 0 0 = k := (nI_eq (by omega) (by omega)).mp k2
      have hlt : l.getD 0 0 < nM A := by omega
      rw [e1, b2_s, if_pos hlt, if_pos (Or.inr rfl), this]
      exact ⟨σ1, rfl, p1, drpA_ok hA k1, o1⟩
    · have : ¬ l.getD 0 0 < nM A := fun z => k1 ((inZ_nI (by omega)).mpr (by omega))
      rw [e1, b2_s, if_pos (Or.inl rfl), if_neg this]
      exact ⟨σ, rfl, hp, hA, Off.rf⟩
  · have m0 := hn 0 (by decide)
    have m1 := hn 1 (by decide)
    have m2 := hn 2 (by decide)
    have m3 := hn 3 (by decide)
    have m4 := hn 4 (by decide)
    have m5 := hn 5 (by decide)
    obtain ⟨x1, x2⟩ := mmO hl
    rw [if_neg (show ¬ nI 111 = (100 : Int32) by decide), if_pos (show nI 111 = (111 : Int32) from rfl), doC_111, m0, m1, m2, m3, m4, m5]
    by_cases c16 : nM A < 16
    · obtain ⟨σ1, e1, p1, o1⟩ := tryM_t hp hA x1 x2 c16
      have e1' : FX2_tryMeasure (n + 1) (nI (l.getD 0 0)) (nI (l.getD 1 0)) 1 (nI (l.getD 2 0)) (nI (l.getD 3 0)) (nI (l.getD 4 0)) (nI (l.getD 5 0)) σ = some (1, σ1) := e1
      rw [e1', b2_s, if_pos (Or.inr rfl), if_pos c16]
      exact ⟨σ1, rfl, p1, addA_ok hA c16 x1, o1⟩
    · rw [tryM_f hp hA (fun z => c16 z.2.2.2), b2_s, if_pos (Or.inl rfl), if_neg c16]
      exact ⟨σ, rfl, hp, hA, Off.rf⟩
  · rw [if_neg (show ¬ nI 113 = (100 : Int32) by decide), if_neg (show ¬ nI 113 = (111 : Int32) by decide), if_pos (show nI 113 = (113 : Int32) from rfl), doC_113]
    obtain ⟨σ1, e1, p1, o1⟩ := passEvening_e hp hA
    rw [e1, b2_s]
    exact ⟨σ1, rfl, p1, eve_ok hA, o1⟩
  · have m0 := hn 0 (by decide)
    have m1 := hn 1 (by decide)
    have m2 := hn 2 (by decide)
    have m3 := hn 3 (by decide)
    have m4 := hn 4 (by decide)
    have m5 := hn 5 (by decide)
    obtain ⟨x1, x2⟩ := mmS hl
    rw [if_neg (show ¬ nI 115 = (100 : Int32) by decide), if_neg (show ¬ nI 115 = (111 : Int32) by decide), if_neg (show ¬ nI 115 = (113 : Int32) by decide), if_pos (show nI 115 = (115 : Int32) from rfl), doC_115, m0, m1, m2, m3, m4, m5]
    by_cases c16 : nM A < 16
    · obtain ⟨σ1, e1, p1, o1⟩ := tryM_t hp hA x1 x2 c16
      have e1' : FX2_tryMeasure (n + 1) (nI (l.getD 0 0)) (nI (l.getD 1 0)) 0 (nI (l.getD 2 0)) (nI (l.getD 3 0)) (nI (l.getD 4 0)) (nI (l.getD 5 0)) σ = some (1, σ1) := e1
      rw [e1', b2_s, if_pos (Or.inr rfl), if_pos c16]
      exact ⟨σ1, rfl, p1, addA_ok hA c16 x1, o1⟩
    · rw [tryM_f hp hA (fun z => c16 z.2.2.2), b2_s, if_pos (Or.inl rfl), if_neg c16]
      exact ⟨σ, rfl, hp, hA, Off.rf⟩
  · have m0 := hn 0 (by decide)
    have m1 := hn 1 (by decide)
    have l0 : 0 ≤ l.getD 0 0 ∧ l.getD 0 0 ≤ 5 := hl 0 _ rfl
    have l1 : 0 ≤ l.getD 1 0 ∧ l.getD 1 0 ≤ 9 := hl 1 _ rfl
    rw [if_neg (show ¬ nI 116 = (100 : Int32) by decide), if_neg (show ¬ nI 116 = (111 : Int32) by decide), if_neg (show ¬ nI 116 = (113 : Int32) by decide), if_neg (show ¬ nI 116 = (115 : Int32) by decide), if_pos (show nI 116 = (116 : Int32) from rfl), doC_116, m0, m1]
    rcases tryTrust_e (x := nI (l.getD 0 0)) (y := nI (l.getD 1 0)) hp with ⟨t, v, t1, v1, t2, v2, σ1, e1, p1, o1⟩ | ⟨k1, e1⟩
    · have et : l.getD 0 0 = t := (nI_eq (by omega) (by omega)).mp t2
      have ev : l.getD 1 0 = v := (nI_eq (by omega) (by omega)).mp v2
      rw [e1, b2_s, if_pos (Or.inr rfl), et, ev]
      exact ⟨σ1, rfl, p1, truA_ok hA v1, o1⟩
    · exact absurd ⟨(inZ_nI (by omega)).mpr (by omega), (inZ_nI (by omega)).mpr (by omega)⟩ k1
  · have m0 := hn 0 (by decide)
    have m1 := hn 1 (by decide)
    have l0 : 0 ≤ l.getD 0 0 ∧ l.getD 0 0 ≤ 2 := hl 0 _ rfl
    have l1 : 1 ≤ l.getD 1 0 ∧ l.getD 1 0 ≤ 999 := hl 1 _ rfl
    rw [if_neg (show ¬ nI 118 = (100 : Int32) by decide), if_neg (show ¬ nI 118 = (111 : Int32) by decide), if_neg (show ¬ nI 118 = (113 : Int32) by decide), if_neg (show ¬ nI 118 = (115 : Int32) by decide), if_neg (show ¬ nI 118 = (116 : Int32) by decide), if_pos (show nI 118 = (118 : Int32) from rfl), doC_118, m0, m1]
    rcases trySurvey_e (x := nI (l.getD 0 0)) (y := nI (l.getD 1 0)) hp hA with ⟨t, v, t1, v1, v1', t2, v2, σ1, e1, p1, ok1, o1⟩ | ⟨k1, e1⟩
    · have et : l.getD 0 0 = t := (nI_eq (by omega) (by omega)).mp t2
      have ev : l.getD 1 0 = v := (nI_eq (by omega) (by omega)).mp v2
      rw [e1, b2_s, if_pos (Or.inr rfl), et, ev]
      exact ⟨σ1, rfl, p1, ok1, o1⟩
    · exact absurd ⟨(inZ_nI (by omega)).mpr (by omega), (inZ_nI (by omega)).mpr (by omega)⟩ k1
  · have m0 := hn 0 (by decide)
    have m1 := hn 1 (by decide)
    have m2 := hn 2 (by decide)
    have m3 := hn 3 (by decide)
    rw [if_neg (show ¬ nI 119 = (100 : Int32) by decide), if_neg (show ¬ nI 119 = (111 : Int32) by decide), if_neg (show ¬ nI 119 = (113 : Int32) by decide), if_neg (show ¬ nI 119 = (115 : Int32) by decide), if_neg (show ¬ nI 119 = (116 : Int32) by decide), if_neg (show ¬ nI 119 = (118 : Int32) by decide), if_pos (show nI 119 = (119 : Int32) from rfl), doC_119, m0, m1, m2, m3]
    by_cases c16 : l.getD 2 0 ≤ l.getD 3 0 ∧ nM A < 16
    · have x1 := mmW hl c16.1
      obtain ⟨σ1, e1, p1, o1⟩ := tryM_t hp hA x1 ((mmWf hl).mpr c16.1) c16.2
      have e1' : FX2_tryMeasure (n + 1) (nI (l.getD 0 0)) (nI (l.getD 1 0)) 2 (nI (l.getD 2 0)) (nI (l.getD 3 0)) 0 0 σ = some (1, σ1) := e1
      rw [e1', b2_s, if_pos (Or.inr rfl), if_pos c16]
      exact ⟨σ1, rfl, p1, addA_ok hA c16.2 x1, o1⟩
    · have e1 : FX2_tryMeasure (n + 1) (nI (l.getD 0 0)) (nI (l.getD 1 0)) 2 (nI (l.getD 2 0)) (nI (l.getD 3 0)) 0 0 σ = some (0, σ) := tryM_f hp hA (fun z => c16 ⟨(mmWf hl).mp z.2.2.1, z.2.2.2⟩)
      rw [e1, b2_s, if_pos (Or.inl rfl), if_neg c16]
      exact ⟨σ, rfl, hp, hA, Off.rf⟩
