/-! Layer 2: the ballot of the class, by ends: the highest. -/
def hiI (A : AS) (s : Nat) (y : Int32) (l k x : Nat) : Prop := l ≤ x ∧ x ≤ 999 ∧ (x = 999 ∨ vtG A s y (x + 1) < vtG A s y l) ∧ ∀ i, i < k → nI i ≠ y → mk A i 0 = s → l ≤ gst (mk A i) → vtG A s y (gst (mk A i) + 1) < vtG A s y l → x ≤ gst (mk A i)
theorem chL {q b s l : Nat} {A : AS} {y : Int32} (hd : b < q ∨ q + 6 < b) (hA : okA A) (hs : s < 2 ^ 31) (hl : l ≤ 999) : ∀ (d k q2 : Nat) (σ : qH) (x : Nat), k + d = nM A → isP σ q A → isB σ b (nI l) (nI x) (nI (vtG A s y l)) → hiI A s y l k x → ∃ σ' x', FX0_countByEnds_L84 b q (nI s) y (d + 1 + q2) (nI k) σ = some σ' ∧ isB σ' b (nI l) (nI x') (nI (vtG A s y l)) ∧ hiI A s y l (nM A) x' ∧ OfZ σ σ' b
  | 0, k, q2, σ, x, hk, hp, hb, hi => by
    have n31 := n16 hA
    have e : k = nM A := by omega
    subst e
    refine ⟨σ, x, ?_, hb, hi, OfZ.rf⟩
    rw [show 0 + 1 + q2 = q2 + 1 by omega, FX0_countByEnds_L84]
    simp only [count_e hp, b1_s, le_nI n31 n31, Nat.le_refl, if_true]
  | d + 1, k, q2, σ, x, hk, hp, hb, hi => by
    have n31 := n16 hA
    have hkn : k < nM A := by omega
    have mb := mk_b hA hkn
    have v1 := vtG_b hA (s := s) (x := l) (y := y)
    have v2 := vtG_b hA (s := s) (x := gst (mk A k) + 1) (y := y)
    have hv : FX2_voteOf q (nI s) (nI (gst (mk A k) + 1)) y σ = some (nI (vtG A s y (gst (mk A k) + 1))) := voteOf_g hp hA hs (show gst (mk A k) + 1 < 2 ^ 31 by omega) y
    obtain ⟨i1, i2, i3, i4⟩ := hi
    obtain ⟨r0, -, r1, r2, r3⟩ := B_r hb
    have stay : ¬ (nI k ≠ y ∧ mk A k 0 = s ∧ l ≤ gst (mk A k) ∧ gst (mk A k) < x ∧ vtG A s y (gst (mk A k) + 1) < vtG A s y l) → hiI A s y l (k + 1) x := fun hn => ⟨i1, i2, i3, fun i hi hy hs' h1 h2 => by
      by_cases ci : i = k
      · rw [ci] at hy hs' h1 h2 ⊢
        by_cases c : x ≤ gst (mk A k)
        · exact c
        · exact absurd ⟨hy, hs', h1, by omega, h2⟩ hn
      · exact i4 i (by omega) hy hs' h1 h2⟩
    have step : ∃ σ1 x1, (if nI k = y then some σ else if mk A k 0 = s then (if gst (mk A k) < l then some σ else if x ≤ gst (mk A k) then some σ else if vtG A s y l ≤ vtG A s y (gst (mk A k) + 1) then some σ else b1 (gP σ b 0 2 (.int (nI (gst (mk A k))))) fun s37 => some s37) else some σ) = some σ1 ∧ isB σ1 b (nI l) (nI x1) (nI (vtG A s y l)) ∧ hiI A s y l (k + 1) x1 ∧ OfZ σ σ1 b := by
      by_cases c : nI k = y
      · rw [if_pos c]; exact ⟨σ, x, rfl, hb, stay (fun hh => hh.1 c), OfZ.rf⟩
      · by_cases c2 : mk A k 0 = s
        · by_cases c3 : gst (mk A k) < l
          · rw [if_neg c, if_pos c2, if_pos c3]; exact ⟨σ, x, rfl, hb, stay (fun hh => by omega), OfZ.rf⟩
          · by_cases c4 : x ≤ gst (mk A k)
            · rw [if_neg c, if_pos c2, if_neg c3, if_pos c4]; exact ⟨σ, x, rfl, hb, stay (fun hh => by omega), OfZ.rf⟩
            · by_cases c5 : vtG A s y l ≤ vtG A s y (gst (mk A k) + 1)
              · rw [if_neg c, if_pos c2, if_neg c3, if_neg c4, if_pos c5]; exact ⟨σ, x, rfl, hb, stay (fun hh => by omega), OfZ.rf⟩
              · obtain ⟨σ1, e1, g1, o1⟩ := (B_w hb (nI (gst (mk A k)))).2.1
                rw [if_neg c, if_pos c2, if_neg c3, if_neg c4, if_neg c5, e1, b1_s]
                refine ⟨σ1, gst (mk A k), rfl, g1, ⟨by omega, by omega, Or.inr (by omega), fun i hi hy hs' h1 h2 => ?_⟩, o1⟩
                by_cases ci : i = k
                · rw [ci]; exact Nat.le_refl _
                · have := i4 i (by omega) hy hs' h1 h2; omega
        · rw [if_neg c, if_neg c2]; exact ⟨σ, x, rfl, hb, stay (fun hh => c2 hh.2.1), OfZ.rf⟩
    obtain ⟨σ1, x1, e1, hb1, hi1, o1⟩ := step
    obtain ⟨σ2, x2, e2, hb2, hi2, o2⟩ := chL hd hA hs hl d (k + 1) q2 σ1 x1 (by omega) (isP_z hp o1 hd) hb1 hi1
    refine ⟨σ2, x2, ?_, hb2, hi2, o1.tr o2⟩
    rw [show d + 1 + 1 + q2 = (d + 1 + q2) + 1 by omega, FX0_countByEnds_L84]
    simp only [count_e hp, b1_s, le_nI n31 (show k < 2 ^ 31 by omega), if_neg (show ¬ nM A ≤ k by omega), isOf_e hp hA hkn hs, number_8 hp hA hkn, r1, r2, r3, nI_1, hv, bI_ite, lt_nI (show gst (mk A k) < 2 ^ 31 by omega) (show l < 2 ^ 31 by omega), le_nI (show x < 2 ^ 31 by omega) (show gst (mk A k) < 2 ^ 31 by omega), le_nI (show vtG A s y l < 2 ^ 31 by omega) (show vtG A s y (gst (mk A k) + 1) < 2 ^ 31 by omega)]
    rw [e1, b1_s, e2]
abbrev lowG (A : AS) (s : Nat) (y : Int32) : Nat := loF (vtG A s y) 998
abbrev higG (A : AS) (s : Nat) (y : Int32) : Nat := hiF (vtG A s y) (999 - lowG A s y) (lowG A s y)
theorem countByEnds_e {σ : qH} {q b s : Nat} {A : AS} {y l h m : Int32} (hb : isB σ b l h m) (hp : isP σ q A) (hd : b < q ∨ q + 6 < b) (hA : okA A) (hs : s < 2 ^ 31) : ∃ σ', FX0_countByEnds b q (nI s) y σ = some σ' ∧ isB σ' b (nI (lowG A s y)) (nI (higG A s y)) (nI (vtG A s y (lowG A s y))) ∧ OfZ σ σ' b := by
  have n16' : nM A ≤ 16 := hA.1
  obtain ⟨σ1, e1, g1, o1⟩ := (B_w hb 1).1
  have p1 := isP_z hp o1 hd
  have hv : FX2_voteOf q (nI s) 1 y σ1 = some (nI (vtG A s y 1)) := voteOf_g p1 hA hs (x := 1) (by omega) y
  obtain ⟨σ2, e2, g2, o2⟩ := (B_w g1 (nI (vtG A s y 1))).2.2
  have p2 := isP_z p1 o2 hd
  obtain ⟨q3, hq⟩ := qf (n := nM A) (by omega)
  obtain ⟨σ3, l', e3, g3, i3, o3⟩ := ceL (y := y) hd hA hs (nM A) 0 q3 σ2 1 (by omega) p2 g2 ⟨by omega, by omega, ⟨Nat.le_refl _, fun _ => Nat.le_refl _⟩, fun i hi => absurd hi (Nat.not_lt_zero _)⟩
  have hlow : lowG A s y = l' := vtG_low i3.1 i3.2.1 i3.2.2.1 i3.2.2.2
  have p3 := isP_z p2 o3 hd
  obtain ⟨σ4, e4, g4, o4⟩ := (B_w g3 999).2.1
  have p4 := isP_z p3 o4 hd
  obtain ⟨σ5, x', e5, g5, i5, o5⟩ := chL (y := y) hd hA hs i3.2.1 (nM A) 0 q3 σ4 999 (by omega) p4 g4 ⟨i3.2.1, by omega, Or.inl rfl, fun i hi => absurd hi (Nat.not_lt_zero _)⟩
  have hhig : higG A s y = x' := by
    show hiF (vtG A s y) (999 - lowG A s y) (lowG A s y) = x'
    rw [hlow]
    exact vtG_hig hlow i5.1 i5.2.1 i5.2.2.1 i5.2.2.2
  rw [← hq] at e3 e5
  have e3' : FX0_countByEnds_L19 b q (nI s) y qfuel 0 σ2 = some σ3 := e3
  have e5' : FX0_countByEnds_L84 b q (nI s) y qfuel 0 σ4 = some σ5 := e5
  refine ⟨σ5, ?_, ?_, (((o1.tr o2).tr o3).tr o4).tr o5⟩
  · unfold FX0_countByEnds
    rw [(B_r hb).1, b1_s, e1, b1_s, hv, b1_s, e2, b1_s, e3', b1_s, e4, b1_s, e5', b1_s]
  · rw [hhig, hlow]; exact g5
