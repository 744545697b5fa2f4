/-! Layer 2: the ballot of the class, by ends. -/
abbrev oB (b : Nat) (l h m : Int32) : qE := .inr (0, [.ref (b + 1), .int l, .int h, .int m])
abbrev isB (σ : qH) (b : Nat) (l h m : Int32) : Prop := σ b = some (oB b l h m)
theorem isP_z {σ σ' : qH} {q b : Nat} {A : AS} (h : isP σ q A) (o : OfZ σ σ' b) (hd : b < q ∨ q + 6 < b) : isP σ' q A := by
  obtain ⟨m, t, r, w, v, s, c, ⟨h0, h1, h2, h3, h4, h5, h6⟩, hp⟩ := isP_raw h
  exact raw_isP ⟨by rw [o _ (by omega)]; exact h0, by rw [o _ (by omega)]; exact h1, by rw [o _ (by omega)]; exact h2, by rw [o _ (by omega)]; exact h3, by rw [o _ (by omega)]; exact h4, by rw [o _ (by omega)]; exact h5, by rw [o _ (by omega)]; exact h6⟩ hp
theorem B_r {σ : qH} {b : Nat} {l h m : Int32} (hb : isB σ b l h m) : gC σ b 0 = some () ∧ gR σ b 0 0 = some (b + 1) ∧ gI σ b 0 1 = some l ∧ gI σ b 0 2 = some h ∧ gI σ b 0 3 = some m :=
  ⟨gC_e hb, gR_e hb rfl, gI_e hb rfl, gI_e hb rfl, gI_e hb rfl⟩
theorem B_w {σ : qH} {b : Nat} {l h m : Int32} (hb : isB σ b l h m) (x : Int32) : (∃ σ', gP σ b 0 1 (.int x) = some σ' ∧ isB σ' b x h m ∧ OfZ σ σ' b) ∧ (∃ σ', gP σ b 0 2 (.int x) = some σ' ∧ isB σ' b l x m ∧ OfZ σ σ' b) ∧ (∃ σ', gP σ b 0 3 (.int x) = some σ' ∧ isB σ' b l h x ∧ OfZ σ σ' b) :=
  ⟨⟨_, gP_e hb (Nat.le_of_ble_eq_true rfl), qU_s, fun _ hb => qU_n hb⟩, ⟨_, gP_e hb (Nat.le_of_ble_eq_true rfl), qU_s, fun _ hb => qU_n hb⟩, ⟨_, gP_e hb (Nat.le_of_ble_eq_true rfl), qU_s, fun _ hb => qU_n hb⟩⟩
theorem tryLowest_e {σ : qH} {b l m x v : Nat} {h : Int32} (hb : isB σ b (nI l) h (nI m)) (hl : l < 2 ^ 31) (hm : m < 2 ^ 31) (hx : x < 2 ^ 31) (hv : v < 2 ^ 31) : ∃ σ', FX0_tryLowest b (nI x) (nI v) σ = some σ' ∧ OfZ σ σ' b ∧ ((m < v ∨ (v = m ∧ x < l)) ∧ isB σ' b (nI x) h (nI v) ∨ ¬ (m < v ∨ (v = m ∧ x < l)) ∧ isB σ' b (nI l) h (nI m)) := by
  obtain ⟨r0, -, r1, r2, r3⟩ := B_r hb
  obtain ⟨σ1, e1, g1, o1⟩ := (B_w hb (nI v)).2.2
  obtain ⟨σ2, e2, g2, o2⟩ := (B_w g1 (nI x)).1
  unfold FX0_tryLowest
  simp only [r0, r1, r3, b1_s, lt_nI hm hv, eq_nI hv hm, le_nI hl hx, e1, e2]
  by_cases c : m < v
  · rw [if_pos c, b1_s]; exact ⟨σ2, rfl, o1.tr o2, Or.inl ⟨Or.inl c, g2⟩⟩
  · by_cases c2 : v = m
    · by_cases c3 : l ≤ x
      · rw [if_neg c, if_pos c2, if_pos c3, b1_s]; exact ⟨σ, rfl, OfZ.rf, Or.inr ⟨by omega, hb⟩⟩
      · rw [if_neg c, if_pos c2, if_neg c3, b1_s]; exact ⟨σ2, rfl, o1.tr o2, Or.inl ⟨by omega, g2⟩⟩
    · rw [if_neg c, if_neg c2, b1_s]; exact ⟨σ, rfl, OfZ.rf, Or.inr ⟨by omega, hb⟩⟩
theorem vtG_b {A : AS} (hA : okA A) {s x : Nat} {y : Int32} : vtG A s y x ≤ 224 := by
  have n16' : nM A ≤ 16 := hA.1
  have := fsm_b (f := fun k => if nI k = y then 0 else vt1 A s x (mk A k)) (b := 14) (nM A) (fun k hk => by
    show (if nI k = y then 0 else vt1 A s x (mk A k)) ≤ 14
    unfold vt1
    have := wt_b hA hk
    split
    · omega
    · split <;> omega)
  have h2 : nM A * 14 ≤ 16 * 14 := Nat.mul_le_mul_right _ n16'
  show fb_sm _ _ ≤ _
  omega
def loI (A : AS) (s : Nat) (y : Int32) (k l : Nat) : Prop := 1 ≤ l ∧ l ≤ 999 ∧ (vtG A s y 1 ≤ vtG A s y l ∧ (vtG A s y 1 = vtG A s y l → l ≤ 1)) ∧ ∀ i, i < k → nI i ≠ y → mk A i 0 = s → vtG A s y (lst (mk A i)) ≤ vtG A s y l ∧ (vtG A s y (lst (mk A i)) = vtG A s y l → l ≤ lst (mk A i))
theorem ceL {q b s : Nat} {A : AS} {y h : Int32} (hd : b < q ∨ q + 6 < b) (hA : okA A) (hs : s < 2 ^ 31) : ∀ (d k q2 : Nat) (σ : qH) (l : Nat), k + d = nM A → isP σ q A → isB σ b (nI l) h (nI (vtG A s y l)) → loI A s y k l → ∃ σ' l', FX0_countByEnds_L19 b q (nI s) y (d + 1 + q2) (nI k) σ = some σ' ∧ isB σ' b (nI l') h (nI (vtG A s y l')) ∧ loI A s y (nM A) l' ∧ OfZ σ σ' b
  | 0, k, q2, σ, l, hk, hp, hb, hi => by
    have n31 := n16 hA
    have e : k = nM A := by omega
    subst e
    refine ⟨σ, l, ?_, hb, hi, OfZ.rf⟩
    rw [show 0 + 1 + q2 = q2 + 1 by omega, FX0_countByEnds_L19]
    simp only [count_e hp, b1_s, le_nI n31 n31, Nat.le_refl, if_true]
  | d + 1, k, q2, σ, l, hk, hp, hb, hi => by
    have n31 := n16 hA
    have hkn : k < nM A := by omega
    have mb := mk_b hA hkn
    have v1 := vtG_b hA (s := s) (x := l) (y := y)
    have v2 := vtG_b hA (s := s) (x := lst (mk A k)) (y := y)
    have hv := voteOf_g hp hA hs (show lst (mk A k) < 2 ^ 31 by omega) y
    have hv' : FX2_voteOf q (nI s) (nI (lst (mk A k))) y σ = some (nI (vtG A s y (lst (mk A k)))) := hv
    obtain ⟨i1, i2, i3, i4⟩ := hi
    have step : ∃ σ1 l1, (if nI k = y then some σ else if mk A k 0 = s then b1 (FX0_tryLowest b (nI (lst (mk A k))) (nI (vtG A s y (lst (mk A k)))) σ) fun s17 => some s17 else some σ) = some σ1 ∧ isB σ1 b (nI l1) h (nI (vtG A s y l1)) ∧ loI A s y (k + 1) l1 ∧ OfZ σ σ1 b := by
      by_cases c : nI k = y
      · rw [if_pos c]
        refine ⟨σ, l, rfl, hb, ⟨i1, i2, i3, fun i hi hy hs' => ?_⟩, OfZ.rf⟩
        by_cases ci : i = k
        · rw [ci] at hy; exact absurd c hy
        · exact i4 i (by omega) hy hs'
      · by_cases c2 : mk A k 0 = s
        · obtain ⟨σ1, e1, o1, r⟩ := tryLowest_e hb (show l < 2 ^ 31 by omega) (show vtG A s y l < 2 ^ 31 by omega) (show lst (mk A k) < 2 ^ 31 by omega) (show vtG A s y (lst (mk A k)) < 2 ^ 31 by omega)
          rw [if_neg c, if_pos c2, e1, b1_s]
          rcases r with ⟨r1, r2⟩ | ⟨r1, r2⟩
          · refine ⟨σ1, lst (mk A k), rfl, r2, ⟨mb.2.2.2.1.1, mb.2.2.2.1.2, by omega, fun i hi hy hs' => ?_⟩, o1⟩
            by_cases ci : i = k
            · rw [ci]; exact ⟨Nat.le_refl _, fun _ => Nat.le_refl _⟩
            · have := i4 i (by omega) hy hs'; omega
          · refine ⟨σ1, l, rfl, r2, ⟨i1, i2, i3, fun i hi hy hs' => ?_⟩, o1⟩
            by_cases ci : i = k
            · rw [ci]; omega
            · exact i4 i (by omega) hy hs'
        · rw [if_neg c, if_neg c2]
          refine ⟨σ, l, rfl, hb, ⟨i1, i2, i3, fun i hi hy hs' => ?_⟩, OfZ.rf⟩
          by_cases ci : i = k
          · rw [ci] at hs'; exact absurd hs' c2
          · exact i4 i (by omega) hy hs'
    obtain ⟨σ1, l1, e1, hb1, hi1, o1⟩ := step
    obtain ⟨σ2, l2, e2, hb2, hi2, o2⟩ := ceL hd hA hs d (k + 1) q2 σ1 l1 (by omega) (isP_z hp o1 hd) hb1 hi1
    refine ⟨σ2, l2, ?_, hb2, hi2, o1.tr o2⟩
    rw [show d + 1 + 1 + q2 = (d + 1 + q2) + 1 by omega, FX0_countByEnds_L19]
    simp only [count_e hp, b1_s, le_nI n31 (show k < 2 ^ 31 by omega), if_neg (show ¬ nM A ≤ k by omega), isOf_e hp hA hkn hs, number_7 hp hA hkn, hv', bI_ite, nI_1]
    rw [e1, b1_s, e2]
