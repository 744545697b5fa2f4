/-! Layer 2: scripts: the reference's command; side by side. -/
section MS2
variable {m N : Nat} {A0 : AS} {L : List AS} {K : Nat → Option AS} {f : Nat → Nat} {rf : Int32}
theorem evM {x : Nat} (hx : x < 10) : ∀ (d k j : Nat) (A : AS) (σ : qH), k + d = x → isM σ m A0 L K N f rf → isZ σ (m + 3) A → okA A → ∃ σ', FX7_command_L182 m (nI x) (d + 1 + j) (nI k) σ = some σ' ∧ isM σ' m A0 L K N f rf ∧ isZ σ' (m + 3) (evK d A) ∧ OfZ σ σ' (m + 3)
  | 0, k, j, A, σ, hk, hm, hz, hA => by
    refine ⟨σ, ?_, hm, hz, OfZ.rf⟩
    rw [show 0 + 1 + j = j + 1 by omega, FX7_command_L182, if_pos ((nI_leI (by omega) (by omega)).mpr (by omega))]
  | d + 1, k, j, A, σ, hk, hm, hz, hA => by
    obtain ⟨σ1, e1, z1, o1⟩ := eveningOn_e hz hA
    have h1 := M_tri hm (mR_z z1) o1
    obtain ⟨σ2, e2, h2, z2, o2⟩ := evM hx d (k + 1) j (eve A) σ1 (by omega) h1 z1 (eve_ok hA)
    refine ⟨σ2, ?_, h2, z2, o1.tr o2⟩
    rw [show d + 1 + 1 + j = (d + 1 + j) + 1 by omega, FX7_command_L182, if_neg (fun hh => absurd ((nI_leI (by omega) (by omega)).mp hh) (by omega)), if_neg (show ¬ (10 : Int32) ≤ nI x from fun hh => absurd ((nI_leI (a := 10) (by omega) (by omega)).mp hh) (by omega)), M_t hm, b1_s, e1, b2_s, nI_1, e2]
/-- the reference: one group over the trial row -/
theorem sucM {σ : qH} {g : Nat} {A : AS} (hm : isM σ m A0 L K N f rf) (hz : isZ σ (m + 3) A) (hA : okA A) (hg : g < 1000000) : ∃ σ', FX7_command m (nI (g / 100000)) (nI (g % 100000)) σ = some (b01 (scC g A).1, σ') ∧ isM σ' m A0 L K N f rf ∧ isZ σ' (m + 3) (scC g A).2 ∧ Ch σ σ' m (m + 6) := by
  have h16 : nM A ≤ 16 := hA.1
  have d4 : nI (g % 100000) / (10000 : Int32) = nI (g / 10000 % 10) := by
    rw [show nI (g % 100000) / (10000 : Int32) = nI (g % 100000 / 10000) from pk_div (d := 10000) (by omega) (by omega) (by omega)]; congr 1; omega
  have d3 : nI (g % 100000) / (1000 : Int32) = nI (g / 1000 % 100) := by
    rw [show nI (g % 100000) / (1000 : Int32) = nI (g % 100000 / 1000) from pk_div (d := 1000) (by omega) (by omega) (by omega)]; congr 1; omega
  have r2 : irm (nI (g / 1000 % 100)) (10 : Int32) = nI (g / 1000 % 10) := by
    rw [show irm (nI (g / 1000 % 100)) (10 : Int32) = nI (g / 1000 % 100 % 10) from irm_n (d := 10) (by omega) (by omega) (by omega)]; congr 1; omega
  have r3 : irm (nI (g % 100000)) (1000 : Int32) = nI (g % 1000) := by
    rw [show irm (nI (g % 100000)) (1000 : Int32) = nI (g % 100000 % 1000) from irm_n (d := 1000) (by omega) (by omega) (by omega)]; congr 1; omega
  have r4 : irm (nI (g % 100000)) (10000 : Int32) = nI (g % 10000) := by
    rw [show irm (nI (g % 100000)) (10000 : Int32) = nI (g % 100000 % 10000) from irm_n (d := 10000) (by omega) (by omega) (by omega)]; congr 1; omega
  have r5 : irm (nI (g % 100000)) (10 : Int32) = nI (g % 10) := by
    rw [show irm (nI (g % 100000)) (10 : Int32) = nI (g % 100000 % 10) from irm_n (d := 10) (by omega) (by omega) (by omega)]; congr 1; omega
  have r6 : irm (nI (g % 1000)) (100 : Int32) = nI (g % 100) := by
    rw [show irm (nI (g % 1000)) (100 : Int32) = nI (g % 1000 % 100) from irm_n (d := 100) (by omega) (by omega) (by omega)]; congr 1; omega
  have r7 : (10 : Int32) * nI (g / 1000 % 10) + nI (g % 1000) / (100 : Int32) = nI (g / 100 % 100) := by
    rw [show nI (g % 1000) / (100 : Int32) = nI (g % 1000 / 100) from pk_div (d := 100) (by omega) (by omega) (by omega), show (10 : Int32) = nI 10 from rfl, pk_mul, nI_add]; congr 1; omega
  have z0 : ∀ x : Nat, x < 2 ^ 31 → (nI x = (0 : Int32)) = (x = 0) := fun x hx => eq_nI (b := 0) hx (by omega)
  have y0 : ∀ x : Nat, x < 2 ^ 31 → (nI x ≤ (0 : Int32)) = (x ≤ 0) := fun x hx => le_nI (b := 0) hx (by omega)
  have w : ∀ j : Nat, j < 10 → (nI (g / 100000) = nI j) = (g / 100000 = j) := fun j hj => eq_nI (by omega) (by omega)
  have w1 : (nI (g / 100000) = (1 : Int32)) = (g / 100000 = 1) := w 1 (by omega)
  have w2 : (nI (g / 100000) = (2 : Int32)) = (g / 100000 = 2) := w 2 (by omega)
  have w3 : (nI (g / 100000) = (3 : Int32)) = (g / 100000 = 3) := w 3 (by omega)
  have w4 : (nI (g / 100000) = (4 : Int32)) = (g / 100000 = 4) := w 4 (by omega)
  have w5 : (nI (g / 100000) = (5 : Int32)) = (g / 100000 = 5) := w 5 (by omega)
  have w6 : (nI (g / 100000) = (6 : Int32)) = (g / 100000 = 6) := w 6 (by omega)
  have w7 : (nI (g / 100000) = (7 : Int32)) = (g / 100000 = 7) := w 7 (by omega)
  have w8 : (nI (g / 100000) = (8 : Int32)) = (g / 100000 = 8) := w 8 (by omega)
  have w9 : (nI (g / 100000) = (9 : Int32)) = (g / 100000 = 9) := w 9 (by omega)
  have t10 : ((10 : Int32) ≤ nI (g % 10000)) = (10 ≤ g % 10000) := le_nI (a := 10) (by omega) (by omega)
  have t10' : ((10 : Int32) ≤ nI (g % 100000)) = (10 ≤ g % 100000) := le_nI (a := 10) (by omega) (by omega)
  have t100 : ((100 : Int32) ≤ nI (g % 100000)) = (100 ≤ g % 100000) := le_nI (a := 100) (by omega) (by omega)
  have no : ∃ σ', some ((0 : Int32), σ) = some (b01 false, σ') ∧ isM σ' m A0 L K N f rf ∧ isZ σ' (m + 3) A ∧ Ch σ σ' m (m + 6) := ⟨σ, rfl, hm, hz, Ch.rf⟩
  have s3 : inZ (nI (g / 10000 % 10)) 0 2 ↔ g / 10000 % 10 < 3 := by rw [inZ_nI (by omega)]; omega
  have t6 : inZ (nI (g / 10000 % 10)) 0 5 ↔ g / 10000 % 10 < 6 := by rw [inZ_nI (by omega)]; omega
  have t6' : inZ (nI (g / 1000 % 10)) 0 5 ↔ g / 1000 % 10 < 6 := by rw [inZ_nI (by omega)]; omega
  have rT := M_t hm
  unfold FX7_command
  rw [M_c hm, b1_s]
  simp only [d4, d3, r2, r3, r4, r5, w1, w2, w3, w4, w5, w6, w7, w8, w9, t10, t10', t100, rT, b1_s, zisS_e, zisT_e, zisM_e hz hA, bI_ite, z0 (g % 1000) (by omega)]
  have e5 : FX7_commandSteeple m (nI (g / 100000)) (nI (g / 10000 % 10)) (nI (g / 1000 % 10)) (nI (g % 1000)) σ = FX7_commandSteeple m (nI (g / 100000)) (nI (g / 10000 % 10)) (nI (g / 1000 % 10)) (nI (g % 1000)) σ := rfl
  have un : FX7_commandSteeple m (nI (g / 100000)) (nI (g / 10000 % 10)) (nI (g / 1000 % 10)) (nI (g % 1000)) σ = (if g / 100000 = 1 then
      b2 ((if inZ (nI (g / 1000 % 10)) 0 5 then (if g % 1000 ≤ 0 then some ((0 : Int32), σ) else b1 (aI σ (m + 3) 0) fun v7 => if (16 : Int32) ≤ v7 then some ((0 : Int32), σ) else b2 (FX7_measureOn (m + 3) (nI (g / 10000 % 10)) (nI (g / 1000 % 10)) 2 (nI (g % 1000)) (nI (g % 1000)) 0 0 σ) fun v12 s13 => if v12 < 0 then some ((0 : Int32), s13) else some ((1 : Int32), s13)) else some ((0 : Int32), σ)) : Option (Int32 × qH)) fun x3 s4 => if x3 = 0 ∨ x3 = 1 then some (x3, s4) else none
    else if g / 100000 = 5 then
      b2 ((if g / 1000 % 10 = 0 then (if g % 1000 ≤ 0 then some ((0 : Int32), σ) else b2 (FX7_surveyOn (m + 3) (nI (g / 10000 % 10)) (nI (g % 1000)) σ) fun v21 s22 => if v21 < 0 then some ((0 : Int32), s22) else some ((1 : Int32), s22)) else some ((0 : Int32), σ)) : Option (Int32 × qH)) fun x3 s4 => if x3 = 0 ∨ x3 = 1 then some (x3, s4) else none
    else if g / 100000 = 6 then
      b1 ((if g / 1000 % 10 = 0 then b1 (FX7_lowestBest (m + 3) (nI (g / 10000 % 10)) σ) fun v29 => if nI (g % 1000) < v29 then some (0 : Int32) else some 1 else some 0) : Option Int32) fun x25 => if x25 = 0 ∨ x25 = 1 then some (x25, σ) else none
    else
      b1 ((if g % 100 = 0 then b1 (FX7_bestOf (m + 3) (nI (g / 10000 % 10)) 2 σ) fun v36 => if v36 < nI (g / 100 % 100) then some (0 : Int32) else some 1 else some 0) : Option Int32) fun x32 => if x32 = 0 ∨ x32 = 1 then some (x32, σ) else none) := by
    unfold FX7_commandSteeple
    rw [M_c hm, b1_s]
    simp only [w1, w5, w6, zisT_e, b1_s, bI_ite, rT, r6, r7, y0 (g % 1000) (by omega), z0 (g % 100) (by omega), z0 (g / 1000 % 10) (by omega)]
  unfold scC
  by_cases k1 : g / 100000 = 1
  · rw [if_pos (Or.inl k1), if_pos k1]
    by_cases cs : g / 10000 % 10 < 3
    · rw [if_pos (s3.mpr cs), un, if_pos k1]
      by_cases ct : g / 1000 % 10 < 6
      · rw [if_pos (t6'.mpr ct)]
        by_cases c3 : 0 < g % 1000
        · rw [if_neg (by omega), z_n hz, b1_s]
          simp only [le16 hA]
          by_cases c4 : nM A < 16
          · obtain ⟨σ1, e1, z1, o1⟩ := measureOn_e (x := mmF g) hz hA c4
            have e1' : FX7_measureOn (m + 3) (nI (g / 10000 % 10)) (nI (g / 1000 % 10)) 2 (nI (g % 1000)) (nI (g % 1000)) 0 0 σ = some (nI (nM A), σ1) := e1
            rw [if_neg (by omega), e1', b2_s, if_neg (nI_pos (by omega)), b2_s, if_pos (Or.inr rfl), b2_s, if_neg (by decide), b2_s, if_pos (Or.inr rfl), if_pos ⟨cs, ct, c3, c4⟩]
            exact ⟨σ1, rfl, M_tri hm (mR_z z1) o1, z1, o1.ch (by omega) (by omega)⟩
          · rw [if_pos (by omega), b2_s, if_pos (Or.inl rfl), b2_s, if_pos rfl, b2_s, if_pos (Or.inl rfl), if_neg (fun z => c4 z.2.2.2)]
            exact no
        · rw [if_pos (by omega), b2_s, if_pos (Or.inl rfl), b2_s, if_pos rfl, b2_s, if_pos (Or.inl rfl), if_neg (fun z => c3 z.2.2.1)]
          exact no
      · rw [if_neg (fun z => ct (t6'.mp z)), b2_s, if_pos (Or.inl rfl), b2_s, if_pos rfl, b2_s, if_pos (Or.inl rfl), if_neg (fun z => ct z.2.1)]
        exact no
    · rw [if_neg (fun z => cs (s3.mp z)), b2_s, if_pos (Or.inl rfl), if_neg (fun z => cs z.1)]
      exact no
  by_cases k5 : g / 100000 = 5
  · rw [if_pos (Or.inr (Or.inl k5)), if_neg k1, if_neg (show ¬ g / 100000 = 2 by omega), if_neg (show ¬ g / 100000 = 3 by omega), if_neg (show ¬ g / 100000 = 4 by omega), if_pos k5]
    by_cases cs : g / 10000 % 10 < 3
    · rw [if_pos (s3.mpr cs), un, if_neg k1, if_pos k5]
      by_cases c0 : g / 1000 % 10 = 0
      · rw [if_pos c0]
        by_cases c3 : 0 < g % 1000
        · obtain ⟨σ1, e1, z1, o1⟩ := surveyOn_e (s := g / 10000 % 10) (x := g % 1000) cs (by omega) hz hA
          have h9 := srv_b (s := g / 10000 % 10) (x := g % 1000) hA
          rw [if_neg (by omega), e1, b2_s, if_neg (nI_pos (by omega)), b2_s, if_pos (Or.inr rfl), b2_s, if_neg (by decide), b2_s, if_pos (Or.inr rfl), if_pos ⟨c0, cs, c3⟩]
          exact ⟨σ1, rfl, M_tri hm (mR_z z1) o1, z1, o1.ch (by omega) (by omega)⟩
        · rw [if_pos (by omega), b2_s, if_pos (Or.inl rfl), b2_s, if_pos rfl, b2_s, if_pos (Or.inl rfl), if_neg (fun z => c3 z.2.2)]
          exact no
      · rw [if_neg c0, b2_s, if_pos (Or.inl rfl), b2_s, if_pos rfl, b2_s, if_pos (Or.inl rfl), if_neg (fun z => c0 z.1)]
        exact no
    · rw [if_neg (fun z => cs (s3.mp z)), b2_s, if_pos (Or.inl rfl), if_neg (fun z => cs z.2.1)]
      exact no
  by_cases k6 : g / 100000 = 6
  · rw [if_pos (Or.inr (Or.inr (Or.inl k6))), if_neg k1, if_neg (show ¬ g / 100000 = 2 by omega), if_neg (show ¬ g / 100000 = 3 by omega), if_neg (show ¬ g / 100000 = 4 by omega), if_neg k5, if_pos k6]
    by_cases cs : g / 10000 % 10 < 3
    · have lr := low_r (A := A) (s := g / 10000 % 10)
      rw [if_pos (s3.mpr cs), un, if_neg k1, if_neg k5, if_pos k6]
      by_cases c0 : g / 1000 % 10 = 0
      · rw [if_pos c0, zlow_e hz hA (by omega), b1_s]
        simp only [lt_nI (show g % 1000 < 2 ^ 31 by omega) (show low A (g / 10000 % 10) < 2 ^ 31 by omega)]
        by_cases cl : low A (g / 10000 % 10) ≤ g % 1000
        · rw [if_neg (by omega), b1_s, if_pos (Or.inr rfl), b2_s, if_neg (by decide), b2_s, if_pos (Or.inr rfl), if_pos ⟨c0, cs, cl⟩]
          exact ⟨σ, rfl, hm, hz, Ch.rf⟩
        · rw [if_pos (by omega), b1_s, if_pos (Or.inl rfl), b2_s, if_pos rfl, b2_s, if_pos (Or.inl rfl), if_neg (fun z => cl z.2.2)]
          exact no
      · rw [if_neg c0, b1_s, if_pos (Or.inl rfl), b2_s, if_pos rfl, b2_s, if_pos (Or.inl rfl), if_neg (fun z => c0 z.1)]
        exact no
    · rw [if_neg (fun z => cs (s3.mp z)), b2_s, if_pos (Or.inl rfl), if_neg (fun z => cs z.2.1)]
      exact no
  by_cases k7 : g / 100000 = 7
  · rw [if_pos (Or.inr (Or.inr (Or.inr k7))), if_neg k1, if_neg (show ¬ g / 100000 = 2 by omega), if_neg (show ¬ g / 100000 = 3 by omega), if_neg (show ¬ g / 100000 = 4 by omega), if_neg k5, if_neg k6, if_pos k7]
    by_cases cs : g / 10000 % 10 < 3
    · have vb := vot_b (s := g / 10000 % 10) (x := low A (g / 10000 % 10)) hA
      rw [if_pos (s3.mpr cs), un, if_neg k1, if_neg k5, if_neg k6]
      by_cases c0 : g % 100 = 0
      · rw [if_pos c0, zbest_e hz hA (by omega), b1_s, if_neg (show ¬ (2 : Int32) = 0 by decide), if_neg (show ¬ (2 : Int32) = 1 by decide)]
        simp only [lt_nI (show top A (g / 10000 % 10) < 2 ^ 31 by show vot _ _ _ < _; omega) (show g / 100 % 100 < 2 ^ 31 by omega)]
        by_cases cl : g / 100 % 100 ≤ top A (g / 10000 % 10)
        · rw [if_neg (by omega), b1_s, if_pos (Or.inr rfl), b2_s, if_neg (by decide), b2_s, if_pos (Or.inr rfl), if_pos ⟨c0, cs, cl⟩]
          exact ⟨σ, rfl, hm, hz, Ch.rf⟩
        · rw [if_pos (by omega), b1_s, if_pos (Or.inl rfl), b2_s, if_pos rfl, b2_s, if_pos (Or.inl rfl), if_neg (fun z => cl z.2.2)]
          exact no
      · rw [if_neg c0, b1_s, if_pos (Or.inl rfl), b2_s, if_pos rfl, b2_s, if_pos (Or.inl rfl), if_neg (fun z => c0 z.1)]
        exact no
    · rw [if_neg (fun z => cs (s3.mp z)), b2_s, if_pos (Or.inl rfl), if_neg (fun z => cs z.2.1)]
      exact no
  rw [if_neg (show ¬ (g / 100000 = 1 ∨ g / 100000 = 5 ∨ g / 100000 = 6 ∨ g / 100000 = 7) by omega), if_neg k1]
  by_cases k2 : g / 100000 = 2
  · rw [if_pos k2, if_pos k2]
    by_cases c0 : g % 1000 = 0
    · rw [if_pos c0]
      by_cases ck : g / 1000 % 100 < nM A
      · obtain ⟨σ1, e1, z1, o1⟩ := dropOn_e hz hA ck
        rw [if_pos (show inZ (nI (g / 1000 % 100)) 0 ((nM A : Int) - 1) from (inZ_nI (by omega)).mpr (by omega)), e1, b2_s, if_neg (nI_pos (by omega)), b2_s, if_pos (Or.inr rfl), if_pos ⟨c0, ck⟩]
        exact ⟨σ1, rfl, M_tri hm (mR_z z1) o1, z1, o1.ch (by omega) (by omega)⟩
      · rw [if_neg (show ¬ inZ (nI (g / 1000 % 100)) 0 ((nM A : Int) - 1) from fun z => ck (by have := ((inZ_nI (by omega)).mp z).2; omega)), b2_s, if_pos (Or.inl rfl), if_neg (fun z => ck z.2)]
        exact no
    · rw [if_neg c0, b2_s, if_pos (Or.inl rfl), if_neg (fun z => c0 z.1)]
      exact no
  rw [if_neg k2, if_neg k2]
  by_cases k3 : g / 100000 = 3
  · rw [if_pos k3, if_pos k3]
    by_cases c0 : g / 10 % 1000 = 0
    · rw [if_neg (by omega)]
      by_cases cs : g / 10000 % 10 < 6
      · have h9 := hA.2.2.1 (g / 10000 % 10) cs
        obtain ⟨σ1, e1, z1, o1⟩ := trustOn_e (t := g / 10000 % 10) (v := g % 10) hz cs
        rw [if_pos (t6.mpr cs), e1, b2_s, if_neg (nI_pos (by omega)), b2_s, if_pos (Or.inr rfl), if_pos ⟨c0, cs⟩]
        exact ⟨σ1, rfl, M_tri hm (mR_z z1) o1, z1, o1.ch (by omega) (by omega)⟩
      · rw [if_neg (fun z => cs (t6.mp z)), b2_s, if_pos (Or.inl rfl), if_neg (fun z => cs z.2)]
        exact no
    · rw [if_pos (by omega), b2_s, if_pos (Or.inl rfl), if_neg (fun z => c0 z.1)]
      exact no
  rw [if_neg k3, if_neg k3]
  by_cases k4 : g / 100000 = 4
  · rw [if_pos k4, if_pos k4]
    by_cases c0 : g / 10 % 10000 = 0
    · have ex : g % 100000 = g % 10 := by omega
      obtain ⟨q3, hq⟩ := qf (n := g % 10) (by omega)
      obtain ⟨σ1, e1, h1, z1, o1⟩ := evM (m := m) (x := g % 10) (by omega) (g % 10) 0 q3 A σ (by omega) hm hz hA
      rw [← hq] at e1
      have e1' : FX7_command_L182 m (nI (g % 10)) qfuel 0 σ = some σ1 := e1
      rw [ex, e1', b1_s, if_neg (by omega), b1_s, if_pos (Or.inr rfl), if_pos c0]
      exact ⟨σ1, rfl, h1, z1, o1.ch (by omega) (by omega)⟩
    · obtain ⟨q3, hq⟩ := qf (n := 0) (by omega)
      have e1 : FX7_command_L182 m (nI (g % 100000)) qfuel 0 σ = some σ := by
        rw [hq, show 0 + 1 + q3 = q3 + 1 by omega, FX7_command_L182, if_neg (show ¬ nI (g % 100000) ≤ (0 : Int32) by rw [y0 _ (by omega)]; omega), if_pos (show (10 : Int32) ≤ nI (g % 100000) by rw [t10']; omega)]
      rw [e1, b1_s, if_pos (by omega), b1_s, if_pos (Or.inl rfl), if_neg c0]
      exact no
  rw [if_neg k4, if_neg k4, if_neg k5, if_neg k6, if_neg k7]
  by_cases k8 : g / 100000 = 8
  · rw [if_pos k8, if_pos k8]
    by_cases c0 : g / 10 % 1000 = 0
    · rw [if_neg (by omega)]
      by_cases cs : g / 10000 % 10 < 6
      · have h9 := hA.2.2.1 (g / 10000 % 10) cs
        rw [if_pos (t6.mpr cs), (z_t hz cs).1, b1_s]
        simp only [lt_nI (show aT A (g / 10000 % 10) < 2 ^ 31 by omega) (show g % 10 < 2 ^ 31 by omega)]
        by_cases cl : g % 10 ≤ aT A (g / 10000 % 10)
        · rw [if_neg (by omega), b1_s, if_pos (Or.inr rfl), if_pos ⟨c0, cs, cl⟩]
          exact ⟨σ, rfl, hm, hz, Ch.rf⟩
        · rw [if_pos (by omega), b1_s, if_pos (Or.inl rfl), if_neg (fun z => cl z.2.2)]
          exact no
      · rw [if_neg (fun z => cs (t6.mp z)), b1_s, if_pos (Or.inl rfl), if_neg (fun z => cs z.2.1)]
        exact no
    · rw [if_pos (by omega), b1_s, if_pos (Or.inl rfl), if_neg (fun z => c0 z.1)]
      exact no
  rw [if_neg k8, if_neg k8]
  by_cases k9 : g / 100000 = 9
  · rw [if_pos k9, if_pos k9]
    by_cases c0 : g / 100 % 1000 = 0
    · have ex : g % 100000 = g % 100 := by omega
      have pb := prs_b (p := fun i j => quar (mk A i) (mk A j)) h16
      have p0 : FX7_pairs (m + 3) 0 σ = some (nI (npq A)) := by
        have e := zpairs_e hz hA (t := 0) (by omega)
        rw [prs_c (q := fun i j => quar (mk A i) (mk A j)) (fun i j => ⟨fun z => z.1, fun z => ⟨z, z.2.2⟩⟩)] at e
        exact e
      rw [if_neg (by omega), p0, b1_s, ex]
      simp only [lt_nI (show g % 100 < 2 ^ 31 by omega) (show npq A < 2 ^ 31 by show prs _ _ < _; omega)]
      by_cases cl : npq A ≤ g % 100
      · rw [if_neg (by omega), b1_s, if_pos (Or.inr rfl), if_pos ⟨c0, cl⟩]
        exact ⟨σ, rfl, hm, hz, Ch.rf⟩
      · rw [if_pos (by omega), b1_s, if_pos (Or.inl rfl), if_neg (fun z => cl z.2)]
        exact no
    · rw [if_pos (by omega), b1_s, if_pos (Or.inl rfl), if_neg (fun z => c0 z.1)]
      exact no
  rw [if_neg k9, if_neg k9]
  exact no
end MS2
