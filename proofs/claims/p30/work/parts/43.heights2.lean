/-! Layer 2: the ballot of the class, by heights: lowest, highest, most. -/
theorem hiF_x {f : Nat → Nat} : ∀ d h, hiF f (d + 1) h = if hiF f d h = h + d ∧ f (h + d + 1) = f h then h + d + 1 else hiF f d h
  | 0, h => by
    show (if f (h + 1) = f h then h + 1 else h) = if h = h + 0 ∧ f (h + 0 + 1) = f h then h + 0 + 1 else h
    by_cases c : f (h + 1) = f h
    · rw [if_pos c, if_pos ⟨rfl, c⟩]
    · rw [if_neg c, if_neg (fun hh => c hh.2)]
  | d + 1, h => by
    have r := hiF_r (f := f) d (h + 1)
    have e : hiF f (d + 1 + 1) h = if f (h + 1) = f h then hiF f (d + 1) (h + 1) else h := rfl
    have e2 : hiF f (d + 1) h = if f (h + 1) = f h then hiF f d (h + 1) else h := rfl
    rw [e, e2]
    by_cases c : f (h + 1) = f h
    · rw [if_pos c, if_pos c, hiF_x d (h + 1), c, show h + 1 + d = h + (d + 1) by omega]
    · rw [if_neg c, if_neg c, if_neg (by omega)]
theorem cbL {b s : Nat} {A : AS} (hA : okA A) : ∀ (d n q2 : Nat) (σ : qH) (c : Nat → Int32), n + 1 + d = 999 → σ (b + 1) = some (iA 1001 c) → (∀ x, x ≤ 999 → pre c x = nI (vot A s x)) → isB σ b (nI (loF (vot A s) n)) (nI (hiF (vot A s) (n + 1 - loF (vot A s) n) (loF (vot A s) n))) (nI (vot A s (loF (vot A s) n))) → ∃ σ', FX0_countByHeights_L16 b (d + 1 + q2) (nI (vot A s (n + 1))) (nI (n + 2)) σ = some σ' ∧ isB σ' b (nI (low A s)) (nI (hig A s)) (nI (top A s)) ∧ OfZ σ σ' b
  | 0, n, q2, σ, c, hn, hc, hx, hb => by
    have e : n = 998 := by omega
    subst e
    refine ⟨σ, ?_, hb, OfZ.rf⟩
    rw [show 0 + 1 + q2 = q2 + 1 by omega, FX0_countByHeights_L16]
    rw [if_pos (show (999 : Int32) < nI (998 + 2) from (lt_nI (a := 999) (b := 998 + 2) (by omega) (by omega)).mpr (by omega))]
  | d + 1, n, q2, σ, c, hn, hc, hx, hb => by
    have r := loF_r (f := vot A s) n
    have rh := hiF_r (f := vot A s) (n + 1 - loF (vot A s) n) (loF (vot A s) n)
    have v1 := vot_b (s := s) (x := n + 2) hA
    have v2 := vot_b (s := s) (x := loF (vot A s) n) hA
    have l9 : ((999 : Int32) < nI (n + 2)) = (999 < n + 2) := lt_nI (a := 999) (by omega) (by omega)
    have ac : aI σ (b + 1) (nI (n + 2)) = some (c (n + 2)) := aI_e hc (by omega) (by omega)
    have sv : nI (vot A s (n + 1)) + c (n + 2) = nI (vot A s (n + 2)) := by
      rw [← hx (n + 1) (by omega), ← hx (n + 2) (by omega)]; rfl
    obtain ⟨-, r1, r2, r3, r4⟩ := B_r hb
    have s1 : nI (n + 2) - 1 = nI (n + 1) := pk_sub (a := n + 2) (b := 1) (by omega)
    have el : loF (vot A s) (n + 1) = if vot A s (n + 2) ≤ vot A s (loF (vot A s) n) then loF (vot A s) n else n + 2 := rfl
    have step : ∃ σ1, (if vot A s (n + 2) ≤ vot A s (loF (vot A s) n) then (if vot A s (n + 2) = vot A s (loF (vot A s) n) then (if hiF (vot A s) (n + 1 - loF (vot A s) n) (loF (vot A s) n) = n + 1 then b1 (gP σ b 0 2 (.int (nI (n + 2)))) fun s16 => some s16 else some σ) else some σ) else b1 (gP σ b 0 3 (.int (nI (vot A s (n + 2))))) fun s18 => b1 (gP s18 b 0 1 (.int (nI (n + 2)))) fun s20 => b1 (gP s20 b 0 2 (.int (nI (n + 2)))) fun s22 => some s22) = some σ1 ∧ isB σ1 b (nI (loF (vot A s) (n + 1))) (nI (hiF (vot A s) (n + 1 + 1 - loF (vot A s) (n + 1)) (loF (vot A s) (n + 1)))) (nI (vot A s (loF (vot A s) (n + 1)))) ∧ OfZ σ σ1 b := by
      by_cases k1 : vot A s (n + 2) ≤ vot A s (loF (vot A s) n)
      · rw [if_pos k1] at el
        have ex := hiF_x (f := vot A s) (n + 1 - loF (vot A s) n) (loF (vot A s) n)
        rw [show loF (vot A s) n + (n + 1 - loF (vot A s) n) = n + 1 by omega, show n + 1 - loF (vot A s) n + 1 = n + 1 + 1 - loF (vot A s) n by omega] at ex
        rw [el, ex, if_pos k1]
        by_cases k2 : vot A s (n + 2) = vot A s (loF (vot A s) n)
        · by_cases k3 : hiF (vot A s) (n + 1 - loF (vot A s) n) (loF (vot A s) n) = n + 1
          · obtain ⟨σ1, e1, g1, o1⟩ := (B_w hb (nI (n + 2))).2.1
            rw [if_pos k2, if_pos k3, e1, b1_s, if_pos ⟨k3, k2⟩]
            exact ⟨σ1, rfl, g1, o1⟩
          · rw [if_pos k2, if_neg k3, if_neg (fun hh => k3 hh.1)]
            exact ⟨σ, rfl, hb, OfZ.rf⟩
        · rw [if_neg k2, if_neg (fun hh => k2 hh.2)]
          exact ⟨σ, rfl, hb, OfZ.rf⟩
      · rw [if_neg k1] at el
        obtain ⟨σ1, e1, g1, o1⟩ := (B_w hb (nI (vot A s (n + 2)))).2.2
        obtain ⟨σ2, e2, g2, o2⟩ := (B_w g1 (nI (n + 2))).1
        obtain ⟨σ3, e3, g3, o3⟩ := (B_w g2 (nI (n + 2))).2.1
        rw [el, if_neg k1, e1, b1_s, e2, b1_s, e3, b1_s]
        refine ⟨σ3, rfl, ?_, (o1.tr o2).tr o3⟩
        rw [show n + 1 + 1 - (n + 2) = 0 by omega]
        exact g3
    obtain ⟨σ1, e1, hb1, o1⟩ := step
    obtain ⟨σ2, e2, hb2, o2⟩ := cbL hA d (n + 1) q2 σ1 c (by omega) (by rw [o1 _ (by omega)]; exact hc) hx hb1
    refine ⟨σ2, ?_, hb2, o1.tr o2⟩
    rw [show d + 1 + 1 + q2 = (d + 1 + q2) + 1 by omega, FX0_countByHeights_L16]
    simp only [l9, if_neg (show ¬ 999 < n + 2 by omega), r1, r3, r4, ac, b1_s, sv, s1, nI_1, le_nI (show vot A s (n + 2) < 2 ^ 31 by omega) (show vot A s (loF (vot A s) n) < 2 ^ 31 by omega), eq_nI (show vot A s (n + 2) < 2 ^ 31 by omega) (show vot A s (loF (vot A s) n) < 2 ^ 31 by omega), eq_nI (show hiF (vot A s) (n + 1 - loF (vot A s) n) (loF (vot A s) n) < 2 ^ 31 by omega) (show n + 1 < 2 ^ 31 by omega)]
    rw [e1, b1_s]
    exact e2
theorem countByHeights_e {σ : qH} {q b s : Nat} {A : AS} {l h m : Int32} {c : Nat → Int32} (hd : b + 1 < q ∨ q + 6 < b) (hA : okA A) (hs : s < 2 ^ 31) (hp : isP σ q A) (hb : isB σ b l h m) (hc : σ (b + 1) = some (iA 1001 c)) : ∃ σ' c', FX0_countByHeights b q (nI s) σ = some σ' ∧ σ' (b + 1) = some (iA 1001 c') ∧ isB σ' b (nI (low A s)) (nI (hig A s)) (nI (top A s)) ∧ (∀ a, a ≠ b → a ≠ b + 1 → σ' a = σ a) := by
  obtain ⟨σ1, c1, e1, g1, x1, o1⟩ := noteChanges_e hd hA hs hp hb hc
  have hb1 : isB σ1 b l h m := by show σ1 b = _; rw [o1 b (by omega)]; exact hb
  obtain ⟨σ2, e2, g2, o2⟩ := (B_w hb1 (-1)).2.2
  have hc2 : σ2 (b + 1) = some (iA 1001 c1) := by rw [o2 _ (by omega)]; exact g1
  obtain ⟨-, r1, r2, r3, r4⟩ := B_r g2
  have v1 := vot_b (s := s) (x := 1) hA
  have ac : aI σ2 (b + 1) 1 = some (c1 1) := aI_e hc2 (i := 1) (by omega) (by omega)
  have sv : (0 : Int32) + c1 1 = nI (vot A s 1) := by rw [← x1 1 (by omega)]; rfl
  obtain ⟨σ3, e3, g3, o3⟩ := (B_w g2 (nI (vot A s 1))).2.2
  obtain ⟨σ4, e4, g4, o4⟩ := (B_w g3 1).1
  obtain ⟨σ5, e5, g5, o5⟩ := (B_w g4 1).2.1
  have hc5 : σ5 (b + 1) = some (iA 1001 c1) := by rw [o5 _ (by omega), o4 _ (by omega), o3 _ (by omega)]; exact hc2
  obtain ⟨q3, hq⟩ := qf (n := 999) (by omega)
  obtain ⟨σ6, e6, g6, o6⟩ := cbL (b := b) (s := s) hA 998 0 q3 σ5 c1 (by omega) hc5 x1 g5
  have hn : ¬ (nI (vot A s 1) ≤ (-1 : Int32)) := fun hh => by
    rw [Int32.le_iff_toInt_le, nI_toInt (by omega), show (-1 : Int32).toInt = -1 from rfl] at hh
    omega
  have st : FX0_countByHeights_L16 b qfuel 0 1 σ2 = some σ6 := by
    rw [hq, show 999 + 1 + q3 = (998 + 1 + q3) + 1 by omega, FX0_countByHeights_L16, if_neg (show ¬ (999 : Int32) < 1 by decide), r1, b1_s, ac, b1_s, r4, b1_s, sv, if_neg hn, e3, b1_s, e4, b1_s, e5, b1_s, b1_s]
    exact e6
  refine ⟨σ6, c1, ?_, by rw [o6 _ (by omega)]; exact hc5, g6, fun a h1 h2 => ?_⟩
  · unfold FX0_countByHeights
    rw [(B_r hb).1, b1_s, e1, b1_s, e2, b1_s, st, b1_s]
  · rw [o6 a h1, o5 a h1, o4 a h1, o3 a h1, o2 a h1, o1 a h2]
