/-! Layer 2: the reference's loudest against; the ballot's numbers without a measure. -/
theorem dif_lt0 {x y : Nat} (hx : x < 2 ^ 30) (hy : y < 2 ^ 30) : (0 < nI x - nI y) = (y < x) := by
  apply propext
  rw [Int32.lt_iff_toInt_lt, nI_sT hx hy, show (0 : Int32).toInt = 0 from rfl]; omega
theorem zagL {σ : qH} {a b s x : Nat} {A : AS} (h : isZ σ a A) (hg : gR σ b 5 3 = some a) (hA : okA A) (hs : s < 2 ^ 31) (hx : x < 2 ^ 30) : ∀ (d k q2 : Nat) (o : Option Nat), k + d = nM A → oN (nM A) o → FX7_against_L35 b (nI s) (nI x) σ (d + 1 + q2) (enc o) (nI k) = some (enc (agL A s x d k o))
  | 0, k, q2, o, hk, ho => by
    have n31 := n16 hA
    have e : k = nM A := by omega
    subst e
    rw [show 0 + 1 + q2 = q2 + 1 by omega, FX7_against_L35]
    simp only [hg, b1_s, z_n h, le_nI n31 n31, Nat.le_refl, if_true]; rfl
  | d + 1, k, q2, o, hk, ho => by
    have n31 := n16 hA
    have n16' : nM A ≤ 16 := hA.1
    have hkn : k < nM A := by omega
    have mb := mk_b hA hkn
    have ih := zagL h hg hA hs hx d (k + 1) q2 (agS A s x k o) (by omega) (agS_n hkn ho)
    rw [show d + 1 + 1 + q2 = (d + 1 + q2) + 1 by omega, FX7_against_L35, agL, ← ih]
    simp only [hg, b1_s, z_n h, le_nI n31 (show k < 2 ^ 31 by omega), if_neg (show ¬ nM A ≤ k by omega), (of_l h hA hkn).1, eq_nI (show mk A k 0 < 2 ^ 31 by omega) hs, ztells_e h hA hkn (show x < 2 ^ 31 by omega), bI_ite, nI_1]
    by_cases c1 : mk A k 0 = s
    · by_cases c2 : lst (mk A k) ≤ x ∧ x ≤ gst (mk A k)
      · rw [if_pos c1, if_pos c2, b1_s, show agS A s x k o = o by unfold agS; rw [if_pos c1, if_pos c2]]
      · rw [show agS A s x k o = agP A x k o by unfold agS; rw [if_pos c1, if_neg c2]]
        cases o with
        | none => rw [if_pos c1, if_neg c2, if_pos (show enc none = (-1 : Int32) from rfl), b1_s, if_pos (show (0 : Int32) < 1 by decide), b1_s, b1_s]; rfl
        | some j =>
          have hj := ho j rfl
          have w1 := wt_b hA hkn
          have w2 := wt_b hA hj
          have a1 := awy_b (hA.2.1 k hkn) hx
          have a2 := awy_b (hA.2.1 j hj) hx
          have e2 : agP A x k (some j) = if louder A x (mk A k) (mk A j) = true then some k else some j := rfl
          have el : louder A x (mk A k) (mk A j) = if wt A (mk A k) = wt A (mk A j) then (if awy (mk A k) x ≤ awy (mk A j) x then false else true) else (if wt A (mk A k) ≤ wt A (mk A j) then false else true) := rfl
          rw [if_pos c1, if_neg c2]
          simp only [if_neg (enc_m (show j < 100 by omega))]
          simp only [show enc (some j) = nI j from rfl, zweight_e h hA hkn, zweight_e h hA hj, away_e h hA hkn hx, away_e h hA hj hx, b1_s, dif_lt0 (show wt A (mk A k) < 2 ^ 30 by omega) (show wt A (mk A j) < 2 ^ 30 by omega), dif_eq (show wt A (mk A k) < 2 ^ 30 by omega) (show wt A (mk A j) < 2 ^ 30 by omega), le_nI (show awy (mk A k) x < 2 ^ 31 by omega) (show awy (mk A j) x < 2 ^ 31 by omega)]
          by_cases c3 : wt A (mk A j) < wt A (mk A k)
          · rw [if_neg (by omega), if_neg (by omega)] at el
            rw [if_pos c3, b1_s, b1_s, e2, el]; rfl
          · by_cases c4 : wt A (mk A k) = wt A (mk A j)
            · rw [if_pos c4] at el
              rw [if_neg c3, if_pos c4]
              by_cases c5 : awy (mk A k) x ≤ awy (mk A j) x
              · rw [if_pos c5] at el
                rw [if_pos c5, b1_s, b1_s, e2, el]; rfl
              · rw [if_neg c5] at el
                rw [if_neg c5, b1_s, b1_s, e2, el]; rfl
            · rw [if_neg c4, if_pos (by omega)] at el
              rw [if_neg c3, if_neg c4, b1_s, b1_s, e2, el]; rfl
    · rw [if_neg c1, b1_s, show agS A s x k o = o by unfold agS; rw [if_neg c1]]
theorem zagainst_e {σ : qH} {a b s x : Nat} {A : AS} (h : isZ σ a A) (hg : gR σ b 5 3 = some a) (hA : okA A) (hs : s < 2 ^ 31) (hx : x < 2 ^ 30) : FX7_against_L35 b (nI s) (nI x) σ qfuel (-1) 0 = some (enc (agL A s x (nM A) 0 none)) := by
  have n16' : nM A ≤ 16 := hA.1
  obtain ⟨q3, hq⟩ := qf (n := nM A) (by omega)
  have e := zagL h hg hA hs hx (nM A) 0 q3 none (by omega) (fun j hj => by cases hj)
  rw [← hq] at e
  exact e
theorem fsm_del {f : Nat → Nat} {k : Nat} : ∀ n, k < n + 1 → fb_sm (fun i => if i = k then 0 else f i) (n + 1) = fb_sm (fun i => if i < k then f i else f (i + 1)) n
  | 0, h => by
    have : k = 0 := by omega
    subst this
    simp [fb_sm]
  | n + 1, h => by
    rw [fb_sm_succ]
    by_cases c : k = n + 1
    · have e1 : fb_sm (fun i => if i = k then 0 else f i) (n + 1) = fb_sm (fun i => if i < k then f i else f (i + 1)) (n + 1) := fsm_c fun i hi => by
        rw [if_neg (by omega), if_pos (by omega)]
      rw [e1, if_pos c.symm, Nat.add_zero]
    · rw [fsm_del n (by omega), fb_sm_succ, if_neg (show ¬ n + 1 = k by omega), if_neg (show ¬ n < k by omega)]
theorem vtG_del {A : AS} {k s x : Nat} (hA : okA A) (hk : k < nM A) : vtG A s (nI k) x = vot (drpA A k) s x := by
  have n16' : nM A ≤ 16 := hA.1
  have e1 : vtG A s (nI k) x = fb_sm (fun i => if i = k then 0 else vt1 A s x (mk A i)) (nM A) := fsm_c fun i hi => by
    simp only [eq_nI (show i < 2 ^ 31 by omega) (show k < 2 ^ 31 by omega)]
  have e2 : vot (drpA A k) s x = fb_sm (fun i => if i < k then vt1 A s x (mk A i) else vt1 A s x (mk A (i + 1))) (nM A - 1) := by
    unfold vot
    rw [n_drp hk]
    refine fsm_c fun i hi => ?_
    rw [mk_drp]
    by_cases c : i < k
    · rw [if_pos c, if_pos c]; rfl
    · rw [if_neg c, if_neg c]; rfl
  have e3 := fsm_del (f := fun i => vt1 A s x (mk A i)) (k := k) (nM A - 1) (by omega)
  rw [show nM A - 1 + 1 = nM A by omega] at e3
  rw [e1, e2, e3]
theorem G_1 {A : AS} (hA : okA A) {s : Nat} : vtG A s (-1) = vot A s := funext fun x => vtG_1 hA
theorem G_x {A : AS} (hA : okA A) {s k : Nat} (hk : k < nM A) : vtG A s (nI k) = vot (drpA A k) s := funext fun x => vtG_del hA hk
theorem ends_1 {σ : qH} {q b s : Nat} {A : AS} {l h m : Int32} (hb : isB σ b l h m) (hp : isP σ q A) (hd : b < q ∨ q + 6 < b) (hA : okA A) (hs : s < 2 ^ 31) : ∃ σ', FX0_countByEnds b q (nI s) (-1) σ = some σ' ∧ isB σ' b (nI (low A s)) (nI (hig A s)) (nI (top A s)) ∧ OfZ σ σ' b := by
  obtain ⟨σ', e, g, o⟩ := countByEnds_e (y := -1) hb hp hd hA hs
  refine ⟨σ', e, ?_, o⟩
  have g' : isB σ' b (nI (loF (vtG A s (-1)) 998)) (nI (hiF (vtG A s (-1)) (999 - loF (vtG A s (-1)) 998) (loF (vtG A s (-1)) 998))) (nI (vtG A s (-1) (loF (vtG A s (-1)) 998))) := g
  rw [G_1 hA] at g'
  exact g'
theorem ends_x {σ : qH} {q b s k : Nat} {A : AS} {l h m : Int32} (hb : isB σ b l h m) (hp : isP σ q A) (hd : b < q ∨ q + 6 < b) (hA : okA A) (hs : s < 2 ^ 31) (hk : k < nM A) : ∃ σ', FX0_countByEnds b q (nI s) (nI k) σ = some σ' ∧ isB σ' b (nI (low (drpA A k) s)) (nI (hig (drpA A k) s)) (nI (top (drpA A k) s)) ∧ OfZ σ σ' b := by
  obtain ⟨σ', e, g, o⟩ := countByEnds_e (y := nI k) hb hp hd hA hs
  refine ⟨σ', e, ?_, o⟩
  have g' : isB σ' b (nI (loF (vtG A s (nI k)) 998)) (nI (hiF (vtG A s (nI k)) (999 - loF (vtG A s (nI k)) 998) (loF (vtG A s (nI k)) 998))) (nI (vtG A s (nI k) (loF (vtG A s (nI k)) 998))) := g
  rw [G_x hA hk] at g'
  exact g'
theorem low_r {A : AS} {s : Nat} : 1 ≤ low A s ∧ low A s ≤ 999 := by
  have r := loF_r (f := vot A s) 998
  exact r
