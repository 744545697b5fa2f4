/-! Layer 2: the reference's loudest against; the ballot's numbers without a measure. -/
theorem dif_lt0 {x y : Nat} (hx : x < 2 ^ 30) (hy : y < 2 ^ 30) : (0 < nI x - nI y) = (y < x) := by
  apply propext
  rw [Int32.lt_iff_toInt_lt, nI_sT hx hy, show (0 : Int32).toInt = 0 from rfl]; omega
theorem fsm_del {f : Nat → Nat} {k : Nat} : ∀ n, k < n + 1 → fb_sm (fun i => if i = k then 0 else f i) (n + 1) = fb_sm (fun i => if i < k then f i else f (i + 1)) n
  | 0, h => by
    have : k = 0 := by omega
    subst this
    simp [fb_sm]
  | n + 1, h => by
    rw [fb_sm_succ]
    by_cases c : k = n + 1
    · have e1 : fb_sm (fun i => if i = k then 0 else f i) (n + 1) = fb_sm (fun i => if i < k then f i else f (i + 1)) (n + 1) := fsm_c fun i hi => by
        rw [if_neg (by omega), if_pos (by omega)]
      rw [e1, if_pos c.symm, Nat.add_zero]
    · rw [fsm_del n (by omega), fb_sm_succ, if_neg (show ¬ n + 1 = k by omega), if_neg (show ¬ n < k by omega)]
theorem vtG_del {A : AS} {k s x : Nat} (hA : okA A) (hk : k < nM A) : vtG A s (nI k) x = vot (drpA A k) s x := by
  have n16' : nM A ≤ 16 := hA.1
  have e1 : vtG A s (nI k) x = fb_sm (fun i => if i = k then 0 else vt1 A s x (mk A i)) (nM A) := fsm_c fun i hi => by
    simp only [eq_nI (show i < 2 ^ 31 by omega) (show k < 2 ^ 31 by omega)]
  have e2 : vot (drpA A k) s x = fb_sm (fun i => if i < k then vt1 A s x (mk A i) else vt1 A s x (mk A (i + 1))) (nM A - 1) := by
    unfold vot
    rw [n_drp hk]
    refine fsm_c fun i hi => ?_
    rw [mk_drp]
    by_cases c : i < k
    · rw [if_pos c, if_pos c]; rfl
    · rw [if_neg c, if_neg c]; rfl
  have e3 := fsm_del (f := fun i => vt1 A s x (mk A i)) (k := k) (nM A - 1) (by omega)
  rw [show nM A - 1 + 1 = nM A by omega] at e3
  rw [e1, e2, e3]
theorem G_1 {A : AS} (hA : okA A) {s : Nat} : vtG A s (-1) = vot A s := funext fun x => vtG_1 hA
theorem G_x {A : AS} (hA : okA A) {s k : Nat} (hk : k < nM A) : vtG A s (nI k) = vot (drpA A k) s := funext fun x => vtG_del hA hk
theorem ends_1 {σ : qH} {q b s : Nat} {A : AS} {l h m : Int32} (hb : isB σ b l h m) (hp : isP σ q A) (hd : b < q ∨ q + 6 < b) (hA : okA A) (hs : s < 2 ^ 31) : ∃ σ', FX0_countByEnds b q (nI s) (-1) σ = some σ' ∧ isB σ' b (nI (low A s)) (nI (hig A s)) (nI (top A s)) ∧ OfZ σ σ' b := by
  obtain ⟨σ', e, g, o⟩ := countByEnds_e (y := -1) hb hp hd hA hs
  refine ⟨σ', e, ?_, o⟩
  have g' : isB σ' b (nI (loF (vtG A s (-1)) 998)) (nI (hiF (vtG A s (-1)) (999 - loF (vtG A s (-1)) 998) (loF (vtG A s (-1)) 998))) (nI (vtG A s (-1) (loF (vtG A s (-1)) 998))) := g
  rw [G_1 hA] at g'
  exact g'
theorem ends_x {σ : qH} {q b s k : Nat} {A : AS} {l h m : Int32} (hb : isB σ b l h m) (hp : isP σ q A) (hd : b < q ∨ q + 6 < b) (hA : okA A) (hs : s < 2 ^ 31) (hk : k < nM A) : ∃ σ', FX0_countByEnds b q (nI s) (nI k) σ = some σ' ∧ isB σ' b (nI (low (drpA A k) s)) (nI (hig (drpA A k) s)) (nI (top (drpA A k) s)) ∧ OfZ σ σ' b := by
  obtain ⟨σ', e, g, o⟩ := countByEnds_e (y := nI k) hb hp hd hA hs
  refine ⟨σ', e, ?_, o⟩
  have g' : isB σ' b (nI (loF (vtG A s (nI k)) 998)) (nI (hiF (vtG A s (nI k)) (999 - loF (vtG A s (nI k)) 998) (loF (vtG A s (nI k)) 998))) (nI (vtG A s (nI k) (loF (vtG A s (nI k)) 998))) := g
  rw [G_x hA hk] at g'
  exact g'
theorem low_r {A : AS} {s : Nat} : 1 ≤ low A s ∧ low A s ≤ 999 := by
  have r := loF_r (f := vot A s) 998
  exact r
