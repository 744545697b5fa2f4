/-! Layer 2: the reference's counts. -/
theorem mx_le {x y : Int32} : (if x ≤ y then y else x) = mx x y := by
  unfold mx
  by_cases c : x < y
  · rw [if_pos c, if_pos (Int32.le_of_lt c)]
  · by_cases c2 : x ≤ y
    · have : x = y := Int32.le_antisymm c2 (Int32.not_lt.mp c)
      subst this; simp
    · rw [if_neg c, if_neg c2]
theorem mx_0 {x : Int32} : (if x ≤ 0 then 0 else x) = mx 0 x := by
  unfold mx
  by_cases c : x ≤ 0
  · rw [if_pos c, if_neg (Int32.not_lt.mpr c)]
  · rw [if_neg c, if_pos (Int32.not_le.mp c)]
theorem some_ite {α : Type} {p : Prop} [Decidable p] {x y : α} : (if p then some x else some y) = some (if p then x else y) := by split <;> rfl
section ZL
variable {σ : qH} {a : Nat} {A : AS}
theorem zgap_e (h : isZ σ a A) (hA : okA A) {k i : Nat} (hk : k < nM A) (hi : i < nM A) : FX7_gap a (nI k) (nI i) σ = some (nI (gap (mk A k) (mk A i))) := by
  have hb := mk_b hA hk
  have hb2 := mk_b hA hi
  unfold FX7_gap
  simp only [zleast_e h hA hk, zleast_e h hA hi, zgreat_e h hA hk, zgreat_e h hA hi, b1_s, some_ite, mx_0]
  simp only [mx_le]
  rw [mx_sub (by omega) (by omega) (by omega) (by omega)]
  rfl
theorem zquarrel_e (h : isZ σ a A) (hA : okA A) {k i : Nat} (hk : k < nM A) (hi : i < nM A) : FX7_quarrel a (nI k) (nI i) σ = some (bI (quar (mk A k) (mk A i))) := by
  have hb := mk_b hA hk
  have hb2 := mk_b hA hi
  have hg := gap_b hA hk hi
  unfold FX7_quarrel
  simp only [(of_l h hA hk).1, (of_l h hA hk).2.1, (of_l h hA hi).1, (of_l h hA hi).2.1, zgap_e h hA hk hi, b1_s, eq_nI (show mk A k 0 < 2 ^ 31 by omega) (show mk A i 0 < 2 ^ 31 by omega), eq_nI (show mk A k 1 < 2 ^ 31 by omega) (show mk A i 1 < 2 ^ 31 by omega)]
  simp only [show ((nI (gap (mk A k) (mk A i)) ≤ 0) = (gap (mk A k) (mk A i) ≤ 0)) from le_nI (by omega) (by omega : 0 < 2 ^ 31)]
  by_cases c0 : mk A k 0 = mk A i 0
  · by_cases c1 : mk A k 1 = mk A i 1
    · simp only [if_pos c0, if_pos c1, b1_s]
      rw [bI_f (fun hh => hh.1 c1)]; rfl
    · by_cases c2 : gap (mk A k) (mk A i) ≤ 0
      · simp only [if_pos c0, if_neg c1, if_pos c2, b1_s]
        rw [bI_f (fun hh => absurd hh.2.2 (by omega))]; rfl
      · simp only [if_pos c0, if_neg c1, if_neg c2, b1_s]
        rw [bI_t ⟨c1, c0, by omega⟩]; rfl
  · simp only [if_neg c0, b1_s]
    rw [bI_f (fun hh => c0 hh.2.1)]; rfl
theorem zquarrelsOf_e (h : isZ σ a A) (hA : okA A) {k : Nat} (hk : k < nM A) : FX7_quarrelsOf a (nI k) σ = some (nI (fb_sm (fun i => if quar (mk A k) (mk A i) then 1 else 0) (nM A))) := by
  have h16 := hA.1
  unfold FX7_quarrelsOf
  simp only [b1_eta]
  refine sumloop0 (fun q2 i z hi => ?_) (fun q2 z => ?_) (by show (aM A).length < _; omega)
  · rw [FX7_quarrelsOf_L4]
    simp only [z_n h, b1_s, le_nI (n16 hA) (show i < 2 ^ 31 by have := n16 hA; omega), if_neg (Nat.not_le.mpr hi), nI_1, zquarrel_e h hA hk hi, bI_ite]
    by_cases c : quar (mk A k) (mk A i)
    · rw [if_pos c, if_pos c]; rfl
    · rw [if_neg c, if_neg c]; rfl
  · rw [FX7_quarrelsOf_L4]
    simp only [z_n h, b1_s, le_nI (n16 hA) (n16 hA), Nat.le_refl, if_true]
theorem zpairs_e (h : isZ σ a A) (hA : okA A) {t : Nat} (ht : t < 2 ^ 31) : FX7_pairs a (nI t) σ = some (nI (prs (fun i j => quar (mk A i) (mk A j) ∧ t < gap (mk A i) (mk A j)) (nM A))) := by
  have h16 := hA.1
  unfold FX7_pairs
  simp only [b1_eta]
  refine sumloop0 (fun q2 k x hk => ?_) (fun q2 x => ?_) (by show (aM A).length < _; omega)
  · rw [FX7_pairs_L4]
    have e : FX7_pairs_L16 a (nI t) (nI k) σ qfuel x (nI (k + 1)) = some (x + nI (fb_sm (fun d => if quar (mk A k) (mk A (k + 1 + d)) ∧ t < gap (mk A k) (mk A (k + 1 + d)) then 1 else 0) (nM A - (k + 1)))) := by
      obtain ⟨q3, hq⟩ := qf (n := nM A - (k + 1)) (by show (aM A).length - _ < _; omega)
      rw [hq]
      refine sumloop (f := fun x y z => FX7_pairs_L16 a (nI t) (nI k) σ x y z) (n := nM A) (g := fun i => if quar (mk A k) (mk A i) ∧ t < gap (mk A k) (mk A i) then 1 else 0) (fun q4 i y hi => ?_) (fun q4 y => ?_) (nM A - (k + 1)) (k + 1) q3 x (by omega)
      · show FX7_pairs_L16 a (nI t) (nI k) σ (q4 + 1) y (nI i) = _
        have hg := gap_b hA hk hi
        rw [FX7_pairs_L16]
        simp only [z_n h, b1_s, le_nI (n16 hA) (show i < 2 ^ 31 by have := n16 hA; omega), if_neg (Nat.not_le.mpr hi), zquarrel_e h hA hk hi, zgap_e h hA hk hi, le_nI (show gap (mk A k) (mk A i) < 2 ^ 31 by omega) ht, bI_ite, nI_1]
        by_cases c : quar (mk A k) (mk A i)
        · by_cases c2 : t < gap (mk A k) (mk A i)
          · rw [if_pos c, if_neg (by omega), if_pos ⟨c, c2⟩]; rfl
          · rw [if_pos c, if_pos (by omega), if_neg (fun hh => c2 hh.2)]; rfl
        · rw [if_neg c, if_neg (fun hh => c hh.1)]; rfl
      · show FX7_pairs_L16 a (nI t) (nI k) σ (q4 + 1) y (nI (nM A)) = _
        rw [FX7_pairs_L16]
        simp only [z_n h, b1_s, le_nI (n16 hA) (n16 hA), Nat.le_refl, if_true]
    simp only [z_n h, b1_s, le_nI (n16 hA) (show k < 2 ^ 31 by have := n16 hA; omega), if_neg (Nat.not_le.mpr hk), nI_1, e]
  · rw [FX7_pairs_L4]
    simp only [z_n h, b1_s, le_nI (n16 hA) (n16 hA), Nat.le_refl, if_true]
theorem zallTrust_e (h : isZ σ a A) : FX7_allTrust a σ = some (nI (fb_sm (aT A) 6)) := by
  unfold FX7_allTrust
  simp only [b1_eta]
  refine sumloop0 (n := 6) (fun q2 i z hi => ?_) (fun q2 z => ?_) (by omega)
  · rw [FX7_allTrust_L4]
    simp only [show (6 : Int32) = nI 6 from rfl, le_nI (show 6 < 2 ^ 31 by omega) (show i < 2 ^ 31 by omega), if_neg (Nat.not_le.mpr hi), (z_t h hi).1, b1_s, nI_1]
  · rw [FX7_allTrust_L4]; rfl
end ZL
