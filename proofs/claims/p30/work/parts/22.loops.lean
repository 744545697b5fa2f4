theorem z_nI (x : Int32) : x + nI 0 = x := by show x + 0 = x; simp
theorem z_nI' (x : Int32) : nI 0 + x = x := by show 0 + x = x; simp
theorem sumloop {f : Nat → Int32 → Int32 → Option Int32} {n : Nat} {g : Nat → Nat} (hs : ∀ q k x, k < n → f (q + 1) x (nI k) = f q (x + nI (g k)) (nI (k + 1))) (he : ∀ q x, f (q + 1) x (nI n) = some x) : ∀ (d k q : Nat) (x : Int32), k + d = n → f (d + 1 + q) x (nI k) = some (x + nI (fb_sm (fun i => g (k + i)) d))
  | 0, k, q, x, h => by
    have : k = n := by omega
    subst this
    rw [show 0 + 1 + q = q + 1 by omega, he]
    show _ = some (x + nI 0)
    rw [z_nI]
  | d + 1, k, q, x, h => by
    rw [show d + 1 + 1 + q = (d + 1 + q) + 1 by omega, hs _ _ _ (by omega), sumloop hs he d (k + 1) q _ (by omega)]
    rw [show d + 1 = 1 + d by omega, fb_sm_split (fun i => g (k + i)) 1 d, ← nI_add]
    have e1 : fb_sm (fun i => g (k + i)) 1 = g k := by simp [fb_sm]
    have e2 : (fun i => g (k + 1 + i)) = (fun i => g (k + (1 + i))) := by funext i; rw [Nat.add_assoc]
    rw [e1, e2, Int32.add_assoc]
theorem sumloop0 {f : Nat → Int32 → Int32 → Option Int32} {n : Nat} {g : Nat → Nat} (hs : ∀ q k x, k < n → f (q + 1) x (nI k) = f q (x + nI (g k)) (nI (k + 1))) (he : ∀ q x, f (q + 1) x (nI n) = some x) (hn : n < 1000) : f qfuel 0 0 = some (nI (fb_sm g n)) := by
  obtain ⟨q, hq⟩ := qf (n := n) (by omega)
  have h := sumloop hs he n 0 q (nI 0) (by omega)
  rw [hq, show n + 1 + q = n + 1 + q from rfl]
  show f (n + 1 + q) (nI 0) (nI 0) = _
  rw [h, z_nI']
  simp
abbrev nM (A : AS) : Nat := (aM A).length
section LO
variable {σ : qH} {q : Nat} {A : AS}
theorem n16 (hA : okA A) : nM A < 2 ^ 31 := by have := hA.1; show (aM A).length < _; omega
theorem quarrelsOfMeasure_e (h : isP σ q A) (hA : okA A) {k : Nat} (hk : k < nM A) : FX2_quarrelsOfMeasure q (nI k) σ = some (nI (fb_sm (fun i => if quar (mk A k) (mk A i) then 1 else 0) (nM A))) := by
  have h16 := hA.1
  unfold FX2_quarrelsOfMeasure
  simp only [p_gC h, b1_s, b1_eta]
  refine sumloop0 (fun q2 i x hi => ?_) (fun q2 x => ?_) (by show (aM A).length < _; omega)
  · rw [FX2_quarrelsOfMeasure_L4]
    simp only [p_cnt h, b1_s, le_nI (n16 hA) (show i < 2 ^ 31 by have := n16 hA; omega), if_neg (Nat.not_le.mpr hi), quarrel_e h hA hk hi, bI_ite, nI_1]
    by_cases c : quar (mk A k) (mk A i)
    · rw [if_pos c, if_pos c]; rfl
    · rw [if_neg c, if_neg c, z_nI]; rfl
  · rw [FX2_quarrelsOfMeasure_L4]
    simp only [p_cnt h, b1_s, le_nI (n16 hA) (n16 hA), Nat.le_refl, if_true]
theorem sum_e {σ : qH} {a n : Nat} {f : Nat → Int32} {g : Nat → Nat} (h : σ a = some (.inl (0, (n, .inl f)))) (hn : n < 1000) (hf : ∀ i, i < n → f i = nI (g i)) : FX2_sum a σ = some (nI (fb_sm g n)) := by
  unfold FX2_sum
  simp only [aL_e h (by omega : 0 < 5), b1_s, b1_eta]
  refine sumloop0 (fun q2 i x hi => ?_) (fun q2 x => ?_) hn
  · rw [FX2_sum_L10]
    simp only [le_nI (show n < 2 ^ 31 by omega) (show i < 2 ^ 31 by omega), if_neg (Nat.not_le.mpr hi), aI_e h hi (by omega), b1_s, nI_1, hf i hi]
  · rw [FX2_sum_L10]
    simp only [le_nI (show n < 2 ^ 31 by omega) (show n < 2 ^ 31 by omega), Nat.le_refl, if_true]
theorem trustOfAll_e (h : isP σ q A) : FX2_trustOfAll q σ = some (nI (fb_sm (aT A) 6)) := by
  unfold FX2_trustOfAll
  simp only [p_gC h, b1_s, b1_eta, (p_R h).2.1]
  obtain ⟨m, t, r, w, v, s, h0, h1, h2, h3, h4, h5, h6, hm, ht, -⟩ := h
  exact sum_e h2 (by omega) (fun i hi => (ht i hi).1)
theorem rightOfAll_e (h : isP σ q A) : FX2_rightOfAll q σ = some (nI (fb_sm (aRt A) 6)) := by
  unfold FX2_rightOfAll
  simp only [p_gC h, b1_s, b1_eta, (p_R h).2.2.1]
  obtain ⟨m, t, r, w, v, s, h0, h1, h2, h3, h4, h5, h6, hm, ht, -⟩ := h
  exact sum_e h3 (by omega) (fun i hi => (ht i hi).2.1)
theorem wrongOfAll_e (h : isP σ q A) : FX2_wrongOfAll q σ = some (nI (fb_sm (aWr A) 6)) := by
  unfold FX2_wrongOfAll
  simp only [p_gC h, b1_s, b1_eta, (p_R h).2.2.2.1]
  obtain ⟨m, t, r, w, v, s, h0, h1, h2, h3, h4, h5, h6, hm, ht, -⟩ := h
  exact sum_e h4 (by omega) (fun i hi => (ht i hi).2.2)
/-- pairs i < j with a property -/
def prs (p : Nat → Nat → Prop) [∀ i j, Decidable (p i j)] (n : Nat) : Nat := fb_sm (fun k => fb_sm (fun d => if p k (k + 1 + d) then 1 else 0) (n - (k + 1))) n
theorem pairsThatQuarrel_e (h : isP σ q A) (hA : okA A) : FX2_pairsThatQuarrel q σ = some (nI (prs (fun i j => quar (mk A i) (mk A j)) (nM A))) := by
  have h16 := hA.1
  unfold FX2_pairsThatQuarrel
  simp only [p_gC h, b1_s, b1_eta]
  refine sumloop0 (fun q2 k x hk => ?_) (fun q2 x => ?_) (by show (aM A).length < _; omega)
  · rw [FX2_pairsThatQuarrel_L4]
    have e : FX2_pairsThatQuarrel_L16 q (nI k) σ qfuel x (nI (k + 1)) = some (x + nI (fb_sm (fun d => if quar (mk A k) (mk A (k + 1 + d)) then 1 else 0) (nM A - (k + 1)))) := by
      obtain ⟨q3, hq⟩ := qf (n := nM A - (k + 1)) (by show (aM A).length - _ < _; omega)
      rw [hq]
      refine sumloop (f := fun a b c => FX2_pairsThatQuarrel_L16 q (nI k) σ a b c) (n := nM A) (g := fun i => if quar (mk A k) (mk A i) then 1 else 0) (fun q4 i y hi => ?_) (fun q4 y => ?_) (nM A - (k + 1)) (k + 1) q3 x (by omega)
      · show FX2_pairsThatQuarrel_L16 q (nI k) σ (q4 + 1) y (nI i) = _
        rw [FX2_pairsThatQuarrel_L16]
        simp only [p_cnt h, b1_s, le_nI (n16 hA) (show i < 2 ^ 31 by have := n16 hA; omega), if_neg (Nat.not_le.mpr hi), quarrel_e h hA hk hi, bI_ite, nI_1]
        by_cases c : quar (mk A k) (mk A i)
        · rw [if_pos c, if_pos c]; rfl
        · rw [if_neg c, if_neg c]; rfl
      · show FX2_pairsThatQuarrel_L16 q (nI k) σ (q4 + 1) y (nI (nM A)) = _
        rw [FX2_pairsThatQuarrel_L16]
        simp only [p_cnt h, b1_s, le_nI (n16 hA) (n16 hA), Nat.le_refl, if_true]
    simp only [p_cnt h, b1_s, le_nI (n16 hA) (show k < 2 ^ 31 by have := n16 hA; omega), if_neg (Nat.not_le.mpr hk), nI_1, e]
  · rw [FX2_pairsThatQuarrel_L4]
    simp only [p_cnt h, b1_s, le_nI (n16 hA) (n16 hA), Nat.le_refl, if_true]
theorem pairsThatMatter_e (h : isP σ q A) (hA : okA A) : FX2_pairsThatMatter q σ = some (nI (prs (fun i j => matt A (mk A i) (mk A j)) (nM A))) := by
  have h16 := hA.1
  unfold FX2_pairsThatMatter
  simp only [p_gC h, b1_s, b1_eta]
  refine sumloop0 (fun q2 k x hk => ?_) (fun q2 x => ?_) (by show (aM A).length < _; omega)
  · rw [FX2_pairsThatMatter_L4]
    have e : FX2_pairsThatMatter_L16 q (nI k) σ qfuel x (nI (k + 1)) = some (x + nI (fb_sm (fun d => if matt A (mk A k) (mk A (k + 1 + d)) then 1 else 0) (nM A - (k + 1)))) := by
      obtain ⟨q3, hq⟩ := qf (n := nM A - (k + 1)) (by show (aM A).length - _ < _; omega)
      rw [hq]
      refine sumloop (f := fun a b c => FX2_pairsThatMatter_L16 q (nI k) σ a b c) (n := nM A) (g := fun i => if matt A (mk A k) (mk A i) then 1 else 0) (fun q4 i y hi => ?_) (fun q4 y => ?_) (nM A - (k + 1)) (k + 1) q3 x (by omega)
      · show FX2_pairsThatMatter_L16 q (nI k) σ (q4 + 1) y (nI i) = _
        rw [FX2_pairsThatMatter_L16]
        simp only [p_cnt h, b1_s, le_nI (n16 hA) (show i < 2 ^ 31 by have := n16 hA; omega), if_neg (Nat.not_le.mpr hi), matters_e h hA hk hi, bI_ite, nI_1]
        by_cases c : matt A (mk A k) (mk A i)
        · rw [if_pos c, if_pos c]; rfl
        · rw [if_neg c, if_neg c]; rfl
      · show FX2_pairsThatMatter_L16 q (nI k) σ (q4 + 1) y (nI (nM A)) = _
        rw [FX2_pairsThatMatter_L16]
        simp only [p_cnt h, b1_s, le_nI (n16 hA) (n16 hA), Nat.le_refl, if_true]
    simp only [p_cnt h, b1_s, le_nI (n16 hA) (show k < 2 ^ 31 by have := n16 hA; omega), if_neg (Nat.not_le.mpr hk), nI_1, e]
  · rw [FX2_pairsThatMatter_L4]
    simp only [p_cnt h, b1_s, le_nI (n16 hA) (n16 hA), Nat.le_refl, if_true]
theorem measuresOfTeller_e (h : isP σ q A) (hA : okA A) {t : Nat} (ht : t < 2 ^ 31) : FX2_measuresOfTeller q (nI t) σ = some (nI (fb_sm (fun k => if mk A k 1 = t then 1 else 0) (nM A))) := by
  have h16 := hA.1
  unfold FX2_measuresOfTeller
  simp only [p_gC h, b1_s, b1_eta]
  refine sumloop0 (fun q2 k x hk => ?_) (fun q2 x => ?_) (by show (aM A).length < _; omega)
  · have hb := mk_b hA hk
    rw [FX2_measuresOfTeller_L4]
    simp only [p_cnt h, b1_s, le_nI (n16 hA) (show k < 2 ^ 31 by have := n16 hA; omega), if_neg (Nat.not_le.mpr hk), nI_1, number_1 h hA hk, eq_nI (show mk A k 1 < 2 ^ 31 by omega) ht]
    by_cases c : mk A k 1 = t
    · rw [if_pos c, if_pos c]; rfl
    · rw [if_neg c, if_neg c]; rfl
  · rw [FX2_measuresOfTeller_L4]
    simp only [p_cnt h, b1_s, le_nI (n16 hA) (n16 hA), Nat.le_refl, if_true]
theorem quarrelsOfTeller_e (h : isP σ q A) (hA : okA A) {t : Nat} (ht : t < 2 ^ 31) : FX2_quarrelsOfTeller q (nI t) σ = some (nI (fb_sm (fun k => if mk A k 1 = t then fb_sm (fun i => if quar (mk A k) (mk A i) then 1 else 0) (nM A) else 0) (nM A))) := by
  have h16 := hA.1
  unfold FX2_quarrelsOfTeller
  simp only [p_gC h, b1_s, b1_eta]
  refine sumloop0 (fun q2 k x hk => ?_) (fun q2 x => ?_) (by show (aM A).length < _; omega)
  · have hb := mk_b hA hk
    rw [FX2_quarrelsOfTeller_L4]
    simp only [p_cnt h, b1_s, le_nI (n16 hA) (show k < 2 ^ 31 by have := n16 hA; omega), if_neg (Nat.not_le.mpr hk), nI_1, number_1 h hA hk, eq_nI (show mk A k 1 < 2 ^ 31 by omega) ht, quarrelsOfMeasure_e h hA hk]
    by_cases c : mk A k 1 = t
    · rw [if_pos c, if_pos c]; rfl
    · rw [if_neg c, if_neg c]; rfl
  · rw [FX2_quarrelsOfTeller_L4]
    simp only [p_cnt h, b1_s, le_nI (n16 hA) (n16 hA), Nat.le_refl, if_true]
theorem measuresOfSteeple_e (h : isP σ q A) (hA : okA A) {s : Nat} (hs : s < 2 ^ 31) : FX2_measuresOfSteeple q (nI s) σ = some (nI (fb_sm (fun k => if mk A k 0 = s then 1 else 0) (nM A))) := by
  have h16 := hA.1
  unfold FX2_measuresOfSteeple
  simp only [p_gC h, b1_s, b1_eta]
  refine sumloop0 (fun q2 k x hk => ?_) (fun q2 x => ?_) (by show (aM A).length < _; omega)
  · rw [FX2_measuresOfSteeple_L4]
    simp only [p_cnt h, b1_s, le_nI (n16 hA) (show k < 2 ^ 31 by have := n16 hA; omega), if_neg (Nat.not_le.mpr hk), nI_1, isOf_e h hA hk hs, bI_ite]
    by_cases c : mk A k 0 = s
    · rw [if_pos c, if_pos c]; rfl
    · rw [if_neg c, if_neg c]; rfl
  · rw [FX2_measuresOfSteeple_L4]
    simp only [p_cnt h, b1_s, le_nI (n16 hA) (n16 hA), Nat.le_refl, if_true]
theorem weightOfSteeple_e (h : isP σ q A) (hA : okA A) {s : Nat} (hs : s < 2 ^ 31) : FX2_weightOfSteeple q (nI s) σ = some (nI (fb_sm (fun k => if mk A k 0 = s then wt A (mk A k) else 0) (nM A))) := by
  have h16 := hA.1
  unfold FX2_weightOfSteeple
  simp only [p_gC h, b1_s, b1_eta]
  refine sumloop0 (fun q2 k x hk => ?_) (fun q2 x => ?_) (by show (aM A).length < _; omega)
  · rw [FX2_weightOfSteeple_L4]
    simp only [p_cnt h, b1_s, le_nI (n16 hA) (show k < 2 ^ 31 by have := n16 hA; omega), if_neg (Nat.not_le.mpr hk), nI_1, isOf_e h hA hk hs, bI_ite, weight_e h hA hk]
    by_cases c : mk A k 0 = s
    · rw [if_pos c, if_pos c]; rfl
    · rw [if_neg c, if_neg c]; rfl
  · rw [FX2_weightOfSteeple_L4]
    simp only [p_cnt h, b1_s, le_nI (n16 hA) (n16 hA), Nat.le_refl, if_true]
end LO
