/-! Layer 2: the reads, side by side. -/
theorem l4 : (4 : Int32).toInt = 4 := rfl
theorem l10 : (10 : Int32).toInt = 10 := rfl
theorem l255 : (255 : Int32).toInt = 255 := rfl
theorem prs_c {p q : Nat → Nat → Prop} [∀ i j, Decidable (p i j)] [∀ i j, Decidable (q i j)] {n : Nat} (h : ∀ i j, p i j ↔ q i j) : prs p n = prs q n := by
  unfold prs
  refine fsm_c fun k hk => fsm_c fun d hd => ?_
  by_cases c : p k (k + 1 + d)
  · rw [if_pos c, if_pos ((h _ _).mp c)]
  · rw [if_neg c, if_neg (fun z => c ((h _ _).mpr z))]
theorem sumloop2 {f : Nat → Int32 → Int32 → Int32 → Option (Int32 × Int32)} {n : Nat} {g h : Nat → Nat} (hs : ∀ q k x y, k < n → f (q + 1) x y (nI k) = f q (x + nI (g k)) (y + nI (h k)) (nI (k + 1))) (he : ∀ q x y, f (q + 1) x y (nI n) = some (x, y)) : ∀ (d k q : Nat) (x y : Int32), k + d = n → f (d + 1 + q) x y (nI k) = some (x + nI (fb_sm (fun i => g (k + i)) d), y + nI (fb_sm (fun i => h (k + i)) d))
  | 0, k, q, x, y, hh => by
    have : k = n := by omega
    subst this
    rw [show 0 + 1 + q = q + 1 by omega, he]
    show _ = some (x + nI 0, y + nI 0)
    rw [z_nI, z_nI]
  | d + 1, k, q, x, y, hh => by
    have ex : ∀ g : Nat → Nat, fb_sm (fun i => g (k + i)) (d + 1) = g k + fb_sm (fun i => g (k + 1 + i)) d := fun g => by
      rw [show d + 1 = 1 + d by omega, fb_sm_split (fun i => g (k + i)) 1 d]
      have e1 : fb_sm (fun i => g (k + i)) 1 = g k := by simp [fb_sm]
      have e2 : (fun i => g (k + 1 + i)) = (fun i => g (k + (1 + i))) := by funext i; rw [Nat.add_assoc]
      rw [e1, e2]
    rw [show d + 1 + 1 + q = (d + 1 + q) + 1 by omega, hs _ _ _ _ (by omega), sumloop2 hs he d (k + 1) q _ _ (by omega), ex g, ex h, ← nI_add, ← nI_add, Int32.add_assoc, Int32.add_assoc]
theorem sumloop20 {f : Nat → Int32 → Int32 → Int32 → Option (Int32 × Int32)} {n : Nat} {g h : Nat → Nat} (hs : ∀ q k x y, k < n → f (q + 1) x y (nI k) = f q (x + nI (g k)) (y + nI (h k)) (nI (k + 1))) (he : ∀ q x y, f (q + 1) x y (nI n) = some (x, y)) (hn : n < 1000) : f qfuel 0 0 0 = some (nI (fb_sm g n), nI (fb_sm h n)) := by
  obtain ⟨q, hq⟩ := qf (n := n) (by omega)
  have e := sumloop2 hs he n 0 q (nI 0) (nI 0) (by omega)
  rw [hq]
  show f (n + 1 + q) (nI 0) (nI 0) (nI 0) = _
  rw [e, z_nI', z_nI']
  simp
section RE
variable {σ : qH} {n N : Nat} {A : AS} {L : List AS} {K : Nat → Option AS} {f : Nat → Nat} {rf : Int32}
/-- about -/
def abV (A : AS) (i : Nat) : Int32 := if i = 0 then nI (nM A) else if i = 1 then nI (aCm A) else if i = 2 then nI (aEv A) else if i = 3 then nI (aSu A) else if i = 4 then nI (prs (fun i j => quar (mk A i) (mk A j)) (nM A)) else if i = 5 then nI (prs (fun i j => matt A (mk A i) (mk A j)) (nM A)) else if i = 6 then nI (fb_sm (aT A) 6) else if i = 7 then nI (aLo A) else if i = 8 then nI (fb_sm (aRt A) 6) else nI (fb_sm (aWr A) 6)
theorem lost_e {q : Nat} (h : isP σ q A) : FX2_lost q σ = some (nI (aLo A)) := by unfold FX2_lost; simp only [p_gC h, b1_s, p_lost h]
theorem trustOf_e {q t : Nat} (h : isP σ q A) (ht : t < 6) : FX2_trustOf q (nI t) σ = some (nI (aT A t)) := by unfold FX2_trustOf; simp only [p_gC h, b1_s, (p_R h).2.1, (p_t h ht).1]
theorem rightOf_e {q t : Nat} (h : isP σ q A) (ht : t < 6) : FX2_rightOf q (nI t) σ = some (nI (aRt A t)) := by unfold FX2_rightOf; simp only [p_gC h, b1_s, (p_R h).2.2.1, (p_t h ht).2.1]
theorem wrongOf_e {q t : Nat} (h : isP σ q A) (ht : t < 6) : FX2_wrongOf q (nI t) σ = some (nI (aWr A t)) := by unfold FX2_wrongOf; simp only [p_gC h, b1_s, (p_R h).2.2.2.1, (p_t h ht).2.2]
theorem heightS_e {q s : Nat} (h : isP σ q A) (hs : s < 3) : FX2_heightSurveyed q (nI s) σ = some (aSv A s) := by unfold FX2_heightSurveyed; simp only [p_gC h, b1_s, (p_R h).2.2.2.2.1, p_v h hs]
theorem settingOf_e {q i : Nat} (h : isP σ q A) (hi : i < 2) : FX2_settingOf q (nI i) σ = some (nI (aSt A i)) := by unfold FX2_settingOf; simp only [p_gC h, b1_s, (p_R h).2.2.2.2.2, p_s h hi]
theorem ab_c (hc : isC σ n A L K N f) (hA : okA A) {i : Nat} (hi : i ≤ 9) : FX6_about n (nI i) σ = some (.inl (abV A i)) := by
  have hp := hc.2.1
  have c1 : inZ (nI i) 0 9 := (inZ_nI (by omega)).mpr (by omega)
  unfold FX6_about
  simp only [C_c hc, b1_s, rgR, bI_1, l0, l9]
  rw [need_t c1, bx_s]
  rcases (show i = 0 ∨ i = 1 ∨ i = 2 ∨ i = 3 ∨ i = 4 ∨ i = 5 ∨ i = 6 ∨ i = 7 ∨ i = 8 ∨ i = 9 by omega) with rfl | rfl | rfl | rfl | rfl | rfl | rfl | rfl | rfl | rfl
  · rw [if_pos (show nI 0 = (0 : Int32) from rfl), C_0 hc, b1_s, count_e hp, b1_s]; rfl
  · rw [if_neg (show ¬ nI 1 = (0 : Int32) by decide), if_pos (show nI 1 = (1 : Int32) from rfl), C_0 hc, b1_s, came_e hp, b1_s]; rfl
  · rw [if_neg (show ¬ nI 2 = (0 : Int32) by decide), if_neg (show ¬ nI 2 = (1 : Int32) by decide), if_pos (show nI 2 = (2 : Int32) from rfl), C_0 hc, b1_s, evenings_e hp, b1_s]; rfl
  · rw [if_neg (show ¬ nI 3 = (0 : Int32) by decide), if_neg (show ¬ nI 3 = (1 : Int32) by decide), if_neg (show ¬ nI 3 = (2 : Int32) by decide), if_pos (show nI 3 = (3 : Int32) from rfl), C_0 hc, b1_s, surveys_e hp, b1_s]; rfl
  · rw [if_neg (show ¬ nI 4 = (0 : Int32) by decide), if_neg (show ¬ nI 4 = (1 : Int32) by decide), if_neg (show ¬ nI 4 = (2 : Int32) by decide), if_neg (show ¬ nI 4 = (3 : Int32) by decide), if_pos (show nI 4 = (4 : Int32) from rfl), C_0 hc, b1_s, pairsThatQuarrel_e hp hA, b1_s]; rfl
  · rw [if_neg (show ¬ nI 5 = (0 : Int32) by decide), if_neg (show ¬ nI 5 = (1 : Int32) by decide), if_neg (show ¬ nI 5 = (2 : Int32) by decide), if_neg (show ¬ nI 5 = (3 : Int32) by decide), if_neg (show ¬ nI 5 = (4 : Int32) by decide), if_pos (show nI 5 = (5 : Int32) from rfl), C_0 hc, b1_s, pairsThatMatter_e hp hA, b1_s]; rfl
  · rw [if_neg (show ¬ nI 6 = (0 : Int32) by decide), if_neg (show ¬ nI 6 = (1 : Int32) by decide), if_neg (show ¬ nI 6 = (2 : Int32) by decide), if_neg (show ¬ nI 6 = (3 : Int32) by decide), if_neg (show ¬ nI 6 = (4 : Int32) by decide), if_neg (show ¬ nI 6 = (5 : Int32) by decide), if_pos (show nI 6 = (6 : Int32) from rfl), C_0 hc, b1_s, trustOfAll_e hp, b1_s]; rfl
  · rw [if_neg (show ¬ nI 7 = (0 : Int32) by decide), if_neg (show ¬ nI 7 = (1 : Int32) by decide), if_neg (show ¬ nI 7 = (2 : Int32) by decide), if_neg (show ¬ nI 7 = (3 : Int32) by decide), if_neg (show ¬ nI 7 = (4 : Int32) by decide), if_neg (show ¬ nI 7 = (5 : Int32) by decide), if_neg (show ¬ nI 7 = (6 : Int32) by decide), if_pos (show nI 7 = (7 : Int32) from rfl), C_0 hc, b1_s, lost_e hp, b1_s]; rfl
  · rw [if_neg (show ¬ nI 8 = (0 : Int32) by decide), if_neg (show ¬ nI 8 = (1 : Int32) by decide), if_neg (show ¬ nI 8 = (2 : Int32) by decide), if_neg (show ¬ nI 8 = (3 : Int32) by decide), if_neg (show ¬ nI 8 = (4 : Int32) by decide), if_neg (show ¬ nI 8 = (5 : Int32) by decide), if_neg (show ¬ nI 8 = (6 : Int32) by decide), if_neg (show ¬ nI 8 = (7 : Int32) by decide), if_pos (show nI 8 = (8 : Int32) from rfl), C_0 hc, b1_s, rightOfAll_e hp, b1_s]; rfl
  · rw [if_neg (show ¬ nI 9 = (0 : Int32) by decide), if_neg (show ¬ nI 9 = (1 : Int32) by decide), if_neg (show ¬ nI 9 = (2 : Int32) by decide), if_neg (show ¬ nI 9 = (3 : Int32) by decide), if_neg (show ¬ nI 9 = (4 : Int32) by decide), if_neg (show ¬ nI 9 = (5 : Int32) by decide), if_neg (show ¬ nI 9 = (6 : Int32) by decide), if_neg (show ¬ nI 9 = (7 : Int32) by decide), if_neg (show ¬ nI 9 = (8 : Int32) by decide), C_0 hc, b1_s, wrongOfAll_e hp, b1_s]; rfl
theorem ab_m {m : Nat} (hm : isM σ m A L K N f rf) (hA : okA A) {i : Nat} (hi : i ≤ 9) : ∃ σ2, FX7_about m (nI i) σ = some (abV A i, σ2) ∧ isM σ2 m A L K N f 0 ∧ Ch σ σ2 m (m + 6) := by
  obtain ⟨σ3, e3, h3, o3⟩ := M_yes hm
  refine ⟨σ3, ?_, h3, o3⟩
  have c1 : inZ (nI i) 0 9 := (inZ_nI (by omega)).mpr (by omega)
  have hz := M_z h3
  have h1 := hA.2.2.2.2
  have p0 : FX7_pairs (m + 2) 0 σ3 = some (nI (prs (fun i j => quar (mk A i) (mk A j)) (nM A))) := by
    have e := zpairs_e hz hA (t := 0) (by omega)
    rw [prs_c (q := fun i j => quar (mk A i) (mk A j)) (fun i j => ⟨fun z => z.1, fun z => ⟨z, z.2.2⟩⟩)] at e
    exact e
  have p1 : FX7_pairs (m + 2) (nI (aSt A 1)) σ3 = some (nI (prs (fun i j => matt A (mk A i) (mk A j)) (nM A))) := by
    have e := zpairs_e hz hA (t := aSt A 1) (by omega)
    rw [prs_c (q := fun i j => matt A (mk A i) (mk A j)) (fun i j => ⟨fun z => ⟨z.1.1, z.1.2.1, z.2⟩, fun z => ⟨⟨z.1, z.2.1, by have := z.2.2; omega⟩, z.2.2⟩⟩)] at e
    exact e
  have zc := z_c hz
  unfold FX7_about
  simp only [M_c hm, b1_s, zin_0_9, bI_ite]
  rw [if_pos c1, b1_s, e3, b2_s, if_pos rfl]
  rcases (show i = 0 ∨ i = 1 ∨ i = 2 ∨ i = 3 ∨ i = 4 ∨ i = 5 ∨ i = 6 ∨ i = 7 ∨ i = 8 ∨ i = 9 by omega) with rfl | rfl | rfl | rfl | rfl | rfl | rfl | rfl | rfl | rfl
  · rw [if_neg (show ¬ (4 : Int32) ≤ nI 0 by decide), M_n h3, b1_s, show nI 0 = (0 : Int32) from rfl, z_n hz, b1_s, b1_s]; rfl
  · rw [if_neg (show ¬ (4 : Int32) ≤ nI 1 by decide), M_n h3, b1_s, show nI 1 = (1 : Int32) from rfl, zc.1, b1_s, b1_s]; rfl
  · rw [if_neg (show ¬ (4 : Int32) ≤ nI 2 by decide), M_n h3, b1_s, show nI 2 = (2 : Int32) from rfl, zc.2.1, b1_s, b1_s]; rfl
  · rw [if_neg (show ¬ (4 : Int32) ≤ nI 3 by decide), M_n h3, b1_s, show nI 3 = (3 : Int32) from rfl, zc.2.2.1, b1_s, b1_s]; rfl
  · rw [if_pos (show (4 : Int32) ≤ nI 4 by decide), if_pos (show nI 4 = (4 : Int32) from rfl), M_n h3, b1_s, p0, b1_s, b1_s]; rfl
  · rw [if_pos (show (4 : Int32) ≤ nI 5 by decide), if_neg (show ¬ nI 5 = (4 : Int32) by decide), if_pos (show nI 5 = (5 : Int32) from rfl), M_n h3, b1_s, b1_s, z_s1 hz, b1_s, p1, b1_s, b1_s]; rfl
  · rw [if_pos (show (4 : Int32) ≤ nI 6 by decide), if_neg (show ¬ nI 6 = (4 : Int32) by decide), if_neg (show ¬ nI 6 = (5 : Int32) by decide), if_pos (show nI 6 = (6 : Int32) from rfl), M_n h3, b1_s, zallTrust_e hz, b1_s, b1_s]; rfl
  · rw [if_pos (show (4 : Int32) ≤ nI 7 by decide), if_neg (show ¬ nI 7 = (4 : Int32) by decide), if_neg (show ¬ nI 7 = (5 : Int32) by decide), if_neg (show ¬ nI 7 = (6 : Int32) by decide), M_n h3, b1_s, show nI 7 - (3 : Int32) = (4 : Int32) from rfl, zc.2.2.2.1, b1_s, b1_s]; rfl
  · rw [if_pos (show (4 : Int32) ≤ nI 8 by decide), if_neg (show ¬ nI 8 = (4 : Int32) by decide), if_neg (show ¬ nI 8 = (5 : Int32) by decide), if_neg (show ¬ nI 8 = (6 : Int32) by decide), M_n h3, b1_s, show nI 8 - (3 : Int32) = (5 : Int32) from rfl, zc.2.2.2.2.1, b1_s, b1_s]; rfl
  · rw [if_pos (show (4 : Int32) ≤ nI 9 by decide), if_neg (show ¬ nI 9 = (4 : Int32) by decide), if_neg (show ¬ nI 9 = (5 : Int32) by decide), if_neg (show ¬ nI 9 = (6 : Int32) by decide), M_n h3, b1_s, show nI 9 - (3 : Int32) = (6 : Int32) from rfl, zc.2.2.2.2.2, b1_s, b1_s]; rfl
theorem op_about {x : Int32} (W : Wd σ n A L K N f rf) : Res σ n (FL_about n x (n + 143) σ) (FX7_about (n + 136) x) := by
  obtain ⟨hc, hm, hg, hs⟩ := id W
  by_cases c1 : inZ x 0 9
  · obtain ⟨i, rfl, i1, i2⟩ := inZ_n c1 (by omega)
    refine Res_ok W (abV A i) hc Ch.rf hs (fun σ' hm' => ab_m hm' hs.1 (by omega)) (fun σ' hj => ?_)
    unfold FL_about
    rw [ab_c hc hs.1 (by omega), bc_s, hj, b1_s]
  · refine Res_no W 1 (by decide) hc Ch.rf (fun σ' hm' => ?_) ?_
    · obtain ⟨σ3, e3, h3, o3⟩ := M_no1 hm'
      refine ⟨0, σ3, ?_, h3, o3⟩
      unfold FX7_about
      simp only [M_c hm', b1_s, zin_0_9, bI_ite]
      rw [if_neg c1, b1_s, e3, b2_s, if_neg (by decide)]
    · unfold FL_about FX6_about
      simp only [C_c hc, b1_s, rgR, bI_1, l0, l9]
      rw [need_f c1, bx_e, bc_e, if_pos rfl]
/-- measureOf -/
def meV (A : AS) (k i : Nat) : Int32 := if i < 7 then nI (mk A k i) else if i = 7 then nI (lst (mk A k)) else if i = 8 then nI (gst (mk A k)) else if i = 9 then nI (wt A (mk A k)) else nI (fb_sm (fun j => if quar (mk A k) (mk A j) then 1 else 0) (nM A))
theorem op_measureOf {x y : Int32} (W : Wd σ n A L K N f rf) : Res σ n (FL_measureOf n x y (n + 143) σ) (FX7_measureOf (n + 136) x y) := by
  obtain ⟨hc, hm, hg, hs⟩ := id W
  have hA := hs.1
  have hp := hc.2.1
  by_cases c1 : inZ x 0 ((nM A : Int) - 1)
  · by_cases c2 : inZ y 0 10
    · obtain ⟨k, rfl, k1, k2⟩ := inZ_n c1 (by omega)
      obtain ⟨i, rfl, i1, i2⟩ := inZ_n c2 (by omega)
      have hk : k < nM A := by omega
      refine Res_ok W (meV A k i) hc Ch.rf hs (fun σ' hm' => ?_) (fun σ' hj => ?_)
      · obtain ⟨σ3, e3, h3, o3⟩ := M_yes hm'
        refine ⟨σ3, ?_, h3, o3⟩
        have hz := M_z h3
        unfold FX7_measureOf
        simp only [M_c hm', M_n hm', b1_s, zisM_e (M_z hm') hA, zin_0_10, bI_ite]
        rw [if_pos c1, if_pos c2, b1_s, e3, b2_s, if_pos rfl]
        have l7 : ((7 : Int32) ≤ nI i) = (7 ≤ i) := le_nI (a := 7) (by omega) (by omega)
        unfold meV
        by_cases c7 : i < 7
        · rw [if_neg (show ¬ (7 : Int32) ≤ nI i from fun z => by rw [l7] at z; omega), if_pos c7, M_n h3, b1_s, of_e hz hA hk c7, b1_s, b1_s]
        · rw [if_pos (show (7 : Int32) ≤ nI i by rw [l7]; omega), if_neg c7]
          rcases (show i = 7 ∨ i = 8 ∨ i = 9 ∨ i = 10 by omega) with rfl | rfl | rfl | rfl
          · rw [if_pos (show nI 7 = (7 : Int32) from rfl), M_n h3, b1_s, zleast_e hz hA hk, b1_s, b1_s, if_pos rfl]
          · rw [if_neg (show ¬ nI 8 = (7 : Int32) by decide), if_pos (show nI 8 = (8 : Int32) from rfl), M_n h3, b1_s, zgreat_e hz hA hk, b1_s, b1_s, if_neg (by decide), if_pos rfl]
          · rw [if_neg (show ¬ nI 9 = (7 : Int32) by decide), if_neg (show ¬ nI 9 = (8 : Int32) by decide), if_pos (show nI 9 = (9 : Int32) from rfl), M_n h3, b1_s, zweight_e hz hA hk, b1_s, b1_s, if_neg (by decide), if_neg (by decide), if_pos rfl]
          · rw [if_neg (show ¬ nI 10 = (7 : Int32) by decide), if_neg (show ¬ nI 10 = (8 : Int32) by decide), if_neg (show ¬ nI 10 = (9 : Int32) by decide), M_n h3, b1_s, zquarrelsOf_e hz hA hk, b1_s, b1_s, if_neg (by decide), if_neg (by decide), if_neg (by decide)]
      · unfold FL_measureOf FX6_measureOf
        simp only [C_c hc, b1_s, rgR, bI_1, l0, l10]
        rw [needM_t hc hA c1, bx_s, need_t c2, bx_s]
        have n9 : (nI i = (9 : Int32)) = (i = 9) := eq_nI (b := 9) (by omega) (by omega)
        have n10 : (nI i = (10 : Int32)) = (i = 10) := eq_nI (b := 10) (by omega) (by omega)
        simp only [n9, n10]
        have ev : meV A k i = if i < 7 then nI (mk A k i) else if i = 7 then nI (lst (mk A k)) else if i = 8 then nI (gst (mk A k)) else if i = 9 then nI (wt A (mk A k)) else nI (fb_sm (fun j => if quar (mk A k) (mk A j) then 1 else 0) (nM A)) := rfl
        by_cases c7 : i < 7
        · rw [if_pos c7] at ev
          rw [if_neg (by omega), if_neg (by omega), C_0 hc, b1_s, number_e hp hA hk c7, b1_s, bc_s, ← ev, hj, b1_s]
        · rw [if_neg c7] at ev
          rcases (show i = 7 ∨ i = 8 ∨ i = 9 ∨ i = 10 by omega) with rfl | rfl | rfl | rfl
          · rw [if_pos rfl] at ev
            have e7 : FX2_number (n + 1) (nI k) (nI 7) σ = some (nI (lst (mk A k))) := number_7 hp hA hk
            rw [if_neg (by decide), if_neg (by decide), C_0 hc, b1_s, e7, b1_s, bc_s, ← ev, hj, b1_s]
          · rw [if_neg (by decide), if_pos rfl] at ev
            have e8 : FX2_number (n + 1) (nI k) (nI 8) σ = some (nI (gst (mk A k))) := number_8 hp hA hk
            rw [if_neg (by decide), if_neg (by decide), C_0 hc, b1_s, e8, b1_s, bc_s, ← ev, hj, b1_s]
          · rw [if_neg (by decide), if_neg (by decide), if_pos rfl] at ev
            rw [if_pos rfl, C_0 hc, b1_s, weight_e hp hA hk, b1_s, bc_s, ← ev, hj, b1_s]
          · rw [if_neg (by decide), if_neg (by decide), if_neg (by decide)] at ev
            rw [if_neg (by decide), if_pos rfl, C_0 hc, b1_s, quarrelsOfMeasure_e hp hA hk, b1_s, bc_s, ← ev, hj, b1_s]
    · refine Res_no W 2 (by decide) hc Ch.rf (fun σ' hm' => ?_) ?_
      · obtain ⟨σ3, e3, h3, o3⟩ := M_no2 hm'
        refine ⟨0, σ3, ?_, h3, o3⟩
        unfold FX7_measureOf
        simp only [M_c hm', M_n hm', b1_s, zisM_e (M_z hm') hA, zin_0_10, bI_ite]
        rw [if_pos c1, if_neg c2, b1_s, e3, b2_s, if_neg (by decide)]
      · unfold FL_measureOf FX6_measureOf
        simp only [C_c hc, b1_s, rgR, bI_1, l0, l10]
        rw [needM_t hc hA c1, bx_s, need_f c2, bx_e, bc_e, if_neg (by decide), if_pos rfl]
  · refine Res_no W 1 (by decide) hc Ch.rf (fun σ' hm' => ?_) ?_
    · obtain ⟨σ3, e3, h3, o3⟩ := M_no1 hm'
      refine ⟨0, σ3, ?_, h3, o3⟩
      unfold FX7_measureOf
      simp only [M_c hm', M_n hm', b1_s, zisM_e (M_z hm') hA, zin_0_10, bI_ite]
      rw [if_neg c1, b1_s, e3, b2_s, if_neg (by decide)]
    · unfold FL_measureOf FX6_measureOf
      rw [C_c hc, b1_s, needM_f hc hA c1, bx_e, bc_e, if_pos rfl]
/-- tellerOf -/
def teV (A : AS) (t i : Nat) : Int32 := if i = 0 then nI (aT A t) else if i = 1 then nI (fb_sm (fun k => if mk A k 1 = t then 1 else 0) (nM A)) else if i = 2 then nI (aRt A t) else if i = 3 then nI (aWr A t) else nI (fb_sm (fun k => if mk A k 1 = t then fb_sm (fun i => if quar (mk A k) (mk A i) then 1 else 0) (nM A) else 0) (nM A))
theorem tofL {m : Nat} {t : Nat} {y : Int32} (hm : isM σ m A L K N f rf) (hA : okA A) (ht : t < 2 ^ 31) : FX7_tellerOf_L45 m (nI t) y σ qfuel 0 0 0 = some (nI (fb_sm (fun k => if mk A k 1 = t then 1 else 0) (nM A)), nI (fb_sm (fun k => if mk A k 1 = t then fb_sm (fun i => if quar (mk A k) (mk A i) then 1 else 0) (nM A) else 0) (nM A))) := by
  have h16 : nM A ≤ 16 := hA.1
  have hz := M_z hm
  refine sumloop20 (f := fun a b c d => FX7_tellerOf_L45 m (nI t) y σ a b c d) (fun q k x z hk => ?_) (fun q x z => ?_) (by omega)
  · have mb := mk_b hA hk
    show FX7_tellerOf_L45 m (nI t) y σ (q + 1) x z (nI k) = _
    rw [FX7_tellerOf_L45]
    simp only [M_n hm, b1_s, z_n hz, le_nI (n16 hA) (show k < 2 ^ 31 by omega), if_neg (Nat.not_le.mpr hk), (of_l hz hA hk).2.1, eq_nI (show mk A k 1 < 2 ^ 31 by omega) ht, zquarrelsOf_e hz hA hk, nI_1]
    by_cases c : mk A k 1 = t
    · rw [if_pos c, if_pos c, if_pos c, if_pos c, b1_s, b1_s]; rfl
    · rw [if_neg c, if_neg c, if_neg c, if_neg c, b1_s, b1_s]; rfl
  · show FX7_tellerOf_L45 m (nI t) y σ (q + 1) x z (nI (nM A)) = _
    rw [FX7_tellerOf_L45]
    simp only [M_n hm, b1_s, z_n hz, le_nI (n16 hA) (n16 hA), Nat.le_refl, if_true]
theorem op_tellerOf {x y : Int32} (W : Wd σ n A L K N f rf) : Res σ n (FL_tellerOf n x y (n + 143) σ) (FX7_tellerOf (n + 136) x y) := by
  obtain ⟨hc, hm, hg, hs⟩ := id W
  have hA := hs.1
  have hp := hc.2.1
  by_cases c1 : inZ x 0 5
  · by_cases c2 : inZ y 0 4
    · obtain ⟨t, rfl, t1, t2⟩ := inZ_n c1 (by omega)
      obtain ⟨i, rfl, i1, i2⟩ := inZ_n c2 (by omega)
      refine Res_ok W (teV A t i) hc Ch.rf hs (fun σ' hm' => ?_) (fun σ' hj => ?_)
      · obtain ⟨σ3, e3, h3, o3⟩ := M_yes hm'
        refine ⟨σ3, ?_, h3, o3⟩
        have hz := M_z h3
        have zt := z_t hz (i := t) (by omega)
        unfold FX7_tellerOf
        simp only [M_c hm', b1_s, zisT_e, zin_0_4, bI_ite]
        rw [if_pos c1, if_pos c2, b1_s, e3, b2_s, if_pos rfl, tofL h3 hA (by omega), b2_s]
        rcases (show i = 0 ∨ i = 1 ∨ i = 2 ∨ i = 3 ∨ i = 4 by omega) with rfl | rfl | rfl | rfl | rfl
        · rw [if_pos (show nI 0 = (0 : Int32) from rfl), M_n h3, b1_s, zt.1, b1_s, b1_s]; rfl
        · rw [if_neg (show ¬ nI 1 = (0 : Int32) by decide), if_pos (show nI 1 = (1 : Int32) from rfl), b1_s]; rfl
        · rw [if_neg (show ¬ nI 2 = (0 : Int32) by decide), if_neg (show ¬ nI 2 = (1 : Int32) by decide), if_pos (show nI 2 = (2 : Int32) from rfl), M_n h3, b1_s, zt.2.1, b1_s, b1_s]; rfl
        · rw [if_neg (show ¬ nI 3 = (0 : Int32) by decide), if_neg (show ¬ nI 3 = (1 : Int32) by decide), if_neg (show ¬ nI 3 = (2 : Int32) by decide), if_pos (show nI 3 = (3 : Int32) from rfl), M_n h3, b1_s, zt.2.2, b1_s, b1_s]; rfl
        · rw [if_neg (show ¬ nI 4 = (0 : Int32) by decide), if_neg (show ¬ nI 4 = (1 : Int32) by decide), if_neg (show ¬ nI 4 = (2 : Int32) by decide), if_neg (show ¬ nI 4 = (3 : Int32) by decide), b1_s]; rfl
      · unfold FL_tellerOf FX6_tellerOf
        simp only [C_c hc, b1_s, rgR, bI_1, l0, l4]
        rw [needT_t c1, bx_s, need_t c2, bx_s]
        rcases (show i = 0 ∨ i = 1 ∨ i = 2 ∨ i = 3 ∨ i = 4 by omega) with rfl | rfl | rfl | rfl | rfl
        · rw [if_pos (show nI 0 = (0 : Int32) from rfl), C_0 hc, b1_s, trustOf_e hp (by omega), b1_s, bc_s]
          exact (congrArg (fun o => b1 o _) hj).trans rfl
        · rw [if_neg (show ¬ nI 1 = (0 : Int32) by decide), if_pos (show nI 1 = (1 : Int32) from rfl), C_0 hc, b1_s, measuresOfTeller_e hp hA (by omega), b1_s, bc_s]
          exact (congrArg (fun o => b1 o _) hj).trans rfl
        · rw [if_neg (show ¬ nI 2 = (0 : Int32) by decide), if_neg (show ¬ nI 2 = (1 : Int32) by decide), if_pos (show nI 2 = (2 : Int32) from rfl), C_0 hc, b1_s, rightOf_e hp (by omega), b1_s, bc_s]
          exact (congrArg (fun o => b1 o _) hj).trans rfl
        · rw [if_neg (show ¬ nI 3 = (0 : Int32) by decide), if_neg (show ¬ nI 3 = (1 : Int32) by decide), if_neg (show ¬ nI 3 = (2 : Int32) by decide), if_pos (show nI 3 = (3 : Int32) from rfl), C_0 hc, b1_s, wrongOf_e hp (by omega), b1_s, bc_s]
          exact (congrArg (fun o => b1 o _) hj).trans rfl
        · rw [if_neg (show ¬ nI 4 = (0 : Int32) by decide), if_neg (show ¬ nI 4 = (1 : Int32) by decide), if_neg (show ¬ nI 4 = (2 : Int32) by decide), if_neg (show ¬ nI 4 = (3 : Int32) by decide), C_0 hc, b1_s, quarrelsOfTeller_e hp hA (by omega), b1_s, bc_s]
          exact (congrArg (fun o => b1 o _) hj).trans rfl
    · refine Res_no W 2 (by decide) hc Ch.rf (fun σ' hm' => ?_) ?_
      · obtain ⟨σ3, e3, h3, o3⟩ := M_no2 hm'
        refine ⟨0, σ3, ?_, h3, o3⟩
        unfold FX7_tellerOf
        simp only [M_c hm', b1_s, zisT_e, zin_0_4, bI_ite]
        rw [if_pos c1, if_neg c2, b1_s, e3, b2_s, if_neg (by decide)]
      · unfold FL_tellerOf FX6_tellerOf
        simp only [C_c hc, b1_s, rgR, bI_1, l0, l4]
        rw [needT_t c1, bx_s, need_f c2, bx_e, bc_e, if_neg (by decide), if_pos rfl]
  · refine Res_no W 1 (by decide) hc Ch.rf (fun σ' hm' => ?_) ?_
    · obtain ⟨σ3, e3, h3, o3⟩ := M_no1 hm'
      refine ⟨0, σ3, ?_, h3, o3⟩
      unfold FX7_tellerOf
      simp only [M_c hm', b1_s, zisT_e, zin_0_4, bI_ite]
      rw [if_neg c1, b1_s, e3, b2_s, if_neg (by decide)]
    · unfold FL_tellerOf FX6_tellerOf
      rw [C_c hc, b1_s, needT_f c1, bx_e, bc_e, if_pos rfl]
/-- steepleOf -/
def seV (A : AS) (s i : Nat) : Int32 := if i = 0 then nI (fb_sm (fun k => if mk A k 0 = s then 1 else 0) (nM A)) else if i = 1 then aSv A s else nI (fb_sm (fun k => if mk A k 0 = s then wt A (mk A k) else 0) (nM A))
theorem sofL {m : Nat} {s : Nat} {y : Int32} (hm : isM σ m A L K N f rf) (hA : okA A) (ht : s < 2 ^ 31) : FX7_steepleOf_L45 m (nI s) y σ qfuel 0 0 0 = some (nI (fb_sm (fun k => if mk A k 0 = s then 1 else 0) (nM A)), nI (fb_sm (fun k => if mk A k 0 = s then wt A (mk A k) else 0) (nM A))) := by
  have h16 : nM A ≤ 16 := hA.1
  have hz := M_z hm
  refine sumloop20 (f := fun a b c d => FX7_steepleOf_L45 m (nI s) y σ a b c d) (fun q k x z hk => ?_) (fun q x z => ?_) (by omega)
  · have mb := mk_b hA hk
    show FX7_steepleOf_L45 m (nI s) y σ (q + 1) x z (nI k) = _
    rw [FX7_steepleOf_L45]
    simp only [M_n hm, b1_s, z_n hz, le_nI (n16 hA) (show k < 2 ^ 31 by omega), if_neg (Nat.not_le.mpr hk), (of_l hz hA hk).1, eq_nI (show mk A k 0 < 2 ^ 31 by omega) ht, zweight_e hz hA hk, nI_1]
    by_cases c : mk A k 0 = s
    · rw [if_pos c, if_pos c, if_pos c, if_pos c, b1_s, b1_s]; rfl
    · rw [if_neg c, if_neg c, if_neg c, if_neg c, b1_s, b1_s]; rfl
  · show FX7_steepleOf_L45 m (nI s) y σ (q + 1) x z (nI (nM A)) = _
    rw [FX7_steepleOf_L45]
    simp only [M_n hm, b1_s, z_n hz, le_nI (n16 hA) (n16 hA), Nat.le_refl, if_true]
theorem op_steepleOf {x y : Int32} (W : Wd σ n A L K N f rf) : Res σ n (FL_steepleOf n x y (n + 143) σ) (FX7_steepleOf (n + 136) x y) := by
  obtain ⟨hc, hm, hg, hs⟩ := id W
  have hA := hs.1
  have hp := hc.2.1
  by_cases c1 : inZ x 0 2
  · by_cases c2 : inZ y 0 2
    · obtain ⟨t, rfl, t1, t2⟩ := inZ_n c1 (by omega)
      obtain ⟨i, rfl, i1, i2⟩ := inZ_n c2 (by omega)
      refine Res_ok W (seV A t i) hc Ch.rf hs (fun σ' hm' => ?_) (fun σ' hj => ?_)
      · obtain ⟨σ3, e3, h3, o3⟩ := M_yes hm'
        refine ⟨σ3, ?_, h3, o3⟩
        have hz := M_z h3
        unfold FX7_steepleOf
        simp only [M_c hm', b1_s, zisS_e, zin_0_2, bI_ite]
        rw [if_pos c1, if_pos c2, b1_s, e3, b2_s, if_pos rfl, sofL h3 hA (by omega), b2_s]
        rcases (show i = 0 ∨ i = 1 ∨ i = 2 by omega) with rfl | rfl | rfl
        · rw [if_pos (show nI 0 = (0 : Int32) from rfl), b1_s]; rfl
        · rw [if_neg (show ¬ nI 1 = (0 : Int32) by decide), if_pos (show nI 1 = (1 : Int32) from rfl), M_n h3, b1_s, z_v hz (by omega), b1_s, b1_s]; rfl
        · rw [if_neg (show ¬ nI 2 = (0 : Int32) by decide), if_neg (show ¬ nI 2 = (1 : Int32) by decide), b1_s]; rfl
      · unfold FL_steepleOf FX6_steepleOf
        simp only [C_c hc, b1_s, rgR, bI_1, l0, l2]
        rw [needS_t c1, bx_s, need_t c2, bx_s]
        rcases (show i = 0 ∨ i = 1 ∨ i = 2 by omega) with rfl | rfl | rfl
        · rw [if_pos (show nI 0 = (0 : Int32) from rfl), C_0 hc, b1_s, measuresOfSteeple_e hp hA (by omega), b1_s, bc_s]
          exact (congrArg (fun o => b1 o _) hj).trans rfl
        · rw [if_neg (show ¬ nI 1 = (0 : Int32) by decide), if_pos (show nI 1 = (1 : Int32) from rfl), C_0 hc, b1_s, heightS_e hp (by omega), b1_s, bc_s]
          exact (congrArg (fun o => b1 o _) hj).trans rfl
        · rw [if_neg (show ¬ nI 2 = (0 : Int32) by decide), if_neg (show ¬ nI 2 = (1 : Int32) by decide), C_0 hc, b1_s, weightOfSteeple_e hp hA (by omega), b1_s, bc_s]
          exact (congrArg (fun o => b1 o _) hj).trans rfl
    · refine Res_no W 2 (by decide) hc Ch.rf (fun σ' hm' => ?_) ?_
      · obtain ⟨σ3, e3, h3, o3⟩ := M_no2 hm'
        refine ⟨0, σ3, ?_, h3, o3⟩
        unfold FX7_steepleOf
        simp only [M_c hm', b1_s, zisS_e, zin_0_2, bI_ite]
        rw [if_pos c1, if_neg c2, b1_s, e3, b2_s, if_neg (by decide)]
      · unfold FL_steepleOf FX6_steepleOf
        simp only [C_c hc, b1_s, rgR, bI_1, l0, l2]
        rw [needS_t c1, bx_s, need_f c2, bx_e, bc_e, if_neg (by decide), if_pos rfl]
  · refine Res_no W 1 (by decide) hc Ch.rf (fun σ' hm' => ?_) ?_
    · obtain ⟨σ3, e3, h3, o3⟩ := M_no1 hm'
      refine ⟨0, σ3, ?_, h3, o3⟩
      unfold FX7_steepleOf
      simp only [M_c hm', b1_s, zisS_e, zin_0_2, bI_ite]
      rw [if_neg c1, b1_s, e3, b2_s, if_neg (by decide)]
    · unfold FL_steepleOf FX6_steepleOf
      rw [C_c hc, b1_s, needS_f c1, bx_e, bc_e, if_pos rfl]
theorem op_vote {x y : Int32} (W : Wd σ n A L K N f rf) : Res σ n (FL_vote n x y (n + 143) σ) (FX7_vote (n + 136) x y) := by
  obtain ⟨hc, hm, hg, hs⟩ := id W
  have hA := hs.1
  by_cases c1 : inZ x 0 2
  · by_cases c2 : inZ y 1 999
    · obtain ⟨t, rfl, t1, t2⟩ := inZ_n c1 (by omega)
      obtain ⟨i, rfl, i1, i2⟩ := inZ_n c2 (by omega)
      refine Res_ok W (nI (vot A t i)) hc Ch.rf hs (fun σ' hm' => ?_) (fun σ' hj => ?_)
      · obtain ⟨σ3, e3, h3, o3⟩ := M_yes hm'
        refine ⟨σ3, ?_, h3, o3⟩
        unfold FX7_vote
        simp only [M_c hm', b1_s, zisS_e, zin_1_999, bI_ite]
        rw [if_pos c1, if_pos c2, b1_s, e3, b2_s, if_pos rfl, M_n h3, b1_s, zvote_e (M_z h3) hA (by omega) (by omega), b1_s]
      · unfold FL_vote FX6_vote
        rw [C_c hc, b1_s, needS_t c1, bx_s, isHeight_e, b1_s, need_t c2, bx_s, C_0 hc, b1_s, voteOf_e hc.2.1 hA (by omega) (by omega), b1_s, bc_s, hj, b1_s]
    · refine Res_no W 2 (by decide) hc Ch.rf (fun σ' hm' => ?_) ?_
      · obtain ⟨σ3, e3, h3, o3⟩ := M_no2 hm'
        refine ⟨0, σ3, ?_, h3, o3⟩
        unfold FX7_vote
        simp only [M_c hm', b1_s, zisS_e, zin_1_999, bI_ite]
        rw [if_pos c1, if_neg c2, b1_s, e3, b2_s, if_neg (by decide)]
      · unfold FL_vote FX6_vote
        rw [C_c hc, b1_s, needS_t c1, bx_s, isHeight_e, b1_s, need_f c2, bx_e, bc_e, if_neg (by decide), if_pos rfl]
  · refine Res_no W 1 (by decide) hc Ch.rf (fun σ' hm' => ?_) ?_
    · obtain ⟨σ3, e3, h3, o3⟩ := M_no1 hm'
      refine ⟨0, σ3, ?_, h3, o3⟩
      unfold FX7_vote
      simp only [M_c hm', b1_s, zisS_e, zin_1_999, bI_ite]
      rw [if_neg c1, b1_s, e3, b2_s, if_neg (by decide)]
    · unfold FL_vote FX6_vote
      rw [C_c hc, b1_s, needS_f c1, bx_e, bc_e, if_pos rfl]
theorem op_setting {x : Int32} (W : Wd σ n A L K N f rf) : Res σ n (FL_setting n x (n + 143) σ) (FX7_setting (n + 136) x) := by
  obtain ⟨hc, hm, hg, hs⟩ := id W
  by_cases c1 : inZ x 0 1
  · obtain ⟨i, rfl, i1, i2⟩ := inZ_n c1 (by omega)
    refine Res_ok W (nI (aSt A i)) hc Ch.rf hs (fun σ' hm' => ?_) (fun σ' hj => ?_)
    · obtain ⟨σ3, e3, h3, o3⟩ := M_yes hm'
      refine ⟨σ3, ?_, h3, o3⟩
      unfold FX7_setting
      simp only [M_c hm', b1_s, zin_0_1, bI_ite]
      rw [if_pos c1, b1_s, e3, b2_s, if_pos rfl, M_n h3, b1_s, show (7 : Int32) = nI 7 from rfl, nI_add, z_s (M_z h3) (by omega), b1_s]
    · unfold FL_setting FX6_setting
      rw [C_c hc, b1_s, isSetting_e, b1_s, need_t c1, bx_s, C_0 hc, b1_s, settingOf_e hc.2.1 (by omega), b1_s, bc_s, hj, b1_s]
  · refine Res_no W 1 (by decide) hc Ch.rf (fun σ' hm' => ?_) ?_
    · obtain ⟨σ3, e3, h3, o3⟩ := M_no1 hm'
      refine ⟨0, σ3, ?_, h3, o3⟩
      unfold FX7_setting
      simp only [M_c hm', b1_s, zin_0_1, bI_ite]
      rw [if_neg c1, b1_s, e3, b2_s, if_neg (by decide)]
    · unfold FL_setting FX6_setting
      rw [C_c hc, b1_s, isSetting_e, b1_s, need_f c1, bx_e, bc_e, if_pos rfl]
theorem op_apart {x y : Int32} (W : Wd σ n A L K N f rf) : Res σ n (FL_apart n x y (n + 143) σ) (FX7_apart (n + 136) x y) := by
  obtain ⟨hc, hm, hg, hs⟩ := id W
  have hA := hs.1
  by_cases c1 : inZ x 0 ((nM A : Int) - 1)
  · by_cases c2 : inZ y 0 ((nM A : Int) - 1)
    · obtain ⟨k, rfl, k1, k2⟩ := inZ_n c1 (by omega)
      obtain ⟨i, rfl, i1, i2⟩ := inZ_n c2 (by omega)
      have hk : k < nM A := by omega
      have hi : i < nM A := by omega
      have bk := mk_b hA hk
      have bi := mk_b hA hi
      refine Res_ok W (if mk A k 0 = mk A i 0 then nI (gap (mk A k) (mk A i)) else -1) hc Ch.rf hs (fun σ' hm' => ?_) (fun σ' hj => ?_)
      · obtain ⟨σ3, e3, h3, o3⟩ := M_yes hm'
        refine ⟨σ3, ?_, h3, o3⟩
        have hz := M_z h3
        unfold FX7_apart
        simp only [M_c hm', M_n hm', b1_s, zisM_e (M_z hm') hA, bI_ite]
        rw [if_pos c1, if_pos c2, b1_s, e3, b2_s, if_pos rfl, M_n h3, b1_s, (of_l hz hA hk).1, b1_s, b1_s, (of_l hz hA hi).1, b1_s]
        simp only [eq_nI (show mk A k 0 < 2 ^ 31 by omega) (show mk A i 0 < 2 ^ 31 by omega), b1_s, zgap_e hz hA hk hi]
        by_cases c : mk A k 0 = mk A i 0
        · rw [if_pos c, if_pos c, b1_s]
        · rw [if_neg c, if_neg c, b1_s]
      · unfold FL_apart FX6_apart
        rw [C_c hc, b1_s, needM_t hc hA c1, bx_s, needM_t hc hA c2, bx_s, C_0 hc, b1_s, feetApart_e hc.2.1 hA hk hi, b1_s, bc_s, hj, b1_s]
    · refine Res_no W 1 (by decide) hc Ch.rf (fun σ' hm' => ?_) ?_
      · obtain ⟨σ3, e3, h3, o3⟩ := M_no1 hm'
        refine ⟨0, σ3, ?_, h3, o3⟩
        unfold FX7_apart
        simp only [M_c hm', M_n hm', b1_s, zisM_e (M_z hm') hA, bI_ite]
        rw [if_pos c1, if_neg c2, b1_s, e3, b2_s, if_neg (by decide)]
      · unfold FL_apart FX6_apart
        rw [C_c hc, b1_s, needM_t hc hA c1, bx_s, needM_f hc hA c2, bx_e, bc_e, if_pos rfl]
  · refine Res_no W 1 (by decide) hc Ch.rf (fun σ' hm' => ?_) ?_
    · obtain ⟨σ3, e3, h3, o3⟩ := M_no1 hm'
      refine ⟨0, σ3, ?_, h3, o3⟩
      unfold FX7_apart
      simp only [M_c hm', M_n hm', b1_s, zisM_e (M_z hm') hA, bI_ite]
      rw [if_neg c1, b1_s, e3, b2_s, if_neg (by decide)]
    · unfold FL_apart FX6_apart
      rw [C_c hc, b1_s, needM_f hc hA c1, bx_e, bc_e, if_pos rfl]
end RE
