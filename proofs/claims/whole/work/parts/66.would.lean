/-! Layer 2: what would be, and the text, side by side. -/
section WW
variable {σ : qH} {n N : Nat} {A : AS} {L : List AS} {K : Nat → Option AS} {f : Nat → Nat} {rf : Int32} {tst : Nat → Nat}
def beV (A : AS) (s : Nat) (w : Int32) : Int32 := if w = 0 then nI (low A s) else if w = 1 then nI (hig A s) else nI (top A s)
theorem told_e {b s : Nat} {B : AS} {w : Int32} (h : isB σ b (nI (low B s)) (nI (hig B s)) (nI (top B s))) : FX0_told b w σ = some (beV B s w) := by
  obtain ⟨r0, -, r1, r2, r3⟩ := B_r h
  unfold FX0_told beV
  simp only [r0, r1, r2, r3, b1_s]
  by_cases c0 : w = 0
  · rw [if_pos c0, if_pos c0]
  · by_cases c1 : w = 1
    · rw [if_neg c0, if_pos c1, if_neg c0, if_pos c1]
    · rw [if_neg c0, if_neg c1, if_neg c0, if_neg c1]
theorem lowest_e {b : Nat} {l h m : Int32} (hb : isB σ b l h m) : FX0_lowest b σ = some l := by
  unfold FX0_lowest; rw [(B_r hb).1, b1_s, (B_r hb).2.2.1, b1_s]
theorem most_e {b : Nat} {l h m : Int32} (hb : isB σ b l h m) : FX0_most b σ = some m := by
  unfold FX0_most; rw [(B_r hb).1, b1_s, (B_r hb).2.2.2.2, b1_s]
theorem op_best {x y z : Int32} (W : Wd σ n A L K N f rf) : Res σ n (FL_best n x y z (n + 143) σ) (FX7_best (n + 136) x y z) := by
  obtain ⟨hc, hm, hg, hs⟩ := id W
  have hA := hs.1
  by_cases c1 : inZ x 0 2
  · by_cases c2 : inZ y 0 2 ∧ inZ z 0 1
    · obtain ⟨s, rfl, s1, s2⟩ := inZ_n c1 (by omega)
      have hM : ∀ σ', isM σ' (n + 136) A L K N f rf → ∃ σ2, FX7_best (n + 136) (nI s) y z σ' = some (beV A s y, σ2) ∧ isM σ2 (n + 136) A L K N f 0 ∧ Ch σ' σ2 (n + 136) (n + 142) := fun σ' hm' => by
        obtain ⟨σ3, e3, h3, o3⟩ := M_yes hm'
        refine ⟨σ3, ?_, h3, o3⟩
        unfold FX7_best
        simp only [M_c hm', b1_s, zisS_e, zin_0_2, zin_0_1, bI_ite]
        rw [if_pos c1, if_pos c2.1, if_pos c2.2, b1_s, e3, b2_s, if_pos rfl, M_n h3, b1_s, zbest_e (M_z h3) hA (by omega), b1_s]; rfl
      by_cases c3 : z = 0
      · obtain ⟨σ1, e1, g1, h1, o1⟩ := C_heights hc (s := s) hA (by omega)
        refine Res_ok W (beV A s y) h1 o1 hs hM (fun σ' hj => ?_)
        unfold FL_best FX6_best
        simp only [C_c hc, b1_s, rgR, bI_1, bI_and, l0, l1, l2]
        rw [needS_t c1, bxw_s, need_t c2, bxw_s, if_pos c3, C_6 hc, b1_s, C_0 hc, b1_s, e1, b1_s, b1_s, C_6 h1, b1_s, told_e g1, b1_s, bc2_s, hj, b1_s]
      · obtain ⟨σ1, c', e1, g1, -, h1, o1⟩ := C_ends hc (s := s) hc.2.1 hA (by omega) (by omega)
        refine Res_ok W (beV A s y) h1 (o1.ch (by omega) (by omega)) hs hM (fun σ' hj => ?_)
        unfold FL_best FX6_best
        simp only [C_c hc, b1_s, rgR, bI_1, bI_and, l0, l1, l2]
        rw [needS_t c1, bxw_s, need_t c2, bxw_s, if_neg c3, C_6 hc, b1_s, C_0 hc, b1_s, e1, b1_s, b1_s, C_6 h1, b1_s, told_e g1, b1_s, bc2_s, hj, b1_s]
    · refine Res_no W 2 (by decide) hc Ch.rf (fun σ' hm' => ?_) ?_
      · obtain ⟨σ3, e3, h3, o3⟩ := M_no2 hm'
        refine ⟨0, σ3, ?_, h3, o3⟩
        unfold FX7_best
        simp only [M_c hm', b1_s, zisS_e, zin_0_2, zin_0_1, bI_ite]
        rw [if_pos c1]
        by_cases c3 : inZ y 0 2
        · rw [if_pos c3, if_neg (fun w => c2 ⟨c3, w⟩), b1_s, e3, b2_s, if_neg (by decide)]
        · rw [if_neg c3, b1_s, e3, b2_s, if_neg (by decide)]
      · unfold FL_best FX6_best
        simp only [C_c hc, b1_s, rgR, bI_1, bI_and, l0, l1, l2]
        rw [needS_t c1, bxw_s, need_f c2, bxw_e, bc2_e, if_neg (by decide), if_pos rfl]
  · refine Res_no W 1 (by decide) hc Ch.rf (fun σ' hm' => ?_) ?_
    · obtain ⟨σ3, e3, h3, o3⟩ := M_no1 hm'
      refine ⟨0, σ3, ?_, h3, o3⟩
      unfold FX7_best
      simp only [M_c hm', b1_s, zisS_e, zin_0_2, zin_0_1, bI_ite]
      rw [if_neg c1, b1_s, e3, b2_s, if_neg (by decide)]
    · unfold FL_best FX6_best
      rw [C_c hc, b1_s, needS_f c1, bxw_e, bc2_e, if_pos rfl]
theorem op_against {x : Int32} (W : Wd σ n A L K N f rf) : Res σ n (FL_against n x (n + 143) σ) (FX7_against (n + 136) x) := by
  obtain ⟨hc, hm, hg, hs⟩ := id W
  have hA := hs.1
  by_cases c1 : inZ x 0 2
  · obtain ⟨s, rfl, s1, s2⟩ := inZ_n c1 (by omega)
    have lr := low_r (A := A) (s := s)
    obtain ⟨σ1, c', e1, g1, -, h1, o1⟩ := C_ends hc (s := s) hc.2.1 hA (by omega) (by omega)
    refine Res_ok W (enc (agL A s (low A s) (nM A) 0 none)) h1 (o1.ch (by omega) (by omega)) hs (fun σ' hm' => ?_) (fun σ' hj => ?_)
    · obtain ⟨σ3, e3, h3, o3⟩ := M_yes hm'
      refine ⟨σ3, ?_, h3, o3⟩
      unfold FX7_against
      simp only [M_c hm', b1_s, zisS_e, bI_ite]
      rw [if_pos c1, b1_s, e3, b2_s, if_pos rfl, M_n h3, b1_s, zlow_e (M_z h3) hA (by omega), b1_s, zagainst_e (M_z h3) (M_n h3) hA (by omega) (by omega), b1_s]
    · unfold FL_against FX6_against
      rw [C_c hc, b1_s, needS_t c1, bxw_s, C_6 hc, b1_s, C_0 hc, b1_s, e1, b1_s, C_0 h1, b1_s, C_6 h1, b1_s, lowest_e g1, b1_s, loudestAgainst_e h1.2.1 hA (by omega) (by omega), b1_s, bc2_s, hj, b1_s]
  · refine Res_no W 1 (by decide) hc Ch.rf (fun σ' hm' => ?_) ?_
    · obtain ⟨σ3, e3, h3, o3⟩ := M_no1 hm'
      refine ⟨0, σ3, ?_, h3, o3⟩
      unfold FX7_against
      simp only [M_c hm', b1_s, zisS_e, bI_ite]
      rw [if_neg c1, b1_s, e3, b2_s, if_neg (by decide)]
    · unfold FL_against FX6_against
      rw [C_c hc, b1_s, needS_f c1, bxw_e, bc2_e, if_pos rfl]
theorem op_without {x y : Int32} (W : Wd σ n A L K N f rf) : Res σ n (FL_without n x y (n + 143) σ) (FX7_without (n + 136) x y) := by
  obtain ⟨hc, hm, hg, hs⟩ := id W
  have hA := hs.1
  by_cases c1 : inZ x 0 ((nM A : Int) - 1)
  · by_cases c2 : inZ y 0 2
    · obtain ⟨k, rfl, k1, k2⟩ := inZ_n c1 (by omega)
      have hk : k < nM A := by omega
      have mb := mk_b hA hk
      obtain ⟨σ1, e1, g1, h1, o1⟩ := C_endx hc (s := mk A k 0) hA hk (by omega)
      refine Res_ok W (beV (drpA A k) (mk A k 0) y) h1 (o1.ch (by omega) (by omega)) hs (fun σ' hm' => ?_) (fun σ' hj => ?_)
      · obtain ⟨σ3, e3, h3, o3⟩ := M_yes hm'
        obtain ⟨σ4, e4, z4, h4, o4⟩ := M_cpy h3 hA
        obtain ⟨σ5, e5, z5, o5⟩ := dropOn_e z4 hA hk
        have h5 := M_tri h4 (mR_z z5) o5
        refine ⟨σ5, ?_, h5, (o3.tr (o4.ch (by omega) (by omega))).tr (o5.ch (by omega) (by omega))⟩
        unfold FX7_without
        simp only [M_c hm', M_n hm', b1_s, zisM_e (M_z hm') hA, zin_0_2, bI_ite]
        rw [if_pos c1, if_pos c2, b1_s, e3, b2_s, if_pos rfl, M_n h3, b1_s, (of_l (M_z h3) hA hk).1, b1_s, b1_s, M_t h3, b1_s, e4, b1_s, M_t h4, b1_s, e5, b2_s, M_t h5, b1_s, zbest_e z5 (drpA_ok hA hk) (by omega), b1_s]; rfl
      · unfold FL_without FX6_without
        simp only [C_c hc, b1_s, rgR, bI_1, l0, l2]
        rw [needM_t hc hA c1, bxw_s, need_t c2, bxw_s, C_6 hc, b1_s, C_0 hc, b1_s, b1_s, number_0 hc.2.1 hA hk, b1_s, e1, b1_s, C_6 h1, b1_s, told_e g1, b1_s, bc2_s, hj, b1_s]
    · refine Res_no W 2 (by decide) hc Ch.rf (fun σ' hm' => ?_) ?_
      · obtain ⟨σ3, e3, h3, o3⟩ := M_no2 hm'
        refine ⟨0, σ3, ?_, h3, o3⟩
        unfold FX7_without
        simp only [M_c hm', M_n hm', b1_s, zisM_e (M_z hm') hA, zin_0_2, bI_ite]
        rw [if_pos c1, if_neg c2, b1_s, e3, b2_s, if_neg (by decide)]
      · unfold FL_without FX6_without
        simp only [C_c hc, b1_s, rgR, bI_1, l0, l2]
        rw [needM_t hc hA c1, bxw_s, need_f c2, bxw_e, bc2_e, if_neg (by decide), if_pos rfl]
  · refine Res_no W 1 (by decide) hc Ch.rf (fun σ' hm' => ?_) ?_
    · obtain ⟨σ3, e3, h3, o3⟩ := M_no1 hm'
      refine ⟨0, σ3, ?_, h3, o3⟩
      unfold FX7_without
      simp only [M_c hm', M_n hm', b1_s, zisM_e (M_z hm') hA, zin_0_2, bI_ite]
      rw [if_neg c1, b1_s, e3, b2_s, if_neg (by decide)]
    · unfold FL_without FX6_without
      rw [C_c hc, b1_s, needM_f hc hA c1, bxw_e, bc2_e, if_pos rfl]
/-- swings -/
def swL (A : AS) (t s : Nat) : Nat → Nat → Option Nat
  | 0, _ => none
  | d + 1, v => if tlB (truA A t v) t s (low (truA A t v) s) (nM A) 0 then some v else swL A t s d (v + 1)
theorem truA_tw {A : AS} {t v w : Nat} : truA (truA A t v) t w = truA A t w := by
  have e : fset (fset (aT A) t v) t w = fset (aT A) t w := by
    funext j
    show (if j = t then w else if j = t then v else aT A j) = if j = t then w else aT A j
    by_cases c : j = t
    · rw [if_pos c, if_pos c]
    · rw [if_neg c, if_neg c, if_neg c]
  show ((aM A, fset (fset (aT A) t v) t w, _) : AS) = _
  rw [e]
theorem nine {v : Nat} (hv : v ≤ 10) : ((9 : Int32) < nI v) = (9 < v) := lt_nI (a := 9) (by omega) (by omega)
theorem ten10 {v : Nat} (hv : v ≤ 9) : ¬ 9 < v := by omega
theorem swC {t s : Nat} (ht : t < 6) (hs : s < 3) (hA : okA A) : ∀ (d v q : Nat) (B : AS) (σ : qH), v + d = 10 → isC σ n A L K N f → isP σ (n + 8) B → okA B → (∀ w, truA B t w = truA A t w) → ∃ σ', FX6_swings_L21 n (nI t) (nI s) (d + 1 + q) (nI v) σ = some (.inl (enc (swL A t s d v), σ')) ∧ isC σ' n A L K N f ∧ Ch σ σ' n (n + 135)
  | 0, v, q, B, σ, hv, hc, hp, hB, hb => by
    refine ⟨σ, ?_, hc, Ch.rf⟩
    rw [show 0 + 1 + q = q + 1 by omega, FX6_swings_L21]
    simp only [nine (show v ≤ 10 by omega)]
    rw [if_pos (by omega)]; rfl
  | d + 1, v, q, B, σ, hv, hc, hp, hB, hb => by
    obtain ⟨σ1, e1, p1, o1⟩ := changeTrust_e (t := t) (v := v) hp ht
    rw [hb v] at p1
    have okB : okA (truA A t v) := truA_ok hA (by omega)
    obtain ⟨h1, c1⟩ := C_copyP hc p1 o1
    obtain ⟨σ2, c', e2, g2, -, h2, o2⟩ := C_ends h1 (s := s) p1 okB (by omega) (by omega)
    have p2 := isP_s p1 (σ' := σ2) (fun a ha hb => o2 a (by omega))
    have lr := low_r (A := truA A t v) (s := s)
    have e3 := tellsHeight_e p2 okB (t := t) (s := s) (x := low (truA A t v) s) (by omega) (by omega) (by omega)
    rw [show d + 1 + 1 + q = (d + 1 + q) + 1 by omega, FX6_swings_L21]
    simp only [nine (show v ≤ 10 by omega)]
    rw [if_neg (show ¬ 9 < v by omega), C_1 hc, b1_s, e1, b2_s, C_6 h1, b1_s, C_1 h1, b1_s, e2, b1_s, C_1 h2, b1_s, C_6 h2, b1_s, lowest_e g2, b1_s, e3, b1_s]
    have ew : swL A t s (d + 1) v = if tlB (truA A t v) t s (low (truA A t v) s) (nM A) 0 then some v else swL A t s d (v + 1) := rfl
    rw [ew]
    by_cases c : tlB (truA A t v) t s (low (truA A t v) s) (nM A) 0 = true
    · have c' : tlB (truA A t v) t s (low (truA A t v) s) (nM (truA A t v)) 0 = true := c
      rw [if_pos c', if_neg (by decide), if_pos c]
      exact ⟨σ2, rfl, h2, c1.tr (o2.ch (by omega) (by omega))⟩
    · have c' : ¬ tlB (truA A t v) t s (low (truA A t v) s) (nM (truA A t v)) 0 = true := c
      rw [if_neg c', if_pos rfl, if_neg c, nI_1]
      obtain ⟨σ3, e4, h3, o3⟩ := swC ht hs hA d (v + 1) q (truA A t v) σ2 (by omega) h2 p2 okB (fun w => truA_tw)
      exact ⟨σ3, e4, h3, (c1.tr (o2.ch (by omega) (by omega))).tr o3⟩
theorem swM {m t s : Nat} {rf : Int32} (ht : t < 6) (hs : s < 3) (hA : okA A) : ∀ (d v q : Nat) (B : AS) (σ : qH), v + d = 10 → isM σ m A L K N f rf → isZ σ (m + 3) B → okA B → (∀ w, truA B t w = truA A t w) → ∃ σ', FX7_swings_L43 m (nI t) (nI s) (d + 1 + q) (nI v) σ = some (enc (swL A t s d v), σ') ∧ isM σ' m A L K N f rf ∧ Ch σ σ' m (m + 6)
  | 0, v, q, B, σ, hv, hc, hp, hB, hb => by
    refine ⟨σ, ?_, hc, Ch.rf⟩
    rw [show 0 + 1 + q = q + 1 by omega, FX7_swings_L43]
    simp only [nine (show v ≤ 10 by omega)]
    rw [if_pos (by omega)]; rfl
  | d + 1, v, q, B, σ, hv, hc, hp, hB, hb => by
    obtain ⟨σ1, e1, p1, o1⟩ := trustOn_e (t := t) (v := v) hp ht
    rw [hb v] at p1
    have okB : okA (truA A t v) := truA_ok hA (by omega)
    have h1 := M_tri hc (mR_z p1) o1
    have e3 := isTold_e p1 okB (t := t) (s := s) (by omega) (by omega)
    rw [show d + 1 + 1 + q = (d + 1 + q) + 1 by omega, FX7_swings_L43]
    simp only [nine (show v ≤ 10 by omega)]
    rw [if_neg (show ¬ 9 < v by omega), M_t hc, b1_s, e1, b2_s, M_t h1, b1_s, e3, b1_s]
    have ew : swL A t s (d + 1) v = if tlB (truA A t v) t s (low (truA A t v) s) (nM A) 0 then some v else swL A t s d (v + 1) := rfl
    rw [ew]
    by_cases c : tlB (truA A t v) t s (low (truA A t v) s) (nM A) 0 = true
    · have c' : tlB (truA A t v) t s (low (truA A t v) s) (nM (truA A t v)) 0 = true := c
      rw [if_pos c', if_neg (by decide), if_pos c]
      exact ⟨σ1, rfl, h1, o1.ch (by omega) (by omega)⟩
    · have c' : ¬ tlB (truA A t v) t s (low (truA A t v) s) (nM (truA A t v)) 0 = true := c
      rw [if_neg c', if_pos rfl, if_neg c, nI_1]
      obtain ⟨σ3, e4, h3, o3⟩ := swM ht hs hA d (v + 1) q (truA A t v) σ1 (by omega) h1 p1 okB (fun w => truA_tw)
      exact ⟨σ3, e4, h3, Ch.tr (o1.ch (by omega) (by omega)) o3⟩
theorem op_swings {x y : Int32} (W : Wd σ n A L K N f rf) : Res σ n (FL_swings n x y (n + 143) σ) (FX7_swings (n + 136) x y) := by
  obtain ⟨hc, hm, hg, hs⟩ := id W
  have hA := hs.1
  by_cases c1 : inZ x 0 5
  · by_cases c2 : inZ y 0 2
    · obtain ⟨t, rfl, t1, t2⟩ := inZ_n c1 (by omega)
      obtain ⟨s, rfl, s1, s2⟩ := inZ_n c2 (by omega)
      obtain ⟨q3, hq⟩ := qf (n := 10) (by omega)
      obtain ⟨σ1, e1, p1, h1, o1⟩ := C_cpy hc hA
      obtain ⟨σ2, e2, h2, o2⟩ := swC (t := t) (s := s) (by omega) (by omega) hA 10 0 q3 A σ1 (by omega) h1 p1 hA (fun w => rfl)
      rw [← hq] at e2
      have e2' : FX6_swings_L21 n (nI t) (nI s) qfuel 0 σ1 = _ := e2
      refine Res_ok W (enc (swL A t s 10 0)) h2 (o1.tr o2) hs (fun σ' hm' => ?_) (fun σ' hj => ?_)
      · obtain ⟨σ3, e3, h3, o3⟩ := M_yes hm'
        obtain ⟨σ4, e4, z4, h4, o4⟩ := M_cpy h3 hA
        obtain ⟨σ5, e5, h5, o5⟩ := swM (t := t) (s := s) (by omega) (by omega) hA 10 0 q3 A σ4 (by omega) h4 z4 hA (fun w => rfl)
        rw [← hq] at e5
        have e5' : FX7_swings_L43 (n + 136) (nI t) (nI s) qfuel 0 σ4 = _ := e5
        refine ⟨σ5, ?_, h5, (o3.tr (o4.ch (by omega) (by omega))).tr o5⟩
        unfold FX7_swings
        simp only [M_c hm', b1_s, zisT_e, zisS_e, bI_ite]
        rw [if_pos c1, if_pos c2, b1_s, e3, b2_s, if_pos rfl, M_n h3, b1_s, M_t h3, b1_s, e4, b1_s, e5']
      · unfold FL_swings FX6_swings
        rw [C_c hc, b1_s, needT_t c1, bxw_s, needS_t c2, bxw_s, C_1 hc, b1_s, C_0 hc, b1_s, e1, b1_s, e2', bc2_s, hj, b1_s]
    · refine Res_no W 1 (by decide) hc Ch.rf (fun σ' hm' => ?_) ?_
      · obtain ⟨σ3, e3, h3, o3⟩ := M_no1 hm'
        refine ⟨0, σ3, ?_, h3, o3⟩
        unfold FX7_swings
        simp only [M_c hm', b1_s, zisT_e, zisS_e, bI_ite]
        rw [if_pos c1, if_neg c2, b1_s, e3, b2_s, if_neg (by decide)]
      · unfold FL_swings FX6_swings
        rw [C_c hc, b1_s, needT_t c1, bxw_s, needS_f c2, bxw_e, bc2_e, if_pos rfl]
  · refine Res_no W 1 (by decide) hc Ch.rf (fun σ' hm' => ?_) ?_
    · obtain ⟨σ3, e3, h3, o3⟩ := M_no1 hm'
      refine ⟨0, σ3, ?_, h3, o3⟩
      unfold FX7_swings
      simp only [M_c hm', b1_s, zisT_e, zisS_e, bI_ite]
      rw [if_neg c1, b1_s, e3, b2_s, if_neg (by decide)]
    · unfold FL_swings FX6_swings
      rw [C_c hc, b1_s, needT_f c1, bxw_e, bc2_e, if_pos rfl]
theorem op_truest (W : Wd σ n A L K N f rf) : ∃ v, FX6_truest n σ = some v ∧ ∃ σ2, FX7_truest (n + 136) σ = some (v, σ2) ∧ (∃ A L K N f rf, Wd σ2 n A L K N f rf) ∧ (∀ a, a < n → σ2 a = σ a) := by
  obtain ⟨hc, hm, ⟨g, hg⟩, hs⟩ := id W
  obtain ⟨σ3, e3, h3, o3⟩ := ref_w hm 0
  obtain ⟨q3, hq⟩ := qf (n := 6) (by omega)
  have e := ztrL (M_z h3) (M_n h3) 6 0 q3 none (by omega) (fun j hj => by cases hj)
  rw [← hq] at e
  have e' : FX7_truest_L9 (n + 136) σ3 qfuel (-1) 0 = some (enc (trL A 6 0 none)) := e
  refine ⟨enc (trL A 6 0 none), ?_, σ3, ?_, ⟨A, L, K, N, f, 0, C_all hc (fun a ha hb => o3 a (by omega)), h3, ⟨g, by rw [o3 _ (by omega)]; exact hg⟩, hs⟩, fun a ha => o3 a (by omega)⟩
  · unfold FX6_truest
    rw [C_c hc, b1_s, C_0 hc, b1_s, tellerMostlyRight_e hc.2.1, b1_s]
  · unfold FX7_truest
    rw [M_c hm, b1_s, e3, b1_s, e', b1_s]
/-- the text -/
theorem M_app {m c : Nat} (h : isM σ m A L K N f rf) (hN : N < 120) : ∃ σ1, sI σ (m + 1) (nI N) (nI c) = some σ1 ∧ gI σ1 m 5 2 = some (nI N) ∧ ∃ σ2, gP σ1 m 5 2 (.int (nI (N + 1))) = some σ2 ∧ gI σ2 m 5 2 = some (nI (N + 1)) ∧ isM σ2 m A L K (N + 1) (fset f N c) rf ∧ Ch σ σ2 m (m + 6) := by
  obtain ⟨⟨sp, ou, h0⟩, ⟨ts, ht, hf⟩, h2, h3, h4, h5⟩ := h
  have e1 : sI σ (m + 1) (nI N) (nI c) = some (qU σ (m + 1) (iA 120 (upd ts N (nI c)))) := sI_e ht hN (by omega)
  have o1 : OfZ σ (qU σ (m + 1) (iA 120 (upd ts N (nI c)))) (m + 1) := fun _ hb => qU_n hb
  have g1 : qU σ (m + 1) (iA 120 (upd ts N (nI c))) (m + 1) = some (iA 120 (upd ts N (nI c))) := qU_s
  generalize qU σ (m + 1) (iA 120 (upd ts N (nI c))) = σ1 at e1 o1 g1
  have h01 : σ1 m = some (oM m N L.length rf sp ou) := by rw [o1 _ (by omega)]; exact h0
  obtain ⟨σ2, e2, g2, o2⟩ := M_w2 h01 (N + 1)
  have keep : ∀ a, a ≠ m → a ≠ m + 1 → σ2 a = σ a := fun a ha hb => by rw [o2 a ha, o1 a hb]
  refine ⟨σ1, e1, (M_r h01).2.2.2.1, σ2, e2, (M_r g2).2.2.2.1, ⟨⟨sp, ou, g2⟩, ⟨upd ts N (nI c), by rw [o2 _ (by omega)]; exact g1, fun i hi => ?_⟩, isZ_s h2 (keep _ (by omega) (by omega)), mR_s h3 (keep _ (by omega) (by omega)), mD_s h4 (keep _ (by omega) (by omega)), mK_s h5 (keep _ (by omega) (by omega)) (keep _ (by omega) (by omega))⟩, fun a ha => keep a (by omega) (by omega)⟩
  by_cases ci : i = N
  · subst ci; rw [upd_e]; show _ = nI (if i = i then c else f i); rw [if_pos rfl]
  · rw [upd_n ci, hf i (by omega)]; show _ = nI (if i = N then c else f i); rw [if_neg ci]
theorem op_append {x : Int32} (W : Wd σ n A L K N f rf) : Res σ n (FL_append n x (n + 143) σ) (FX7_append (n + 136) x) := by
  obtain ⟨hc, hm, hg, hs⟩ := id W
  have hN := hs.2.2.2.1
  have n120 : (nI N = (120 : Int32)) = (N = 120) := eq_nI (b := 120) (by omega) (by omega)
  by_cases c1 : inZ x 0 255
  · obtain ⟨c, rfl, i1, i2⟩ := inZ_n c1 (by omega)
    by_cases c2 : 120 ≤ N
    · refine Res_no W 2 (by decide) hc Ch.rf (fun σ' hm' => ?_) ?_
      · obtain ⟨σ3, e3, h3, o3⟩ := M_no2 hm'
        refine ⟨0, σ3, ?_, h3, o3⟩
        unfold FX7_append
        simp only [M_c hm', b1_s, zin_0_255, bI_ite, (M_get hm').2.2.2.1, n120]
        rw [if_pos c1, if_pos (by omega), b1_s, e3, b2_s, if_neg (by decide)]
      · unfold FL_append FX6_append
        simp only [C_c hc, b1_s, rgR, bI_1, l0, l255]
        rw [need_t c1, bxw_s, C_5 hc, b1_s, C_full hc hN, b1_s, bI_t c2, if_neg (by decide), bc2_e, if_neg (by decide), if_pos rfl]
    · obtain ⟨σ1, e1, h1, o1⟩ := C_app hc (show N < 120 by omega) (c := c)
      have hS : okS A L K (N + 1) (fset f N c) := ⟨hs.1, hs.2.1, hs.2.2.1, by omega, fun i hi => by
        show (if i = N then c else f i) ≤ 255
        by_cases ci : i = N
        · rw [if_pos ci]; omega
        · rw [if_neg ci]; exact hs.2.2.2.2 i (by omega)⟩
      refine Res_ok W (nI (N + 1)) h1 o1 hS (fun σ' hm' => ?_) (fun σ' hj => ?_)
      · obtain ⟨σ3, e3, h3, o3⟩ := M_yes hm'
        obtain ⟨σ4, e4, r4, σ5, e5, r5, h5, o5⟩ := M_app h3 (show N < 120 by omega) (c := c)
        refine ⟨σ5, ?_, h5, o3.tr o5⟩
        unfold FX7_append
        simp only [M_c hm', b1_s, zin_0_255, bI_ite, (M_get hm').2.2.2.1, n120]
        rw [if_pos c1, if_neg (by omega), b1_s, e3, b2_s, if_pos rfl, (M_get h3).2.2.1, b1_s, (M_get h3).2.2.2.1, b1_s, e4, b1_s, r4, b1_s, nI_1, e5, b1_s, r5, b1_s]
      · unfold FL_append FX6_append
        simp only [C_c hc, b1_s, rgR, bI_1, l0, l255]
        rw [need_t c1, bxw_s, C_5 hc, b1_s, C_full hc hN, b1_s, bI_f c2, if_pos rfl, b1_s, e1, b2_s, bc2_s, hj, b1_s]
  · refine Res_no W 1 (by decide) hc Ch.rf (fun σ' hm' => ?_) ?_
    · obtain ⟨σ3, e3, h3, o3⟩ := M_no1 hm'
      refine ⟨0, σ3, ?_, h3, o3⟩
      unfold FX7_append
      simp only [M_c hm', b1_s, zin_0_255, bI_ite, (M_get hm').2.2.2.1, n120]
      rw [if_neg c1, b1_s, e3, b2_s, if_neg (by decide)]
    · unfold FL_append FX6_append
      simp only [C_c hc, b1_s, rgR, bI_1, l0, l255]
      rw [need_f c1, bxw_e, bc2_e, if_pos rfl]
theorem op_clear (W : Wd σ n A L K N f rf) : Rez σ n (FX6_clearText n σ) (FX7_clearText (n + 136)) := by
  obtain ⟨hc, hm, hg, hs⟩ := id W
  obtain ⟨σ1, e1, h1, o1⟩ := C_emp hc
  refine Rez_ok W (nI N) h1 o1 ⟨hs.1, hs.2.1, hs.2.2.1, Nat.zero_le _, fun i hi => absurd hi (Nat.not_lt_zero _)⟩ (fun σ' hm' => ?_) ?_
  · obtain ⟨σ3, e3, h3, o3⟩ := ref_w hm' 0
    obtain ⟨⟨sp, ou, h0⟩, ⟨ts, ht, hf⟩, h2, h3', h4, h5⟩ := id h3
    obtain ⟨σ4, e4, g4, o4⟩ := M_w2 h0 0
    have e4' : gP σ3 (n + 136) 5 2 (.int 0) = some σ4 := e4
    refine ⟨σ4, ?_, ⟨⟨sp, ou, g4⟩, ⟨ts, by rw [o4 _ (by omega)]; exact ht, fun i hi => absurd hi (Nat.not_lt_zero _)⟩, isZ_s h2 (o4 _ (by omega)), mR_s h3' (o4 _ (by omega)), mD_s h4 (o4 _ (by omega)), mK_s h5 (o4 _ (by omega)) (o4 _ (by omega))⟩, Ch.tr (o3.ch (Nat.le_refl _) (by omega)) (o4.ch (Nat.le_refl _) (by omega))⟩
    unfold FX7_clearText
    rw [M_c hm', b1_s, e3, b1_s, (M_get h3).2.2.2.1, b1_s, e4', b1_s]
  · unfold FX6_clearText
    rw [C_c hc, b1_s, C_5 hc, b1_s, e1, b2_s]
theorem op_error (W : Wd σ n A L K N f rf) (hst : stA σ tst) (htn : ∀ i, i < 7 → tst i < n) : Rez σ n (FX6_errorPosition tst n σ) (FX7_errorPosition (n + 136)) := by
  obtain ⟨hc, hm, hg, hs⟩ := id W
  obtain ⟨σ1, e1, h1, o1⟩ := C_err hc hs hst htn
  refine Rez_ok W (enc (erP f N)) h1 o1 hs (fun σ' hm' => ?_) ?_
  · obtain ⟨σ3, e3, h3, o3⟩ := ref_w hm' 0
    obtain ⟨σ4, e4, h4, o4, -⟩ := readText_e h3 hs
    refine ⟨σ4, ?_, h4, Ch.tr (o3.ch (Nat.le_refl _) (by omega)) o4⟩
    unfold FX7_errorPosition
    rw [M_c hm', b1_s, e3, b1_s, M_t h3, b1_s, e4, b2_s]
  · unfold FX6_errorPosition
    rw [C_c hc, b1_s, C_5 hc, b1_s, e1, b2_s]
theorem M_load {m : Nat} (h : isM σ m A L K N f rf) (hS : okS A L K N f) (okB : okA (exF f N 120 1 newA 0).1) (he : erP f N = none) : ∃ σ', FX7_load m σ = some (nI (exF f N 120 1 newA 0).2, σ') ∧ isM σ' m (exF f N 120 1 newA 0).1 [] (fun _ => none) N f 0 ∧ Ch σ σ' m (m + 6) := by
  obtain ⟨σ1, e1, h1, o1, hx⟩ := readText_e h hS
  obtain ⟨⟨sp, g1⟩, z1⟩ := hx he
  generalize exF f N 120 1 newA 0 = B at okB g1 z1
  obtain ⟨σ2, e2, g2, o2⟩ := M_w0 g1 0
  have h2 := M_obj h1 g2 o2
  have er : FX7_refused m 0 σ1 = some (0, σ2) := by
    unfold FX7_refused
    rw [(M_r g1).1, b1_s, e2, b1_s]; rfl
  obtain ⟨z, hz, hr⟩ := isZ_s z1 (σ' := σ2) (o2 _ (by omega))
  have hr' : zR B.1 (fun i => z (0 + i)) := by
    have : (fun i => z (0 + i)) = z := by funext i; rw [Nat.zero_add]
    rw [this]; exact hr
  obtain ⟨σ3, e3, h3, o3⟩ := M_fro (a := m + 3) (n := 142) (o := 0) h2 okB (by omega) (Nat.le_refl _) (by omega) hz hr'
  have g3 : σ3 m = some (oM m N L.length 0 sp (nI B.2)) := by rw [o3 _ (by omega)]; exact g2
  obtain ⟨σ4, e4, g4, o4⟩ := M_w6 g3 0
  obtain ⟨-, mt3, mz3, mr3, ⟨d, d1, d2, d3⟩, ⟨kk, g, k1, k2, k3, k4⟩⟩ := h3
  have k34 : σ4 (m + 6) = some (zA 2 g) := by rw [o4 _ (by omega)]; exact k3
  have e5 : sZ σ4 (m + 6) 0 0 = some (qU σ4 (m + 6) (zA 2 (upd g 0 0))) := sZ_e (i := 0) (x := 0) k34 (by omega) (by omega)
  have o5 : OfZ σ4 (qU σ4 (m + 6) (zA 2 (upd g 0 0))) (m + 6) := fun _ hb => qU_n hb
  have g5 : qU σ4 (m + 6) (zA 2 (upd g 0 0)) (m + 6) = some (zA 2 (upd g 0 0)) := qU_s
  generalize qU σ4 (m + 6) (zA 2 (upd g 0 0)) = σ5 at e5 o5 g5
  have e6 : sZ σ5 (m + 6) 1 0 = some (qU σ5 (m + 6) (zA 2 (upd (upd g 0 0) 1 0))) := sZ_e (i := 1) (x := 0) g5 (by omega) (by omega)
  have o6 : OfZ σ5 (qU σ5 (m + 6) (zA 2 (upd (upd g 0 0) 1 0))) (m + 6) := fun _ hb => qU_n hb
  have g6 : qU σ5 (m + 6) (zA 2 (upd (upd g 0 0) 1 0)) (m + 6) = some (zA 2 (upd (upd g 0 0) 1 0)) := qU_s
  generalize qU σ5 (m + 6) (zA 2 (upd (upd g 0 0) 1 0)) = σ6 at e6 o6 g6
  have m5 : σ5 m = some (oM m N 0 0 sp (nI B.2)) := by rw [o5 _ (by omega)]; exact g4
  have m6 : σ6 m = some (oM m N 0 0 sp (nI B.2)) := by rw [o6 _ (by omega)]; exact m5
  have keep : ∀ a, a ≠ m → a ≠ m + 6 → σ6 a = σ3 a := fun a ha hb => by rw [o6 a hb, o5 a hb, o4 a ha]
  refine ⟨σ6, ?_, ⟨⟨sp, nI B.2, m6⟩, mT_s mt3 (keep _ (by omega) (by omega)), isZ_s mz3 (keep _ (by omega) (by omega)), mR_s mr3 (keep _ (by omega) (by omega)), ⟨d, Nat.zero_le _, by rw [keep _ (by omega) (by omega)]; exact d2, fun j hj => absurd hj (Nat.not_lt_zero _)⟩, ⟨kk, upd (upd g 0 0) 1 0, by rw [keep _ (by omega) (by omega)]; exact k1, fun i C hi hC => (by cases hC), g6, fun i hi => ?_⟩⟩, fun a ha => by rw [keep a (by omega) (by omega), o3 a (by omega), o2 a (by omega), o1 a ha]⟩
  · have e4' : gP σ3 m 5 6 (.int 0) = some σ4 := e4
    have e3' : FX7_copyState (m + 3) 0 (m + 2) 0 σ2 = some σ3 := e3
    unfold FX7_load
    rw [M_c h, b1_s, M_t h, b1_s, e1, b2_s, he, if_pos (show enc none = (-1 : Int32) from rfl), b1_s, er, b2_s, if_pos rfl, M_t h2, b1_s, M_n h2, b1_s, e3', b1_s, e4', b1_s, (M_r g4).2.2.2.2.2.2.2.2.2.1, b1_s, e5, b1_s, (M_r m5).2.2.2.2.2.2.2.2.2.1, b1_s, e6, b1_s, (M_r m6).2.2.2.2.2.2.2.2.2.2.2, b1_s]
  · rcases (show i = 0 ∨ i = 1 by omega) with rfl | rfl
    · rw [upd_n (by omega), upd_e]; rfl
    · rw [upd_e]; rfl
theorem op_load (W : Wd σ n A L K N f rf) (hst : stA σ tst) (htn : ∀ i, i < 7 → tst i < n) : Res σ n (FL_load tst n (n + 143) σ) (FX7_load (n + 136)) := by
  obtain ⟨hc, hm, hg, hs⟩ := id W
  rcases opt_or (erP f N) with he | ⟨z, he⟩
  · obtain ⟨σ1, e1, h1, ok1, o1⟩ := C_load hc hs hst htn he
    refine Res_ok W (nI (exF f N 120 1 newA 0).2) h1 o1 ⟨ok1, fun B hB => (by cases hB), fun i B hi hB => (by cases hB), hs.2.2.2⟩ (fun σ' hm' => ?_) (fun σ' hj => ?_)
    · exact M_load hm' hs ok1 he
    · unfold FL_load
      rw [e1, bc2_s, hj, b1_s]
  · obtain ⟨σ1, e1, h1, o1⟩ := C_noload hc hs hst htn he
    have hz := erP_b he
    have hN := hs.2.2.2.1
    refine Res_no W 1 (by decide) h1 o1 (fun σ' hm' => ?_) ?_
    · obtain ⟨σ2, e2, h2, o2, -⟩ := readText_e hm' hs
      obtain ⟨σ3, e3, h3, o3⟩ := M_no1 h2
      refine ⟨0, σ3, ?_, h3, o2.tr o3⟩
      unfold FX7_load
      rw [M_c hm', b1_s, M_t hm', b1_s, e2, b2_s, he, if_neg (enc_v (by omega)), b1_s, e3, b2_s, if_neg (by decide)]
    · unfold FL_load
      rw [e1, bc2_e, if_pos rfl]
end WW
