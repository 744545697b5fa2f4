/-! Layer 2: the actions and the save slots, side by side. -/
section AC
variable {σ : qH} {n N : Nat} {A : AS} {L : List AS} {K : Nat → Option AS} {f : Nat → Nat} {rf : Int32}
theorem le16 (hA : okA A) : ((16 : Int32) ≤ nI (nM A)) = (16 ≤ nM A) := le_nI (a := 16) (by omega) (by have := hA.1; have n9 : nM A = (aM A).length := rfl; omega)
theorem op_measure {s t k a b c e : Int32} (W : Wd σ n A L K N f rf) : Res σ n (FL_measure n s t k a b c e (n + 143) σ) (FX7_measure (n + 136) s t k a b c e) := by
  obtain ⟨hc, hm, hg, hs⟩ := id W
  have hA := hs.1
  have h16 : nM A ≤ 16 := hA.1
  by_cases c1 : inZ s 0 2
  · by_cases c2 : inZ t 0 5
    · by_cases c3 : fitP k a b c e
      · by_cases c4 : 16 ≤ nM A
        · refine Res_no W 3 (by decide) hc Ch.rf (fun σ' hm' => ?_) ?_
          · obtain ⟨σ3, e3, h3, o3⟩ := M_no3 hm'
            refine ⟨0, σ3, ?_, h3, o3⟩
            unfold FX7_measure
            simp only [M_c hm', b1_s, zisS_e, zisT_e, zfine_e, bI_ite, M_n hm', z_n (M_z hm'), le16 hA]
            rw [if_pos c1, if_pos c2, if_pos c3, if_pos c4, b1_s, e3, b2_s, if_neg (by decide)]
          · unfold FL_measure FX6_measure
            rw [C_c hc, b1_s, needS_t c1, bxw_s, needT_t c2, bxw_s, fits_e, b1_s, need_t c3, bxw_s, C_0 hc, b1_s, isFull_e hc.2.1 hA, b1_s, bI_t c4, if_neg (by decide), bc2_e, if_neg (by decide), if_neg (by decide), if_pos rfl]
        · obtain ⟨x, hx, rfl, rfl, rfl, rfl, rfl, rfl, rfl⟩ := fit_ok c1 c2 c3
          obtain ⟨σ1, e1, h1, o1⟩ := C_rem hc hA
          obtain ⟨σ2, e2, p2, o2⟩ := addMeasure_e h1.2.1 hA (by omega) hx
          refine Res_ok W (nI (nM A)) (C_now h1 p2 o2) (o1.tr (o2.ch (by omega) (by omega))) (okS_rem hs (addA_ok hA (by omega) hx)) (fun σ' hm' => ?_) (fun σ' hj => ?_)
          · obtain ⟨σ3, e3, h3, o3⟩ := M_yes hm'
            obtain ⟨σ4, e4, h4, o4⟩ := M_rem h3 hA hs.2.1
            obtain ⟨σ5, e5, z5, o5⟩ := measureOn_e (x := x) (M_z h4) hA (by omega)
            refine ⟨σ5, ?_, M_now h4 z5 o5, (o3.tr o4).tr (o5.ch (by omega) (by omega))⟩
            unfold FX7_measure
            simp only [M_c hm', b1_s, zisS_e, zisT_e, zfine_e, bI_ite, M_n hm', z_n (M_z hm'), le16 hA]
            rw [if_pos c1, if_pos c2, if_pos c3, if_neg c4, b1_s, e3, b2_s, if_pos rfl, e4, b1_s, M_n h4, b1_s, e5, b2_s]
          · unfold FL_measure FX6_measure
            rw [C_c hc, b1_s, needS_t c1, bxw_s, needT_t c2, bxw_s, fits_e, b1_s, need_t c3, bxw_s, C_0 hc, b1_s, isFull_e hc.2.1 hA, b1_s, bI_f c4, if_pos rfl, C_4 hc, b1_s, b1_s, e1, b1_s, C_0 h1, b1_s, e2, b2_s, bc2_s, hj, b1_s]
      · refine Res_no W 2 (by decide) hc Ch.rf (fun σ' hm' => ?_) ?_
        · obtain ⟨σ3, e3, h3, o3⟩ := M_no2 hm'
          refine ⟨0, σ3, ?_, h3, o3⟩
          unfold FX7_measure
          simp only [M_c hm', b1_s, zisS_e, zisT_e, zfine_e, bI_ite, M_n hm', z_n (M_z hm'), le16 hA]
          rw [if_pos c1, if_pos c2, if_neg c3, b1_s, e3, b2_s, if_neg (by decide)]
        · unfold FL_measure FX6_measure
          rw [C_c hc, b1_s, needS_t c1, bxw_s, needT_t c2, bxw_s, fits_e, b1_s, need_f c3, bxw_e, bc2_e, if_neg (by decide), if_pos rfl]
    · refine Res_no W 1 (by decide) hc Ch.rf (fun σ' hm' => ?_) ?_
      · obtain ⟨σ3, e3, h3, o3⟩ := M_no1 hm'
        refine ⟨0, σ3, ?_, h3, o3⟩
        unfold FX7_measure
        simp only [M_c hm', b1_s, zisS_e, zisT_e, zfine_e, bI_ite, M_n hm', z_n (M_z hm'), le16 hA]
        rw [if_pos c1, if_neg c2, b1_s, e3, b2_s, if_neg (by decide)]
      · unfold FL_measure FX6_measure
        rw [C_c hc, b1_s, needS_t c1, bxw_s, needT_f c2, bxw_e, bc2_e, if_pos rfl]
  · refine Res_no W 1 (by decide) hc Ch.rf (fun σ' hm' => ?_) ?_
    · obtain ⟨σ3, e3, h3, o3⟩ := M_no1 hm'
      refine ⟨0, σ3, ?_, h3, o3⟩
      unfold FX7_measure
      simp only [M_c hm', b1_s, zisS_e, zisT_e, zfine_e, bI_ite, M_n hm', z_n (M_z hm'), le16 hA]
      rw [if_neg c1, b1_s, e3, b2_s, if_neg (by decide)]
    · unfold FL_measure FX6_measure
      rw [C_c hc, b1_s, needS_f c1, bxw_e, bc2_e, if_pos rfl]
theorem op_drop {x : Int32} (W : Wd σ n A L K N f rf) : Res σ n (FL_drop n x (n + 143) σ) (FX7_drop (n + 136) x) := by
  obtain ⟨hc, hm, hg, hs⟩ := id W
  have hA := hs.1
  by_cases c1 : inZ x 0 ((nM A : Int) - 1)
  · obtain ⟨k, rfl, k1, k2⟩ := inZ_n c1 (by omega)
    have hk : k < nM A := by omega
    obtain ⟨σ1, e1, h1, o1⟩ := C_rem hc hA
    obtain ⟨σ2, e2, p2, o2⟩ := removeMeasure_e h1.2.1 hA hk
    refine Res_ok W (nI (nM A - 1)) (C_now h1 p2 o2) (o1.tr (o2.ch (by omega) (by omega))) (okS_rem hs (drpA_ok hA hk)) (fun σ' hm' => ?_) (fun σ' hj => ?_)
    · obtain ⟨σ3, e3, h3, o3⟩ := M_yes hm'
      obtain ⟨σ4, e4, h4, o4⟩ := M_rem h3 hA hs.2.1
      obtain ⟨σ5, e5, z5, o5⟩ := dropOn_e (M_z h4) hA hk
      refine ⟨σ5, ?_, M_now h4 z5 o5, (o3.tr o4).tr (o5.ch (by omega) (by omega))⟩
      unfold FX7_drop
      simp only [M_c hm', b1_s, M_n hm', zisM_e (M_z hm') hA, bI_ite]
      rw [if_pos c1, b1_s, e3, b2_s, if_pos rfl, e4, b1_s, M_n h4, b1_s, e5, b2_s]
    · unfold FL_drop FX6_drop
      rw [C_c hc, b1_s, needM_t hc hA c1, bxw_s, C_4 hc, b1_s, C_0 hc, b1_s, e1, b1_s, C_0 h1, b1_s, e2, b2_s, bc2_s, hj, b1_s]
  · refine Res_no W 1 (by decide) hc Ch.rf (fun σ' hm' => ?_) ?_
    · obtain ⟨σ3, e3, h3, o3⟩ := M_no1 hm'
      refine ⟨0, σ3, ?_, h3, o3⟩
      unfold FX7_drop
      simp only [M_c hm', b1_s, M_n hm', zisM_e (M_z hm') hA, bI_ite]
      rw [if_neg c1, b1_s, e3, b2_s, if_neg (by decide)]
    · unfold FL_drop FX6_drop
      rw [C_c hc, b1_s, needM_f hc hA c1, bxw_e, bc2_e, if_pos rfl]
theorem op_evening (W : Wd σ n A L K N f rf) : Rez σ n (FX6_evening n σ) (FX7_evening (n + 136)) := by
  obtain ⟨hc, hm, hg, hs⟩ := id W
  have hA := hs.1
  obtain ⟨σ1, e1, h1, o1⟩ := C_rem hc hA
  obtain ⟨σ2, e2, p2, o2⟩ := passEvening_e h1.2.1 hA
  refine Rez_ok W (nI (aLo (eve A)) - nI (aLo A)) (C_now h1 p2 o2) (o1.tr (o2.ch (by omega) (by omega))) (okS_rem hs (eve_ok hA)) (fun σ' hm' => ?_) ?_
  · obtain ⟨σ3, e3, h3, o3⟩ := ref_w hm' 0
    obtain ⟨σ4, e4, h4, o4⟩ := M_rem h3 hA hs.2.1
    obtain ⟨σ5, e5, z5, o5⟩ := eveningOn_e (M_z h4) hA
    refine ⟨σ5, ?_, M_now h4 z5 o5, ((o3.ch (Nat.le_refl _) (by omega)).tr o4).tr (o5.ch (by omega) (by omega))⟩
    unfold FX7_evening
    rw [M_c hm', b1_s, e3, b1_s, e4, b1_s, M_n h4, b1_s, e5, b2_s]
  · unfold FX6_evening
    rw [C_c hc, b1_s, C_4 hc, b1_s, C_0 hc, b1_s, e1, b1_s, C_0 h1, b1_s, e2, b2_s]
theorem op_survey {x y : Int32} (W : Wd σ n A L K N f rf) : Res σ n (FL_survey n x y (n + 143) σ) (FX7_survey (n + 136) x y) := by
  obtain ⟨hc, hm, hg, hs⟩ := id W
  have hA := hs.1
  by_cases c1 : inZ x 0 2
  · by_cases c2 : inZ y 1 999
    · obtain ⟨s, rfl, s1, s2⟩ := inZ_n c1 (by omega)
      obtain ⟨h, rfl, v1, v2⟩ := inZ_n c2 (by omega)
      obtain ⟨σ1, e1, h1, o1⟩ := C_rem hc hA
      obtain ⟨σ2, e2, p2, ok2, o2⟩ := survey_e (s := s) (x := h) (by omega) (by omega) h1.2.1 hA
      refine Res_ok W (nI (srv A s h).1) (C_now h1 p2 o2) (o1.tr (o2.ch (by omega) (by omega))) (okS_rem hs ok2) (fun σ' hm' => ?_) (fun σ' hj => ?_)
      · obtain ⟨σ3, e3, h3, o3⟩ := M_yes hm'
        obtain ⟨σ4, e4, h4, o4⟩ := M_rem h3 hA hs.2.1
        obtain ⟨σ5, e5, z5, o5⟩ := surveyOn_e (s := s) (x := h) (by omega) (by omega) (M_z h4) hA
        refine ⟨σ5, ?_, M_now h4 z5 o5, (o3.tr o4).tr (o5.ch (by omega) (by omega))⟩
        unfold FX7_survey
        simp only [M_c hm', b1_s, zisS_e, zin_1_999, bI_ite]
        rw [if_pos c1, if_pos c2, b1_s, e3, b2_s, if_pos rfl, e4, b1_s, M_n h4, b1_s, e5, b2_s]
      · unfold FL_survey FX6_survey
        rw [C_c hc, b1_s, needS_t c1, bxw_s, isHeight_e, b1_s, need_t c2, bxw_s, C_4 hc, b1_s, C_0 hc, b1_s, e1, b1_s, C_0 h1, b1_s, e2, b2_s, bc2_s, hj, b1_s]
    · refine Res_no W 2 (by decide) hc Ch.rf (fun σ' hm' => ?_) ?_
      · obtain ⟨σ3, e3, h3, o3⟩ := M_no2 hm'
        refine ⟨0, σ3, ?_, h3, o3⟩
        unfold FX7_survey
        simp only [M_c hm', b1_s, zisS_e, zin_1_999, bI_ite]
        rw [if_pos c1, if_neg c2, b1_s, e3, b2_s, if_neg (by decide)]
      · unfold FL_survey FX6_survey
        rw [C_c hc, b1_s, needS_t c1, bxw_s, isHeight_e, b1_s, need_f c2, bxw_e, bc2_e, if_neg (by decide), if_pos rfl]
  · refine Res_no W 1 (by decide) hc Ch.rf (fun σ' hm' => ?_) ?_
    · obtain ⟨σ3, e3, h3, o3⟩ := M_no1 hm'
      refine ⟨0, σ3, ?_, h3, o3⟩
      unfold FX7_survey
      simp only [M_c hm', b1_s, zisS_e, zin_1_999, bI_ite]
      rw [if_neg c1, b1_s, e3, b2_s, if_neg (by decide)]
    · unfold FL_survey FX6_survey
      rw [C_c hc, b1_s, needS_f c1, bxw_e, bc2_e, if_pos rfl]
theorem op_set {x y : Int32} (W : Wd σ n A L K N f rf) : Res σ n (FL_set n x y (n + 143) σ) (FX7_set (n + 136) x y) := by
  obtain ⟨hc, hm, hg, hs⟩ := id W
  have hA := hs.1
  by_cases c1 : setP x y
  · obtain ⟨i, v, i1, i2, rfl, rfl⟩ : ∃ i v : Nat, i < 2 ∧ (v ≤ if i = 0 then 5 else 50) ∧ x = nI i ∧ y = nI v := by
      rcases c1 with ⟨z1, z2⟩ | ⟨z1, z2⟩
      · obtain ⟨v, rfl, v1, v2⟩ := inZ_n z2 (by omega)
        exact ⟨0, v, by omega, by rw [if_pos rfl]; omega, z1, rfl⟩
      · obtain ⟨v, rfl, v1, v2⟩ := inZ_n z2 (by omega)
        exact ⟨1, v, by omega, by rw [if_neg (by omega)]; omega, z1, rfl⟩
    obtain ⟨σ1, e1, h1, o1⟩ := C_rem hc hA
    obtain ⟨σ2, e2, p2, o2⟩ := changeSetting_e (i := i) (v := v) h1.2.1 i1
    refine Res_ok W (nI (aSt A i)) (C_now h1 p2 o2) (o1.tr (o2.ch (by omega) (by omega))) (okS_rem hs (setA_ok hA i2)) (fun σ' hm' => ?_) (fun σ' hj => ?_)
    · obtain ⟨σ3, e3, h3, o3⟩ := M_yes hm'
      obtain ⟨σ4, e4, h4, o4⟩ := M_rem h3 hA hs.2.1
      obtain ⟨σ5, e5, z5, o5⟩ := change_e (t := i) (v := v) (M_z h4) i1
      refine ⟨σ5, ?_, M_now h4 z5 o5, (o3.tr o4).tr (o5.ch (by omega) (by omega))⟩
      unfold FX7_set
      simp only [M_c hm', b1_s, zset_e, bI_ite]
      rw [if_pos c1, b1_s, e3, b2_s, if_pos rfl, e4, b1_s, M_n h4, b1_s, e5, b2_s]
    · unfold FL_set FX6_set
      rw [C_c hc, b1_s, fitsSetting_e, b1_s, need_t c1, bxw_s, C_4 hc, b1_s, C_0 hc, b1_s, e1, b1_s, C_0 h1, b1_s, e2, b2_s, bc2_s, hj, b1_s]
  · refine Res_no W 1 (by decide) hc Ch.rf (fun σ' hm' => ?_) ?_
    · obtain ⟨σ3, e3, h3, o3⟩ := M_no1 hm'
      refine ⟨0, σ3, ?_, h3, o3⟩
      unfold FX7_set
      simp only [M_c hm', b1_s, zset_e, bI_ite]
      rw [if_neg c1, b1_s, e3, b2_s, if_neg (by decide)]
    · unfold FL_set FX6_set
      rw [C_c hc, b1_s, fitsSetting_e, b1_s, need_f c1, bxw_e, bc2_e, if_pos rfl]
theorem op_undo (W : Wd σ n A L K N f rf) : Res σ n (FL_undo n (n + 143) σ) (FX7_undo (n + 136)) := by
  obtain ⟨hc, hm, hg, hs⟩ := id W
  cases L with
  | nil =>
    refine Res_no W 1 (by decide) hc Ch.rf (fun σ' hm' => ?_) ?_
    · obtain ⟨σ3, e3, h3, o3⟩ := M_no1 hm'
      refine ⟨0, σ3, ?_, h3, o3⟩
      unfold FX7_undo
      rw [M_c hm', b1_s, M_a hm', b1_s, if_pos (show nI ([] : List AS).length = 0 from rfl), b1_s, e3, b2_s, if_neg (by decide)]
    · unfold FL_undo FX6_undo
      rw [C_c hc, b1_s, C_4 hc, b1_s, isEmpty_e hc.2.2.2.2.1, b1_s, if_pos (show ([] : List AS) = [] from rfl), if_neg (by decide), bc2_e, if_pos rfl]
  | cons B L =>
    have hB := hs.2.1 B (List.mem_cons_self ..)
    have hL14 : (B :: L).length ≤ 14 := by obtain ⟨nx, f', h1, h2, -⟩ := hc.2.2.2.2.1; exact h2
    rw [List.length_cons] at hL14
    obtain ⟨σ1, e1, p1, h1, o1⟩ := takeBack_e hc.2.2.2.2.1 (isP_cr hc.2.1) hB (by omega)
    have hC1 : isC σ1 n B L K N f := by
      obtain ⟨z0, z1, z2, z3, z4, z5, z6⟩ := hc
      exact ⟨by rw [o1 _ (by omega) (by omega)]; exact z0, p1, cRaw_s z2 (fun a ha hb => o1 a (by omega) (by omega)), cSav_s z3 (fun a ha => o1 a (by omega) (by omega)), h1, cTxt_s z5 (fun a ha hb => o1 a (by omega) (by omega)), cBal_s z6 (fun a ha hb => o1 a (by omega) (by omega))⟩
    have hS1 : okS B L K N f := ⟨hB, fun C hC => hs.2.1 C (List.mem_cons_of_mem _ hC), hs.2.2⟩
    refine Res_ok W (nI L.length) hC1 (fun a ha => o1 a (by omega) (by omega)) hS1 (fun σ' hm' => ?_) (fun σ' hj => ?_)
    · obtain ⟨σ3, e3, h3, o3⟩ := M_yes hm'
      obtain ⟨d, d1, d2, d3⟩ := h3.2.2.2.2.1
      have hD : mD σ3 (n + 136 + 4) L := ⟨d, by omega, d2, fun j hj => by
        have := d3 (j + 1) (by rw [List.length_cons]; omega)
        rw [List.length_cons, show L.length + 1 - 1 - (j + 1) = L.length - 1 - j by omega] at this
        exact this⟩
      obtain ⟨σ4, e4, h4, o4⟩ := M_acts h3 hD
      have zB : zR B (fun i => d (142 * L.length + i)) := d3 0 (by rw [List.length_cons]; omega)
      obtain ⟨σ5, e5, h5, o5⟩ := M_fro (a := n + 136 + 4) (n := 1988) (o := 142 * L.length) h4 hB (by omega) (by omega) (by omega) (by rw [o4 _ (by omega)]; exact d2) zB
      have e5' : FX7_copyState (n + 136 + 4) ((142 : Int32) * nI L.length) (n + 136 + 2) 0 σ4 = some σ5 := by
        rw [show (142 : Int32) = nI 142 from rfl, pk_mul]; exact e5
      refine ⟨σ5, ?_, h5, (o3.tr (o4.ch (Nat.le_refl _) (by omega))).tr (o5.ch (by omega) (by omega))⟩
      unfold FX7_undo
      rw [M_c hm', b1_s, M_a hm', b1_s, if_neg (show ¬ nI (B :: L).length = 0 from fun hh => by have := (nI_eq (a := (B :: L).length) (b := 0) (by rw [List.length_cons]; omega) (by omega)).mp hh; cases this), b1_s, e3, b2_s, if_pos rfl, M_a h3, b1_s, List.length_cons, show nI (L.length + 1) - 1 = nI L.length from nI_pred _, e4, b1_s, M_d h4, b1_s, M_a h4, b1_s, M_n h4, b1_s, e5', b1_s, M_a h5, b1_s]
    · unfold FL_undo FX6_undo
      rw [C_c hc, b1_s, C_4 hc, b1_s, isEmpty_e hc.2.2.2.2.1, b1_s, if_neg (show ¬ (B :: L) = [] from fun hh => by cases hh), if_pos rfl, b1_s, C_0 hc, b1_s, e1, b2_s, bc2_s, hj, b1_s]
theorem op_save {x : Int32} (W : Wd σ n A L K N f rf) : Res σ n (FL_save n x (n + 143) σ) (FX7_save (n + 136) x) := by
  obtain ⟨hc, hm, hg, hs⟩ := id W
  have hA := hs.1
  by_cases c1 : inZ x 0 1
  · obtain ⟨i, rfl, i1, i2⟩ := inZ_n c1 (by omega)
    obtain ⟨q1, σ1, e1, k1, σ2, e2, h2, o2⟩ := C_save hc hA (i := i) (by omega)
    have r1 : gR σ1 n 4 3 = some (n + 16) := by unfold gR; rw [k1]; exact C_3 hc
    have hS' : okS A L (fset K i (some A)) N f := ⟨hA, hs.2.1, fun j B hj hB => by
      have hB' : (if j = i then some A else K j) = some B := hB
      by_cases c : j = i
      · rw [if_pos c] at hB'; cases hB'; exact hA
      · rw [if_neg c] at hB'; exact hs.2.2.1 j B hj hB', hs.2.2.2⟩
    refine Res_ok W (nI (nM A)) h2 o2 hS' (fun σ' hm' => ?_) (fun σ' hj => ?_)
    · obtain ⟨σ3, e3, h3, o3⟩ := M_yes hm'
      obtain ⟨σ4, e4, g4, σ5, e5, h5, o5⟩ := M_keep h3 hA hs.2.2.1 (i := i) (by omega)
      refine ⟨σ5, ?_, h5, o3.tr o5⟩
      unfold FX7_save
      simp only [M_c hm', b1_s, zin_0_1, bI_ite]
      rw [if_pos c1, b1_s, e3, b2_s, if_pos rfl, M_n h3, b1_s, M_k h3, b1_s, e4, b1_s, g4, b1_s, e5, b1_s, M_n h5, b1_s, z_n (M_z h5), b1_s]
    · unfold FL_save FX6_save
      rw [C_c hc, b1_s, needL_t c1, bxw_s, C_2 hc, b1_s, q1, b1_s, C_0 hc, b1_s, e1, b1_s, r1, b1_s, e2, b1_s, C_0 h2, b1_s, count_e h2.2.1, b1_s, bc2_s, hj, b1_s]
  · refine Res_no W 1 (by decide) hc Ch.rf (fun σ' hm' => ?_) ?_
    · obtain ⟨σ3, e3, h3, o3⟩ := M_no1 hm'
      refine ⟨0, σ3, ?_, h3, o3⟩
      unfold FX7_save
      simp only [M_c hm', b1_s, zin_0_1, bI_ite]
      rw [if_neg c1, b1_s, e3, b2_s, if_neg (by decide)]
    · unfold FL_save FX6_save
      rw [C_c hc, b1_s, needL_f c1, bxw_e, bc2_e, if_pos rfl]
theorem op_restore {x : Int32} (W : Wd σ n A L K N f rf) : Res σ n (FL_restore n x (n + 143) σ) (FX7_restore (n + 136) x) := by
  obtain ⟨hc, hm, hg, hs⟩ := id W
  by_cases c1 : inZ x 0 1
  · obtain ⟨i, rfl, i1, i2⟩ := inZ_n c1 (by omega)
    obtain ⟨k1, k2⟩ := C_kept hc (i := i) (by omega)
    rcases opt_or (K i) with ek | ⟨B, ek⟩
    · have b0 : bit (K i) = 0 := by rw [ek]; rfl
      refine Res_no W 2 (by decide) hc Ch.rf (fun σ' hm' => ?_) ?_
      · obtain ⟨σ3, e3, h3, o3⟩ := M_no2 hm'
        refine ⟨0, σ3, ?_, h3, o3⟩
        unfold FX7_restore
        simp only [M_c hm', b1_s, zin_0_1, bI_ite]
        rw [if_pos c1, M_i hm', b1_s, M_isk hm' (by omega), b1_s, b0, if_pos rfl, b1_s, e3, b2_s, if_neg (by decide)]
      · unfold FL_restore FX6_restore
        rw [C_c hc, b1_s, needL_t c1, bxw_s, C_3 hc, b1_s, k1, b1_s, b0, if_pos rfl, bc2_e, if_neg (by decide), if_pos rfl]
    · have b0 : bit (K i) = 1 := by rw [ek]; rfl
      have hB := hs.2.2.1 i B (by omega) ek
      obtain ⟨σ1, e1, h1, o1⟩ := C_take hc (i := i) (by omega) ek hB
      obtain ⟨σ2, e2, h2, o2⟩ := C_forget h1
      refine Res_ok W (nI (nM B)) h2 (o1.tr o2) ⟨hB, fun C hC => (by cases hC), hs.2.2⟩ (fun σ' hm' => ?_) (fun σ' hj => ?_)
      · obtain ⟨σ3, e3, h3, o3⟩ := M_yes hm'
        obtain ⟨kk, g, k1', k2', k3', k4'⟩ := h3.2.2.2.2.2
        obtain ⟨σ4, e4, h4, o4⟩ := M_fro (a := n + 136 + 5) (n := 284) (o := 142 * i) h3 hB (by omega) (by omega) (by omega) k1' (k2' i B (by omega) ek)
        have e4' : FX7_copyState (n + 136 + 5) ((142 : Int32) * nI i) (n + 136 + 2) 0 σ3 = some σ4 := by
          rw [show (142 : Int32) = nI 142 from rfl, pk_mul]; exact e4
        obtain ⟨d, d1, d2, d3⟩ := h4.2.2.2.2.1
        obtain ⟨σ5, e5, h5, o5⟩ := M_acts (L' := []) h4 ⟨d, Nat.zero_le _, d2, fun j hj => absurd hj (Nat.not_lt_zero _)⟩
        have e5' : gP σ4 (n + 136) 5 6 (.int 0) = some σ5 := e5
        refine ⟨σ5, ?_, h5, (o3.tr (o4.ch (by omega) (by omega))).tr (o5.ch (Nat.le_refl _) (by omega))⟩
        unfold FX7_restore
        simp only [M_c hm', b1_s, zin_0_1, bI_ite]
        rw [if_pos c1, M_i hm', b1_s, M_isk hm' (by omega), b1_s, b0, if_neg (by decide), b1_s, e3, b2_s, if_pos rfl, M_k h3, b1_s, M_n h3, b1_s, e4', b1_s, e5', b1_s, M_n h5, b1_s, z_n (M_z h5), b1_s]
      · unfold FL_restore FX6_restore
        rw [C_c hc, b1_s, needL_t c1, bxw_s, C_3 hc, b1_s, k1, b1_s, b0, if_neg (by decide), C_0 hc, b1_s, C_2 hc, b1_s, k2, b1_s, e1, b1_s, C_4 h1, b1_s, e2, b1_s, C_0 h2, b1_s, count_e h2.2.1, b1_s, bc2_s, hj, b1_s]
  · refine Res_no W 1 (by decide) hc Ch.rf (fun σ' hm' => ?_) ?_
    · obtain ⟨σ3, e3, h3, o3⟩ := M_no1 hm'
      refine ⟨0, σ3, ?_, h3, o3⟩
      unfold FX7_restore
      simp only [M_c hm', b1_s, zin_0_1, bI_ite]
      rw [if_neg c1, b1_s, e3, b2_s, if_neg (by decide)]
    · unfold FL_restore FX6_restore
      rw [C_c hc, b1_s, needL_f c1, bxw_e, bc2_e, if_pos rfl]
end AC
