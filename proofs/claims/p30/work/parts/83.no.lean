/-! p30: the calls that are refused change nothing. -/
section NO
variable {tst : Nat → Nat} {p : Nat} {S : SS} {s t k x y z a b c e : Int32}
theorem r_append (hx : ¬ inZ x 0 255) : Op p S S (FL_call tst p 0 x b c) (-9999002) := op_same fun σ h => by
  rw [call_0]; unfold FL_tryAppend FX6_append
  simp only [C_c h.1, b1_s, rgR, bI_1, l0, l255]
  rw [need_f hx, bxw_e, bc2_e, if_pos rfl]
theorem r_about (hx : ¬ inZ x 0 9) : Op p S S (FL_call tst p 2 x b c) (-9999002) := op_same fun σ h => by
  rw [call_2]; unfold FL_tryAbout FX6_about
  simp only [C_c h.1, b1_s, rgR, bI_1, l0, l9]
  rw [need_f hx, bx_e, bc_e, if_pos rfl, b1_s]
theorem r_of1 (hx : ¬ inZ x 0 ((nM S.1 : Int) - 1)) : Op p S S (FL_call tst p 3 x y c) (-9999001) := op_same fun σ h => by
  rw [call_3]; unfold FL_tryOf FX6_measureOf
  rw [C_c h.1, b1_s, needM_f h.1 h.2.1 hx, bx_e, bc_e, if_pos rfl, b1_s]
theorem r_of2 (h1 : inZ x 0 ((nM S.1 : Int) - 1)) (hx : ¬ inZ y 0 10) : Op p S S (FL_call tst p 3 x y c) (-9999002) := op_same fun σ h => by
  rw [call_3]; unfold FL_tryOf FX6_measureOf
  simp only [C_c h.1, b1_s, rgR, bI_1, l0, l10]
  rw [needM_t h.1 h.2.1 h1, bx_s, need_f hx, bx_e, bc_e, if_neg (by decide), if_pos rfl, b1_s]
theorem r_te1 (hx : ¬ inZ x 0 5) : Op p S S (FL_call tst p 4 x y c) (-9999001) := op_same fun σ h => by
  rw [call_4]; unfold FL_tryTeller FX6_tellerOf
  rw [C_c h.1, b1_s, needT_f hx, bx_e, bc_e, if_pos rfl, b1_s]
theorem r_te2 (h1 : inZ x 0 5) (hx : ¬ inZ y 0 4) : Op p S S (FL_call tst p 4 x y c) (-9999002) := op_same fun σ h => by
  rw [call_4]; unfold FL_tryTeller FX6_tellerOf
  simp only [C_c h.1, b1_s, rgR, bI_1, l0, l4]
  rw [needT_t h1, bx_s, need_f hx, bx_e, bc_e, if_neg (by decide), if_pos rfl, b1_s]
theorem r_se1 (hx : ¬ inZ x 0 2) : Op p S S (FL_call tst p 5 x y c) (-9999001) := op_same fun σ h => by
  rw [call_5]; unfold FL_trySteeple FX6_steepleOf
  rw [C_c h.1, b1_s, needS_f hx, bx_e, bc_e, if_pos rfl, b1_s]
theorem r_se2 (h1 : inZ x 0 2) (hx : ¬ inZ y 0 2) : Op p S S (FL_call tst p 5 x y c) (-9999002) := op_same fun σ h => by
  rw [call_5]; unfold FL_trySteeple FX6_steepleOf
  simp only [C_c h.1, b1_s, rgR, bI_1, l0, l2]
  rw [needS_t h1, bx_s, need_f hx, bx_e, bc_e, if_neg (by decide), if_pos rfl, b1_s]
theorem r_vo1 (hx : ¬ inZ x 0 2) : Op p S S (FL_call tst p 6 x y c) (-9999001) := op_same fun σ h => by
  rw [call_6]; unfold FL_tryVote FX6_vote
  rw [C_c h.1, b1_s, needS_f hx, bx_e, bc_e, if_pos rfl, b1_s]
theorem r_vo2 (h1 : inZ x 0 2) (hx : ¬ inZ y 1 999) : Op p S S (FL_call tst p 6 x y c) (-9999002) := op_same fun σ h => by
  rw [call_6]; unfold FL_tryVote FX6_vote
  rw [C_c h.1, b1_s, needS_t h1, bx_s, isHeight_e, b1_s, need_f hx, bx_e, bc_e, if_neg (by decide), if_pos rfl, b1_s]
theorem r_be1 (hx : ¬ inZ x 0 2) : Op p S S (FL_call tst p 7 x y z) (-9999001) := op_same fun σ h => by
  rw [call_7]; unfold FL_tryBest FX6_best
  rw [C_c h.1, b1_s, needS_f hx, bxw_e, bc2_e, if_pos rfl]
theorem r_be2 (h1 : inZ x 0 2) (hx : ¬ (inZ y 0 2 ∧ inZ z 0 1)) : Op p S S (FL_call tst p 7 x y z) (-9999002) := op_same fun σ h => by
  rw [call_7]; unfold FL_tryBest FX6_best
  simp only [C_c h.1, b1_s, rgR, bI_1, bI_and, l0, l1, l2]
  rw [needS_t h1, bxw_s, need_f hx, bxw_e, bc2_e, if_neg (by decide), if_pos rfl]
theorem r_st (hx : ¬ inZ x 0 1) : Op p S S (FL_call tst p 8 x b c) (-9999002) := op_same fun σ h => by
  rw [call_8]; unfold FL_trySetting FX6_setting
  rw [C_c h.1, b1_s, isSetting_e, b1_s, need_f hx, bx_e, bc_e, if_pos rfl, b1_s]
theorem r_m1 (hx : ¬ inZ s 0 2) : Op p S S (FL_told p s t k a b c e) (-9999001) := op_same fun σ h => by
  unfold FL_told FX6_measure
  rw [C_c h.1, b1_s, needS_f hx, bxw_e, bc2_e, if_pos rfl]
theorem r_m2 (h1 : inZ s 0 2) (hx : ¬ inZ t 0 5) : Op p S S (FL_told p s t k a b c e) (-9999001) := op_same fun σ h => by
  unfold FL_told FX6_measure
  rw [C_c h.1, b1_s, needS_t h1, bxw_s, needT_f hx, bxw_e, bc2_e, if_pos rfl]
theorem r_m3 (h1 : inZ s 0 2) (h2 : inZ t 0 5) (hx : ¬ fitP k a b c e) : Op p S S (FL_told p s t k a b c e) (-9999002) := op_same fun σ h => by
  unfold FL_told FX6_measure
  rw [C_c h.1, b1_s, needS_t h1, bxw_s, needT_t h2, bxw_s, fits_e, b1_s, need_f hx, bxw_e, bc2_e, if_neg (by decide), if_pos rfl]
theorem r_m4 (h1 : inZ s 0 2) (h2 : inZ t 0 5) (h3 : fitP k a b c e) (hx : 16 ≤ nM S.1) : Op p S S (FL_told p s t k a b c e) (-9999003) := op_same fun σ h => by
  unfold FL_told FX6_measure
  rw [C_c h.1, b1_s, needS_t h1, bxw_s, needT_t h2, bxw_s, fits_e, b1_s, need_t h3, bxw_s, C_0 h.1, b1_s, isFull_e h.1.2.1 h.2.1, b1_s, bI_t hx, if_neg (by decide), bc2_e, if_neg (by decide), if_neg (by decide), if_pos rfl]
theorem r_dr (hx : ¬ inZ x 0 ((nM S.1 : Int) - 1)) : Op p S S (FL_call tst p 9 x b c) (-9999001) := op_same fun σ h => by
  rw [call_9]; unfold FL_tryDrop FX6_drop
  rw [C_c h.1, b1_s, needM_f h.1 h.2.1 hx, bxw_e, bc2_e, if_pos rfl]
theorem r_tr1 (hx : ¬ inZ x 0 5) : Op p S S (FL_call tst p 10 x y c) (-9999001) := op_same fun σ h => by
  rw [call_10]; unfold FL_tryTrust FX6_trust
  rw [C_c h.1, b1_s, needT_f hx, bxw_e, bc2_e, if_pos rfl]
theorem r_tr2 (h1 : inZ x 0 5) (hx : ¬ inZ y 0 9) : Op p S S (FL_call tst p 10 x y c) (-9999002) := op_same fun σ h => by
  rw [call_10]; unfold FL_tryTrust FX6_trust
  rw [C_c h.1, b1_s, needT_t h1, bxw_s, isTrust_e, b1_s, need_f hx, bxw_e, bc2_e, if_neg (by decide), if_pos rfl]
theorem r_su1 (hx : ¬ inZ x 0 2) : Op p S S (FL_call tst p 11 x y c) (-9999001) := op_same fun σ h => by
  rw [call_11]; unfold FL_trySurvey FX6_survey
  rw [C_c h.1, b1_s, needS_f hx, bxw_e, bc2_e, if_pos rfl]
theorem r_su2 (h1 : inZ x 0 2) (hx : ¬ inZ y 1 999) : Op p S S (FL_call tst p 11 x y c) (-9999002) := op_same fun σ h => by
  rw [call_11]; unfold FL_trySurvey FX6_survey
  rw [C_c h.1, b1_s, needS_t h1, bxw_s, isHeight_e, b1_s, need_f hx, bxw_e, bc2_e, if_neg (by decide), if_pos rfl]
theorem r_la (hx : ¬ setP x y) : Op p S S (FL_call tst p 12 x y c) (-9999002) := op_same fun σ h => by
  rw [call_12]; unfold FL_tryLay FX6_set
  rw [C_c h.1, b1_s, fitsSetting_e, b1_s, need_f hx, bxw_e, bc2_e, if_pos rfl]
theorem r_ap1 (hx : ¬ inZ x 0 ((nM S.1 : Int) - 1)) : Op p S S (FL_call tst p 14 x y c) (-9999001) := op_same fun σ h => by
  rw [call_14]; unfold FL_tryApart FX6_apart
  rw [C_c h.1, b1_s, needM_f h.1 h.2.1 hx, bx_e, bc_e, if_pos rfl, b1_s]
theorem r_ap2 (hx : ¬ inZ y 0 ((nM S.1 : Int) - 1)) : Op p S S (FL_call tst p 14 x y c) (-9999001) := by
  by_cases h1 : inZ x 0 ((nM S.1 : Int) - 1)
  · refine op_same fun σ h => ?_
    rw [call_14]; unfold FL_tryApart FX6_apart
    rw [C_c h.1, b1_s, needM_t h.1 h.2.1 h1, bx_s, needM_f h.1 h.2.1 hx, bx_e, bc_e, if_pos rfl, b1_s]
  · exact r_ap1 h1
theorem r_ag (hx : ¬ inZ x 0 2) : Op p S S (FL_call tst p 15 x b c) (-9999001) := op_same fun σ h => by
  rw [call_15]; unfold FL_tryAgainst FX6_against
  rw [C_c h.1, b1_s, needS_f hx, bxw_e, bc2_e, if_pos rfl]
theorem r_wi1 (hx : ¬ inZ x 0 ((nM S.1 : Int) - 1)) : Op p S S (FL_call tst p 16 x y c) (-9999001) := op_same fun σ h => by
  rw [call_16]; unfold FL_tryWithout FX6_without
  rw [C_c h.1, b1_s, needM_f h.1 h.2.1 hx, bxw_e, bc2_e, if_pos rfl]
theorem r_wi2 (h1 : inZ x 0 ((nM S.1 : Int) - 1)) (hx : ¬ inZ y 0 2) : Op p S S (FL_call tst p 16 x y c) (-9999002) := op_same fun σ h => by
  rw [call_16]; unfold FL_tryWithout FX6_without
  simp only [C_c h.1, b1_s, rgR, bI_1, l0, l2]
  rw [needM_t h.1 h.2.1 h1, bxw_s, need_f hx, bxw_e, bc2_e, if_neg (by decide), if_pos rfl]
theorem r_sw1 (hx : ¬ inZ x 0 5) : Op p S S (FL_call tst p 17 x y c) (-9999001) := op_same fun σ h => by
  rw [call_17]; unfold FL_trySwings FX6_swings
  rw [C_c h.1, b1_s, needT_f hx, bxw_e, bc2_e, if_pos rfl]
theorem r_sw2 (h1 : inZ x 0 5) (hx : ¬ inZ y 0 2) : Op p S S (FL_call tst p 17 x y c) (-9999001) := op_same fun σ h => by
  rw [call_17]; unfold FL_trySwings FX6_swings
  rw [C_c h.1, b1_s, needT_t h1, bxw_s, needS_f hx, bxw_e, bc2_e, if_pos rfl]
theorem r_ke (hx : ¬ inZ x 0 1) : Op p S S (FL_call tst p 18 x b c) (-9999001) := op_same fun σ h => by
  rw [call_18]; unfold FL_tryKeep FX6_save
  rw [C_c h.1, b1_s, needL_f hx, bxw_e, bc2_e, if_pos rfl]
theorem r_ba (hx : ¬ inZ x 0 1) : Op p S S (FL_call tst p 19 x b c) (-9999001) := op_same fun σ h => by
  rw [call_19]; unfold FL_tryBack FX6_restore
  rw [C_c h.1, b1_s, needL_f hx, bxw_e, bc2_e, if_pos rfl]
theorem r_si {w : Int64} (hx : ¬ inZ x 1 60) : Op p S S (FL_doSimulate p w x) (-9999002) := op_same fun σ h => by
  unfold FL_doSimulate FX6_simulate
  simp only [C_c h.1, b1_s, rgR, bI_1, l1, l60]
  rw [need_f hx, bxw_e, bc2_e, if_pos rfl]
end NO
section N2
variable {p : Nat} {S : SS}
theorem r_sc0 {x : Int32} {w : Int64} (hx : ¬ inZ x 1 3) : Op p S S (FL_doScript p x w) (-9999002) := op_same fun σ h => by
  unfold FL_doScript FX6_runScript
  simp only [C_c h.1, b1_s, rgR, bI_1, l1, l3]
  rw [need_f hx, bxw_e, bc2_e, if_pos rfl]
theorem r_sc1 {t : Nat} {w : Int64} (h1 : 1 ≤ t) (h3 : t ≤ 3) (hx : ¬ (0 ≤ w.toInt ∧ w.toInt < 1000000 ^ t)) : Op p S S (FL_doScript p (nI t) w) (-9999002) := op_same fun σ h => by
  have c1 : inZ (nI t) 1 3 := (inZ_nI (by omega)).mpr (by omega)
  unfold FL_doScript FX6_runScript
  simp only [C_c h.1, b1_s, rgR, bI_1, l1, l3]
  rw [need_t c1, bxw_s, ran_c h3, b1_s, need_f hx, bxw_e, bc2_e, if_pos rfl]
end N2
