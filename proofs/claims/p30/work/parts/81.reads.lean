/-! p30: the calls that change nothing. -/
section RD
variable {tst : Nat → Nat} {p : Nat} {S : SS} {a b c : Int32}
theorem o_about {i : Nat} (hi : i ≤ 9) : Op p S S (FL_call tst p 2 (nI i) b c) (abV S.1 i) := op_same fun σ h => by
  rw [call_2]; unfold FL_tryAbout; rw [ab_c h.1 h.2.1 hi, bc_s, b1_s]
theorem o_of {k i : Nat} (hk : k < nM S.1) (hi : i ≤ 10) : Op p S S (FL_call tst p 3 (nI k) (nI i) c) (meV S.1 k i) := op_same fun σ h => by
  obtain ⟨A, L, K⟩ := S
  have hc : isC σ p A L K 0 f0 := h.1
  have hA : okA A := h.2.1
  have hp := hc.2.1
  have hk : k < nM A := hk
  have h16 : nM A ≤ 16 := hA.1
  have c1 : inZ (nI k) 0 ((nM A : Int) - 1) := (inZ_nI (by omega)).mpr (by omega)
  have c2 : inZ (nI i) 0 10 := (inZ_nI (by omega)).mpr (by omega)
  rw [call_3]; unfold FL_tryOf FX6_measureOf
  simp only [C_c hc, b1_s, rgR, bI_1, l0, l10]
  rw [needM_t hc hA c1, bx_s, need_t c2, bx_s]
  have n9 : (nI i = (9 : Int32)) = (i = 9) := eq_nI (b := 9) (by omega) (by omega)
  have n10 : (nI i = (10 : Int32)) = (i = 10) := eq_nI (b := 10) (by omega) (by omega)
  simp only [n9, n10]
  have ev : meV A k i = if i < 7 then nI (mk A k i) else if i = 7 then nI (lst (mk A k)) else if i = 8 then nI (gst (mk A k)) else if i = 9 then nI (wt A (mk A k)) else nI (fb_sm (fun j => if quar (mk A k) (mk A j) then 1 else 0) (nM A)) := rfl
  by_cases c7 : i < 7
  · rw [if_pos c7] at ev
    rw [if_neg (by omega), if_neg (by omega), C_0 hc, b1_s, number_e hp hA hk c7, b1_s, bc_s, ← ev, b1_s]
  · rw [if_neg c7] at ev
    rcases (show i = 7 ∨ i = 8 ∨ i = 9 ∨ i = 10 by omega) with rfl | rfl | rfl | rfl
    · rw [if_pos rfl] at ev
      have e7 : FX2_number (p + 1) (nI k) (nI 7) σ = some (nI (lst (mk A k))) := number_7 hp hA hk
      rw [if_neg (by decide), if_neg (by decide), C_0 hc, b1_s, e7, b1_s, bc_s, ← ev, b1_s]
    · rw [if_neg (by decide), if_pos rfl] at ev
      have e8 : FX2_number (p + 1) (nI k) (nI 8) σ = some (nI (gst (mk A k))) := number_8 hp hA hk
      rw [if_neg (by decide), if_neg (by decide), C_0 hc, b1_s, e8, b1_s, bc_s, ← ev, b1_s]
    · rw [if_neg (by decide), if_neg (by decide), if_pos rfl] at ev
      rw [if_pos rfl, C_0 hc, b1_s, weight_e hp hA hk, b1_s, bc_s, ← ev, b1_s]
    · rw [if_neg (by decide), if_neg (by decide), if_neg (by decide)] at ev
      rw [if_neg (by decide), if_pos rfl, C_0 hc, b1_s, quarrelsOfMeasure_e hp hA hk, b1_s, bc_s, ← ev, b1_s]
theorem o_te {t i : Nat} (ht : t < 6) (hi : i ≤ 4) : Op p S S (FL_call tst p 4 (nI t) (nI i) c) (teV S.1 t i) := op_same fun σ h => by
  obtain ⟨A, L, K⟩ := S
  have hc : isC σ p A L K 0 f0 := h.1
  have hA : okA A := h.2.1
  have hp := hc.2.1
  have c1 : inZ (nI t) 0 5 := (inZ_nI (by omega)).mpr (by omega)
  have c2 : inZ (nI i) 0 4 := (inZ_nI (by omega)).mpr (by omega)
  rw [call_4]; unfold FL_tryTeller FX6_tellerOf
  simp only [C_c hc, b1_s, rgR, bI_1, l0, l4]
  rw [needT_t c1, bx_s, need_t c2, bx_s]
  rcases (show i = 0 ∨ i = 1 ∨ i = 2 ∨ i = 3 ∨ i = 4 by omega) with rfl | rfl | rfl | rfl | rfl
  · rw [if_pos (show nI 0 = (0 : Int32) from rfl), C_0 hc, b1_s, trustOf_e hp (by omega), b1_s, bc_s]; rfl
  · rw [if_neg (show ¬ nI 1 = (0 : Int32) by decide), if_pos (show nI 1 = (1 : Int32) from rfl), C_0 hc, b1_s, measuresOfTeller_e hp hA (by omega), b1_s, bc_s]; rfl
  · rw [if_neg (show ¬ nI 2 = (0 : Int32) by decide), if_neg (show ¬ nI 2 = (1 : Int32) by decide), if_pos (show nI 2 = (2 : Int32) from rfl), C_0 hc, b1_s, rightOf_e hp (by omega), b1_s, bc_s]; rfl
  · rw [if_neg (show ¬ nI 3 = (0 : Int32) by decide), if_neg (show ¬ nI 3 = (1 : Int32) by decide), if_neg (show ¬ nI 3 = (2 : Int32) by decide), if_pos (show nI 3 = (3 : Int32) from rfl), C_0 hc, b1_s, wrongOf_e hp (by omega), b1_s, bc_s]; rfl
  · rw [if_neg (show ¬ nI 4 = (0 : Int32) by decide), if_neg (show ¬ nI 4 = (1 : Int32) by decide), if_neg (show ¬ nI 4 = (2 : Int32) by decide), if_neg (show ¬ nI 4 = (3 : Int32) by decide), C_0 hc, b1_s, quarrelsOfTeller_e hp hA (by omega), b1_s, bc_s]; rfl
theorem o_se {s i : Nat} (hs : s < 3) (hi : i ≤ 2) : Op p S S (FL_call tst p 5 (nI s) (nI i) c) (seV S.1 s i) := op_same fun σ h => by
  obtain ⟨A, L, K⟩ := S
  have hc : isC σ p A L K 0 f0 := h.1
  have hA : okA A := h.2.1
  have hp := hc.2.1
  have c1 : inZ (nI s) 0 2 := (inZ_nI (by omega)).mpr (by omega)
  have c2 : inZ (nI i) 0 2 := (inZ_nI (by omega)).mpr (by omega)
  rw [call_5]; unfold FL_trySteeple FX6_steepleOf
  simp only [C_c hc, b1_s, rgR, bI_1, l0, l2]
  rw [needS_t c1, bx_s, need_t c2, bx_s]
  rcases (show i = 0 ∨ i = 1 ∨ i = 2 by omega) with rfl | rfl | rfl
  · rw [if_pos (show nI 0 = (0 : Int32) from rfl), C_0 hc, b1_s, measuresOfSteeple_e hp hA (by omega), b1_s, bc_s]; rfl
  · rw [if_neg (show ¬ nI 1 = (0 : Int32) by decide), if_pos (show nI 1 = (1 : Int32) from rfl), C_0 hc, b1_s, heightS_e hp (by omega), b1_s, bc_s]; rfl
  · rw [if_neg (show ¬ nI 2 = (0 : Int32) by decide), if_neg (show ¬ nI 2 = (1 : Int32) by decide), C_0 hc, b1_s, weightOfSteeple_e hp hA (by omega), b1_s, bc_s]; rfl
theorem o_vote {s h : Nat} (hs : s < 3) (h1 : 1 ≤ h) (h2 : h ≤ 999) : Op p S S (FL_call tst p 6 (nI s) (nI h) c) (nI (vot S.1 s h)) := op_same fun σ hh => by
  obtain ⟨A, L, K⟩ := S
  have hc : isC σ p A L K 0 f0 := hh.1
  have hA : okA A := hh.2.1
  have c1 : inZ (nI s) 0 2 := (inZ_nI (by omega)).mpr (by omega)
  have c2 : inZ (nI h) 1 999 := (inZ_nI (by omega)).mpr (by omega)
  rw [call_6]; unfold FL_tryVote FX6_vote
  rw [C_c hc, b1_s, needS_t c1, bx_s, isHeight_e, b1_s, need_t c2, bx_s, C_0 hc, b1_s, voteOf_e hc.2.1 hA (by omega) (by omega), b1_s, bc_s, b1_s]
theorem o_setting {i : Nat} (hi : i < 2) : Op p S S (FL_call tst p 8 (nI i) b c) (nI (aSt S.1 i)) := op_same fun σ h => by
  obtain ⟨A, L, K⟩ := S
  have hc : isC σ p A L K 0 f0 := h.1
  have c1 : inZ (nI i) 0 1 := (inZ_nI (by omega)).mpr (by omega)
  rw [call_8]; unfold FL_trySetting FX6_setting
  rw [C_c hc, b1_s, isSetting_e, b1_s, need_t c1, bx_s, C_0 hc, b1_s, settingOf_e hc.2.1 (by omega), b1_s, bc_s, b1_s]
theorem o_apart {k i : Nat} (hk : k < nM S.1) (hi : i < nM S.1) : Op p S S (FL_call tst p 14 (nI k) (nI i) c) (if mk S.1 k 0 = mk S.1 i 0 then nI (gap (mk S.1 k) (mk S.1 i)) else -1) := op_same fun σ h => by
  obtain ⟨A, L, K⟩ := S
  have hc : isC σ p A L K 0 f0 := h.1
  have hA : okA A := h.2.1
  have h16 : nM A ≤ 16 := hA.1
  have hk : k < nM A := hk
  have hi : i < nM A := hi
  have c1 : inZ (nI k) 0 ((nM A : Int) - 1) := (inZ_nI (by omega)).mpr (by omega)
  have c2 : inZ (nI i) 0 ((nM A : Int) - 1) := (inZ_nI (by omega)).mpr (by omega)
  rw [call_14]; unfold FL_tryApart FX6_apart
  rw [C_c hc, b1_s, needM_t hc hA c1, bx_s, needM_t hc hA c2, bx_s, C_0 hc, b1_s, feetApart_e hc.2.1 hA hk hi, b1_s, bc_s, b1_s]
theorem o_best {s : Nat} (hs : s < 3) (c2 : inZ b 0 2 ∧ inZ c 0 1) : Op p S S (FL_call tst p 7 (nI s) b c) (beV S.1 s b) := op_mk fun σ h => by
  obtain ⟨A, L, K⟩ := S
  have hc : isC σ p A L K 0 f0 := h.1
  have hA : okA A := h.2.1
  have c1 : inZ (nI s) 0 2 := (inZ_nI (by omega)).mpr (by omega)
  rw [call_7]; unfold FL_tryBest FX6_best
  by_cases c3 : c = 0
  · obtain ⟨σ1, e1, g1, h1, o1⟩ := C_heights hc (s := s) hA (by omega)
    refine ⟨σ1, ?_, ⟨h1, h.2⟩, o1⟩
    simp only [C_c hc, b1_s, rgR, bI_1, bI_and, l0, l1, l2]
    rw [needS_t c1, bxw_s, need_t c2, bxw_s, if_pos c3, C_6 hc, b1_s, C_0 hc, b1_s, e1, b1_s, b1_s, C_6 h1, b1_s, told_e g1, b1_s, bc2_s]
  · obtain ⟨σ1, c', e1, g1, -, h1, o1⟩ := C_ends hc (s := s) hc.2.1 hA (by omega) (by omega)
    refine ⟨σ1, ?_, ⟨h1, h.2⟩, o1.ch (by omega) (by omega)⟩
    simp only [C_c hc, b1_s, rgR, bI_1, bI_and, l0, l1, l2]
    rw [needS_t c1, bxw_s, need_t c2, bxw_s, if_neg c3, C_6 hc, b1_s, C_0 hc, b1_s, e1, b1_s, b1_s, C_6 h1, b1_s, told_e g1, b1_s, bc2_s]
theorem o_against {s : Nat} (hs : s < 3) : Op p S S (FL_call tst p 15 (nI s) b c) (enc (agL S.1 s (low S.1 s) (nM S.1) 0 none)) := op_mk fun σ h => by
  obtain ⟨A, L, K⟩ := S
  have hc : isC σ p A L K 0 f0 := h.1
  have hA : okA A := h.2.1
  have c1 : inZ (nI s) 0 2 := (inZ_nI (by omega)).mpr (by omega)
  have lr := low_r (A := A) (s := s)
  obtain ⟨σ1, c', e1, g1, -, h1, o1⟩ := C_ends hc (s := s) hc.2.1 hA (by omega) (by omega)
  refine ⟨σ1, ?_, ⟨h1, h.2⟩, o1.ch (by omega) (by omega)⟩
  rw [call_15]; unfold FL_tryAgainst FX6_against
  rw [C_c hc, b1_s, needS_t c1, bxw_s, C_6 hc, b1_s, C_0 hc, b1_s, e1, b1_s, C_0 h1, b1_s, C_6 h1, b1_s, lowest_e g1, b1_s, loudestAgainst_e h1.2.1 hA (by omega) (by omega), b1_s, bc2_s]
theorem o_without {k : Nat} (hk : k < nM S.1) (c2 : inZ b 0 2) : Op p S S (FL_call tst p 16 (nI k) b c) (beV (drpA S.1 k) (mk S.1 k 0) b) := op_mk fun σ h => by
  obtain ⟨A, L, K⟩ := S
  have hc : isC σ p A L K 0 f0 := h.1
  have hA : okA A := h.2.1
  have h16 : nM A ≤ 16 := hA.1
  have hk : k < nM A := hk
  have c1 : inZ (nI k) 0 ((nM A : Int) - 1) := (inZ_nI (by omega)).mpr (by omega)
  have mb := mk_b hA hk
  obtain ⟨σ1, e1, g1, h1, o1⟩ := C_endx hc (s := mk A k 0) hA hk (by omega)
  refine ⟨σ1, ?_, ⟨h1, h.2⟩, o1.ch (by omega) (by omega)⟩
  rw [call_16]; unfold FL_tryWithout FX6_without
  simp only [C_c hc, b1_s, rgR, bI_1, l0, l2]
  rw [needM_t hc hA c1, bxw_s, need_t c2, bxw_s, C_6 hc, b1_s, C_0 hc, b1_s, b1_s, number_0 hc.2.1 hA hk, b1_s, e1, b1_s, C_6 h1, b1_s, told_e g1, b1_s, bc2_s]
theorem o_swings {t s : Nat} (ht : t < 6) (hs : s < 3) : Op p S S (FL_call tst p 17 (nI t) (nI s) c) (enc (swL S.1 t s 10 0)) := op_mk fun σ h => by
  obtain ⟨A, L, K⟩ := S
  have hc : isC σ p A L K 0 f0 := h.1
  have hA : okA A := h.2.1
  have c1 : inZ (nI t) 0 5 := (inZ_nI (by omega)).mpr (by omega)
  have c2 : inZ (nI s) 0 2 := (inZ_nI (by omega)).mpr (by omega)
  obtain ⟨q3, hq⟩ := qf (n := 10) (by omega)
  obtain ⟨σ1, e1, p1, h1, o1⟩ := C_cpy hc hA
  obtain ⟨σ2, e2, h2, o2⟩ := swC (t := t) (s := s) (by omega) (by omega) hA 10 0 q3 A σ1 (by omega) h1 p1 hA (fun w => rfl)
  rw [← hq] at e2
  have e2' : FX6_swings_L21 p (nI t) (nI s) qfuel 0 σ1 = _ := e2
  refine ⟨σ2, ?_, ⟨h2, h.2⟩, o1.tr o2⟩
  rw [call_17]; unfold FL_trySwings FX6_swings
  rw [C_c hc, b1_s, needT_t c1, bxw_s, needS_t c2, bxw_s, C_1 hc, b1_s, C_0 hc, b1_s, e1, b1_s, e2', bc2_s]
theorem truest_e {σ : qH} (h : Ob σ p S) : FX6_truest p σ = some (enc (trL S.1 6 0 none)) := by
  obtain ⟨A, L, K⟩ := S
  have hc : isC σ p A L K 0 f0 := h.1
  unfold FX6_truest
  rw [C_c hc, b1_s, C_0 hc, b1_s, tellerMostlyRight_e hc.2.1, b1_s]
/-- a simulation's answer is told by the parish alone -/
theorem o_sim {x : Int64} {t : Nat} (h1 : 1 ≤ t) (h2 : t ≤ 60) (A : AS) : ∃ v : Int32, ∀ (p : Nat) (S : SS), S.1 = A → Op p S S (FL_doSimulate p x (nI t)) v := by
  obtain ⟨g, hgg⟩ : ∃ g : Int64 → Int64, ∀ x : Int64, (x * (6364136223846793005 : Int64)) + (1442695040888963407 : Int64) = g x := ⟨fun x => (x * (6364136223846793005 : Int64)) + (1442695040888963407 : Int64), fun _ => rfl⟩
  obtain ⟨r, hrr⟩ := r_of
  refine ⟨((10000 : Int32) * nI (nM (simL g r t x A))) + ((100 : Int32) * nI (fb_sm (aT (simL g r t x A)) 6)) + irm (nI (fb_sm (aRt (simL g r t x A)) 6) - nI (fb_sm (aRt A) 6)) 100, fun p S eS => op_mk fun σ h => ?_⟩
  obtain ⟨A', L, K⟩ := S
  have eS : A' = A := eS
  subst eS
  have hc : isC σ p A' L K 0 f0 := h.1
  have hA : okA A' := h.2.1
  have c1 : inZ (nI t) 1 60 := (inZ_nI (by omega)).mpr (by omega)
  obtain ⟨q3, hq⟩ := qf (n := t) (by omega)
  obtain ⟨σ1, e1, p1, h1, o1⟩ := C_cpy hc hA
  obtain ⟨σ2, e2, h2, p2, o2⟩ := siC hgg hrr (t := t) (by omega) t 0 q3 x A' σ1 (by omega) h1 p1 hA
  rw [← hq] at e2
  have e2' : FX6_simulate_L36 p (nI t) qfuel x 0 σ1 = _ := e2
  refine ⟨σ2, ?_, ⟨h2, h.2⟩, o1.tr o2⟩
  unfold FL_doSimulate FX6_simulate
  simp only [C_c hc, b1_s, rgR, bI_1, l1, l60]
  rw [need_t c1, bxw_s, C_1 hc, b1_s, C_0 hc, b1_s, e1, b1_s, e2', b1_s, C_1 h2, b1_s, rightOfAll_e p2, b1_s, C_0 h2, b1_s, rightOfAll_e h2.2.1, b1_s, b1_s, count_e p2, b1_s, b1_s, trustOfAll_e p2, b1_s, bc2_s]
end RD
