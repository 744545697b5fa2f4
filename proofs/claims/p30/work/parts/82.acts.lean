/-! p30: the actions and the save slots, as steps. -/
abbrev rem (S : SS) : List AS := (S.1 :: S.2.1).take 14
section AK
variable {tst : Nat → Nat} {p : Nat} {a b c : Int32}
theorem o_meas {S : SS} {x : Me} (hx : okM x) (hf : fitP (nI (x 2)) (nI (x 3)) (nI (x 4)) (nI (x 5)) (nI (x 6))) (hn : nM S.1 < 16) : Op p S (addA S.1 x, rem S, S.2.2) (FL_told p (nI (x 0)) (nI (x 1)) (nI (x 2)) (nI (x 3)) (nI (x 4)) (nI (x 5)) (nI (x 6))) (nI (nM S.1)) := op_mk fun σ h => by
  obtain ⟨A, L, K⟩ := S
  have hc : isC σ p A L K 0 f0 := h.1
  have hs : okS A L K 0 f0 := h.2
  have hA : okA A := h.2.1
  have hn : nM A < 16 := hn
  have c1 : inZ (nI (x 0)) 0 2 := (inZ_nI (by have := hx.1; omega)).mpr (by have := hx.1; omega)
  have c2 : inZ (nI (x 1)) 0 5 := (inZ_nI (by have := hx.2.1; omega)).mpr (by have := hx.2.1; omega)
  obtain ⟨σ1, e1, h1, o1⟩ := C_rem hc hA
  obtain ⟨σ2, e2, p2, o2⟩ := addMeasure_e h1.2.1 hA hn hx
  refine ⟨σ2, ?_, ⟨C_now h1 p2 o2, okS_rem hs (addA_ok hA hn hx)⟩, o1.tr (o2.ch (by omega) (by omega))⟩
  unfold FL_told FX6_measure
  rw [C_c hc, b1_s, needS_t c1, bxw_s, needT_t c2, bxw_s, fits_e, b1_s, need_t hf, bxw_s, C_0 hc, b1_s, isFull_e hc.2.1 hA, b1_s, bI_f (show ¬ 16 ≤ nM A by omega), if_pos rfl, C_4 hc, b1_s, b1_s, e1, b1_s, C_0 h1, b1_s, e2, b2_s, bc2_s]
theorem o_drop {S : SS} {k : Nat} (hk : k < nM S.1) : Op p S (drpA S.1 k, rem S, S.2.2) (FL_call tst p 9 (nI k) b c) (nI (nM S.1 - 1)) := op_mk fun σ h => by
  obtain ⟨A, L, K⟩ := S
  have hc : isC σ p A L K 0 f0 := h.1
  have hs : okS A L K 0 f0 := h.2
  have hA : okA A := h.2.1
  have h16 : nM A ≤ 16 := hA.1
  have hk : k < nM A := hk
  have c1 : inZ (nI k) 0 ((nM A : Int) - 1) := (inZ_nI (by omega)).mpr (by omega)
  obtain ⟨σ1, e1, h1, o1⟩ := C_rem hc hA
  obtain ⟨σ2, e2, p2, o2⟩ := removeMeasure_e h1.2.1 hA hk
  refine ⟨σ2, ?_, ⟨C_now h1 p2 o2, okS_rem hs (drpA_ok hA hk)⟩, o1.tr (o2.ch (by omega) (by omega))⟩
  rw [call_9]; unfold FL_tryDrop FX6_drop
  rw [C_c hc, b1_s, needM_t hc hA c1, bxw_s, C_4 hc, b1_s, C_0 hc, b1_s, e1, b1_s, C_0 h1, b1_s, e2, b2_s, bc2_s]
theorem o_trust {S : SS} {t v : Nat} (ht : t < 6) (hv : v ≤ 9) : Op p S (truA S.1 t v, rem S, S.2.2) (FL_call tst p 10 (nI t) (nI v) c) (nI (aT S.1 t)) := op_mk fun σ h => by
  obtain ⟨A, L, K⟩ := S
  have hc : isC σ p A L K 0 f0 := h.1
  have hs : okS A L K 0 f0 := h.2
  have hA : okA A := h.2.1
  have c1 : inZ (nI t) 0 5 := (inZ_nI (by omega)).mpr (by omega)
  have c2 : inZ (nI v) 0 9 := (inZ_nI (by omega)).mpr (by omega)
  obtain ⟨σ1, e1, h1, o1⟩ := C_rem hc hA
  obtain ⟨σ2, e2, p2, o2⟩ := changeTrust_e (t := t) (v := v) h1.2.1 (by omega)
  refine ⟨σ2, ?_, ⟨C_now h1 p2 o2, okS_rem hs (truA_ok hA hv)⟩, o1.tr (o2.ch (by omega) (by omega))⟩
  rw [call_10]; unfold FL_tryTrust FX6_trust
  rw [C_c hc, b1_s, needT_t c1, bxw_s, isTrust_e, b1_s, need_t c2, bxw_s, C_4 hc, b1_s, C_0 hc, b1_s, e1, b1_s, C_0 h1, b1_s, e2, b2_s, bc2_s]
theorem o_evening {S : SS} : Op p S (eve S.1, rem S, S.2.2) (FX6_evening p) (nI (aLo (eve S.1)) - nI (aLo S.1)) := op_mk fun σ h => by
  obtain ⟨A, L, K⟩ := S
  have hc : isC σ p A L K 0 f0 := h.1
  have hs : okS A L K 0 f0 := h.2
  have hA : okA A := h.2.1
  obtain ⟨σ1, e1, h1, o1⟩ := C_rem hc hA
  obtain ⟨σ2, e2, p2, o2⟩ := passEvening_e h1.2.1 hA
  refine ⟨σ2, ?_, ⟨C_now h1 p2 o2, okS_rem hs (eve_ok hA)⟩, o1.tr (o2.ch (by omega) (by omega))⟩
  unfold FX6_evening
  rw [C_c hc, b1_s, C_4 hc, b1_s, C_0 hc, b1_s, e1, b1_s, C_0 h1, b1_s, e2, b2_s]
theorem o_survey {S : SS} {s x : Nat} (hs3 : s < 3) (h1 : 1 ≤ x) (h2 : x ≤ 999) : Op p S ((srv S.1 s x).2, rem S, S.2.2) (FL_call tst p 11 (nI s) (nI x) c) (nI (srv S.1 s x).1) := op_mk fun σ h => by
  obtain ⟨A, L, K⟩ := S
  have hc : isC σ p A L K 0 f0 := h.1
  have hs : okS A L K 0 f0 := h.2
  have hA : okA A := h.2.1
  have c1 : inZ (nI s) 0 2 := (inZ_nI (by omega)).mpr (by omega)
  have c2 : inZ (nI x) 1 999 := (inZ_nI (by omega)).mpr (by omega)
  obtain ⟨σ1, e1, h1, o1⟩ := C_rem hc hA
  obtain ⟨σ2, e2, p2, ok2, o2⟩ := survey_e (s := s) (x := x) (by omega) (by omega) h1.2.1 hA
  refine ⟨σ2, ?_, ⟨C_now h1 p2 o2, okS_rem hs ok2⟩, o1.tr (o2.ch (by omega) (by omega))⟩
  rw [call_11]; unfold FL_trySurvey FX6_survey
  rw [C_c hc, b1_s, needS_t c1, bxw_s, isHeight_e, b1_s, need_t c2, bxw_s, C_4 hc, b1_s, C_0 hc, b1_s, e1, b1_s, C_0 h1, b1_s, e2, b2_s, bc2_s]
theorem o_set {S : SS} {i v : Nat} (hi : i < 2) (hv : v ≤ if i = 0 then 5 else 50) : Op p S (setA S.1 i v, rem S, S.2.2) (FL_call tst p 12 (nI i) (nI v) c) (nI (aSt S.1 i)) := op_mk fun σ h => by
  obtain ⟨A, L, K⟩ := S
  have hc : isC σ p A L K 0 f0 := h.1
  have hs : okS A L K 0 f0 := h.2
  have hA : okA A := h.2.1
  have c1 : setP (nI i) (nI v) := by
    rcases (show i = 0 ∨ i = 1 by omega) with rfl | rfl
    · rw [if_pos rfl] at hv; exact Or.inl ⟨rfl, (inZ_nI (by omega)).mpr (by omega)⟩
    · rw [if_neg (by omega)] at hv; exact Or.inr ⟨rfl, (inZ_nI (by omega)).mpr (by omega)⟩
  obtain ⟨σ1, e1, h1, o1⟩ := C_rem hc hA
  obtain ⟨σ2, e2, p2, o2⟩ := changeSetting_e (i := i) (v := v) h1.2.1 hi
  refine ⟨σ2, ?_, ⟨C_now h1 p2 o2, okS_rem hs (setA_ok hA hv)⟩, o1.tr (o2.ch (by omega) (by omega))⟩
  rw [call_12]; unfold FL_tryLay FX6_set
  rw [C_c hc, b1_s, fitsSetting_e, b1_s, need_t c1, bxw_s, C_4 hc, b1_s, C_0 hc, b1_s, e1, b1_s, C_0 h1, b1_s, e2, b2_s, bc2_s]
theorem o_undo {A B : AS} {L : List AS} {K : Nat → Option AS} : Op p (A, B :: L, K) (B, L, K) (FL_call tst p 13 a b c) (nI L.length) := op_mk fun σ h => by
  have hc : isC σ p A (B :: L) K 0 f0 := h.1
  have hs : okS A (B :: L) K 0 f0 := h.2
  have hB := hs.2.1 B (List.mem_cons_self ..)
  obtain ⟨σ1, e1, p1, h1, o1⟩ := takeBack_e hc.2.2.2.2.1 (isP_cr hc.2.1) hB (by omega)
  have hC1 : isC σ1 p B L K 0 f0 := by
    obtain ⟨z0, z1, z2, z3, z4, z5, z6⟩ := hc
    exact ⟨by rw [o1 _ (by omega) (by omega)]; exact z0, p1, cRaw_s z2 (fun a ha hb => o1 a (by omega) (by omega)), cSav_s z3 (fun a ha => o1 a (by omega) (by omega)), h1, cTxt_s z5 (fun a ha hb => o1 a (by omega) (by omega)), cBal_s z6 (fun a ha hb => o1 a (by omega) (by omega))⟩
  have hS1 : okS B L K 0 f0 := ⟨hB, fun C hC => hs.2.1 C (List.mem_cons_of_mem _ hC), hs.2.2⟩
  refine ⟨σ1, ?_, ⟨hC1, hS1⟩, fun a ha => o1 a (by omega) (by omega)⟩
  rw [call_13]; unfold FL_tryUndo FX6_undo
  rw [C_c hc, b1_s, C_4 hc, b1_s, isEmpty_e hc.2.2.2.2.1, b1_s, if_neg (show ¬ (B :: L) = [] from fun hh => by cases hh), if_pos rfl, b1_s, C_0 hc, b1_s, e1, b2_s, bc2_s]
theorem o_undo0 {A : AS} {K : Nat → Option AS} : Op p (A, [], K) (A, [], K) (FL_call tst p 13 a b c) (-9999003) := op_same fun σ h => by
  have hc : isC σ p A [] K 0 f0 := h.1
  rw [call_13]; unfold FL_tryUndo FX6_undo
  rw [C_c hc, b1_s, C_4 hc, b1_s, isEmpty_e hc.2.2.2.2.1, b1_s, if_pos (show ([] : List AS) = [] from rfl), if_neg (by decide), bc2_e, if_pos rfl]
theorem o_save {S : SS} {i : Nat} (hi : i < 2) : Op p S (S.1, S.2.1, fset S.2.2 i (some S.1)) (FL_call tst p 18 (nI i) b c) (nI (nM S.1)) := op_mk fun σ h => by
  obtain ⟨A, L, K⟩ := S
  have hc : isC σ p A L K 0 f0 := h.1
  have hs : okS A L K 0 f0 := h.2
  have hA : okA A := h.2.1
  have c1 : inZ (nI i) 0 1 := (inZ_nI (by omega)).mpr (by omega)
  obtain ⟨q1, σ1, e1, k1, σ2, e2, h2, o2⟩ := C_save hc hA (i := i) hi
  have r1 : gR σ1 p 4 3 = some (p + 16) := by unfold gR; rw [k1]; exact C_3 hc
  have hS' : okS A L (fset K i (some A)) 0 f0 := ⟨hA, hs.2.1, fun j B hj hB => by
    have hB' : (if j = i then some A else K j) = some B := hB
    by_cases c : j = i
    · rw [if_pos c] at hB'; cases hB'; exact hA
    · rw [if_neg c] at hB'; exact hs.2.2.1 j B hj hB', hs.2.2.2⟩
  refine ⟨σ2, ?_, ⟨h2, hS'⟩, o2⟩
  rw [call_18]; unfold FL_tryKeep FX6_save
  rw [C_c hc, b1_s, needL_t c1, bxw_s, C_2 hc, b1_s, q1, b1_s, C_0 hc, b1_s, e1, b1_s, r1, b1_s, e2, b1_s, C_0 h2, b1_s, count_e h2.2.1, b1_s, bc2_s]
theorem o_back {A B : AS} {L : List AS} {K : Nat → Option AS} {i : Nat} (hi : i < 2) (ek : K i = some B) : Op p (A, L, K) (B, [], K) (FL_call tst p 19 (nI i) b c) (nI (nM B)) := op_mk fun σ h => by
  have hc : isC σ p A L K 0 f0 := h.1
  have hs : okS A L K 0 f0 := h.2
  have c1 : inZ (nI i) 0 1 := (inZ_nI (by omega)).mpr (by omega)
  obtain ⟨k1, k2⟩ := C_kept hc (i := i) hi
  have b0 : bit (K i) = 1 := by rw [ek]; rfl
  have hB := hs.2.2.1 i B hi ek
  obtain ⟨σ1, e1, h1, o1⟩ := C_take hc (i := i) hi ek hB
  obtain ⟨σ2, e2, h2, o2⟩ := C_forget h1
  refine ⟨σ2, ?_, ⟨h2, hB, fun C hC => (by cases hC), hs.2.2⟩, o1.tr o2⟩
  rw [call_19]; unfold FL_tryBack FX6_restore
  rw [C_c hc, b1_s, needL_t c1, bxw_s, C_3 hc, b1_s, k1, b1_s, b0, if_neg (by decide), C_0 hc, b1_s, C_2 hc, b1_s, k2, b1_s, e1, b1_s, C_4 h1, b1_s, e2, b1_s, C_0 h2, b1_s, count_e h2.2.1, b1_s, bc2_s]
theorem o_back0 {A : AS} {L : List AS} {K : Nat → Option AS} {i : Nat} (hi : i < 2) (ek : K i = none) : Op p (A, L, K) (A, L, K) (FL_call tst p 19 (nI i) b c) (-9999003) := op_same fun σ h => by
  have hc : isC σ p A L K 0 f0 := h.1
  have c1 : inZ (nI i) 0 1 := (inZ_nI (by omega)).mpr (by omega)
  obtain ⟨k1, k2⟩ := C_kept hc (i := i) hi
  have b0 : bit (K i) = 0 := by rw [ek]; rfl
  rw [call_19]; unfold FL_tryBack FX6_restore
  rw [C_c hc, b1_s, needL_t c1, bxw_s, C_3 hc, b1_s, k1, b1_s, b0, if_pos rfl, bc2_e, if_neg (by decide), if_pos rfl]
end AK
