abbrev telP (m : Me) (x : Nat) : Prop := lst m ≤ x ∧ x ≤ gst m
def svF (s x : Nat) (acc : Nat × AS) (m : Me) : Nat × AS := if m 0 = s then (acc.1 + (if telP m x then 1 else 0), jdg acc.2 (m 1) (decide (telP m x))) else acc
theorem svF_M {s x : Nat} {acc : Nat × AS} {m : Me} : aM (svF s x acc m).2 = aM acc.2 := by
  unfold svF; split
  · exact jdg_M
  · rfl
theorem svF_ok {s x : Nat} {acc : Nat × AS} {m : Me} (h : okA acc.2) : okA (svF s x acc m).2 := by
  unfold svF; split
  · exact jdg_ok h
  · exact h
theorem drop_mk {A : AS} {k : Nat} (hk : k < nM A) : (aM A).drop k = mk A k :: (aM A).drop (k + 1) := by
  rw [List.drop_eq_getElem_cons hk]
  congr 1
  show _ = (aM A).getD k M0
  rw [List.getD_eq_getElem?_getD, List.getElem?_eq_getElem hk]
  rfl
/-- the judging of a steeple's measures -/
theorem sv_e {q s x : Nat} (hs : s < 2 ^ 31) (hx : x < 2 ^ 31) : ∀ (d : Nat) (A : AS) (k n : Nat) (σ : qH) (q2 : Nat), isP σ q A → okA A → k + d = nM A → ∃ σ', FX2_surveySteeple_L5 q (nI s) (nI x) (d + 1 + q2) (nI n) (nI k) σ = some (nI (((aM A).drop k).foldl (svF s x) (n, A)).1, σ') ∧ isP σ' q (((aM A).drop k).foldl (svF s x) (n, A)).2 ∧ okA (((aM A).drop k).foldl (svF s x) (n, A)).2 ∧ aM (((aM A).drop k).foldl (svF s x) (n, A)).2 = aM A ∧ Off σ σ' q
  | 0, A, k, n, σ, q2, h, hA, hk => by
    have e : k = nM A := by omega
    subst e
    rw [show 0 + 1 + q2 = q2 + 1 by omega, FX2_surveySteeple_L5]
    have e : (aM A).drop (nM A) = [] := List.drop_length
    simp only [p_cnt h, b1_s, le_nI (n16 hA) (n16 hA), Nat.le_refl, if_true, e]
    exact ⟨σ, rfl, h, hA, rfl, Off.rf⟩
  | d + 1, A, k, n, σ, q2, h, hA, hk => by
    have hk2 : k < nM A := by omega
    have hb := mk_b hA hk2
    rw [show d + 1 + 1 + q2 = (d + 1 + q2) + 1 by omega, FX2_surveySteeple_L5]
    simp only [p_cnt h, b1_s, le_nI (n16 hA) (show k < 2 ^ 31 by have := n16 hA; omega), if_neg (Nat.not_le.mpr hk2), isOf_e h hA hk2 hs, bI_ite, nI_1, drop_mk hk2, List.foldl_cons]
    by_cases c : mk A k 0 = s
    · obtain ⟨σ1, e1, h1, o1⟩ := judge_e (p := telP (mk A k) x) h hA hb.2.1
      simp only [if_pos c, tells_e h hA hk2 hx, b1_s, number_1 h hA hk2, e1, bI_ite]
      have ev : svF s x (n, A) (mk A k) = (n + (if telP (mk A k) x then 1 else 0), jdg A (mk A k 1) (decide (telP (mk A k) x))) := by unfold svF; rw [if_pos c]
      rw [ev]
      have hM : aM (jdg A (mk A k 1) (decide (telP (mk A k) x))) = aM A := jdg_M
      have hn : nM (jdg A (mk A k 1) (decide (telP (mk A k) x))) = nM A := by show (aM _).length = _; rw [hM]
      have ex : (if telP (mk A k) x then some (1 : Int32) else some 0) = some (nI (if telP (mk A k) x then 1 else 0)) := by
        by_cases c2 : telP (mk A k) x
        · rw [if_pos c2, if_pos c2]; rfl
        · rw [if_neg c2, if_neg c2]; rfl
      simp only [ex, b1_s, b2_s, nI_add]
      obtain ⟨σ2, e2, h2, ok2, m2, o2⟩ := sv_e hs hx d (jdg A (mk A k 1) (decide (telP (mk A k) x))) (k + 1) (n + (if telP (mk A k) x then 1 else 0)) σ1 q2 h1 (jdg_ok hA) (by rw [hn]; omega)
      rw [hM] at e2 h2 ok2 m2
      exact ⟨σ2, e2, h2, ok2, m2, o1.tr o2⟩
    · have ev : svF s x (n, A) (mk A k) = (n, A) := by unfold svF; rw [if_neg c]
      simp only [if_neg c, b2_s]
      rw [ev]
      exact sv_e hs hx d A (k + 1) n σ q2 h hA (by omega)
/-- taking away from the last one on -/
def rmv (s : Nat) : Nat → AS → AS
  | 0, A => A
  | j + 1, A => rmv s j (if mk A j 0 = s then drpA A j else A)
theorem rmv_M (s : Nat) : ∀ (j : Nat) (A : AS), j ≤ nM A → rmv s j A = (((aM A).take j).filter (fun m => decide (m 0 ≠ s)) ++ (aM A).drop j, A.2)
  | 0, A, _ => by
    rw [rmv]
    simp
  | j + 1, A, hj => by
    have hj2 : j < nM A := by omega
    rw [rmv]
    have et : (aM A).take (j + 1) = (aM A).take j ++ [mk A j] := by
      rw [List.take_add_one, List.getElem?_eq_getElem hj2]
      congr 1
      show [_] = [(aM A).getD j M0]
      rw [List.getD_eq_getElem?_getD, List.getElem?_eq_getElem hj2]
      rfl
    by_cases c : mk A j 0 = s
    · rw [if_pos c, rmv_M s j (drpA A j) (by rw [n_drp hj2]; omega), et, List.filter_append]
      have e1 : (aM (drpA A j)).take j = (aM A).take j := by
        show ((aM A).eraseIdx j).take j = _
        rw [List.eraseIdx_eq_take_drop_succ, List.take_append_of_le_length (by rw [List.length_take]; exact Nat.le_min.mpr ⟨Nat.le_refl _, by show j ≤ nM A; omega⟩), List.take_take, Nat.min_self]
      have e2 : (aM (drpA A j)).drop j = (aM A).drop (j + 1) := by
        show ((aM A).eraseIdx j).drop j = _
        have hl : ((aM A).take j).length = j := by rw [List.length_take]; exact Nat.min_eq_left (by show j ≤ nM A; omega)
        rw [List.eraseIdx_eq_take_drop_succ, List.drop_append, hl, Nat.sub_self, List.drop_of_length_le (by omega)]
        simp
      have ef : List.filter (fun m : Me => decide (m 0 ≠ s)) [mk A j] = [] := List.filter_cons_of_neg (by show ¬ decide (mk A j 0 ≠ s) = true; rw [decide_eq_false (fun z => z c)]; decide)
      rw [e1, e2, ef, List.append_nil]
    · rw [if_neg c, rmv_M s j A (by omega), et, List.filter_append, drop_mk hj2]
      have ef : List.filter (fun m : Me => decide (m 0 ≠ s)) [mk A j] = [mk A j] := List.filter_cons_of_pos (by show decide (mk A j 0 ≠ s) = true; exact decide_eq_true c)
      rw [ef, List.append_assoc]
      rfl
theorem rmv_e {q s : Nat} (hs : s < 2 ^ 31) : ∀ (j : Nat) (A : AS) (σ : qH) (q2 : Nat), isP σ q A → okA A → j ≤ nM A → ∃ σ', FX2_removeMeasuresOf_L7 q (nI s) (j + 1 + q2) (nI j - 1) σ = some σ' ∧ isP σ' q (rmv s j A) ∧ okA (rmv s j A) ∧ Off σ σ' q
  | 0, A, σ, q2, h, hA, hj => by
    rw [show 0 + 1 + q2 = q2 + 1 by omega, FX2_removeMeasuresOf_L7]
    have e : nI 0 - 1 < 0 := by decide
    rw [if_pos e]
    exact ⟨σ, rfl, h, hA, Off.rf⟩
  | j + 1, A, σ, q2, h, hA, hj => by
    have hj2 : j < nM A := by omega
    have h16 := n16 hA
    rw [show j + 1 + 1 + q2 = (j + 1 + q2) + 1 by omega, FX2_removeMeasuresOf_L7]
    have e : nI (j + 1) - 1 = nI j := nI_pred j
    have e2 : nI j + (-1) = nI j - 1 := by rw [Int32.sub_eq_add_neg]
    rw [e, if_neg (nI_pos (by omega)), e2]
    simp only [isOf_e h hA hj2 hs, b1_s, bI_ite]
    rw [rmv]
    by_cases c : mk A j 0 = s
    · obtain ⟨σ1, e1, h1, o1⟩ := removeMeasure_e h hA hj2
      simp only [if_pos c, e1, b2_s, b1_s]
      obtain ⟨σ2, e3, h2, ok2, o2⟩ := rmv_e hs j (drpA A j) σ1 q2 h1 (drpA_ok hA hj2) (by rw [n_drp hj2]; omega)
      exact ⟨σ2, e3, h2, ok2, o1.tr o2⟩
    · simp only [if_neg c, b1_s]
      exact rmv_e hs j A σ q2 h hA (by omega)
abbrev flA (A : AS) (s : Nat) : AS := ((aM A).filter (fun m => decide (m 0 ≠ s)), A.2)
theorem removeMeasuresOf_e {σ : qH} {q s : Nat} {A : AS} (hs : s < 2 ^ 31) (h : isP σ q A) (hA : okA A) : ∃ σ', FX2_removeMeasuresOf q (nI s) σ = some σ' ∧ isP σ' q (flA A s) ∧ okA (flA A s) ∧ Off σ σ' q := by
  have h16 := hA.1
  have n9 : nM A = (aM A).length := rfl
  obtain ⟨q3, hq⟩ := qf (n := nM A) (by omega)
  obtain ⟨σ1, e1, h1, ok1, o1⟩ := rmv_e hs (nM A) A σ q3 h hA (Nat.le_refl _)
  rw [rmv_M s (nM A) A (Nat.le_refl _)] at h1 ok1
  have e3 : (aM A).take (nM A) = aM A := List.take_length
  have e4 : (aM A).drop (nM A) = [] := List.drop_length
  rw [e3, e4, List.append_nil] at h1 ok1
  rw [← hq] at e1
  unfold FX2_removeMeasuresOf
  simp only [p_gC h, p_cnt h, b1_s, e1]
  exact ⟨σ1, rfl, h1, ok1, o1⟩
abbrev srvE (B : AS) (s : Nat) (x : Nat) : AS := (aM B, aT B, aRt B, aWr B, fset (aSv B) s (nI x), aSt B, (aCm B, aEv B, aSu B + 1, aLo B))
def srv (A : AS) (s x : Nat) : Nat × AS := ((((aM A).foldl (svF s x) (0, A)).1), srvE (flA ((aM A).foldl (svF s x) (0, A)).2 s) s x)
theorem survey_e {σ : qH} {q s x : Nat} {A : AS} (hs : s < 3) (hx : x < 2 ^ 31) (h : isP σ q A) (hA : okA A) : ∃ σ', FX2_surveySteeple q (nI s) (nI x) σ = some (nI (srv A s x).1, σ') ∧ isP σ' q (srv A s x).2 ∧ okA (srv A s x).2 ∧ Off σ σ' q := by
  have h16 := hA.1
  have n9 : nM A = (aM A).length := rfl
  obtain ⟨q3, hq⟩ := qf (n := nM A) (by omega)
  obtain ⟨σ1, e1, h1, ok1, m1, o1⟩ := sv_e (show s < 2 ^ 31 by omega) hx (nM A) A 0 0 σ q3 h hA (by omega)
  rw [← hq] at e1
  rw [List.drop_zero] at e1 h1 ok1 m1
  have e1' : FX2_surveySteeple_L5 q (nI s) (nI x) qfuel 0 0 σ = _ := e1
  obtain ⟨σ2, e2, h2, ok2, o2⟩ := removeMeasuresOf_e (show s < 2 ^ 31 by omega) h1 ok1
  obtain ⟨m, t0, r, w, v0, st, c, hr, ⟨⟨c0, c1, c2, c3, c4⟩, hm, ht0, hv, hst⟩⟩ := isP_raw h2
  obtain ⟨σ3, e3, r3, o3⟩ := w_v hr hs (nI x)
  obtain ⟨σ4, e4, r4, o4⟩ := w_c r3 (i := 3) (by omega) (nI (aSu (flA ((aM A).foldl (svF s x) (0, A)).2 s)) + 1)
  have e4' : gP σ3 q 2 9 (.int (nI (aSu (flA ((aM A).foldl (svF s x) (0, A)).2 s)) + 1)) = some σ4 := e4
  unfold FX2_surveySteeple
  simp only [p_gC h, b1_s, e1', b2_s, e2, (r_R hr).2.2.2.2.1, e3, (r_c r3).2.2.2.1, c3, e4']
  refine ⟨σ4, rfl, raw_isP r4 ⟨⟨?_, ?_, ?_, ?_, ?_⟩, hm, ht0, fun i hi => ?_, hst⟩, ok2, ((o1.tr o2).tr o3).tr o4⟩
  · rw [upd_n (by omega), c0]; rfl
  · rw [upd_n (by omega), c1]; rfl
  · rw [upd_n (by omega), c2]; rfl
  · rw [upd_e, nI_1]; rfl
  · rw [upd_n (by omega), c4]; rfl
  · by_cases c : i = s
    · subst c; rw [upd_e]; show _ = (if i = i then nI x else _); rw [if_pos rfl]
    · rw [upd_n c, hv i hi]; show _ = (if i = s then nI x else _); rw [if_neg c]
