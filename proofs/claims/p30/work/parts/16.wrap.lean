def rmL_cell : Room := { frames := 0, cells := 0, slots := 0, locals := 0 }
theorem qyL_cell : qY yL_cell cL_cell 2 (some .int) 2 := ⟨wd_174, wd_16, by decide +kernel, by decide +kernel, by decide +kernel⟩
set_option maxHeartbeats 4000000 in
set_option maxRecDepth 100000 in
theorem mL_cell {l : Launch} {G : qG} (hst : l.stackTraces = false) (p0 : Nat) (p1 : Int32) (σ : qH) (n : Option Nat) (ro : Int32) (hF : FL_cell p0 p1 σ = some ro) : qM l G yL_cell cL_cell 2 (some .int) rmL_cell [.ref p0, .int p1] σ n (.inl (some (.int ro), σ, n)) := by
  refine q_body (own := RL) (nm := "cell") (ls := [(0, .ref p0), (1, .int p1)]) hst (by decide +kernel) rfl rfl (Nat.le_of_ble_eq_true rfl) rfl rfl rfl ?_
  unfold FL_cell at hF
  refine x_iload_n 1 1 dL_cell_0 rfl rfl ?_
  refine x_aload_n 2 0 dL_cell_1 rfl rfl ?_
  obtain ⟨v1, h2, hF⟩ := b1_inv hF
  refine x_aL 3 h2 dL_cell_2 rfl ?_
  obtain ⟨x3, h6, hF⟩ := b1_inv hF
  have hJ : qX l G RL "cell" cL_cell 2 (some .int) [] rmL_cell 0 0 (.inl (some (.int ro), σ, n)) 0 0 σ n 22 [] [.int x3] := by
    refine x_ldc 24 (2147483647 : Int32) wd_176 dL_cell_22 rfl ?_
    refine x_iand 25 dL_cell_24 rfl ?_
    cases hF
    exact x_iret rfl rfl (Nat.le_of_ble_eq_true rfl) (Nat.le_of_ble_eq_true rfl) dL_cell_25
  have hF := h6
  rcases ite_inv hF with ⟨hc, hF⟩ | ⟨hc, hF⟩
  · refine x_icmp_ge 12 6 dL_cell_3 (by decide) rfl (fun _ => ?_) (fun q => absurd hc q)
    refine x_ldc 14 (15520171 : Int32) wd_175 dL_cell_12 rfl ?_
    refine x_iload_n 15 1 dL_cell_14 rfl rfl ?_
    refine x_iconst 16 (3 : Int32) dL_cell_15 rfl (by decide) ?_
    refine x_iadd 17 dL_cell_16 rfl ?_
    refine x_imul 18 dL_cell_17 rfl ?_
    refine x_sipush 21 (12101 : Int32) dL_cell_18 rfl (by decide) ?_
    refine x_iadd 22 dL_cell_21 rfl ?_
    have e1 := Option.some.inj hF
    subst e1
    refine x_sub [] [] rfl ?_
    exact hJ
  · refine x_icmp_ge 12 6 dL_cell_3 (by decide) rfl (fun q => absurd q hc) (fun _ => ?_)
    refine x_aload_n 7 0 dL_cell_6 rfl rfl ?_
    refine x_iload_n 8 1 dL_cell_7 rfl rfl ?_
    obtain ⟨v4, h5, hF⟩ := b1_inv hF
    refine x_aI 9 h5 dL_cell_8 rfl ?_
    refine x_goto 22 dL_cell_9 (by decide) ?_
    have e1 := Option.some.inj hF
    subst e1
    refine x_sub [] [] rfl ?_
    exact hJ
def rmL_tryAppend : Room := { frames := 8, cells := 2, slots := 12, locals := 123 }
theorem qyL_tryAppend : qYW yL_tryAppend cL_tryAppend 3 (some .int) [(0, 5, 6, 16), (0, 5, 10, 19)] 2 := ⟨wd_185, wd_16, by decide +kernel, by decide +kernel, by decide +kernel⟩
set_option maxHeartbeats 4000000 in
set_option maxRecDepth 100000 in
theorem mL_tryAppend {l : Launch} {G : qG} (hst : l.stackTraces = false) (p0 : Nat) (p1 : Int32) (σ : qH) (n : Option Nat) (ro : Int32) (so : qH) (hF : FL_tryAppend p0 p1 σ = some (ro, so)) : qMW l G yL_tryAppend cL_tryAppend 3 (some .int) [(0, 5, 6, 16), (0, 5, 10, 19)] rmL_tryAppend [.ref p0, .int p1] σ n (.inl (some (.int ro), so, none)) := by
  refine q_bodyW (own := RL) (nm := "tryAppend") (tab := [⟨0, 5, 6, 16⟩, ⟨0, 5, 10, 19⟩]) (ls := [(0, .ref p0), (1, .int p1)]) hst (by decide +kernel) rfl rfl (Nat.le_of_ble_eq_true rfl) rfl rfl rfl rfl ?_
  unfold FL_tryAppend at hF
  refine x_aload_n 1 0 dL_tryAppend_0 rfl rfl ?_
  refine x_iload_n 2 1 dL_tryAppend_1 rfl rfl ?_
  rcases bc2_inv hF with ⟨v3, s4, h1, hF⟩ | ⟨e2, s5, h1, hF⟩
  · obtain ⟨fs, hb⟩ : ∃ fs : List Value, True ∧ σ p0 = some (.inr (4, fs)) := kX6_append h1
    refine x_callV (As := [.int p1]) (rest := []) 5 2 12 (mX6_append hst p0 p1 σ n (.inl (v3, s4)) h1) qyX6_append wd_188 wd_189 wd_190 hb.2 rfl rfl rfl (by decide) (Nat.le_of_ble_eq_true rfl) ⟨Nat.le_of_ble_eq_true rfl, Nat.le_of_ble_eq_true rfl⟩ dL_tryAppend_2 rfl rfl rfl rfl ?_
    refine x_anyn ?_
    cases hF
    exact x_iret rfl rfl (Nat.le_of_ble_eq_true rfl) (Nat.le_of_ble_eq_true rfl) dL_tryAppend_5
  · obtain ⟨fs, hb⟩ : ∃ fs : List Value, True ∧ σ p0 = some (.inr (4, fs)) := kX6_append h1
    rcases ite_inv hF with ⟨he, hF⟩ | ⟨he, hF⟩
    · subst he
      refine x_callVC (E := "java/lang/IllegalArgumentException") (As := [.int p1]) (rest := []) 2 12 [] ⟨0, 5, 6, 16⟩ [⟨0, 5, 10, 19⟩] (mX6_append hst p0 p1 σ n (.inr ("java/lang/IllegalArgumentException", s5)) h1) qyX6_append wd_188 wd_189 wd_190 hb.2 rfl rfl rfl (by decide) (Nat.le_of_ble_eq_true rfl) ⟨Nat.le_of_ble_eq_true rfl, Nat.le_of_ble_eq_true rfl⟩ dL_tryAppend_2 rfl (fun _ h => absurd h List.not_mem_nil) (by decide) (by decide) wd_186 cst_A rfl rfl (fun qx => ?_)
      refine x_astore_n 7 2 [(2, .ref qx), (0, .ref p0), (1, .int p1)] dL_tryAppend_6 rfl rfl (by decide) rfl ?_
      refine x_ldc 9 (-9999002 : Int32) wd_287 dL_tryAppend_7 rfl ?_
      refine x_anyn ?_
      cases hF
      exact x_iret rfl rfl (Nat.le_of_ble_eq_true rfl) (Nat.le_of_ble_eq_true rfl) dL_tryAppend_9
    rcases ite_inv hF with ⟨he, hF⟩ | ⟨he, hF⟩
    · subst he
      refine x_callVC (E := "java/lang/IllegalStateException") (As := [.int p1]) (rest := []) 2 12 [⟨0, 5, 6, 16⟩] ⟨0, 5, 10, 19⟩ [] (mX6_append hst p0 p1 σ n (.inr ("java/lang/IllegalStateException", s5)) h1) qyX6_append wd_188 wd_189 wd_190 hb.2 rfl rfl rfl (by decide) (Nat.le_of_ble_eq_true rfl) ⟨Nat.le_of_ble_eq_true rfl, Nat.le_of_ble_eq_true rfl⟩ dL_tryAppend_2 rfl (List.forall_mem_cons.mpr ⟨⟨by decide, _, wd_186, by decide⟩, fun _ h => absurd h List.not_mem_nil⟩) (by decide) (by decide) wd_187 cst_S rfl rfl (fun qx => ?_)
      refine x_astore_n 11 2 [(2, .ref qx), (0, .ref p0), (1, .int p1)] dL_tryAppend_10 rfl rfl (by decide) rfl ?_
      refine x_ldc 13 (-9999003 : Int32) wd_288 dL_tryAppend_11 rfl ?_
      refine x_anyn ?_
      cases hF
      exact x_iret rfl rfl (Nat.le_of_ble_eq_true rfl) (Nat.le_of_ble_eq_true rfl) dL_tryAppend_13
    cases hF
def rmL_tryLoad : Room := { frames := 7, cells := 1, slots := 6, locals := 162 }
theorem qyL_tryLoad : qYW yL_tryLoad cL_tryLoad 2 (some .int) [(0, 4, 5, 19)] 1 := ⟨wd_291, wd_16, by decide +kernel, by decide +kernel, by decide +kernel⟩
set_option maxHeartbeats 4000000 in
set_option maxRecDepth 100000 in
theorem mL_tryLoad {l : Launch} {G : qG} (hst : l.stackTraces = false) (p0 : Nat) (σ : qH) (n : Option Nat) (ro : Int32) (so : qH) (hF : FL_tryLoad (G.2.2.2.1) p0 σ = some (ro, so)) : qMW l G yL_tryLoad cL_tryLoad 2 (some .int) [(0, 4, 5, 19)] rmL_tryLoad [.ref p0] σ n (.inl (some (.int ro), so, none)) := by
  refine q_bodyW (own := RL) (nm := "tryLoad") (tab := [⟨0, 4, 5, 19⟩]) (ls := [(0, .ref p0)]) hst (by decide +kernel) rfl rfl (Nat.le_of_ble_eq_true rfl) rfl rfl rfl rfl ?_
  unfold FL_tryLoad at hF
  refine x_aload_n 1 0 dL_tryLoad_0 rfl rfl ?_
  rcases bc2_inv hF with ⟨v3, s4, h1, hF⟩ | ⟨e2, s5, h1, hF⟩
  · obtain ⟨fs, hb⟩ : ∃ fs : List Value, True ∧ σ p0 = some (.inr (4, fs)) := kX6_load h1
    refine x_callV (As := []) (rest := []) 4 1 6 (mX6_load hst p0 σ n (.inl (v3, s4)) h1) qyX6_load wd_292 wd_293 wd_294 hb.2 rfl rfl rfl (by decide) (Nat.le_of_ble_eq_true rfl) ⟨Nat.le_of_ble_eq_true rfl, Nat.le_of_ble_eq_true rfl⟩ dL_tryLoad_1 rfl rfl rfl rfl ?_
    refine x_anyn ?_
    cases hF
    exact x_iret rfl rfl (Nat.le_of_ble_eq_true rfl) (Nat.le_of_ble_eq_true rfl) dL_tryLoad_4
  · obtain ⟨fs, hb⟩ : ∃ fs : List Value, True ∧ σ p0 = some (.inr (4, fs)) := kX6_load h1
    rcases ite_inv hF with ⟨he, hF⟩ | ⟨he, hF⟩
    · subst he
      refine x_callVC (E := "java/lang/IllegalStateException") (As := []) (rest := []) 1 6 [] ⟨0, 4, 5, 19⟩ [] (mX6_load hst p0 σ n (.inr ("java/lang/IllegalStateException", s5)) h1) qyX6_load wd_292 wd_293 wd_294 hb.2 rfl rfl rfl (by decide) (Nat.le_of_ble_eq_true rfl) ⟨Nat.le_of_ble_eq_true rfl, Nat.le_of_ble_eq_true rfl⟩ dL_tryLoad_1 rfl (fun _ h => absurd h List.not_mem_nil) (by decide) (by decide) wd_187 cst_S rfl rfl (fun qx => ?_)
      refine x_astore_n 6 1 [(1, .ref qx), (0, .ref p0)] dL_tryLoad_5 rfl rfl (by decide) rfl ?_
      refine x_ldc 8 (-9999003 : Int32) wd_288 dL_tryLoad_6 rfl ?_
      refine x_anyn ?_
      cases hF
      exact x_iret rfl rfl (Nat.le_of_ble_eq_true rfl) (Nat.le_of_ble_eq_true rfl) dL_tryLoad_8
    cases hF
def rmL_tryAbout : Room := { frames := 8, cells := 1, slots := 6, locals := 123 }
theorem qyL_tryAbout : qYW yL_tryAbout cL_tryAbout 3 (some .int) [(0, 5, 6, 16)] 2 := ⟨wd_478, wd_16, by decide +kernel, by decide +kernel, by decide +kernel⟩
set_option maxHeartbeats 4000000 in
set_option maxRecDepth 100000 in
theorem mL_tryAbout {l : Launch} {G : qG} (hst : l.stackTraces = false) (p0 : Nat) (p1 : Int32) (σ : qH) (n : Option Nat) (ro : Int32) (hF : FL_tryAbout p0 p1 σ = some ro) : qMW l G yL_tryAbout cL_tryAbout 3 (some .int) [(0, 5, 6, 16)] rmL_tryAbout [.ref p0, .int p1] σ n (.inl (some (.int ro), σ, none)) := by
  refine q_bodyW (own := RL) (nm := "tryAbout") (tab := [⟨0, 5, 6, 16⟩]) (ls := [(0, .ref p0), (1, .int p1)]) hst (by decide +kernel) rfl rfl (Nat.le_of_ble_eq_true rfl) rfl rfl rfl rfl ?_
  unfold FL_tryAbout at hF
  refine x_aload_n 1 0 dL_tryAbout_0 rfl rfl ?_
  refine x_iload_n 2 1 dL_tryAbout_1 rfl rfl ?_
  rcases bc_inv hF with ⟨v3, h1, hF⟩ | ⟨e2, h1, hF⟩
  · obtain ⟨fs, hb⟩ : ∃ fs : List Value, True ∧ σ p0 = some (.inr (4, fs)) := kX6_about h1
    refine x_callV (As := [.int p1]) (rest := []) 5 1 6 (mX6_about hst p0 p1 σ n (.inl v3) h1) qyX6_about wd_479 wd_480 wd_481 hb.2 rfl rfl rfl (by decide) (Nat.le_of_ble_eq_true rfl) ⟨Nat.le_of_ble_eq_true rfl, Nat.le_of_ble_eq_true rfl⟩ dL_tryAbout_2 rfl rfl rfl rfl ?_
    refine x_anyn ?_
    cases hF
    exact x_iret rfl rfl (Nat.le_of_ble_eq_true rfl) (Nat.le_of_ble_eq_true rfl) dL_tryAbout_5
  · obtain ⟨fs, hb⟩ : ∃ fs : List Value, True ∧ σ p0 = some (.inr (4, fs)) := kX6_about h1
    rcases ite_inv hF with ⟨he, hF⟩ | ⟨he, hF⟩
    · subst he
      refine x_callVC (E := "java/lang/IllegalArgumentException") (As := [.int p1]) (rest := []) 1 6 [] ⟨0, 5, 6, 16⟩ [] (mX6_about hst p0 p1 σ n (.inr "java/lang/IllegalArgumentException") h1) qyX6_about wd_479 wd_480 wd_481 hb.2 rfl rfl rfl (by decide) (Nat.le_of_ble_eq_true rfl) ⟨Nat.le_of_ble_eq_true rfl, Nat.le_of_ble_eq_true rfl⟩ dL_tryAbout_2 rfl (fun _ h => absurd h List.not_mem_nil) (by decide) (by decide) wd_186 cst_A rfl rfl (fun qx => ?_)
      refine x_astore_n 7 2 [(2, .ref qx), (0, .ref p0), (1, .int p1)] dL_tryAbout_6 rfl rfl (by decide) rfl ?_
      refine x_ldc 9 (-9999002 : Int32) wd_287 dL_tryAbout_7 rfl ?_
      refine x_anyn ?_
      cases hF
      exact x_iret rfl rfl (Nat.le_of_ble_eq_true rfl) (Nat.le_of_ble_eq_true rfl) dL_tryAbout_9
    cases hF
def rmL_tryOf : Room := { frames := 8, cells := 2, slots := 12, locals := 125 }
theorem qyL_tryOf : qYW yL_tryOf cL_tryOf 4 (some .int) [(0, 6, 7, 13), (0, 6, 11, 16)] 3 := ⟨wd_532, wd_16, by decide +kernel, by decide +kernel, by decide +kernel⟩
set_option maxHeartbeats 4000000 in
set_option maxRecDepth 100000 in
theorem mL_tryOf {l : Launch} {G : qG} (hst : l.stackTraces = false) (p0 : Nat) (p1 : Int32) (p2 : Int32) (σ : qH) (n : Option Nat) (ro : Int32) (hF : FL_tryOf p0 p1 p2 σ = some ro) : qMW l G yL_tryOf cL_tryOf 4 (some .int) [(0, 6, 7, 13), (0, 6, 11, 16)] rmL_tryOf [.ref p0, .int p1, .int p2] σ n (.inl (some (.int ro), σ, none)) := by
  refine q_bodyW (own := RL) (nm := "tryOf") (tab := [⟨0, 6, 7, 13⟩, ⟨0, 6, 11, 16⟩]) (ls := [(0, .ref p0), (1, .int p1), (2, .int p2)]) hst (by decide +kernel) rfl rfl (Nat.le_of_ble_eq_true rfl) rfl rfl rfl rfl ?_
  unfold FL_tryOf at hF
  refine x_aload_n 1 0 dL_tryOf_0 rfl rfl ?_
  refine x_iload_n 2 1 dL_tryOf_1 rfl rfl ?_
  refine x_iload_n 3 2 dL_tryOf_2 rfl rfl ?_
  rcases bc_inv hF with ⟨v3, h1, hF⟩ | ⟨e2, h1, hF⟩
  · obtain ⟨fs, hb⟩ : ∃ fs : List Value, True ∧ σ p0 = some (.inr (4, fs)) := kX6_measureOf h1
    refine x_callV (As := [.int p1, .int p2]) (rest := []) 6 2 12 (mX6_measureOf hst p0 p1 p2 σ n (.inl v3) h1) qyX6_measureOf wd_534 wd_535 wd_536 hb.2 rfl rfl rfl (by decide) (Nat.le_of_ble_eq_true rfl) ⟨Nat.le_of_ble_eq_true rfl, Nat.le_of_ble_eq_true rfl⟩ dL_tryOf_3 rfl rfl rfl rfl ?_
    refine x_anyn ?_
    cases hF
    exact x_iret rfl rfl (Nat.le_of_ble_eq_true rfl) (Nat.le_of_ble_eq_true rfl) dL_tryOf_6
  · obtain ⟨fs, hb⟩ : ∃ fs : List Value, True ∧ σ p0 = some (.inr (4, fs)) := kX6_measureOf h1
    rcases ite_inv hF with ⟨he, hF⟩ | ⟨he, hF⟩
    · subst he
      refine x_callVC (E := "java/lang/IndexOutOfBoundsException") (As := [.int p1, .int p2]) (rest := []) 2 12 [] ⟨0, 6, 7, 13⟩ [⟨0, 6, 11, 16⟩] (mX6_measureOf hst p0 p1 p2 σ n (.inr "java/lang/IndexOutOfBoundsException") h1) qyX6_measureOf wd_534 wd_535 wd_536 hb.2 rfl rfl rfl (by decide) (Nat.le_of_ble_eq_true rfl) ⟨Nat.le_of_ble_eq_true rfl, Nat.le_of_ble_eq_true rfl⟩ dL_tryOf_3 rfl (fun _ h => absurd h List.not_mem_nil) (by decide) (by decide) wd_533 cst_I rfl rfl (fun qx => ?_)
      refine x_astore_n 8 3 [(3, .ref qx), (0, .ref p0), (1, .int p1), (2, .int p2)] dL_tryOf_7 rfl rfl (by decide) rfl ?_
      refine x_ldc 10 (-9999001 : Int32) wd_565 dL_tryOf_8 rfl ?_
      refine x_anyn ?_
      cases hF
      exact x_iret rfl rfl (Nat.le_of_ble_eq_true rfl) (Nat.le_of_ble_eq_true rfl) dL_tryOf_10
    rcases ite_inv hF with ⟨he, hF⟩ | ⟨he, hF⟩
    · subst he
      refine x_callVC (E := "java/lang/IllegalArgumentException") (As := [.int p1, .int p2]) (rest := []) 2 12 [⟨0, 6, 7, 13⟩] ⟨0, 6, 11, 16⟩ [] (mX6_measureOf hst p0 p1 p2 σ n (.inr "java/lang/IllegalArgumentException") h1) qyX6_measureOf wd_534 wd_535 wd_536 hb.2 rfl rfl rfl (by decide) (Nat.le_of_ble_eq_true rfl) ⟨Nat.le_of_ble_eq_true rfl, Nat.le_of_ble_eq_true rfl⟩ dL_tryOf_3 rfl (List.forall_mem_cons.mpr ⟨⟨by decide, _, wd_533, by decide⟩, fun _ h => absurd h List.not_mem_nil⟩) (by decide) (by decide) wd_186 cst_A rfl rfl (fun qx => ?_)
      refine x_astore_n 12 3 [(3, .ref qx), (0, .ref p0), (1, .int p1), (2, .int p2)] dL_tryOf_11 rfl rfl (by decide) rfl ?_
      refine x_ldc 14 (-9999002 : Int32) wd_287 dL_tryOf_12 rfl ?_
      refine x_anyn ?_
      cases hF
      exact x_iret rfl rfl (Nat.le_of_ble_eq_true rfl) (Nat.le_of_ble_eq_true rfl) dL_tryOf_14
    cases hF
def rmL_tryTeller : Room := { frames := 8, cells := 2, slots := 12, locals := 136 }
theorem qyL_tryTeller : qYW yL_tryTeller cL_tryTeller 4 (some .int) [(0, 6, 7, 13), (0, 6, 11, 16)] 3 := ⟨wd_568, wd_16, by decide +kernel, by decide +kernel, by decide +kernel⟩
set_option maxHeartbeats 4000000 in
set_option maxRecDepth 100000 in
theorem mL_tryTeller {l : Launch} {G : qG} (hst : l.stackTraces = false) (p0 : Nat) (p1 : Int32) (p2 : Int32) (σ : qH) (n : Option Nat) (ro : Int32) (hF : FL_tryTeller p0 p1 p2 σ = some ro) : qMW l G yL_tryTeller cL_tryTeller 4 (some .int) [(0, 6, 7, 13), (0, 6, 11, 16)] rmL_tryTeller [.ref p0, .int p1, .int p2] σ n (.inl (some (.int ro), σ, none)) := by
  refine q_bodyW (own := RL) (nm := "tryTeller") (tab := [⟨0, 6, 7, 13⟩, ⟨0, 6, 11, 16⟩]) (ls := [(0, .ref p0), (1, .int p1), (2, .int p2)]) hst (by decide +kernel) rfl rfl (Nat.le_of_ble_eq_true rfl) rfl rfl rfl rfl ?_
  unfold FL_tryTeller at hF
  refine x_aload_n 1 0 dL_tryTeller_0 rfl rfl ?_
  refine x_iload_n 2 1 dL_tryTeller_1 rfl rfl ?_
  refine x_iload_n 3 2 dL_tryTeller_2 rfl rfl ?_
  rcases bc_inv hF with ⟨v3, h1, hF⟩ | ⟨e2, h1, hF⟩
  · obtain ⟨fs, hb⟩ : ∃ fs : List Value, True ∧ σ p0 = some (.inr (4, fs)) := kX6_tellerOf h1
    refine x_callV (As := [.int p1, .int p2]) (rest := []) 6 2 12 (mX6_tellerOf hst p0 p1 p2 σ n (.inl v3) h1) qyX6_tellerOf wd_569 wd_570 wd_571 hb.2 rfl rfl rfl (by decide) (Nat.le_of_ble_eq_true rfl) ⟨Nat.le_of_ble_eq_true rfl, Nat.le_of_ble_eq_true rfl⟩ dL_tryTeller_3 rfl rfl rfl rfl ?_
    refine x_anyn ?_
    cases hF
    exact x_iret rfl rfl (Nat.le_of_ble_eq_true rfl) (Nat.le_of_ble_eq_true rfl) dL_tryTeller_6
  · obtain ⟨fs, hb⟩ : ∃ fs : List Value, True ∧ σ p0 = some (.inr (4, fs)) := kX6_tellerOf h1
    rcases ite_inv hF with ⟨he, hF⟩ | ⟨he, hF⟩
    · subst he
      refine x_callVC (E := "java/lang/IndexOutOfBoundsException") (As := [.int p1, .int p2]) (rest := []) 2 12 [] ⟨0, 6, 7, 13⟩ [⟨0, 6, 11, 16⟩] (mX6_tellerOf hst p0 p1 p2 σ n (.inr "java/lang/IndexOutOfBoundsException") h1) qyX6_tellerOf wd_569 wd_570 wd_571 hb.2 rfl rfl rfl (by decide) (Nat.le_of_ble_eq_true rfl) ⟨Nat.le_of_ble_eq_true rfl, Nat.le_of_ble_eq_true rfl⟩ dL_tryTeller_3 rfl (fun _ h => absurd h List.not_mem_nil) (by decide) (by decide) wd_533 cst_I rfl rfl (fun qx => ?_)
      refine x_astore_n 8 3 [(3, .ref qx), (0, .ref p0), (1, .int p1), (2, .int p2)] dL_tryTeller_7 rfl rfl (by decide) rfl ?_
      refine x_ldc 10 (-9999001 : Int32) wd_565 dL_tryTeller_8 rfl ?_
      refine x_anyn ?_
      cases hF
      exact x_iret rfl rfl (Nat.le_of_ble_eq_true rfl) (Nat.le_of_ble_eq_true rfl) dL_tryTeller_10
    rcases ite_inv hF with ⟨he, hF⟩ | ⟨he, hF⟩
    · subst he
      refine x_callVC (E := "java/lang/IllegalArgumentException") (As := [.int p1, .int p2]) (rest := []) 2 12 [⟨0, 6, 7, 13⟩] ⟨0, 6, 11, 16⟩ [] (mX6_tellerOf hst p0 p1 p2 σ n (.inr "java/lang/IllegalArgumentException") h1) qyX6_tellerOf wd_569 wd_570 wd_571 hb.2 rfl rfl rfl (by decide) (Nat.le_of_ble_eq_true rfl) ⟨Nat.le_of_ble_eq_true rfl, Nat.le_of_ble_eq_true rfl⟩ dL_tryTeller_3 rfl (List.forall_mem_cons.mpr ⟨⟨by decide, _, wd_533, by decide⟩, fun _ h => absurd h List.not_mem_nil⟩) (by decide) (by decide) wd_186 cst_A rfl rfl (fun qx => ?_)
      refine x_astore_n 12 3 [(3, .ref qx), (0, .ref p0), (1, .int p1), (2, .int p2)] dL_tryTeller_11 rfl rfl (by decide) rfl ?_
      refine x_ldc 14 (-9999002 : Int32) wd_287 dL_tryTeller_12 rfl ?_
      refine x_anyn ?_
      cases hF
      exact x_iret rfl rfl (Nat.le_of_ble_eq_true rfl) (Nat.le_of_ble_eq_true rfl) dL_tryTeller_14
    cases hF
def rmL_trySteeple : Room := { frames := 8, cells := 2, slots := 12, locals := 124 }
theorem qyL_trySteeple : qYW yL_trySteeple cL_trySteeple 4 (some .int) [(0, 6, 7, 13), (0, 6, 11, 16)] 3 := ⟨wd_601, wd_16, by decide +kernel, by decide +kernel, by decide +kernel⟩
set_option maxHeartbeats 4000000 in
set_option maxRecDepth 100000 in
theorem mL_trySteeple {l : Launch} {G : qG} (hst : l.stackTraces = false) (p0 : Nat) (p1 : Int32) (p2 : Int32) (σ : qH) (n : Option Nat) (ro : Int32) (hF : FL_trySteeple p0 p1 p2 σ = some ro) : qMW l G yL_trySteeple cL_trySteeple 4 (some .int) [(0, 6, 7, 13), (0, 6, 11, 16)] rmL_trySteeple [.ref p0, .int p1, .int p2] σ n (.inl (some (.int ro), σ, none)) := by
  refine q_bodyW (own := RL) (nm := "trySteeple") (tab := [⟨0, 6, 7, 13⟩, ⟨0, 6, 11, 16⟩]) (ls := [(0, .ref p0), (1, .int p1), (2, .int p2)]) hst (by decide +kernel) rfl rfl (Nat.le_of_ble_eq_true rfl) rfl rfl rfl rfl ?_
  unfold FL_trySteeple at hF
  refine x_aload_n 1 0 dL_trySteeple_0 rfl rfl ?_
  refine x_iload_n 2 1 dL_trySteeple_1 rfl rfl ?_
  refine x_iload_n 3 2 dL_trySteeple_2 rfl rfl ?_
  rcases bc_inv hF with ⟨v3, h1, hF⟩ | ⟨e2, h1, hF⟩
  · obtain ⟨fs, hb⟩ : ∃ fs : List Value, True ∧ σ p0 = some (.inr (4, fs)) := kX6_steepleOf h1
    refine x_callV (As := [.int p1, .int p2]) (rest := []) 6 2 12 (mX6_steepleOf hst p0 p1 p2 σ n (.inl v3) h1) qyX6_steepleOf wd_602 wd_603 wd_604 hb.2 rfl rfl rfl (by decide) (Nat.le_of_ble_eq_true rfl) ⟨Nat.le_of_ble_eq_true rfl, Nat.le_of_ble_eq_true rfl⟩ dL_trySteeple_3 rfl rfl rfl rfl ?_
    refine x_anyn ?_
    cases hF
    exact x_iret rfl rfl (Nat.le_of_ble_eq_true rfl) (Nat.le_of_ble_eq_true rfl) dL_trySteeple_6
  · obtain ⟨fs, hb⟩ : ∃ fs : List Value, True ∧ σ p0 = some (.inr (4, fs)) := kX6_steepleOf h1
    rcases ite_inv hF with ⟨he, hF⟩ | ⟨he, hF⟩
    · subst he
      refine x_callVC (E := "java/lang/IndexOutOfBoundsException") (As := [.int p1, .int p2]) (rest := []) 2 12 [] ⟨0, 6, 7, 13⟩ [⟨0, 6, 11, 16⟩] (mX6_steepleOf hst p0 p1 p2 σ n (.inr "java/lang/IndexOutOfBoundsException") h1) qyX6_steepleOf wd_602 wd_603 wd_604 hb.2 rfl rfl rfl (by decide) (Nat.le_of_ble_eq_true rfl) ⟨Nat.le_of_ble_eq_true rfl, Nat.le_of_ble_eq_true rfl⟩ dL_trySteeple_3 rfl (fun _ h => absurd h List.not_mem_nil) (by decide) (by decide) wd_533 cst_I rfl rfl (fun qx => ?_)
      refine x_astore_n 8 3 [(3, .ref qx), (0, .ref p0), (1, .int p1), (2, .int p2)] dL_trySteeple_7 rfl rfl (by decide) rfl ?_
      refine x_ldc 10 (-9999001 : Int32) wd_565 dL_trySteeple_8 rfl ?_
      refine x_anyn ?_
      cases hF
      exact x_iret rfl rfl (Nat.le_of_ble_eq_true rfl) (Nat.le_of_ble_eq_true rfl) dL_trySteeple_10
    rcases ite_inv hF with ⟨he, hF⟩ | ⟨he, hF⟩
    · subst he
      refine x_callVC (E := "java/lang/IllegalArgumentException") (As := [.int p1, .int p2]) (rest := []) 2 12 [⟨0, 6, 7, 13⟩] ⟨0, 6, 11, 16⟩ [] (mX6_steepleOf hst p0 p1 p2 σ n (.inr "java/lang/IllegalArgumentException") h1) qyX6_steepleOf wd_602 wd_603 wd_604 hb.2 rfl rfl rfl (by decide) (Nat.le_of_ble_eq_true rfl) ⟨Nat.le_of_ble_eq_true rfl, Nat.le_of_ble_eq_true rfl⟩ dL_trySteeple_3 rfl (List.forall_mem_cons.mpr ⟨⟨by decide, _, wd_533, by decide⟩, fun _ h => absurd h List.not_mem_nil⟩) (by decide) (by decide) wd_186 cst_A rfl rfl (fun qx => ?_)
      refine x_astore_n 12 3 [(3, .ref qx), (0, .ref p0), (1, .int p1), (2, .int p2)] dL_trySteeple_11 rfl rfl (by decide) rfl ?_
      refine x_ldc 14 (-9999002 : Int32) wd_287 dL_trySteeple_12 rfl ?_
      refine x_anyn ?_
      cases hF
      exact x_iret rfl rfl (Nat.le_of_ble_eq_true rfl) (Nat.le_of_ble_eq_true rfl) dL_trySteeple_14
    cases hF
def rmL_tryVote : Room := { frames := 8, cells := 2, slots := 12, locals := 124 }
theorem qyL_tryVote : qYW yL_tryVote cL_tryVote 4 (some .int) [(0, 6, 7, 13), (0, 6, 11, 16)] 3 := ⟨wd_625, wd_16, by decide +kernel, by decide +kernel, by decide +kernel⟩
set_option maxHeartbeats 4000000 in
set_option maxRecDepth 100000 in
theorem mL_tryVote {l : Launch} {G : qG} (hst : l.stackTraces = false) (p0 : Nat) (p1 : Int32) (p2 : Int32) (σ : qH) (n : Option Nat) (ro : Int32) (hF : FL_tryVote p0 p1 p2 σ = some ro) : qMW l G yL_tryVote cL_tryVote 4 (some .int) [(0, 6, 7, 13), (0, 6, 11, 16)] rmL_tryVote [.ref p0, .int p1, .int p2] σ n (.inl (some (.int ro), σ, none)) := by
  refine q_bodyW (own := RL) (nm := "tryVote") (tab := [⟨0, 6, 7, 13⟩, ⟨0, 6, 11, 16⟩]) (ls := [(0, .ref p0), (1, .int p1), (2, .int p2)]) hst (by decide +kernel) rfl rfl (Nat.le_of_ble_eq_true rfl) rfl rfl rfl rfl ?_
  unfold FL_tryVote at hF
  refine x_aload_n 1 0 dL_tryVote_0 rfl rfl ?_
  refine x_iload_n 2 1 dL_tryVote_1 rfl rfl ?_
  refine x_iload_n 3 2 dL_tryVote_2 rfl rfl ?_
  rcases bc_inv hF with ⟨v3, h1, hF⟩ | ⟨e2, h1, hF⟩
  · obtain ⟨fs, hb⟩ : ∃ fs : List Value, True ∧ σ p0 = some (.inr (4, fs)) := kX6_vote h1
    refine x_callV (As := [.int p1, .int p2]) (rest := []) 6 2 12 (mX6_vote hst p0 p1 p2 σ n (.inl v3) h1) qyX6_vote wd_626 wd_627 wd_628 hb.2 rfl rfl rfl (by decide) (Nat.le_of_ble_eq_true rfl) ⟨Nat.le_of_ble_eq_true rfl, Nat.le_of_ble_eq_true rfl⟩ dL_tryVote_3 rfl rfl rfl rfl ?_
    refine x_anyn ?_
    cases hF
    exact x_iret rfl rfl (Nat.le_of_ble_eq_true rfl) (Nat.le_of_ble_eq_true rfl) dL_tryVote_6
  · obtain ⟨fs, hb⟩ : ∃ fs : List Value, True ∧ σ p0 = some (.inr (4, fs)) := kX6_vote h1
    rcases ite_inv hF with ⟨he, hF⟩ | ⟨he, hF⟩
    · subst he
      refine x_callVC (E := "java/lang/IndexOutOfBoundsException") (As := [.int p1, .int p2]) (rest := []) 2 12 [] ⟨0, 6, 7, 13⟩ [⟨0, 6, 11, 16⟩] (mX6_vote hst p0 p1 p2 σ n (.inr "java/lang/IndexOutOfBoundsException") h1) qyX6_vote wd_626 wd_627 wd_628 hb.2 rfl rfl rfl (by decide) (Nat.le_of_ble_eq_true rfl) ⟨Nat.le_of_ble_eq_true rfl, Nat.le_of_ble_eq_true rfl⟩ dL_tryVote_3 rfl (fun _ h => absurd h List.not_mem_nil) (by decide) (by decide) wd_533 cst_I rfl rfl (fun qx => ?_)
      refine x_astore_n 8 3 [(3, .ref qx), (0, .ref p0), (1, .int p1), (2, .int p2)] dL_tryVote_7 rfl rfl (by decide) rfl ?_
      refine x_ldc 10 (-9999001 : Int32) wd_565 dL_tryVote_8 rfl ?_
      refine x_anyn ?_
      cases hF
      exact x_iret rfl rfl (Nat.le_of_ble_eq_true rfl) (Nat.le_of_ble_eq_true rfl) dL_tryVote_10
    rcases ite_inv hF with ⟨he, hF⟩ | ⟨he, hF⟩
    · subst he
      refine x_callVC (E := "java/lang/IllegalArgumentException") (As := [.int p1, .int p2]) (rest := []) 2 12 [⟨0, 6, 7, 13⟩] ⟨0, 6, 11, 16⟩ [] (mX6_vote hst p0 p1 p2 σ n (.inr "java/lang/IllegalArgumentException") h1) qyX6_vote wd_626 wd_627 wd_628 hb.2 rfl rfl rfl (by decide) (Nat.le_of_ble_eq_true rfl) ⟨Nat.le_of_ble_eq_true rfl, Nat.le_of_ble_eq_true rfl⟩ dL_tryVote_3 rfl (List.forall_mem_cons.mpr ⟨⟨by decide, _, wd_533, by decide⟩, fun _ h => absurd h List.not_mem_nil⟩) (by decide) (by decide) wd_186 cst_A rfl rfl (fun qx => ?_)
      refine x_astore_n 12 3 [(3, .ref qx), (0, .ref p0), (1, .int p1), (2, .int p2)] dL_tryVote_11 rfl rfl (by decide) rfl ?_
      refine x_ldc 14 (-9999002 : Int32) wd_287 dL_tryVote_12 rfl ?_
      refine x_anyn ?_
      cases hF
      exact x_iret rfl rfl (Nat.le_of_ble_eq_true rfl) (Nat.le_of_ble_eq_true rfl) dL_tryVote_14
    cases hF
def rmL_tryBest : Room := { frames := 8, cells := 2, slots := 12, locals := 125 }
theorem qyL_tryBest : qYW yL_tryBest cL_tryBest 5 (some .int) [(0, 7, 8, 13), (0, 7, 13, 16)] 4 := ⟨wd_637, wd_16, by decide +kernel, by decide +kernel, by decide +kernel⟩
set_option maxHeartbeats 4000000 in
set_option maxRecDepth 100000 in
theorem mL_tryBest {l : Launch} {G : qG} (hst : l.stackTraces = false) (p0 : Nat) (p1 : Int32) (p2 : Int32) (p3 : Int32) (σ : qH) (n : Option Nat) (ro : Int32) (so : qH) (hF : FL_tryBest p0 p1 p2 p3 σ = some (ro, so)) : qMW l G yL_tryBest cL_tryBest 5 (some .int) [(0, 7, 8, 13), (0, 7, 13, 16)] rmL_tryBest [.ref p0, .int p1, .int p2, .int p3] σ n (.inl (some (.int ro), so, none)) := by
  refine q_bodyW (own := RL) (nm := "tryBest") (tab := [⟨0, 7, 8, 13⟩, ⟨0, 7, 13, 16⟩]) (ls := [(0, .ref p0), (1, .int p1), (2, .int p2), (3, .int p3)]) hst (by decide +kernel) rfl rfl (Nat.le_of_ble_eq_true rfl) rfl rfl rfl rfl ?_
  unfold FL_tryBest at hF
  refine x_aload_n 1 0 dL_tryBest_0 rfl rfl ?_
  refine x_iload_n 2 1 dL_tryBest_1 rfl rfl ?_
  refine x_iload_n 3 2 dL_tryBest_2 rfl rfl ?_
  refine x_iload_n 4 3 dL_tryBest_3 rfl rfl ?_
  rcases bc2_inv hF with ⟨v3, s4, h1, hF⟩ | ⟨e2, s5, h1, hF⟩
  · obtain ⟨fs, hb⟩ : ∃ fs : List Value, True ∧ σ p0 = some (.inr (4, fs)) := kX6_best h1
    refine x_callV (As := [.int p1, .int p2, .int p3]) (rest := []) 7 2 12 (mX6_best hst p0 p1 p2 p3 σ n (.inl (v3, s4)) h1) qyX6_best wd_638 wd_639 wd_640 hb.2 rfl rfl rfl (by decide) (Nat.le_of_ble_eq_true rfl) ⟨Nat.le_of_ble_eq_true rfl, Nat.le_of_ble_eq_true rfl⟩ dL_tryBest_4 rfl rfl rfl rfl ?_
    refine x_anyn ?_
    cases hF
    exact x_iret rfl rfl (Nat.le_of_ble_eq_true rfl) (Nat.le_of_ble_eq_true rfl) dL_tryBest_7
  · obtain ⟨fs, hb⟩ : ∃ fs : List Value, True ∧ σ p0 = some (.inr (4, fs)) := kX6_best h1
    rcases ite_inv hF with ⟨he, hF⟩ | ⟨he, hF⟩
    · subst he
      refine x_callVC (E := "java/lang/IndexOutOfBoundsException") (As := [.int p1, .int p2, .int p3]) (rest := []) 2 12 [] ⟨0, 7, 8, 13⟩ [⟨0, 7, 13, 16⟩] (mX6_best hst p0 p1 p2 p3 σ n (.inr ("java/lang/IndexOutOfBoundsException", s5)) h1) qyX6_best wd_638 wd_639 wd_640 hb.2 rfl rfl rfl (by decide) (Nat.le_of_ble_eq_true rfl) ⟨Nat.le_of_ble_eq_true rfl, Nat.le_of_ble_eq_true rfl⟩ dL_tryBest_4 rfl (fun _ h => absurd h List.not_mem_nil) (by decide) (by decide) wd_533 cst_I rfl rfl (fun qx => ?_)
      refine x_astore 10 4 [(4, .ref qx), (0, .ref p0), (1, .int p1), (2, .int p2), (3, .int p3)] dL_tryBest_8 rfl (by decide) rfl ?_
      refine x_ldc 12 (-9999001 : Int32) wd_565 dL_tryBest_10 rfl ?_
      refine x_anyn ?_
      cases hF
      exact x_iret rfl rfl (Nat.le_of_ble_eq_true rfl) (Nat.le_of_ble_eq_true rfl) dL_tryBest_12
    rcases ite_inv hF with ⟨he, hF⟩ | ⟨he, hF⟩
    · subst he
      refine x_callVC (E := "java/lang/IllegalArgumentException") (As := [.int p1, .int p2, .int p3]) (rest := []) 2 12 [⟨0, 7, 8, 13⟩] ⟨0, 7, 13, 16⟩ [] (mX6_best hst p0 p1 p2 p3 σ n (.inr ("java/lang/IllegalArgumentException", s5)) h1) qyX6_best wd_638 wd_639 wd_640 hb.2 rfl rfl rfl (by decide) (Nat.le_of_ble_eq_true rfl) ⟨Nat.le_of_ble_eq_true rfl, Nat.le_of_ble_eq_true rfl⟩ dL_tryBest_4 rfl (List.forall_mem_cons.mpr ⟨⟨by decide, _, wd_533, by decide⟩, fun _ h => absurd h List.not_mem_nil⟩) (by decide) (by decide) wd_186 cst_A rfl rfl (fun qx => ?_)
      refine x_astore 15 4 [(4, .ref qx), (0, .ref p0), (1, .int p1), (2, .int p2), (3, .int p3)] dL_tryBest_13 rfl (by decide) rfl ?_
      refine x_ldc 17 (-9999002 : Int32) wd_287 dL_tryBest_15 rfl ?_
      refine x_anyn ?_
      cases hF
      exact x_iret rfl rfl (Nat.le_of_ble_eq_true rfl) (Nat.le_of_ble_eq_true rfl) dL_tryBest_17
    cases hF
def rmL_trySetting : Room := { frames := 8, cells := 1, slots := 6, locals := 123 }
theorem qyL_trySetting : qYW yL_trySetting cL_trySetting 3 (some .int) [(0, 5, 6, 16)] 2 := ⟨wd_670, wd_16, by decide +kernel, by decide +kernel, by decide +kernel⟩
set_option maxHeartbeats 4000000 in
set_option maxRecDepth 100000 in
theorem mL_trySetting {l : Launch} {G : qG} (hst : l.stackTraces = false) (p0 : Nat) (p1 : Int32) (σ : qH) (n : Option Nat) (ro : Int32) (hF : FL_trySetting p0 p1 σ = some ro) : qMW l G yL_trySetting cL_trySetting 3 (some .int) [(0, 5, 6, 16)] rmL_trySetting [.ref p0, .int p1] σ n (.inl (some (.int ro), σ, none)) := by
  refine q_bodyW (own := RL) (nm := "trySetting") (tab := [⟨0, 5, 6, 16⟩]) (ls := [(0, .ref p0), (1, .int p1)]) hst (by decide +kernel) rfl rfl (Nat.le_of_ble_eq_true rfl) rfl rfl rfl rfl ?_
  unfold FL_trySetting at hF
  refine x_aload_n 1 0 dL_trySetting_0 rfl rfl ?_
  refine x_iload_n 2 1 dL_trySetting_1 rfl rfl ?_
  rcases bc_inv hF with ⟨v3, h1, hF⟩ | ⟨e2, h1, hF⟩
  · obtain ⟨fs, hb⟩ : ∃ fs : List Value, True ∧ σ p0 = some (.inr (4, fs)) := kX6_setting h1
    refine x_callV (As := [.int p1]) (rest := []) 5 1 6 (mX6_setting hst p0 p1 σ n (.inl v3) h1) qyX6_setting wd_671 wd_672 wd_673 hb.2 rfl rfl rfl (by decide) (Nat.le_of_ble_eq_true rfl) ⟨Nat.le_of_ble_eq_true rfl, Nat.le_of_ble_eq_true rfl⟩ dL_trySetting_2 rfl rfl rfl rfl ?_
    refine x_anyn ?_
    cases hF
    exact x_iret rfl rfl (Nat.le_of_ble_eq_true rfl) (Nat.le_of_ble_eq_true rfl) dL_trySetting_5
  · obtain ⟨fs, hb⟩ : ∃ fs : List Value, True ∧ σ p0 = some (.inr (4, fs)) := kX6_setting h1
    rcases ite_inv hF with ⟨he, hF⟩ | ⟨he, hF⟩
    · subst he
      refine x_callVC (E := "java/lang/IllegalArgumentException") (As := [.int p1]) (rest := []) 1 6 [] ⟨0, 5, 6, 16⟩ [] (mX6_setting hst p0 p1 σ n (.inr "java/lang/IllegalArgumentException") h1) qyX6_setting wd_671 wd_672 wd_673 hb.2 rfl rfl rfl (by decide) (Nat.le_of_ble_eq_true rfl) ⟨Nat.le_of_ble_eq_true rfl, Nat.le_of_ble_eq_true rfl⟩ dL_trySetting_2 rfl (fun _ h => absurd h List.not_mem_nil) (by decide) (by decide) wd_186 cst_A rfl rfl (fun qx => ?_)
      refine x_astore_n 7 2 [(2, .ref qx), (0, .ref p0), (1, .int p1)] dL_trySetting_6 rfl rfl (by decide) rfl ?_
      refine x_ldc 9 (-9999002 : Int32) wd_287 dL_trySetting_7 rfl ?_
      refine x_anyn ?_
      cases hF
      exact x_iret rfl rfl (Nat.le_of_ble_eq_true rfl) (Nat.le_of_ble_eq_true rfl) dL_trySetting_9
    cases hF
def rmL_tryDrop : Room := { frames := 8, cells := 1, slots := 6, locals := 124 }
theorem qyL_tryDrop : qYW yL_tryDrop cL_tryDrop 3 (some .int) [(0, 5, 6, 13)] 2 := ⟨wd_684, wd_16, by decide +kernel, by decide +kernel, by decide +kernel⟩
set_option maxHeartbeats 4000000 in
set_option maxRecDepth 100000 in
theorem mL_tryDrop {l : Launch} {G : qG} (hst : l.stackTraces = false) (p0 : Nat) (p1 : Int32) (σ : qH) (n : Option Nat) (ro : Int32) (so : qH) (hF : FL_tryDrop p0 p1 σ = some (ro, so)) : qMW l G yL_tryDrop cL_tryDrop 3 (some .int) [(0, 5, 6, 13)] rmL_tryDrop [.ref p0, .int p1] σ n (.inl (some (.int ro), so, none)) := by
  refine q_bodyW (own := RL) (nm := "tryDrop") (tab := [⟨0, 5, 6, 13⟩]) (ls := [(0, .ref p0), (1, .int p1)]) hst (by decide +kernel) rfl rfl (Nat.le_of_ble_eq_true rfl) rfl rfl rfl rfl ?_
  unfold FL_tryDrop at hF
  refine x_aload_n 1 0 dL_tryDrop_0 rfl rfl ?_
  refine x_iload_n 2 1 dL_tryDrop_1 rfl rfl ?_
  rcases bc2_inv hF with ⟨v3, s4, h1, hF⟩ | ⟨e2, s5, h1, hF⟩
  · obtain ⟨fs, hb⟩ : ∃ fs : List Value, True ∧ σ p0 = some (.inr (4, fs)) := kX6_drop h1
    refine x_callV (As := [.int p1]) (rest := []) 5 1 6 (mX6_drop hst p0 p1 σ n (.inl (v3, s4)) h1) qyX6_drop wd_685 wd_686 wd_687 hb.2 rfl rfl rfl (by decide) (Nat.le_of_ble_eq_true rfl) ⟨Nat.le_of_ble_eq_true rfl, Nat.le_of_ble_eq_true rfl⟩ dL_tryDrop_2 rfl rfl rfl rfl ?_
    refine x_anyn ?_
    cases hF
    exact x_iret rfl rfl (Nat.le_of_ble_eq_true rfl) (Nat.le_of_ble_eq_true rfl) dL_tryDrop_5
  · obtain ⟨fs, hb⟩ : ∃ fs : List Value, True ∧ σ p0 = some (.inr (4, fs)) := kX6_drop h1
    rcases ite_inv hF with ⟨he, hF⟩ | ⟨he, hF⟩
    · subst he
      refine x_callVC (E := "java/lang/IndexOutOfBoundsException") (As := [.int p1]) (rest := []) 1 6 [] ⟨0, 5, 6, 13⟩ [] (mX6_drop hst p0 p1 σ n (.inr ("java/lang/IndexOutOfBoundsException", s5)) h1) qyX6_drop wd_685 wd_686 wd_687 hb.2 rfl rfl rfl (by decide) (Nat.le_of_ble_eq_true rfl) ⟨Nat.le_of_ble_eq_true rfl, Nat.le_of_ble_eq_true rfl⟩ dL_tryDrop_2 rfl (fun _ h => absurd h List.not_mem_nil) (by decide) (by decide) wd_533 cst_I rfl rfl (fun qx => ?_)
      refine x_astore_n 7 2 [(2, .ref qx), (0, .ref p0), (1, .int p1)] dL_tryDrop_6 rfl rfl (by decide) rfl ?_
      refine x_ldc 9 (-9999001 : Int32) wd_565 dL_tryDrop_7 rfl ?_
      refine x_anyn ?_
      cases hF
      exact x_iret rfl rfl (Nat.le_of_ble_eq_true rfl) (Nat.le_of_ble_eq_true rfl) dL_tryDrop_9
    cases hF
def rmL_tryTrust : Room := { frames := 8, cells := 2, slots := 12, locals := 124 }
theorem qyL_tryTrust : qYW yL_tryTrust cL_tryTrust 4 (some .int) [(0, 6, 7, 13), (0, 6, 11, 16)] 3 := ⟨wd_701, wd_16, by decide +kernel, by decide +kernel, by decide +kernel⟩
set_option maxHeartbeats 4000000 in
set_option maxRecDepth 100000 in
theorem mL_tryTrust {l : Launch} {G : qG} (hst : l.stackTraces = false) (p0 : Nat) (p1 : Int32) (p2 : Int32) (σ : qH) (n : Option Nat) (ro : Int32) (so : qH) (hF : FL_tryTrust p0 p1 p2 σ = some (ro, so)) : qMW l G yL_tryTrust cL_tryTrust 4 (some .int) [(0, 6, 7, 13), (0, 6, 11, 16)] rmL_tryTrust [.ref p0, .int p1, .int p2] σ n (.inl (some (.int ro), so, none)) := by
  refine q_bodyW (own := RL) (nm := "tryTrust") (tab := [⟨0, 6, 7, 13⟩, ⟨0, 6, 11, 16⟩]) (ls := [(0, .ref p0), (1, .int p1), (2, .int p2)]) hst (by decide +kernel) rfl rfl (Nat.le_of_ble_eq_true rfl) rfl rfl rfl rfl ?_
  unfold FL_tryTrust at hF
  refine x_aload_n 1 0 dL_tryTrust_0 rfl rfl ?_
  refine x_iload_n 2 1 dL_tryTrust_1 rfl rfl ?_
  refine x_iload_n 3 2 dL_tryTrust_2 rfl rfl ?_
  rcases bc2_inv hF with ⟨v3, s4, h1, hF⟩ | ⟨e2, s5, h1, hF⟩
  · obtain ⟨fs, hb⟩ : ∃ fs : List Value, True ∧ σ p0 = some (.inr (4, fs)) := kX6_trust h1
    refine x_callV (As := [.int p1, .int p2]) (rest := []) 6 2 12 (mX6_trust hst p0 p1 p2 σ n (.inl (v3, s4)) h1) qyX6_trust wd_702 wd_703 wd_704 hb.2 rfl rfl rfl (by decide) (Nat.le_of_ble_eq_true rfl) ⟨Nat.le_of_ble_eq_true rfl, Nat.le_of_ble_eq_true rfl⟩ dL_tryTrust_3 rfl rfl rfl rfl ?_
    refine x_anyn ?_
    cases hF
    exact x_iret rfl rfl (Nat.le_of_ble_eq_true rfl) (Nat.le_of_ble_eq_true rfl) dL_tryTrust_6
  · obtain ⟨fs, hb⟩ : ∃ fs : List Value, True ∧ σ p0 = some (.inr (4, fs)) := kX6_trust h1
    rcases ite_inv hF with ⟨he, hF⟩ | ⟨he, hF⟩
    · subst he
      refine x_callVC (E := "java/lang/IndexOutOfBoundsException") (As := [.int p1, .int p2]) (rest := []) 2 12 [] ⟨0, 6, 7, 13⟩ [⟨0, 6, 11, 16⟩] (mX6_trust hst p0 p1 p2 σ n (.inr ("java/lang/IndexOutOfBoundsException", s5)) h1) qyX6_trust wd_702 wd_703 wd_704 hb.2 rfl rfl rfl (by decide) (Nat.le_of_ble_eq_true rfl) ⟨Nat.le_of_ble_eq_true rfl, Nat.le_of_ble_eq_true rfl⟩ dL_tryTrust_3 rfl (fun _ h => absurd h List.not_mem_nil) (by decide) (by decide) wd_533 cst_I rfl rfl (fun qx => ?_)
      refine x_astore_n 8 3 [(3, .ref qx), (0, .ref p0), (1, .int p1), (2, .int p2)] dL_tryTrust_7 rfl rfl (by decide) rfl ?_
      refine x_ldc 10 (-9999001 : Int32) wd_565 dL_tryTrust_8 rfl ?_
      refine x_anyn ?_
      cases hF
      exact x_iret rfl rfl (Nat.le_of_ble_eq_true rfl) (Nat.le_of_ble_eq_true rfl) dL_tryTrust_10
    rcases ite_inv hF with ⟨he, hF⟩ | ⟨he, hF⟩
    · subst he
      refine x_callVC (E := "java/lang/IllegalArgumentException") (As := [.int p1, .int p2]) (rest := []) 2 12 [⟨0, 6, 7, 13⟩] ⟨0, 6, 11, 16⟩ [] (mX6_trust hst p0 p1 p2 σ n (.inr ("java/lang/IllegalArgumentException", s5)) h1) qyX6_trust wd_702 wd_703 wd_704 hb.2 rfl rfl rfl (by decide) (Nat.le_of_ble_eq_true rfl) ⟨Nat.le_of_ble_eq_true rfl, Nat.le_of_ble_eq_true rfl⟩ dL_tryTrust_3 rfl (List.forall_mem_cons.mpr ⟨⟨by decide, _, wd_533, by decide⟩, fun _ h => absurd h List.not_mem_nil⟩) (by decide) (by decide) wd_186 cst_A rfl rfl (fun qx => ?_)
      refine x_astore_n 12 3 [(3, .ref qx), (0, .ref p0), (1, .int p1), (2, .int p2)] dL_tryTrust_11 rfl rfl (by decide) rfl ?_
      refine x_ldc 14 (-9999002 : Int32) wd_287 dL_tryTrust_12 rfl ?_
      refine x_anyn ?_
      cases hF
      exact x_iret rfl rfl (Nat.le_of_ble_eq_true rfl) (Nat.le_of_ble_eq_true rfl) dL_tryTrust_14
    cases hF
def rmL_trySurvey : Room := { frames := 8, cells := 2, slots := 12, locals := 124 }
theorem qyL_trySurvey : qYW yL_trySurvey cL_trySurvey 4 (some .int) [(0, 6, 7, 13), (0, 6, 11, 16)] 3 := ⟨wd_710, wd_16, by decide +kernel, by decide +kernel, by decide +kernel⟩
set_option maxHeartbeats 4000000 in
set_option maxRecDepth 100000 in
theorem mL_trySurvey {l : Launch} {G : qG} (hst : l.stackTraces = false) (p0 : Nat) (p1 : Int32) (p2 : Int32) (σ : qH) (n : Option Nat) (ro : Int32) (so : qH) (hF : FL_trySurvey p0 p1 p2 σ = some (ro, so)) : qMW l G yL_trySurvey cL_trySurvey 4 (some .int) [(0, 6, 7, 13), (0, 6, 11, 16)] rmL_trySurvey [.ref p0, .int p1, .int p2] σ n (.inl (some (.int ro), so, none)) := by
  refine q_bodyW (own := RL) (nm := "trySurvey") (tab := [⟨0, 6, 7, 13⟩, ⟨0, 6, 11, 16⟩]) (ls := [(0, .ref p0), (1, .int p1), (2, .int p2)]) hst (by decide +kernel) rfl rfl (Nat.le_of_ble_eq_true rfl) rfl rfl rfl rfl ?_
  unfold FL_trySurvey at hF
  refine x_aload_n 1 0 dL_trySurvey_0 rfl rfl ?_
  refine x_iload_n 2 1 dL_trySurvey_1 rfl rfl ?_
  refine x_iload_n 3 2 dL_trySurvey_2 rfl rfl ?_
  rcases bc2_inv hF with ⟨v3, s4, h1, hF⟩ | ⟨e2, s5, h1, hF⟩
  · obtain ⟨fs, hb⟩ : ∃ fs : List Value, True ∧ σ p0 = some (.inr (4, fs)) := kX6_survey h1
    refine x_callV (As := [.int p1, .int p2]) (rest := []) 6 2 12 (mX6_survey hst p0 p1 p2 σ n (.inl (v3, s4)) h1) qyX6_survey wd_711 wd_712 wd_713 hb.2 rfl rfl rfl (by decide) (Nat.le_of_ble_eq_true rfl) ⟨Nat.le_of_ble_eq_true rfl, Nat.le_of_ble_eq_true rfl⟩ dL_trySurvey_3 rfl rfl rfl rfl ?_
    refine x_anyn ?_
    cases hF
    exact x_iret rfl rfl (Nat.le_of_ble_eq_true rfl) (Nat.le_of_ble_eq_true rfl) dL_trySurvey_6
  · obtain ⟨fs, hb⟩ : ∃ fs : List Value, True ∧ σ p0 = some (.inr (4, fs)) := kX6_survey h1
    rcases ite_inv hF with ⟨he, hF⟩ | ⟨he, hF⟩
    · subst he
      refine x_callVC (E := "java/lang/IndexOutOfBoundsException") (As := [.int p1, .int p2]) (rest := []) 2 12 [] ⟨0, 6, 7, 13⟩ [⟨0, 6, 11, 16⟩] (mX6_survey hst p0 p1 p2 σ n (.inr ("java/lang/IndexOutOfBoundsException", s5)) h1) qyX6_survey wd_711 wd_712 wd_713 hb.2 rfl rfl rfl (by decide) (Nat.le_of_ble_eq_true rfl) ⟨Nat.le_of_ble_eq_true rfl, Nat.le_of_ble_eq_true rfl⟩ dL_trySurvey_3 rfl (fun _ h => absurd h List.not_mem_nil) (by decide) (by decide) wd_533 cst_I rfl rfl (fun qx => ?_)
      refine x_astore_n 8 3 [(3, .ref qx), (0, .ref p0), (1, .int p1), (2, .int p2)] dL_trySurvey_7 rfl rfl (by decide) rfl ?_
      refine x_ldc 10 (-9999001 : Int32) wd_565 dL_trySurvey_8 rfl ?_
      refine x_anyn ?_
      cases hF
      exact x_iret rfl rfl (Nat.le_of_ble_eq_true rfl) (Nat.le_of_ble_eq_true rfl) dL_trySurvey_10
    rcases ite_inv hF with ⟨he, hF⟩ | ⟨he, hF⟩
    · subst he
      refine x_callVC (E := "java/lang/IllegalArgumentException") (As := [.int p1, .int p2]) (rest := []) 2 12 [⟨0, 6, 7, 13⟩] ⟨0, 6, 11, 16⟩ [] (mX6_survey hst p0 p1 p2 σ n (.inr ("java/lang/IllegalArgumentException", s5)) h1) qyX6_survey wd_711 wd_712 wd_713 hb.2 rfl rfl rfl (by decide) (Nat.le_of_ble_eq_true rfl) ⟨Nat.le_of_ble_eq_true rfl, Nat.le_of_ble_eq_true rfl⟩ dL_trySurvey_3 rfl (List.forall_mem_cons.mpr ⟨⟨by decide, _, wd_533, by decide⟩, fun _ h => absurd h List.not_mem_nil⟩) (by decide) (by decide) wd_186 cst_A rfl rfl (fun qx => ?_)
      refine x_astore_n 12 3 [(3, .ref qx), (0, .ref p0), (1, .int p1), (2, .int p2)] dL_trySurvey_11 rfl rfl (by decide) rfl ?_
      refine x_ldc 14 (-9999002 : Int32) wd_287 dL_trySurvey_12 rfl ?_
      refine x_anyn ?_
      cases hF
      exact x_iret rfl rfl (Nat.le_of_ble_eq_true rfl) (Nat.le_of_ble_eq_true rfl) dL_trySurvey_14
    cases hF
def rmL_tryLay : Room := { frames := 8, cells := 1, slots := 6, locals := 124 }
theorem qyL_tryLay : qYW yL_tryLay cL_tryLay 4 (some .int) [(0, 6, 7, 16)] 3 := ⟨wd_718, wd_16, by decide +kernel, by decide +kernel, by decide +kernel⟩
set_option maxHeartbeats 4000000 in
set_option maxRecDepth 100000 in
theorem mL_tryLay {l : Launch} {G : qG} (hst : l.stackTraces = false) (p0 : Nat) (p1 : Int32) (p2 : Int32) (σ : qH) (n : Option Nat) (ro : Int32) (so : qH) (hF : FL_tryLay p0 p1 p2 σ = some (ro, so)) : qMW l G yL_tryLay cL_tryLay 4 (some .int) [(0, 6, 7, 16)] rmL_tryLay [.ref p0, .int p1, .int p2] σ n (.inl (some (.int ro), so, none)) := by
  refine q_bodyW (own := RL) (nm := "tryLay") (tab := [⟨0, 6, 7, 16⟩]) (ls := [(0, .ref p0), (1, .int p1), (2, .int p2)]) hst (by decide +kernel) rfl rfl (Nat.le_of_ble_eq_true rfl) rfl rfl rfl rfl ?_
  unfold FL_tryLay at hF
  refine x_aload_n 1 0 dL_tryLay_0 rfl rfl ?_
  refine x_iload_n 2 1 dL_tryLay_1 rfl rfl ?_
  refine x_iload_n 3 2 dL_tryLay_2 rfl rfl ?_
  rcases bc2_inv hF with ⟨v3, s4, h1, hF⟩ | ⟨e2, s5, h1, hF⟩
  · obtain ⟨fs, hb⟩ : ∃ fs : List Value, True ∧ σ p0 = some (.inr (4, fs)) := kX6_set h1
    refine x_callV (As := [.int p1, .int p2]) (rest := []) 6 1 6 (mX6_set hst p0 p1 p2 σ n (.inl (v3, s4)) h1) qyX6_set wd_719 wd_720 wd_721 hb.2 rfl rfl rfl (by decide) (Nat.le_of_ble_eq_true rfl) ⟨Nat.le_of_ble_eq_true rfl, Nat.le_of_ble_eq_true rfl⟩ dL_tryLay_3 rfl rfl rfl rfl ?_
    refine x_anyn ?_
    cases hF
    exact x_iret rfl rfl (Nat.le_of_ble_eq_true rfl) (Nat.le_of_ble_eq_true rfl) dL_tryLay_6
  · obtain ⟨fs, hb⟩ : ∃ fs : List Value, True ∧ σ p0 = some (.inr (4, fs)) := kX6_set h1
    rcases ite_inv hF with ⟨he, hF⟩ | ⟨he, hF⟩
    · subst he
      refine x_callVC (E := "java/lang/IllegalArgumentException") (As := [.int p1, .int p2]) (rest := []) 1 6 [] ⟨0, 6, 7, 16⟩ [] (mX6_set hst p0 p1 p2 σ n (.inr ("java/lang/IllegalArgumentException", s5)) h1) qyX6_set wd_719 wd_720 wd_721 hb.2 rfl rfl rfl (by decide) (Nat.le_of_ble_eq_true rfl) ⟨Nat.le_of_ble_eq_true rfl, Nat.le_of_ble_eq_true rfl⟩ dL_tryLay_3 rfl (fun _ h => absurd h List.not_mem_nil) (by decide) (by decide) wd_186 cst_A rfl rfl (fun qx => ?_)
      refine x_astore_n 8 3 [(3, .ref qx), (0, .ref p0), (1, .int p1), (2, .int p2)] dL_tryLay_7 rfl rfl (by decide) rfl ?_
      refine x_ldc 10 (-9999002 : Int32) wd_287 dL_tryLay_8 rfl ?_
      refine x_anyn ?_
      cases hF
      exact x_iret rfl rfl (Nat.le_of_ble_eq_true rfl) (Nat.le_of_ble_eq_true rfl) dL_tryLay_10
    cases hF
def rmL_tryUndo : Room := { frames := 7, cells := 1, slots := 6, locals := 102 }
theorem qyL_tryUndo : qYW yL_tryUndo cL_tryUndo 2 (some .int) [(0, 4, 5, 19)] 1 := ⟨wd_733, wd_16, by decide +kernel, by decide +kernel, by decide +kernel⟩
set_option maxHeartbeats 4000000 in
set_option maxRecDepth 100000 in
theorem mL_tryUndo {l : Launch} {G : qG} (hst : l.stackTraces = false) (p0 : Nat) (σ : qH) (n : Option Nat) (ro : Int32) (so : qH) (hF : FL_tryUndo p0 σ = some (ro, so)) : qMW l G yL_tryUndo cL_tryUndo 2 (some .int) [(0, 4, 5, 19)] rmL_tryUndo [.ref p0] σ n (.inl (some (.int ro), so, none)) := by
  refine q_bodyW (own := RL) (nm := "tryUndo") (tab := [⟨0, 4, 5, 19⟩]) (ls := [(0, .ref p0)]) hst (by decide +kernel) rfl rfl (Nat.le_of_ble_eq_true rfl) rfl rfl rfl rfl ?_
  unfold FL_tryUndo at hF
  refine x_aload_n 1 0 dL_tryUndo_0 rfl rfl ?_
  rcases bc2_inv hF with ⟨v3, s4, h1, hF⟩ | ⟨e2, s5, h1, hF⟩
  · obtain ⟨fs, hb⟩ : ∃ fs : List Value, True ∧ σ p0 = some (.inr (4, fs)) := kX6_undo h1
    refine x_callV (As := []) (rest := []) 4 1 6 (mX6_undo hst p0 σ n (.inl (v3, s4)) h1) qyX6_undo wd_734 wd_735 wd_736 hb.2 rfl rfl rfl (by decide) (Nat.le_of_ble_eq_true rfl) ⟨Nat.le_of_ble_eq_true rfl, Nat.le_of_ble_eq_true rfl⟩ dL_tryUndo_1 rfl rfl rfl rfl ?_
    refine x_anyn ?_
    cases hF
    exact x_iret rfl rfl (Nat.le_of_ble_eq_true rfl) (Nat.le_of_ble_eq_true rfl) dL_tryUndo_4
  · obtain ⟨fs, hb⟩ : ∃ fs : List Value, True ∧ σ p0 = some (.inr (4, fs)) := kX6_undo h1
    rcases ite_inv hF with ⟨he, hF⟩ | ⟨he, hF⟩
    · subst he
      refine x_callVC (E := "java/lang/IllegalStateException") (As := []) (rest := []) 1 6 [] ⟨0, 4, 5, 19⟩ [] (mX6_undo hst p0 σ n (.inr ("java/lang/IllegalStateException", s5)) h1) qyX6_undo wd_734 wd_735 wd_736 hb.2 rfl rfl rfl (by decide) (Nat.le_of_ble_eq_true rfl) ⟨Nat.le_of_ble_eq_true rfl, Nat.le_of_ble_eq_true rfl⟩ dL_tryUndo_1 rfl (fun _ h => absurd h List.not_mem_nil) (by decide) (by decide) wd_187 cst_S rfl rfl (fun qx => ?_)
      refine x_astore_n 6 1 [(1, .ref qx), (0, .ref p0)] dL_tryUndo_5 rfl rfl (by decide) rfl ?_
      refine x_ldc 8 (-9999003 : Int32) wd_288 dL_tryUndo_6 rfl ?_
      refine x_anyn ?_
      cases hF
      exact x_iret rfl rfl (Nat.le_of_ble_eq_true rfl) (Nat.le_of_ble_eq_true rfl) dL_tryUndo_8
    cases hF
def rmL_tryApart : Room := { frames := 8, cells := 2, slots := 12, locals := 125 }
theorem qyL_tryApart : qYW yL_tryApart cL_tryApart 4 (some .int) [(0, 6, 7, 13)] 3 := ⟨wd_749, wd_16, by decide +kernel, by decide +kernel, by decide +kernel⟩
set_option maxHeartbeats 4000000 in
set_option maxRecDepth 100000 in
theorem mL_tryApart {l : Launch} {G : qG} (hst : l.stackTraces = false) (p0 : Nat) (p1 : Int32) (p2 : Int32) (σ : qH) (n : Option Nat) (ro : Int32) (hF : FL_tryApart p0 p1 p2 σ = some ro) : qMW l G yL_tryApart cL_tryApart 4 (some .int) [(0, 6, 7, 13)] rmL_tryApart [.ref p0, .int p1, .int p2] σ n (.inl (some (.int ro), σ, none)) := by
  refine q_bodyW (own := RL) (nm := "tryApart") (tab := [⟨0, 6, 7, 13⟩]) (ls := [(0, .ref p0), (1, .int p1), (2, .int p2)]) hst (by decide +kernel) rfl rfl (Nat.le_of_ble_eq_true rfl) rfl rfl rfl rfl ?_
  unfold FL_tryApart at hF
  refine x_aload_n 1 0 dL_tryApart_0 rfl rfl ?_
  refine x_iload_n 2 1 dL_tryApart_1 rfl rfl ?_
  refine x_iload_n 3 2 dL_tryApart_2 rfl rfl ?_
  rcases bc_inv hF with ⟨v3, h1, hF⟩ | ⟨e2, h1, hF⟩
  · obtain ⟨fs, hb⟩ : ∃ fs : List Value, True ∧ σ p0 = some (.inr (4, fs)) := kX6_apart h1
    refine x_callV (As := [.int p1, .int p2]) (rest := []) 6 2 12 (mX6_apart hst p0 p1 p2 σ n (.inl v3) h1) qyX6_apart wd_750 wd_751 wd_752 hb.2 rfl rfl rfl (by decide) (Nat.le_of_ble_eq_true rfl) ⟨Nat.le_of_ble_eq_true rfl, Nat.le_of_ble_eq_true rfl⟩ dL_tryApart_3 rfl rfl rfl rfl ?_
    refine x_anyn ?_
    cases hF
    exact x_iret rfl rfl (Nat.le_of_ble_eq_true rfl) (Nat.le_of_ble_eq_true rfl) dL_tryApart_6
  · obtain ⟨fs, hb⟩ : ∃ fs : List Value, True ∧ σ p0 = some (.inr (4, fs)) := kX6_apart h1
    rcases ite_inv hF with ⟨he, hF⟩ | ⟨he, hF⟩
    · subst he
      refine x_callVC (E := "java/lang/IndexOutOfBoundsException") (As := [.int p1, .int p2]) (rest := []) 2 12 [] ⟨0, 6, 7, 13⟩ [] (mX6_apart hst p0 p1 p2 σ n (.inr "java/lang/IndexOutOfBoundsException") h1) qyX6_apart wd_750 wd_751 wd_752 hb.2 rfl rfl rfl (by decide) (Nat.le_of_ble_eq_true rfl) ⟨Nat.le_of_ble_eq_true rfl, Nat.le_of_ble_eq_true rfl⟩ dL_tryApart_3 rfl (fun _ h => absurd h List.not_mem_nil) (by decide) (by decide) wd_533 cst_I rfl rfl (fun qx => ?_)
      refine x_astore_n 8 3 [(3, .ref qx), (0, .ref p0), (1, .int p1), (2, .int p2)] dL_tryApart_7 rfl rfl (by decide) rfl ?_
      refine x_ldc 10 (-9999001 : Int32) wd_565 dL_tryApart_8 rfl ?_
      refine x_anyn ?_
      cases hF
      exact x_iret rfl rfl (Nat.le_of_ble_eq_true rfl) (Nat.le_of_ble_eq_true rfl) dL_tryApart_10
    cases hF
def rmL_tryAgainst : Room := { frames := 8, cells := 1, slots := 6, locals := 123 }
theorem qyL_tryAgainst : qYW yL_tryAgainst cL_tryAgainst 3 (some .int) [(0, 5, 6, 13)] 2 := ⟨wd_757, wd_16, by decide +kernel, by decide +kernel, by decide +kernel⟩
set_option maxHeartbeats 4000000 in
set_option maxRecDepth 100000 in
theorem mL_tryAgainst {l : Launch} {G : qG} (hst : l.stackTraces = false) (p0 : Nat) (p1 : Int32) (σ : qH) (n : Option Nat) (ro : Int32) (so : qH) (hF : FL_tryAgainst p0 p1 σ = some (ro, so)) : qMW l G yL_tryAgainst cL_tryAgainst 3 (some .int) [(0, 5, 6, 13)] rmL_tryAgainst [.ref p0, .int p1] σ n (.inl (some (.int ro), so, none)) := by
  refine q_bodyW (own := RL) (nm := "tryAgainst") (tab := [⟨0, 5, 6, 13⟩]) (ls := [(0, .ref p0), (1, .int p1)]) hst (by decide +kernel) rfl rfl (Nat.le_of_ble_eq_true rfl) rfl rfl rfl rfl ?_
  unfold FL_tryAgainst at hF
  refine x_aload_n 1 0 dL_tryAgainst_0 rfl rfl ?_
  refine x_iload_n 2 1 dL_tryAgainst_1 rfl rfl ?_
  rcases bc2_inv hF with ⟨v3, s4, h1, hF⟩ | ⟨e2, s5, h1, hF⟩
  · obtain ⟨fs, hb⟩ : ∃ fs : List Value, True ∧ σ p0 = some (.inr (4, fs)) := kX6_against h1
    refine x_callV (As := [.int p1]) (rest := []) 5 1 6 (mX6_against hst p0 p1 σ n (.inl (v3, s4)) h1) qyX6_against wd_758 wd_759 wd_760 hb.2 rfl rfl rfl (by decide) (Nat.le_of_ble_eq_true rfl) ⟨Nat.le_of_ble_eq_true rfl, Nat.le_of_ble_eq_true rfl⟩ dL_tryAgainst_2 rfl rfl rfl rfl ?_
    refine x_anyn ?_
    cases hF
    exact x_iret rfl rfl (Nat.le_of_ble_eq_true rfl) (Nat.le_of_ble_eq_true rfl) dL_tryAgainst_5
  · obtain ⟨fs, hb⟩ : ∃ fs : List Value, True ∧ σ p0 = some (.inr (4, fs)) := kX6_against h1
    rcases ite_inv hF with ⟨he, hF⟩ | ⟨he, hF⟩
    · subst he
      refine x_callVC (E := "java/lang/IndexOutOfBoundsException") (As := [.int p1]) (rest := []) 1 6 [] ⟨0, 5, 6, 13⟩ [] (mX6_against hst p0 p1 σ n (.inr ("java/lang/IndexOutOfBoundsException", s5)) h1) qyX6_against wd_758 wd_759 wd_760 hb.2 rfl rfl rfl (by decide) (Nat.le_of_ble_eq_true rfl) ⟨Nat.le_of_ble_eq_true rfl, Nat.le_of_ble_eq_true rfl⟩ dL_tryAgainst_2 rfl (fun _ h => absurd h List.not_mem_nil) (by decide) (by decide) wd_533 cst_I rfl rfl (fun qx => ?_)
      refine x_astore_n 7 2 [(2, .ref qx), (0, .ref p0), (1, .int p1)] dL_tryAgainst_6 rfl rfl (by decide) rfl ?_
      refine x_ldc 9 (-9999001 : Int32) wd_565 dL_tryAgainst_7 rfl ?_
      refine x_anyn ?_
      cases hF
      exact x_iret rfl rfl (Nat.le_of_ble_eq_true rfl) (Nat.le_of_ble_eq_true rfl) dL_tryAgainst_9
    cases hF
def rmL_tryWithout : Room := { frames := 8, cells := 2, slots := 12, locals := 125 }
theorem qyL_tryWithout : qYW yL_tryWithout cL_tryWithout 4 (some .int) [(0, 6, 7, 13), (0, 6, 11, 16)] 3 := ⟨wd_780, wd_16, by decide +kernel, by decide +kernel, by decide +kernel⟩
set_option maxHeartbeats 4000000 in
set_option maxRecDepth 100000 in
theorem mL_tryWithout {l : Launch} {G : qG} (hst : l.stackTraces = false) (p0 : Nat) (p1 : Int32) (p2 : Int32) (σ : qH) (n : Option Nat) (ro : Int32) (so : qH) (hF : FL_tryWithout p0 p1 p2 σ = some (ro, so)) : qMW l G yL_tryWithout cL_tryWithout 4 (some .int) [(0, 6, 7, 13), (0, 6, 11, 16)] rmL_tryWithout [.ref p0, .int p1, .int p2] σ n (.inl (some (.int ro), so, none)) := by
  refine q_bodyW (own := RL) (nm := "tryWithout") (tab := [⟨0, 6, 7, 13⟩, ⟨0, 6, 11, 16⟩]) (ls := [(0, .ref p0), (1, .int p1), (2, .int p2)]) hst (by decide +kernel) rfl rfl (Nat.le_of_ble_eq_true rfl) rfl rfl rfl rfl ?_
  unfold FL_tryWithout at hF
  refine x_aload_n 1 0 dL_tryWithout_0 rfl rfl ?_
  refine x_iload_n 2 1 dL_tryWithout_1 rfl rfl ?_
  refine x_iload_n 3 2 dL_tryWithout_2 rfl rfl ?_
  rcases bc2_inv hF with ⟨v3, s4, h1, hF⟩ | ⟨e2, s5, h1, hF⟩
  · obtain ⟨fs, hb⟩ : ∃ fs : List Value, True ∧ σ p0 = some (.inr (4, fs)) := kX6_without h1
    refine x_callV (As := [.int p1, .int p2]) (rest := []) 6 2 12 (mX6_without hst p0 p1 p2 σ n (.inl (v3, s4)) h1) qyX6_without wd_781 wd_782 wd_783 hb.2 rfl rfl rfl (by decide) (Nat.le_of_ble_eq_true rfl) ⟨Nat.le_of_ble_eq_true rfl, Nat.le_of_ble_eq_true rfl⟩ dL_tryWithout_3 rfl rfl rfl rfl ?_
    refine x_anyn ?_
    cases hF
    exact x_iret rfl rfl (Nat.le_of_ble_eq_true rfl) (Nat.le_of_ble_eq_true rfl) dL_tryWithout_6
  · obtain ⟨fs, hb⟩ : ∃ fs : List Value, True ∧ σ p0 = some (.inr (4, fs)) := kX6_without h1
    rcases ite_inv hF with ⟨he, hF⟩ | ⟨he, hF⟩
    · subst he
      refine x_callVC (E := "java/lang/IndexOutOfBoundsException") (As := [.int p1, .int p2]) (rest := []) 2 12 [] ⟨0, 6, 7, 13⟩ [⟨0, 6, 11, 16⟩] (mX6_without hst p0 p1 p2 σ n (.inr ("java/lang/IndexOutOfBoundsException", s5)) h1) qyX6_without wd_781 wd_782 wd_783 hb.2 rfl rfl rfl (by decide) (Nat.le_of_ble_eq_true rfl) ⟨Nat.le_of_ble_eq_true rfl, Nat.le_of_ble_eq_true rfl⟩ dL_tryWithout_3 rfl (fun _ h => absurd h List.not_mem_nil) (by decide) (by decide) wd_533 cst_I rfl rfl (fun qx => ?_)
      refine x_astore_n 8 3 [(3, .ref qx), (0, .ref p0), (1, .int p1), (2, .int p2)] dL_tryWithout_7 rfl rfl (by decide) rfl ?_
      refine x_ldc 10 (-9999001 : Int32) wd_565 dL_tryWithout_8 rfl ?_
      refine x_anyn ?_
      cases hF
      exact x_iret rfl rfl (Nat.le_of_ble_eq_true rfl) (Nat.le_of_ble_eq_true rfl) dL_tryWithout_10
    rcases ite_inv hF with ⟨he, hF⟩ | ⟨he, hF⟩
    · subst he
      refine x_callVC (E := "java/lang/IllegalArgumentException") (As := [.int p1, .int p2]) (rest := []) 2 12 [⟨0, 6, 7, 13⟩] ⟨0, 6, 11, 16⟩ [] (mX6_without hst p0 p1 p2 σ n (.inr ("java/lang/IllegalArgumentException", s5)) h1) qyX6_without wd_781 wd_782 wd_783 hb.2 rfl rfl rfl (by decide) (Nat.le_of_ble_eq_true rfl) ⟨Nat.le_of_ble_eq_true rfl, Nat.le_of_ble_eq_true rfl⟩ dL_tryWithout_3 rfl (List.forall_mem_cons.mpr ⟨⟨by decide, _, wd_533, by decide⟩, fun _ h => absurd h List.not_mem_nil⟩) (by decide) (by decide) wd_186 cst_A rfl rfl (fun qx => ?_)
      refine x_astore_n 12 3 [(3, .ref qx), (0, .ref p0), (1, .int p1), (2, .int p2)] dL_tryWithout_11 rfl rfl (by decide) rfl ?_
      refine x_ldc 14 (-9999002 : Int32) wd_287 dL_tryWithout_12 rfl ?_
      refine x_anyn ?_
      cases hF
      exact x_iret rfl rfl (Nat.le_of_ble_eq_true rfl) (Nat.le_of_ble_eq_true rfl) dL_tryWithout_14
    cases hF
def rmL_trySwings : Room := { frames := 8, cells := 2, slots := 12, locals := 125 }
theorem qyL_trySwings : qYW yL_trySwings cL_trySwings 4 (some .int) [(0, 6, 7, 13)] 3 := ⟨wd_787, wd_16, by decide +kernel, by decide +kernel, by decide +kernel⟩
set_option maxHeartbeats 4000000 in
set_option maxRecDepth 100000 in
theorem mL_trySwings {l : Launch} {G : qG} (hst : l.stackTraces = false) (p0 : Nat) (p1 : Int32) (p2 : Int32) (σ : qH) (n : Option Nat) (ro : Int32) (so : qH) (hF : FL_trySwings p0 p1 p2 σ = some (ro, so)) : qMW l G yL_trySwings cL_trySwings 4 (some .int) [(0, 6, 7, 13)] rmL_trySwings [.ref p0, .int p1, .int p2] σ n (.inl (some (.int ro), so, none)) := by
  refine q_bodyW (own := RL) (nm := "trySwings") (tab := [⟨0, 6, 7, 13⟩]) (ls := [(0, .ref p0), (1, .int p1), (2, .int p2)]) hst (by decide +kernel) rfl rfl (Nat.le_of_ble_eq_true rfl) rfl rfl rfl rfl ?_
  unfold FL_trySwings at hF
  refine x_aload_n 1 0 dL_trySwings_0 rfl rfl ?_
  refine x_iload_n 2 1 dL_trySwings_1 rfl rfl ?_
  refine x_iload_n 3 2 dL_trySwings_2 rfl rfl ?_
  rcases bc2_inv hF with ⟨v3, s4, h1, hF⟩ | ⟨e2, s5, h1, hF⟩
  · obtain ⟨fs, hb⟩ : ∃ fs : List Value, True ∧ σ p0 = some (.inr (4, fs)) := kX6_swings h1
    refine x_callV (As := [.int p1, .int p2]) (rest := []) 6 2 12 (mX6_swings hst p0 p1 p2 σ n (.inl (v3, s4)) h1) qyX6_swings wd_788 wd_789 wd_790 hb.2 rfl rfl rfl (by decide) (Nat.le_of_ble_eq_true rfl) ⟨Nat.le_of_ble_eq_true rfl, Nat.le_of_ble_eq_true rfl⟩ dL_trySwings_3 rfl rfl rfl rfl ?_
    refine x_anyn ?_
    cases hF
    exact x_iret rfl rfl (Nat.le_of_ble_eq_true rfl) (Nat.le_of_ble_eq_true rfl) dL_trySwings_6
  · obtain ⟨fs, hb⟩ : ∃ fs : List Value, True ∧ σ p0 = some (.inr (4, fs)) := kX6_swings h1
    rcases ite_inv hF with ⟨he, hF⟩ | ⟨he, hF⟩
    · subst he
      refine x_callVC (E := "java/lang/IndexOutOfBoundsException") (As := [.int p1, .int p2]) (rest := []) 2 12 [] ⟨0, 6, 7, 13⟩ [] (mX6_swings hst p0 p1 p2 σ n (.inr ("java/lang/IndexOutOfBoundsException", s5)) h1) qyX6_swings wd_788 wd_789 wd_790 hb.2 rfl rfl rfl (by decide) (Nat.le_of_ble_eq_true rfl) ⟨Nat.le_of_ble_eq_true rfl, Nat.le_of_ble_eq_true rfl⟩ dL_trySwings_3 rfl (fun _ h => absurd h List.not_mem_nil) (by decide) (by decide) wd_533 cst_I rfl rfl (fun qx => ?_)
      refine x_astore_n 8 3 [(3, .ref qx), (0, .ref p0), (1, .int p1), (2, .int p2)] dL_trySwings_7 rfl rfl (by decide) rfl ?_
      refine x_ldc 10 (-9999001 : Int32) wd_565 dL_trySwings_8 rfl ?_
      refine x_anyn ?_
      cases hF
      exact x_iret rfl rfl (Nat.le_of_ble_eq_true rfl) (Nat.le_of_ble_eq_true rfl) dL_trySwings_10
    cases hF
def rmL_tryKeep : Room := { frames := 8, cells := 1, slots := 6, locals := 123 }
theorem qyL_tryKeep : qYW yL_tryKeep cL_tryKeep 3 (some .int) [(0, 5, 6, 13)] 2 := ⟨wd_799, wd_16, by decide +kernel, by decide +kernel, by decide +kernel⟩
set_option maxHeartbeats 4000000 in
set_option maxRecDepth 100000 in
theorem mL_tryKeep {l : Launch} {G : qG} (hst : l.stackTraces = false) (p0 : Nat) (p1 : Int32) (σ : qH) (n : Option Nat) (ro : Int32) (so : qH) (hF : FL_tryKeep p0 p1 σ = some (ro, so)) : qMW l G yL_tryKeep cL_tryKeep 3 (some .int) [(0, 5, 6, 13)] rmL_tryKeep [.ref p0, .int p1] σ n (.inl (some (.int ro), so, none)) := by
  refine q_bodyW (own := RL) (nm := "tryKeep") (tab := [⟨0, 5, 6, 13⟩]) (ls := [(0, .ref p0), (1, .int p1)]) hst (by decide +kernel) rfl rfl (Nat.le_of_ble_eq_true rfl) rfl rfl rfl rfl ?_
  unfold FL_tryKeep at hF
  refine x_aload_n 1 0 dL_tryKeep_0 rfl rfl ?_
  refine x_iload_n 2 1 dL_tryKeep_1 rfl rfl ?_
  rcases bc2_inv hF with ⟨v3, s4, h1, hF⟩ | ⟨e2, s5, h1, hF⟩
  · obtain ⟨fs, hb⟩ : ∃ fs : List Value, True ∧ σ p0 = some (.inr (4, fs)) := kX6_save h1
    refine x_callV (As := [.int p1]) (rest := []) 5 1 6 (mX6_save hst p0 p1 σ n (.inl (v3, s4)) h1) qyX6_save wd_800 wd_801 wd_802 hb.2 rfl rfl rfl (by decide) (Nat.le_of_ble_eq_true rfl) ⟨Nat.le_of_ble_eq_true rfl, Nat.le_of_ble_eq_true rfl⟩ dL_tryKeep_2 rfl rfl rfl rfl ?_
    refine x_anyn ?_
    cases hF
    exact x_iret rfl rfl (Nat.le_of_ble_eq_true rfl) (Nat.le_of_ble_eq_true rfl) dL_tryKeep_5
  · obtain ⟨fs, hb⟩ : ∃ fs : List Value, True ∧ σ p0 = some (.inr (4, fs)) := kX6_save h1
    rcases ite_inv hF with ⟨he, hF⟩ | ⟨he, hF⟩
    · subst he
      refine x_callVC (E := "java/lang/IndexOutOfBoundsException") (As := [.int p1]) (rest := []) 1 6 [] ⟨0, 5, 6, 13⟩ [] (mX6_save hst p0 p1 σ n (.inr ("java/lang/IndexOutOfBoundsException", s5)) h1) qyX6_save wd_800 wd_801 wd_802 hb.2 rfl rfl rfl (by decide) (Nat.le_of_ble_eq_true rfl) ⟨Nat.le_of_ble_eq_true rfl, Nat.le_of_ble_eq_true rfl⟩ dL_tryKeep_2 rfl (fun _ h => absurd h List.not_mem_nil) (by decide) (by decide) wd_533 cst_I rfl rfl (fun qx => ?_)
      refine x_astore_n 7 2 [(2, .ref qx), (0, .ref p0), (1, .int p1)] dL_tryKeep_6 rfl rfl (by decide) rfl ?_
      refine x_ldc 9 (-9999001 : Int32) wd_565 dL_tryKeep_7 rfl ?_
      refine x_anyn ?_
      cases hF
      exact x_iret rfl rfl (Nat.le_of_ble_eq_true rfl) (Nat.le_of_ble_eq_true rfl) dL_tryKeep_9
    cases hF
def rmL_tryBack : Room := { frames := 8, cells := 2, slots := 12, locals := 123 }
theorem qyL_tryBack : qYW yL_tryBack cL_tryBack 3 (some .int) [(0, 5, 6, 13), (0, 5, 10, 19)] 2 := ⟨wd_810, wd_16, by decide +kernel, by decide +kernel, by decide +kernel⟩
set_option maxHeartbeats 4000000 in
set_option maxRecDepth 100000 in
theorem mL_tryBack {l : Launch} {G : qG} (hst : l.stackTraces = false) (p0 : Nat) (p1 : Int32) (σ : qH) (n : Option Nat) (ro : Int32) (so : qH) (hF : FL_tryBack p0 p1 σ = some (ro, so)) : qMW l G yL_tryBack cL_tryBack 3 (some .int) [(0, 5, 6, 13), (0, 5, 10, 19)] rmL_tryBack [.ref p0, .int p1] σ n (.inl (some (.int ro), so, none)) := by
  refine q_bodyW (own := RL) (nm := "tryBack") (tab := [⟨0, 5, 6, 13⟩, ⟨0, 5, 10, 19⟩]) (ls := [(0, .ref p0), (1, .int p1)]) hst (by decide +kernel) rfl rfl (Nat.le_of_ble_eq_true rfl) rfl rfl rfl rfl ?_
  unfold FL_tryBack at hF
  refine x_aload_n 1 0 dL_tryBack_0 rfl rfl ?_
  refine x_iload_n 2 1 dL_tryBack_1 rfl rfl ?_
  rcases bc2_inv hF with ⟨v3, s4, h1, hF⟩ | ⟨e2, s5, h1, hF⟩
  · obtain ⟨fs, hb⟩ : ∃ fs : List Value, True ∧ σ p0 = some (.inr (4, fs)) := kX6_restore h1
    refine x_callV (As := [.int p1]) (rest := []) 5 2 12 (mX6_restore hst p0 p1 σ n (.inl (v3, s4)) h1) qyX6_restore wd_811 wd_812 wd_813 hb.2 rfl rfl rfl (by decide) (Nat.le_of_ble_eq_true rfl) ⟨Nat.le_of_ble_eq_true rfl, Nat.le_of_ble_eq_true rfl⟩ dL_tryBack_2 rfl rfl rfl rfl ?_
    refine x_anyn ?_
    cases hF
    exact x_iret rfl rfl (Nat.le_of_ble_eq_true rfl) (Nat.le_of_ble_eq_true rfl) dL_tryBack_5
  · obtain ⟨fs, hb⟩ : ∃ fs : List Value, True ∧ σ p0 = some (.inr (4, fs)) := kX6_restore h1
    rcases ite_inv hF with ⟨he, hF⟩ | ⟨he, hF⟩
    · subst he
      refine x_callVC (E := "java/lang/IndexOutOfBoundsException") (As := [.int p1]) (rest := []) 2 12 [] ⟨0, 5, 6, 13⟩ [⟨0, 5, 10, 19⟩] (mX6_restore hst p0 p1 σ n (.inr ("java/lang/IndexOutOfBoundsException", s5)) h1) qyX6_restore wd_811 wd_812 wd_813 hb.2 rfl rfl rfl (by decide) (Nat.le_of_ble_eq_true rfl) ⟨Nat.le_of_ble_eq_true rfl, Nat.le_of_ble_eq_true rfl⟩ dL_tryBack_2 rfl (fun _ h => absurd h List.not_mem_nil) (by decide) (by decide) wd_533 cst_I rfl rfl (fun qx => ?_)
      refine x_astore_n 7 2 [(2, .ref qx), (0, .ref p0), (1, .int p1)] dL_tryBack_6 rfl rfl (by decide) rfl ?_
      refine x_ldc 9 (-9999001 : Int32) wd_565 dL_tryBack_7 rfl ?_
      refine x_anyn ?_
      cases hF
      exact x_iret rfl rfl (Nat.le_of_ble_eq_true rfl) (Nat.le_of_ble_eq_true rfl) dL_tryBack_9
    rcases ite_inv hF with ⟨he, hF⟩ | ⟨he, hF⟩
    · subst he
      refine x_callVC (E := "java/lang/IllegalStateException") (As := [.int p1]) (rest := []) 2 12 [⟨0, 5, 6, 13⟩] ⟨0, 5, 10, 19⟩ [] (mX6_restore hst p0 p1 σ n (.inr ("java/lang/IllegalStateException", s5)) h1) qyX6_restore wd_811 wd_812 wd_813 hb.2 rfl rfl rfl (by decide) (Nat.le_of_ble_eq_true rfl) ⟨Nat.le_of_ble_eq_true rfl, Nat.le_of_ble_eq_true rfl⟩ dL_tryBack_2 rfl (List.forall_mem_cons.mpr ⟨⟨by decide, _, wd_533, by decide⟩, fun _ h => absurd h List.not_mem_nil⟩) (by decide) (by decide) wd_187 cst_S rfl rfl (fun qx => ?_)
      refine x_astore_n 11 2 [(2, .ref qx), (0, .ref p0), (1, .int p1)] dL_tryBack_10 rfl rfl (by decide) rfl ?_
      refine x_ldc 13 (-9999003 : Int32) wd_288 dL_tryBack_11 rfl ?_
      refine x_anyn ?_
      cases hF
      exact x_iret rfl rfl (Nat.le_of_ble_eq_true rfl) (Nat.le_of_ble_eq_true rfl) dL_tryBack_13
    cases hF
def rmL_call : Room := { frames := 9, cells := 2, slots := 12, locals := 183 }
theorem qyL_call : qY yL_call cL_call 5 (some .int) 5 := ⟨wd_182, wd_16, by decide +kernel, by decide +kernel, by decide +kernel⟩
set_option maxHeartbeats 4000000 in
set_option maxRecDepth 100000 in
theorem mL_call {l : Launch} {G : qG} (hst : l.stackTraces = false) (p0 : Nat) (p1 : Int32) (p2 : Int32) (p3 : Int32) (p4 : Int32) (σ : qH) (n : Option Nat) (ro : Int32) (so : qH) (hF : FL_call (G.2.2.2.1) p0 p1 p2 p3 p4 σ = some (ro, so)) : qM l G yL_call cL_call 5 (some .int) rmL_call [.ref p0, .int p1, .int p2, .int p3, .int p4] σ n (.inl (some (.int ro), so, none)) := by
  refine q_body (own := RL) (nm := "call") (ls := [(0, .ref p0), (1, .int p1), (2, .int p2), (3, .int p3), (4, .int p4)]) hst (by decide +kernel) rfl rfl (Nat.le_of_ble_eq_true rfl) rfl rfl rfl ?_
  unfold FL_call at hF
  refine x_anyn ?_
  refine x_iload_n 1 1 dL_call_0 rfl rfl ?_
  rcases ite_inv hF with ⟨h4, hF⟩ | ⟨h4, hF⟩
  · have hK : qX l G RL "call" cL_call 5 (some .int) [] rmL_call 2 12 (.inl (some (.int ro), so, none)) 0 0 σ none 92 [(0, .ref p0), (1, .int p1), (2, .int p2), (3, .int p3), (4, .int p4)] [] := by
      refine x_aload_n 93 0 dL_call_92 rfl rfl ?_
      refine x_iload_n 94 2 dL_call_93 rfl rfl ?_
      obtain ⟨v2, s3, h1, hF⟩ := b2_inv hF
      refine x_callSW (As := [.ref p0, .int p2]) (rest := []) 97 2 12 (mL_tryAppend hst p0 p2 σ none v2 s3 h1) qyL_tryAppend wd_183 wd_184 rfl rfl (by decide) (Nat.le_of_ble_eq_true rfl) ⟨Nat.le_of_ble_eq_true rfl, Nat.le_of_ble_eq_true rfl⟩ dL_call_94 rfl rfl rfl rfl ?_
      cases hF
      exact x_iret rfl rfl (Nat.le_of_ble_eq_true rfl) (Nat.le_of_ble_eq_true rfl) dL_call_97
    · exact x_tableIn (91) 92 dL_call_1 (by rw [h4]; decide) (by rw [h4]; decide) (by rw [h4]; decide) (by decide) hK
  rcases ite_inv hF with ⟨h8, hF⟩ | ⟨h8, hF⟩
  · have hK : qX l G RL "call" cL_call 5 (some .int) [] rmL_call 2 12 (.inl (some (.int ro), so, none)) 0 0 σ none 98 [(0, .ref p0), (1, .int p1), (2, .int p2), (3, .int p3), (4, .int p4)] [] := by
      refine x_aload_n 99 0 dL_call_98 rfl rfl ?_
      obtain ⟨v6, s7, h5, hF⟩ := b2_inv hF
      refine x_callSW (As := [.ref p0]) (rest := []) 102 1 6 (mL_tryLoad hst p0 σ none v6 s7 h5) qyL_tryLoad wd_289 wd_290 rfl rfl (by decide) (Nat.le_of_ble_eq_true rfl) ⟨Nat.le_of_ble_eq_true rfl, Nat.le_of_ble_eq_true rfl⟩ dL_call_99 rfl rfl rfl rfl ?_
      cases hF
      exact x_iret rfl rfl (Nat.le_of_ble_eq_true rfl) (Nat.le_of_ble_eq_true rfl) dL_call_102
    · exact x_tableIn (97) 98 dL_call_1 (by rw [h8]; decide) (by rw [h8]; decide) (by rw [h8]; decide) (by decide) hK
  rcases ite_inv hF with ⟨h11, hF⟩ | ⟨h11, hF⟩
  · have hK : qX l G RL "call" cL_call 5 (some .int) [] rmL_call 2 12 (.inl (some (.int ro), so, none)) 0 0 σ none 103 [(0, .ref p0), (1, .int p1), (2, .int p2), (3, .int p3), (4, .int p4)] [] := by
      refine x_aload_n 104 0 dL_call_103 rfl rfl ?_
      refine x_iload_n 105 2 dL_call_104 rfl rfl ?_
      obtain ⟨v10, h9, hF⟩ := b1_inv hF
      refine x_callSW (As := [.ref p0, .int p2]) (rest := []) 108 1 6 (mL_tryAbout hst p0 p2 σ none v10 h9) qyL_tryAbout wd_476 wd_477 rfl rfl (by decide) (Nat.le_of_ble_eq_true rfl) ⟨Nat.le_of_ble_eq_true rfl, Nat.le_of_ble_eq_true rfl⟩ dL_call_105 rfl rfl rfl rfl ?_
      cases hF
      exact x_iret rfl rfl (Nat.le_of_ble_eq_true rfl) (Nat.le_of_ble_eq_true rfl) dL_call_108
    · exact x_tableIn (102) 103 dL_call_1 (by rw [h11]; decide) (by rw [h11]; decide) (by rw [h11]; decide) (by decide) hK
  rcases ite_inv hF with ⟨h14, hF⟩ | ⟨h14, hF⟩
  · have hK : qX l G RL "call" cL_call 5 (some .int) [] rmL_call 2 12 (.inl (some (.int ro), so, none)) 0 0 σ none 109 [(0, .ref p0), (1, .int p1), (2, .int p2), (3, .int p3), (4, .int p4)] [] := by
      refine x_aload_n 110 0 dL_call_109 rfl rfl ?_
      refine x_iload_n 111 2 dL_call_110 rfl rfl ?_
      refine x_iload_n 112 3 dL_call_111 rfl rfl ?_
      obtain ⟨v13, h12, hF⟩ := b1_inv hF
      refine x_callSW (As := [.ref p0, .int p2, .int p3]) (rest := []) 115 2 12 (mL_tryOf hst p0 p2 p3 σ none v13 h12) qyL_tryOf wd_530 wd_531 rfl rfl (by decide) (Nat.le_of_ble_eq_true rfl) ⟨Nat.le_of_ble_eq_true rfl, Nat.le_of_ble_eq_true rfl⟩ dL_call_112 rfl rfl rfl rfl ?_
      cases hF
      exact x_iret rfl rfl (Nat.le_of_ble_eq_true rfl) (Nat.le_of_ble_eq_true rfl) dL_call_115
    · exact x_tableIn (108) 109 dL_call_1 (by rw [h14]; decide) (by rw [h14]; decide) (by rw [h14]; decide) (by decide) hK
  rcases ite_inv hF with ⟨h17, hF⟩ | ⟨h17, hF⟩
  · have hK : qX l G RL "call" cL_call 5 (some .int) [] rmL_call 2 12 (.inl (some (.int ro), so, none)) 0 0 σ none 116 [(0, .ref p0), (1, .int p1), (2, .int p2), (3, .int p3), (4, .int p4)] [] := by
      refine x_aload_n 117 0 dL_call_116 rfl rfl ?_
      refine x_iload_n 118 2 dL_call_117 rfl rfl ?_
      refine x_iload_n 119 3 dL_call_118 rfl rfl ?_
      obtain ⟨v16, h15, hF⟩ := b1_inv hF
      refine x_callSW (As := [.ref p0, .int p2, .int p3]) (rest := []) 122 2 12 (mL_tryTeller hst p0 p2 p3 σ none v16 h15) qyL_tryTeller wd_566 wd_567 rfl rfl (by decide) (Nat.le_of_ble_eq_true rfl) ⟨Nat.le_of_ble_eq_true rfl, Nat.le_of_ble_eq_true rfl⟩ dL_call_119 rfl rfl rfl rfl ?_
      cases hF
      exact x_iret rfl rfl (Nat.le_of_ble_eq_true rfl) (Nat.le_of_ble_eq_true rfl) dL_call_122
    · exact x_tableIn (115) 116 dL_call_1 (by rw [h17]; decide) (by rw [h17]; decide) (by rw [h17]; decide) (by decide) hK
  rcases ite_inv hF with ⟨h20, hF⟩ | ⟨h20, hF⟩
  · have hK : qX l G RL "call" cL_call 5 (some .int) [] rmL_call 2 12 (.inl (some (.int ro), so, none)) 0 0 σ none 123 [(0, .ref p0), (1, .int p1), (2, .int p2), (3, .int p3), (4, .int p4)] [] := by
      refine x_aload_n 124 0 dL_call_123 rfl rfl ?_
      refine x_iload_n 125 2 dL_call_124 rfl rfl ?_
      refine x_iload_n 126 3 dL_call_125 rfl rfl ?_
      obtain ⟨v19, h18, hF⟩ := b1_inv hF
      refine x_callSW (As := [.ref p0, .int p2, .int p3]) (rest := []) 129 2 12 (mL_trySteeple hst p0 p2 p3 σ none v19 h18) qyL_trySteeple wd_599 wd_600 rfl rfl (by decide) (Nat.le_of_ble_eq_true rfl) ⟨Nat.le_of_ble_eq_true rfl, Nat.le_of_ble_eq_true rfl⟩ dL_call_126 rfl rfl rfl rfl ?_
      cases hF
      exact x_iret rfl rfl (Nat.le_of_ble_eq_true rfl) (Nat.le_of_ble_eq_true rfl) dL_call_129
    · exact x_tableIn (122) 123 dL_call_1 (by rw [h20]; decide) (by rw [h20]; decide) (by rw [h20]; decide) (by decide) hK
  rcases ite_inv hF with ⟨h23, hF⟩ | ⟨h23, hF⟩
  · have hK : qX l G RL "call" cL_call 5 (some .int) [] rmL_call 2 12 (.inl (some (.int ro), so, none)) 0 0 σ none 130 [(0, .ref p0), (1, .int p1), (2, .int p2), (3, .int p3), (4, .int p4)] [] := by
      refine x_aload_n 131 0 dL_call_130 rfl rfl ?_
      refine x_iload_n 132 2 dL_call_131 rfl rfl ?_
      refine x_iload_n 133 3 dL_call_132 rfl rfl ?_
      obtain ⟨v22, h21, hF⟩ := b1_inv hF
      refine x_callSW (As := [.ref p0, .int p2, .int p3]) (rest := []) 136 2 12 (mL_tryVote hst p0 p2 p3 σ none v22 h21) qyL_tryVote wd_623 wd_624 rfl rfl (by decide) (Nat.le_of_ble_eq_true rfl) ⟨Nat.le_of_ble_eq_true rfl, Nat.le_of_ble_eq_true rfl⟩ dL_call_133 rfl rfl rfl rfl ?_
      cases hF
      exact x_iret rfl rfl (Nat.le_of_ble_eq_true rfl) (Nat.le_of_ble_eq_true rfl) dL_call_136
    · exact x_tableIn (129) 130 dL_call_1 (by rw [h23]; decide) (by rw [h23]; decide) (by rw [h23]; decide) (by decide) hK
  rcases ite_inv hF with ⟨h27, hF⟩ | ⟨h27, hF⟩
  · have hK : qX l G RL "call" cL_call 5 (some .int) [] rmL_call 2 12 (.inl (some (.int ro), so, none)) 0 0 σ none 137 [(0, .ref p0), (1, .int p1), (2, .int p2), (3, .int p3), (4, .int p4)] [] := by
      refine x_aload_n 138 0 dL_call_137 rfl rfl ?_
      refine x_iload_n 139 2 dL_call_138 rfl rfl ?_
      refine x_iload_n 140 3 dL_call_139 rfl rfl ?_
      refine x_iload 142 4 dL_call_140 rfl rfl ?_
      obtain ⟨v25, s26, h24, hF⟩ := b2_inv hF
      refine x_callSW (As := [.ref p0, .int p2, .int p3, .int p4]) (rest := []) 145 2 12 (mL_tryBest hst p0 p2 p3 p4 σ none v25 s26 h24) qyL_tryBest wd_635 wd_636 rfl rfl (by decide) (Nat.le_of_ble_eq_true rfl) ⟨Nat.le_of_ble_eq_true rfl, Nat.le_of_ble_eq_true rfl⟩ dL_call_142 rfl rfl rfl rfl ?_
      cases hF
      exact x_iret rfl rfl (Nat.le_of_ble_eq_true rfl) (Nat.le_of_ble_eq_true rfl) dL_call_145
    · exact x_tableIn (136) 137 dL_call_1 (by rw [h27]; decide) (by rw [h27]; decide) (by rw [h27]; decide) (by decide) hK
  rcases ite_inv hF with ⟨h30, hF⟩ | ⟨h30, hF⟩
  · have hK : qX l G RL "call" cL_call 5 (some .int) [] rmL_call 2 12 (.inl (some (.int ro), so, none)) 0 0 σ none 146 [(0, .ref p0), (1, .int p1), (2, .int p2), (3, .int p3), (4, .int p4)] [] := by
      refine x_aload_n 147 0 dL_call_146 rfl rfl ?_
      refine x_iload_n 148 2 dL_call_147 rfl rfl ?_
      obtain ⟨v29, h28, hF⟩ := b1_inv hF
      refine x_callSW (As := [.ref p0, .int p2]) (rest := []) 151 1 6 (mL_trySetting hst p0 p2 σ none v29 h28) qyL_trySetting wd_668 wd_669 rfl rfl (by decide) (Nat.le_of_ble_eq_true rfl) ⟨Nat.le_of_ble_eq_true rfl, Nat.le_of_ble_eq_true rfl⟩ dL_call_148 rfl rfl rfl rfl ?_
      cases hF
      exact x_iret rfl rfl (Nat.le_of_ble_eq_true rfl) (Nat.le_of_ble_eq_true rfl) dL_call_151
    · exact x_tableIn (145) 146 dL_call_1 (by rw [h30]; decide) (by rw [h30]; decide) (by rw [h30]; decide) (by decide) hK
  rcases ite_inv hF with ⟨h34, hF⟩ | ⟨h34, hF⟩
  · have hK : qX l G RL "call" cL_call 5 (some .int) [] rmL_call 2 12 (.inl (some (.int ro), so, none)) 0 0 σ none 152 [(0, .ref p0), (1, .int p1), (2, .int p2), (3, .int p3), (4, .int p4)] [] := by
      refine x_aload_n 153 0 dL_call_152 rfl rfl ?_
      refine x_iload_n 154 2 dL_call_153 rfl rfl ?_
      obtain ⟨v32, s33, h31, hF⟩ := b2_inv hF
      refine x_callSW (As := [.ref p0, .int p2]) (rest := []) 157 1 6 (mL_tryDrop hst p0 p2 σ none v32 s33 h31) qyL_tryDrop wd_682 wd_683 rfl rfl (by decide) (Nat.le_of_ble_eq_true rfl) ⟨Nat.le_of_ble_eq_true rfl, Nat.le_of_ble_eq_true rfl⟩ dL_call_154 rfl rfl rfl rfl ?_
      cases hF
      exact x_iret rfl rfl (Nat.le_of_ble_eq_true rfl) (Nat.le_of_ble_eq_true rfl) dL_call_157
    · exact x_tableIn (151) 152 dL_call_1 (by rw [h34]; decide) (by rw [h34]; decide) (by rw [h34]; decide) (by decide) hK
  rcases ite_inv hF with ⟨h38, hF⟩ | ⟨h38, hF⟩
  · have hK : qX l G RL "call" cL_call 5 (some .int) [] rmL_call 2 12 (.inl (some (.int ro), so, none)) 0 0 σ none 158 [(0, .ref p0), (1, .int p1), (2, .int p2), (3, .int p3), (4, .int p4)] [] := by
      refine x_aload_n 159 0 dL_call_158 rfl rfl ?_
      refine x_iload_n 160 2 dL_call_159 rfl rfl ?_
      refine x_iload_n 161 3 dL_call_160 rfl rfl ?_
      obtain ⟨v36, s37, h35, hF⟩ := b2_inv hF
      refine x_callSW (As := [.ref p0, .int p2, .int p3]) (rest := []) 164 2 12 (mL_tryTrust hst p0 p2 p3 σ none v36 s37 h35) qyL_tryTrust wd_699 wd_700 rfl rfl (by decide) (Nat.le_of_ble_eq_true rfl) ⟨Nat.le_of_ble_eq_true rfl, Nat.le_of_ble_eq_true rfl⟩ dL_call_161 rfl rfl rfl rfl ?_
      cases hF
      exact x_iret rfl rfl (Nat.le_of_ble_eq_true rfl) (Nat.le_of_ble_eq_true rfl) dL_call_164
    · exact x_tableIn (157) 158 dL_call_1 (by rw [h38]; decide) (by rw [h38]; decide) (by rw [h38]; decide) (by decide) hK
  rcases ite_inv hF with ⟨h42, hF⟩ | ⟨h42, hF⟩
  · have hK : qX l G RL "call" cL_call 5 (some .int) [] rmL_call 2 12 (.inl (some (.int ro), so, none)) 0 0 σ none 165 [(0, .ref p0), (1, .int p1), (2, .int p2), (3, .int p3), (4, .int p4)] [] := by
      refine x_aload_n 166 0 dL_call_165 rfl rfl ?_
      refine x_iload_n 167 2 dL_call_166 rfl rfl ?_
      refine x_iload_n 168 3 dL_call_167 rfl rfl ?_
      obtain ⟨v40, s41, h39, hF⟩ := b2_inv hF
      refine x_callSW (As := [.ref p0, .int p2, .int p3]) (rest := []) 171 2 12 (mL_trySurvey hst p0 p2 p3 σ none v40 s41 h39) qyL_trySurvey wd_708 wd_709 rfl rfl (by decide) (Nat.le_of_ble_eq_true rfl) ⟨Nat.le_of_ble_eq_true rfl, Nat.le_of_ble_eq_true rfl⟩ dL_call_168 rfl rfl rfl rfl ?_
      cases hF
      exact x_iret rfl rfl (Nat.le_of_ble_eq_true rfl) (Nat.le_of_ble_eq_true rfl) dL_call_171
    · exact x_tableIn (164) 165 dL_call_1 (by rw [h42]; decide) (by rw [h42]; decide) (by rw [h42]; decide) (by decide) hK
  rcases ite_inv hF with ⟨h46, hF⟩ | ⟨h46, hF⟩
  · have hK : qX l G RL "call" cL_call 5 (some .int) [] rmL_call 2 12 (.inl (some (.int ro), so, none)) 0 0 σ none 172 [(0, .ref p0), (1, .int p1), (2, .int p2), (3, .int p3), (4, .int p4)] [] := by
      refine x_aload_n 173 0 dL_call_172 rfl rfl ?_
      refine x_iload_n 174 2 dL_call_173 rfl rfl ?_
      refine x_iload_n 175 3 dL_call_174 rfl rfl ?_
      obtain ⟨v44, s45, h43, hF⟩ := b2_inv hF
      refine x_callSW (As := [.ref p0, .int p2, .int p3]) (rest := []) 178 1 6 (mL_tryLay hst p0 p2 p3 σ none v44 s45 h43) qyL_tryLay wd_716 wd_717 rfl rfl (by decide) (Nat.le_of_ble_eq_true rfl) ⟨Nat.le_of_ble_eq_true rfl, Nat.le_of_ble_eq_true rfl⟩ dL_call_175 rfl rfl rfl rfl ?_
      cases hF
      exact x_iret rfl rfl (Nat.le_of_ble_eq_true rfl) (Nat.le_of_ble_eq_true rfl) dL_call_178
    · exact x_tableIn (171) 172 dL_call_1 (by rw [h46]; decide) (by rw [h46]; decide) (by rw [h46]; decide) (by decide) hK
  rcases ite_inv hF with ⟨h50, hF⟩ | ⟨h50, hF⟩
  · have hK : qX l G RL "call" cL_call 5 (some .int) [] rmL_call 2 12 (.inl (some (.int ro), so, none)) 0 0 σ none 179 [(0, .ref p0), (1, .int p1), (2, .int p2), (3, .int p3), (4, .int p4)] [] := by
      refine x_aload_n 180 0 dL_call_179 rfl rfl ?_
      obtain ⟨v48, s49, h47, hF⟩ := b2_inv hF
      refine x_callSW (As := [.ref p0]) (rest := []) 183 1 6 (mL_tryUndo hst p0 σ none v48 s49 h47) qyL_tryUndo wd_731 wd_732 rfl rfl (by decide) (Nat.le_of_ble_eq_true rfl) ⟨Nat.le_of_ble_eq_true rfl, Nat.le_of_ble_eq_true rfl⟩ dL_call_180 rfl rfl rfl rfl ?_
      cases hF
      exact x_iret rfl rfl (Nat.le_of_ble_eq_true rfl) (Nat.le_of_ble_eq_true rfl) dL_call_183
    · exact x_tableIn (178) 179 dL_call_1 (by rw [h50]; decide) (by rw [h50]; decide) (by rw [h50]; decide) (by decide) hK
  rcases ite_inv hF with ⟨h53, hF⟩ | ⟨h53, hF⟩
  · have hK : qX l G RL "call" cL_call 5 (some .int) [] rmL_call 2 12 (.inl (some (.int ro), so, none)) 0 0 σ none 184 [(0, .ref p0), (1, .int p1), (2, .int p2), (3, .int p3), (4, .int p4)] [] := by
      refine x_aload_n 185 0 dL_call_184 rfl rfl ?_
      refine x_iload_n 186 2 dL_call_185 rfl rfl ?_
      refine x_iload_n 187 3 dL_call_186 rfl rfl ?_
      obtain ⟨v52, h51, hF⟩ := b1_inv hF
      refine x_callSW (As := [.ref p0, .int p2, .int p3]) (rest := []) 190 2 12 (mL_tryApart hst p0 p2 p3 σ none v52 h51) qyL_tryApart wd_747 wd_748 rfl rfl (by decide) (Nat.le_of_ble_eq_true rfl) ⟨Nat.le_of_ble_eq_true rfl, Nat.le_of_ble_eq_true rfl⟩ dL_call_187 rfl rfl rfl rfl ?_
      cases hF
      exact x_iret rfl rfl (Nat.le_of_ble_eq_true rfl) (Nat.le_of_ble_eq_true rfl) dL_call_190
    · exact x_tableIn (183) 184 dL_call_1 (by rw [h53]; decide) (by rw [h53]; decide) (by rw [h53]; decide) (by decide) hK
  rcases ite_inv hF with ⟨h57, hF⟩ | ⟨h57, hF⟩
  · have hK : qX l G RL "call" cL_call 5 (some .int) [] rmL_call 2 12 (.inl (some (.int ro), so, none)) 0 0 σ none 191 [(0, .ref p0), (1, .int p1), (2, .int p2), (3, .int p3), (4, .int p4)] [] := by
      refine x_aload_n 192 0 dL_call_191 rfl rfl ?_
      refine x_iload_n 193 2 dL_call_192 rfl rfl ?_
      obtain ⟨v55, s56, h54, hF⟩ := b2_inv hF
      refine x_callSW (As := [.ref p0, .int p2]) (rest := []) 196 1 6 (mL_tryAgainst hst p0 p2 σ none v55 s56 h54) qyL_tryAgainst wd_755 wd_756 rfl rfl (by decide) (Nat.le_of_ble_eq_true rfl) ⟨Nat.le_of_ble_eq_true rfl, Nat.le_of_ble_eq_true rfl⟩ dL_call_193 rfl rfl rfl rfl ?_
      cases hF
      exact x_iret rfl rfl (Nat.le_of_ble_eq_true rfl) (Nat.le_of_ble_eq_true rfl) dL_call_196
    · exact x_tableIn (190) 191 dL_call_1 (by rw [h57]; decide) (by rw [h57]; decide) (by rw [h57]; decide) (by decide) hK
  rcases ite_inv hF with ⟨h61, hF⟩ | ⟨h61, hF⟩
  · have hK : qX l G RL "call" cL_call 5 (some .int) [] rmL_call 2 12 (.inl (some (.int ro), so, none)) 0 0 σ none 197 [(0, .ref p0), (1, .int p1), (2, .int p2), (3, .int p3), (4, .int p4)] [] := by
      refine x_aload_n 198 0 dL_call_197 rfl rfl ?_
      refine x_iload_n 199 2 dL_call_198 rfl rfl ?_
      refine x_iload_n 200 3 dL_call_199 rfl rfl ?_
      obtain ⟨v59, s60, h58, hF⟩ := b2_inv hF
      refine x_callSW (As := [.ref p0, .int p2, .int p3]) (rest := []) 203 2 12 (mL_tryWithout hst p0 p2 p3 σ none v59 s60 h58) qyL_tryWithout wd_778 wd_779 rfl rfl (by decide) (Nat.le_of_ble_eq_true rfl) ⟨Nat.le_of_ble_eq_true rfl, Nat.le_of_ble_eq_true rfl⟩ dL_call_200 rfl rfl rfl rfl ?_
      cases hF
      exact x_iret rfl rfl (Nat.le_of_ble_eq_true rfl) (Nat.le_of_ble_eq_true rfl) dL_call_203
    · exact x_tableIn (196) 197 dL_call_1 (by rw [h61]; decide) (by rw [h61]; decide) (by rw [h61]; decide) (by decide) hK
  rcases ite_inv hF with ⟨h65, hF⟩ | ⟨h65, hF⟩
  · have hK : qX l G RL "call" cL_call 5 (some .int) [] rmL_call 2 12 (.inl (some (.int ro), so, none)) 0 0 σ none 204 [(0, .ref p0), (1, .int p1), (2, .int p2), (3, .int p3), (4, .int p4)] [] := by
      refine x_aload_n 205 0 dL_call_204 rfl rfl ?_
      refine x_iload_n 206 2 dL_call_205 rfl rfl ?_
      refine x_iload_n 207 3 dL_call_206 rfl rfl ?_
      obtain ⟨v63, s64, h62, hF⟩ := b2_inv hF
      refine x_callSW (As := [.ref p0, .int p2, .int p3]) (rest := []) 210 2 12 (mL_trySwings hst p0 p2 p3 σ none v63 s64 h62) qyL_trySwings wd_785 wd_786 rfl rfl (by decide) (Nat.le_of_ble_eq_true rfl) ⟨Nat.le_of_ble_eq_true rfl, Nat.le_of_ble_eq_true rfl⟩ dL_call_207 rfl rfl rfl rfl ?_
      cases hF
      exact x_iret rfl rfl (Nat.le_of_ble_eq_true rfl) (Nat.le_of_ble_eq_true rfl) dL_call_210
    · exact x_tableIn (203) 204 dL_call_1 (by rw [h65]; decide) (by rw [h65]; decide) (by rw [h65]; decide) (by decide) hK
  rcases ite_inv hF with ⟨h69, hF⟩ | ⟨h69, hF⟩
  · have hK : qX l G RL "call" cL_call 5 (some .int) [] rmL_call 2 12 (.inl (some (.int ro), so, none)) 0 0 σ none 211 [(0, .ref p0), (1, .int p1), (2, .int p2), (3, .int p3), (4, .int p4)] [] := by
      refine x_aload_n 212 0 dL_call_211 rfl rfl ?_
      refine x_iload_n 213 2 dL_call_212 rfl rfl ?_
      obtain ⟨v67, s68, h66, hF⟩ := b2_inv hF
      refine x_callSW (As := [.ref p0, .int p2]) (rest := []) 216 1 6 (mL_tryKeep hst p0 p2 σ none v67 s68 h66) qyL_tryKeep wd_797 wd_798 rfl rfl (by decide) (Nat.le_of_ble_eq_true rfl) ⟨Nat.le_of_ble_eq_true rfl, Nat.le_of_ble_eq_true rfl⟩ dL_call_213 rfl rfl rfl rfl ?_
      cases hF
      exact x_iret rfl rfl (Nat.le_of_ble_eq_true rfl) (Nat.le_of_ble_eq_true rfl) dL_call_216
    · exact x_tableIn (210) 211 dL_call_1 (by rw [h69]; decide) (by rw [h69]; decide) (by rw [h69]; decide) (by decide) hK
  have hK : qX l G RL "call" cL_call 5 (some .int) [] rmL_call 2 12 (.inl (some (.int ro), so, none)) 0 0 σ none 217 [(0, .ref p0), (1, .int p1), (2, .int p2), (3, .int p3), (4, .int p4)] [] := by
    refine x_aload_n 218 0 dL_call_217 rfl rfl ?_
    refine x_iload_n 219 2 dL_call_218 rfl rfl ?_
    obtain ⟨v71, s72, h70, hF⟩ := b2_inv hF
    refine x_callSW (As := [.ref p0, .int p2]) (rest := []) 222 2 12 (mL_tryBack hst p0 p2 σ none v71 s72 h70) qyL_tryBack wd_808 wd_809 rfl rfl (by decide) (Nat.le_of_ble_eq_true rfl) ⟨Nat.le_of_ble_eq_true rfl, Nat.le_of_ble_eq_true rfl⟩ dL_call_219 rfl rfl rfl rfl ?_
    cases hF
    exact x_iret rfl rfl (Nat.le_of_ble_eq_true rfl) (Nat.le_of_ble_eq_true rfl) dL_call_222
  have h4z := i32_ne (z := 0) h4 (by decide)
  have h8z := i32_ne (z := 1) h8 (by decide)
  have h11z := i32_ne (z := 2) h11 (by decide)
  have h14z := i32_ne (z := 3) h14 (by decide)
  have h17z := i32_ne (z := 4) h17 (by decide)
  have h20z := i32_ne (z := 5) h20 (by decide)
  have h23z := i32_ne (z := 6) h23 (by decide)
  have h27z := i32_ne (z := 7) h27 (by decide)
  have h30z := i32_ne (z := 8) h30 (by decide)
  have h34z := i32_ne (z := 9) h34 (by decide)
  have h38z := i32_ne (z := 10) h38 (by decide)
  have h42z := i32_ne (z := 11) h42 (by decide)
  have h46z := i32_ne (z := 12) h46 (by decide)
  have h50z := i32_ne (z := 13) h50 (by decide)
  have h53z := i32_ne (z := 14) h53 (by decide)
  have h57z := i32_ne (z := 15) h57 (by decide)
  have h61z := i32_ne (z := 16) h61 (by decide)
  have h65z := i32_ne (z := 17) h65 (by decide)
  have h69z := i32_ne (z := 18) h69 (by decide)
  exact x_tableOut 217 dL_call_1 (by omega) (by decide) hK
def rmL_told : Room := { frames := 8, cells := 4, slots := 24, locals := 129 }
theorem qyL_told : qYW yL_told cL_told 9 (some .int) [(0, 15, 16, 13), (0, 15, 21, 16), (0, 15, 26, 19)] 8 := ⟨wd_818, wd_16, by decide +kernel, by decide +kernel, by decide +kernel⟩
set_option maxHeartbeats 4000000 in
set_option maxRecDepth 100000 in
theorem mL_told {l : Launch} {G : qG} (hst : l.stackTraces = false) (p0 : Nat) (p1 : Int32) (p2 : Int32) (p3 : Int32) (p4 : Int32) (p5 : Int32) (p6 : Int32) (p7 : Int32) (σ : qH) (n : Option Nat) (ro : Int32) (so : qH) (hF : FL_told p0 p1 p2 p3 p4 p5 p6 p7 σ = some (ro, so)) : qMW l G yL_told cL_told 9 (some .int) [(0, 15, 16, 13), (0, 15, 21, 16), (0, 15, 26, 19)] rmL_told [.ref p0, .int p1, .int p2, .int p3, .int p4, .int p5, .int p6, .int p7] σ n (.inl (some (.int ro), so, none)) := by
  refine q_bodyW (own := RL) (nm := "told") (tab := [⟨0, 15, 16, 13⟩, ⟨0, 15, 21, 16⟩, ⟨0, 15, 26, 19⟩]) (ls := [(0, .ref p0), (1, .int p1), (2, .int p2), (3, .int p3), (4, .int p4), (5, .int p5), (6, .int p6), (7, .int p7)]) hst (by decide +kernel) rfl rfl (Nat.le_of_ble_eq_true rfl) rfl rfl rfl rfl ?_
  unfold FL_told at hF
  refine x_aload_n 1 0 dL_told_0 rfl rfl ?_
  refine x_iload_n 2 1 dL_told_1 rfl rfl ?_
  refine x_iload_n 3 2 dL_told_2 rfl rfl ?_
  refine x_iload_n 4 3 dL_told_3 rfl rfl ?_
  refine x_iload 6 4 dL_told_4 rfl rfl ?_
  refine x_iload 8 5 dL_told_6 rfl rfl ?_
  refine x_iload 10 6 dL_told_8 rfl rfl ?_
  refine x_iload 12 7 dL_told_10 rfl rfl ?_
  rcases bc2_inv hF with ⟨v3, s4, h1, hF⟩ | ⟨e2, s5, h1, hF⟩
  · obtain ⟨fs, hb⟩ : ∃ fs : List Value, True ∧ σ p0 = some (.inr (4, fs)) := kX6_measure h1
    refine x_callV (As := [.int p1, .int p2, .int p3, .int p4, .int p5, .int p6, .int p7]) (rest := []) 15 4 24 (mX6_measure hst p0 p1 p2 p3 p4 p5 p6 p7 σ n (.inl (v3, s4)) h1) qyX6_measure wd_819 wd_820 wd_821 hb.2 rfl rfl rfl (by decide) (Nat.le_of_ble_eq_true rfl) ⟨Nat.le_of_ble_eq_true rfl, Nat.le_of_ble_eq_true rfl⟩ dL_told_12 rfl rfl rfl rfl ?_
    refine x_anyn ?_
    cases hF
    exact x_iret rfl rfl (Nat.le_of_ble_eq_true rfl) (Nat.le_of_ble_eq_true rfl) dL_told_15
  · obtain ⟨fs, hb⟩ : ∃ fs : List Value, True ∧ σ p0 = some (.inr (4, fs)) := kX6_measure h1
    rcases ite_inv hF with ⟨he, hF⟩ | ⟨he, hF⟩
    · subst he
      refine x_callVC (E := "java/lang/IndexOutOfBoundsException") (As := [.int p1, .int p2, .int p3, .int p4, .int p5, .int p6, .int p7]) (rest := []) 4 24 [] ⟨0, 15, 16, 13⟩ [⟨0, 15, 21, 16⟩, ⟨0, 15, 26, 19⟩] (mX6_measure hst p0 p1 p2 p3 p4 p5 p6 p7 σ n (.inr ("java/lang/IndexOutOfBoundsException", s5)) h1) qyX6_measure wd_819 wd_820 wd_821 hb.2 rfl rfl rfl (by decide) (Nat.le_of_ble_eq_true rfl) ⟨Nat.le_of_ble_eq_true rfl, Nat.le_of_ble_eq_true rfl⟩ dL_told_12 rfl (fun _ h => absurd h List.not_mem_nil) (by decide) (by decide) wd_533 cst_I rfl rfl (fun qx => ?_)
      refine x_astore 18 8 [(8, .ref qx), (0, .ref p0), (1, .int p1), (2, .int p2), (3, .int p3), (4, .int p4), (5, .int p5), (6, .int p6), (7, .int p7)] dL_told_16 rfl (by decide) rfl ?_
      refine x_ldc 20 (-9999001 : Int32) wd_565 dL_told_18 rfl ?_
      refine x_anyn ?_
      cases hF
      exact x_iret rfl rfl (Nat.le_of_ble_eq_true rfl) (Nat.le_of_ble_eq_true rfl) dL_told_20
    rcases ite_inv hF with ⟨he, hF⟩ | ⟨he, hF⟩
    · subst he
      refine x_callVC (E := "java/lang/IllegalArgumentException") (As := [.int p1, .int p2, .int p3, .int p4, .int p5, .int p6, .int p7]) (rest := []) 4 24 [⟨0, 15, 16, 13⟩] ⟨0, 15, 21, 16⟩ [⟨0, 15, 26, 19⟩] (mX6_measure hst p0 p1 p2 p3 p4 p5 p6 p7 σ n (.inr ("java/lang/IllegalArgumentException", s5)) h1) qyX6_measure wd_819 wd_820 wd_821 hb.2 rfl rfl rfl (by decide) (Nat.le_of_ble_eq_true rfl) ⟨Nat.le_of_ble_eq_true rfl, Nat.le_of_ble_eq_true rfl⟩ dL_told_12 rfl (List.forall_mem_cons.mpr ⟨⟨by decide, _, wd_533, by decide⟩, fun _ h => absurd h List.not_mem_nil⟩) (by decide) (by decide) wd_186 cst_A rfl rfl (fun qx => ?_)
      refine x_astore 23 8 [(8, .ref qx), (0, .ref p0), (1, .int p1), (2, .int p2), (3, .int p3), (4, .int p4), (5, .int p5), (6, .int p6), (7, .int p7)] dL_told_21 rfl (by decide) rfl ?_
      refine x_ldc 25 (-9999002 : Int32) wd_287 dL_told_23 rfl ?_
      refine x_anyn ?_
      cases hF
      exact x_iret rfl rfl (Nat.le_of_ble_eq_true rfl) (Nat.le_of_ble_eq_true rfl) dL_told_25
    rcases ite_inv hF with ⟨he, hF⟩ | ⟨he, hF⟩
    · subst he
      refine x_callVC (E := "java/lang/IllegalStateException") (As := [.int p1, .int p2, .int p3, .int p4, .int p5, .int p6, .int p7]) (rest := []) 4 24 [⟨0, 15, 16, 13⟩, ⟨0, 15, 21, 16⟩] ⟨0, 15, 26, 19⟩ [] (mX6_measure hst p0 p1 p2 p3 p4 p5 p6 p7 σ n (.inr ("java/lang/IllegalStateException", s5)) h1) qyX6_measure wd_819 wd_820 wd_821 hb.2 rfl rfl rfl (by decide) (Nat.le_of_ble_eq_true rfl) ⟨Nat.le_of_ble_eq_true rfl, Nat.le_of_ble_eq_true rfl⟩ dL_told_12 rfl (List.forall_mem_cons.mpr ⟨⟨by decide, _, wd_533, by decide⟩, List.forall_mem_cons.mpr ⟨⟨by decide, _, wd_186, by decide⟩, fun _ h => absurd h List.not_mem_nil⟩⟩) (by decide) (by decide) wd_187 cst_S rfl rfl (fun qx => ?_)
      refine x_astore 28 8 [(8, .ref qx), (0, .ref p0), (1, .int p1), (2, .int p2), (3, .int p3), (4, .int p4), (5, .int p5), (6, .int p6), (7, .int p7)] dL_told_26 rfl (by decide) rfl ?_
      refine x_ldc 30 (-9999003 : Int32) wd_288 dL_told_28 rfl ?_
      refine x_anyn ?_
      cases hF
      exact x_iret rfl rfl (Nat.le_of_ble_eq_true rfl) (Nat.le_of_ble_eq_true rfl) dL_told_30
    cases hF
def rmL_act : Room := { frames := 10, cells := 6, slots := 36, locals := 207 }
theorem qyL_act : qY yL_act cL_act 5 (some .int) 2 := ⟨wd_910, wd_16, by decide +kernel, by decide +kernel, by decide +kernel⟩
set_option maxHeartbeats 4000000 in
set_option maxRecDepth 100000 in
theorem mL_act {l : Launch} {G : qG} (hst : l.stackTraces = false) (p0 : Nat) (p1 : Int32) (σ : qH) (n : Option Nat) (ro : Int32) (so : qH) (hF : FL_act (G.2.2.2.1) p0 p1 σ = some (ro, so)) : qM l G yL_act cL_act 5 (some .int) rmL_act [.ref p0, .int p1] σ n (.inl (some (.int ro), so, none)) := by
  refine q_body (own := RL) (nm := "act") (ls := [(0, .ref p0), (1, .int p1)]) hst (by decide +kernel) rfl rfl (Nat.le_of_ble_eq_true rfl) rfl rfl rfl ?_
  unfold FL_act at hF
  refine x_anyn ?_
  refine x_iload_n 1 1 dL_act_0 rfl rfl ?_
  refine x_bipush 3 (16 : Int32) dL_act_1 rfl (by decide) ?_
  refine x_idiv 4 (by decide) dL_act_3 rfl ?_
  refine x_istore_n 5 2 [(2, .int (p1 / (16 : Int32))), (0, .ref p0), (1, .int p1)] dL_act_4 rfl rfl (by decide) rfl ?_
  refine x_aload_n 6 1 dL_act_5 rfl rfl ?_
  refine x_iconst 7 (2 : Int32) dL_act_6 rfl (by decide) ?_
  refine x_iconst 8 (0 : Int32) dL_act_7 rfl (by decide) ?_
  refine x_iconst 9 (0 : Int32) dL_act_8 rfl (by decide) ?_
  refine x_iconst 10 (0 : Int32) dL_act_9 rfl (by decide) ?_
  obtain ⟨v2, s3, h1, hF⟩ := b2_inv hF
  refine x_callS (As := [.ref p0, .int (2 : Int32), .int (0 : Int32), .int (0 : Int32), .int (0 : Int32)]) (rest := []) 13 2 12 (mL_call hst p0 (2 : Int32) (0 : Int32) (0 : Int32) (0 : Int32) σ none v2 s3 h1) qyL_call wd_180 wd_181 rfl rfl (by decide) (Nat.le_of_ble_eq_true rfl) ⟨Nat.le_of_ble_eq_true rfl, Nat.le_of_ble_eq_true rfl⟩ dL_act_10 rfl rfl rfl rfl ?_
  refine x_istore_n 14 3 [(3, .int v2), (2, .int (p1 / (16 : Int32))), (0, .ref p0), (1, .int p1)] dL_act_13 rfl rfl (by decide) rfl ?_
  refine x_iconst 15 (1 : Int32) dL_act_14 rfl (by decide) ?_
  refine x_iload_n 16 1 dL_act_15 rfl rfl ?_
  refine x_bipush 18 (18 : Int32) dL_act_16 rfl (by decide) ?_
  refine x_idiv 19 (by decide) dL_act_18 rfl ?_
  refine x_sipush 22 (300 : Int32) dL_act_19 rfl (by decide) ?_
  refine x_irem 23 (by decide) dL_act_22 rfl ?_
  refine x_iadd 24 dL_act_23 rfl ?_
  refine x_istore 26 4 [(4, .int ((1 : Int32) + (irm ((p1 / (16 : Int32)) / (18 : Int32)) (300 : Int32)))), (3, .int v2), (2, .int (p1 / (16 : Int32))), (0, .ref p0), (1, .int p1)] dL_act_24 rfl (by decide) rfl ?_
  refine x_iload_n 27 4 dL_act_26 rfl rfl ?_
  refine x_bipush 29 (16 : Int32) dL_act_27 rfl (by decide) ?_
  refine x_irem 30 (by decide) dL_act_29 rfl ?_
  rcases ite_inv hF with ⟨h7, hF⟩ | ⟨h7, hF⟩
  · have hK : qX l G RL "act" cL_act 5 (some .int) [] rmL_act 6 36 (.inl (some (.int ro), so, none)) 2 12 s3 none 100 [(4, .int ((1 : Int32) + (irm ((p1 / (16 : Int32)) / (18 : Int32)) (300 : Int32)))), (3, .int v2), (2, .int (p1 / (16 : Int32))), (0, .ref p0), (1, .int p1)] [] := by
      refine x_aload_n 101 3 dL_act_100 rfl rfl ?_
      refine x_iload_n 102 2 dL_act_101 rfl rfl ?_
      refine x_iconst 103 (3 : Int32) dL_act_102 rfl (by decide) ?_
      refine x_irem 104 (by decide) dL_act_103 rfl ?_
      refine x_iload_n 105 2 dL_act_104 rfl rfl ?_
      refine x_iconst 106 (3 : Int32) dL_act_105 rfl (by decide) ?_
      refine x_idiv 107 (by decide) dL_act_106 rfl ?_
      refine x_bipush 109 (6 : Int32) dL_act_107 rfl (by decide) ?_
      refine x_irem 110 (by decide) dL_act_109 rfl ?_
      refine x_iconst 111 (0 : Int32) dL_act_110 rfl (by decide) ?_
      refine x_iconst 112 (1 : Int32) dL_act_111 rfl (by decide) ?_
      refine x_iload_n 113 2 dL_act_112 rfl rfl ?_
      refine x_bipush 115 (18 : Int32) dL_act_113 rfl (by decide) ?_
      refine x_idiv 116 (by decide) dL_act_115 rfl ?_
      refine x_bipush 118 (20 : Int32) dL_act_116 rfl (by decide) ?_
      refine x_irem 119 (by decide) dL_act_118 rfl ?_
      refine x_iadd 120 dL_act_119 rfl ?_
      refine x_iconst 121 (1 : Int32) dL_act_120 rfl (by decide) ?_
      refine x_iload_n 122 2 dL_act_121 rfl rfl ?_
      refine x_sipush 125 (360 : Int32) dL_act_122 rfl (by decide) ?_
      refine x_idiv 126 (by decide) dL_act_125 rfl ?_
      refine x_bipush 128 (40 : Int32) dL_act_126 rfl (by decide) ?_
      refine x_irem 129 (by decide) dL_act_128 rfl ?_
      refine x_iadd 130 dL_act_129 rfl ?_
      refine x_iconst 131 (1 : Int32) dL_act_130 rfl (by decide) ?_
      refine x_iload_n 132 2 dL_act_131 rfl rfl ?_
      refine x_sipush 135 (21600 : Int32) dL_act_132 rfl (by decide) ?_
      refine x_idiv 136 (by decide) dL_act_135 rfl ?_
      refine x_sipush 139 (400 : Int32) dL_act_136 rfl (by decide) ?_
      refine x_irem 140 (by decide) dL_act_139 rfl ?_
      refine x_iadd 141 dL_act_140 rfl ?_
      refine x_iload_n 142 2 dL_act_141 rfl rfl ?_
      refine x_bipush 144 (7 : Int32) dL_act_142 rfl (by decide) ?_
      refine x_idiv 145 (by decide) dL_act_144 rfl ?_
      refine x_bipush 147 (21 : Int32) dL_act_145 rfl (by decide) ?_
      refine x_irem 148 (by decide) dL_act_147 rfl ?_
      obtain ⟨v5, s6, h4, hF⟩ := b2_inv hF
      refine x_callSW (As := [.ref p0, .int (irm (p1 / (16 : Int32)) (3 : Int32)), .int (irm ((p1 / (16 : Int32)) / (3 : Int32)) (6 : Int32)), .int (0 : Int32), .int ((1 : Int32) + (irm ((p1 / (16 : Int32)) / (18 : Int32)) (20 : Int32))), .int ((1 : Int32) + (irm ((p1 / (16 : Int32)) / (360 : Int32)) (40 : Int32))), .int ((1 : Int32) + (irm ((p1 / (16 : Int32)) / (21600 : Int32)) (400 : Int32))), .int (irm ((p1 / (16 : Int32)) / (7 : Int32)) (21 : Int32))]) (rest := []) 151 6 36 (mL_told hst p0 (irm (p1 / (16 : Int32)) (3 : Int32)) (irm ((p1 / (16 : Int32)) / (3 : Int32)) (6 : Int32)) (0 : Int32) ((1 : Int32) + (irm ((p1 / (16 : Int32)) / (18 : Int32)) (20 : Int32))) ((1 : Int32) + (irm ((p1 / (16 : Int32)) / (360 : Int32)) (40 : Int32))) ((1 : Int32) + (irm ((p1 / (16 : Int32)) / (21600 : Int32)) (400 : Int32))) (irm ((p1 / (16 : Int32)) / (7 : Int32)) (21 : Int32)) s3 none v5 s6 h4) qyL_told wd_816 wd_817 rfl rfl (by decide) (Nat.le_of_ble_eq_true rfl) ⟨Nat.le_of_ble_eq_true rfl, Nat.le_of_ble_eq_true rfl⟩ dL_act_148 rfl rfl rfl rfl ?_
      cases hF
      exact x_iret rfl rfl (Nat.le_of_ble_eq_true rfl) (Nat.le_of_ble_eq_true rfl) dL_act_151
    rcases h7 with h7 | h7
    · exact x_tableIn (70) 100 dL_act_30 (by rw [h7]; decide) (by rw [h7]; decide) (by rw [h7]; decide) (by decide) hK
    · exact x_tableIn (70) 100 dL_act_30 (by rw [h7]; decide) (by rw [h7]; decide) (by rw [h7]; decide) (by decide) hK
  rcases ite_inv hF with ⟨h11, hF⟩ | ⟨h11, hF⟩
  · have hK : qX l G RL "act" cL_act 5 (some .int) [] rmL_act 6 36 (.inl (some (.int ro), so, none)) 2 12 s3 none 152 [(4, .int ((1 : Int32) + (irm ((p1 / (16 : Int32)) / (18 : Int32)) (300 : Int32)))), (3, .int v2), (2, .int (p1 / (16 : Int32))), (0, .ref p0), (1, .int p1)] [] := by
      refine x_aload_n 153 3 dL_act_152 rfl rfl ?_
      refine x_iload_n 154 2 dL_act_153 rfl rfl ?_
      refine x_iconst 155 (3 : Int32) dL_act_154 rfl (by decide) ?_
      refine x_irem 156 (by decide) dL_act_155 rfl ?_
      refine x_iload_n 157 2 dL_act_156 rfl rfl ?_
      refine x_iconst 158 (3 : Int32) dL_act_157 rfl (by decide) ?_
      refine x_idiv 159 (by decide) dL_act_158 rfl ?_
      refine x_bipush 161 (6 : Int32) dL_act_159 rfl (by decide) ?_
      refine x_irem 162 (by decide) dL_act_161 rfl ?_
      refine x_iconst 163 (1 : Int32) dL_act_162 rfl (by decide) ?_
      refine x_iconst 164 (1 : Int32) dL_act_163 rfl (by decide) ?_
      refine x_iload_n 165 2 dL_act_164 rfl rfl ?_
      refine x_bipush 167 (18 : Int32) dL_act_165 rfl (by decide) ?_
      refine x_idiv 168 (by decide) dL_act_167 rfl ?_
      refine x_bipush 170 (9 : Int32) dL_act_168 rfl (by decide) ?_
      refine x_irem 171 (by decide) dL_act_170 rfl ?_
      refine x_iadd 172 dL_act_171 rfl ?_
      refine x_iconst 173 (1 : Int32) dL_act_172 rfl (by decide) ?_
      refine x_iload_n 174 2 dL_act_173 rfl rfl ?_
      refine x_sipush 177 (360 : Int32) dL_act_174 rfl (by decide) ?_
      refine x_idiv 178 (by decide) dL_act_177 rfl ?_
      refine x_bipush 180 (60 : Int32) dL_act_178 rfl (by decide) ?_
      refine x_irem 181 (by decide) dL_act_180 rfl ?_
      refine x_iadd 182 dL_act_181 rfl ?_
      refine x_iconst 183 (1 : Int32) dL_act_182 rfl (by decide) ?_
      refine x_iload_n 184 2 dL_act_183 rfl rfl ?_
      refine x_sipush 187 (21600 : Int32) dL_act_184 rfl (by decide) ?_
      refine x_idiv 188 (by decide) dL_act_187 rfl ?_
      refine x_sipush 191 (400 : Int32) dL_act_188 rfl (by decide) ?_
      refine x_irem 192 (by decide) dL_act_191 rfl ?_
      refine x_iadd 193 dL_act_192 rfl ?_
      refine x_iload_n 194 2 dL_act_193 rfl rfl ?_
      refine x_bipush 196 (7 : Int32) dL_act_194 rfl (by decide) ?_
      refine x_idiv 197 (by decide) dL_act_196 rfl ?_
      refine x_bipush 199 (21 : Int32) dL_act_197 rfl (by decide) ?_
      refine x_irem 200 (by decide) dL_act_199 rfl ?_
      obtain ⟨v9, s10, h8, hF⟩ := b2_inv hF
      refine x_callSW (As := [.ref p0, .int (irm (p1 / (16 : Int32)) (3 : Int32)), .int (irm ((p1 / (16 : Int32)) / (3 : Int32)) (6 : Int32)), .int (1 : Int32), .int ((1 : Int32) + (irm ((p1 / (16 : Int32)) / (18 : Int32)) (9 : Int32))), .int ((1 : Int32) + (irm ((p1 / (16 : Int32)) / (360 : Int32)) (60 : Int32))), .int ((1 : Int32) + (irm ((p1 / (16 : Int32)) / (21600 : Int32)) (400 : Int32))), .int (irm ((p1 / (16 : Int32)) / (7 : Int32)) (21 : Int32))]) (rest := []) 203 6 36 (mL_told hst p0 (irm (p1 / (16 : Int32)) (3 : Int32)) (irm ((p1 / (16 : Int32)) / (3 : Int32)) (6 : Int32)) (1 : Int32) ((1 : Int32) + (irm ((p1 / (16 : Int32)) / (18 : Int32)) (9 : Int32))) ((1 : Int32) + (irm ((p1 / (16 : Int32)) / (360 : Int32)) (60 : Int32))) ((1 : Int32) + (irm ((p1 / (16 : Int32)) / (21600 : Int32)) (400 : Int32))) (irm ((p1 / (16 : Int32)) / (7 : Int32)) (21 : Int32)) s3 none v9 s10 h8) qyL_told wd_816 wd_817 rfl rfl (by decide) (Nat.le_of_ble_eq_true rfl) ⟨Nat.le_of_ble_eq_true rfl, Nat.le_of_ble_eq_true rfl⟩ dL_act_200 rfl rfl rfl rfl ?_
      cases hF
      exact x_iret rfl rfl (Nat.le_of_ble_eq_true rfl) (Nat.le_of_ble_eq_true rfl) dL_act_203
    · exact x_tableIn (122) 152 dL_act_30 (by rw [h11]; decide) (by rw [h11]; decide) (by rw [h11]; decide) (by decide) hK
  rcases ite_inv hF with ⟨h15, hF⟩ | ⟨h15, hF⟩
  · have hK : qX l G RL "act" cL_act 5 (some .int) [] rmL_act 6 36 (.inl (some (.int ro), so, none)) 2 12 s3 none 204 [(4, .int ((1 : Int32) + (irm ((p1 / (16 : Int32)) / (18 : Int32)) (300 : Int32)))), (3, .int v2), (2, .int (p1 / (16 : Int32))), (0, .ref p0), (1, .int p1)] [] := by
      refine x_aload_n 205 3 dL_act_204 rfl rfl ?_
      refine x_iload_n 206 2 dL_act_205 rfl rfl ?_
      refine x_iconst 207 (3 : Int32) dL_act_206 rfl (by decide) ?_
      refine x_irem 208 (by decide) dL_act_207 rfl ?_
      refine x_iload_n 209 2 dL_act_208 rfl rfl ?_
      refine x_iconst 210 (3 : Int32) dL_act_209 rfl (by decide) ?_
      refine x_idiv 211 (by decide) dL_act_210 rfl ?_
      refine x_bipush 213 (6 : Int32) dL_act_211 rfl (by decide) ?_
      refine x_irem 214 (by decide) dL_act_213 rfl ?_
      refine x_iconst 215 (2 : Int32) dL_act_214 rfl (by decide) ?_
      refine x_iload 217 0 dL_act_215 rfl rfl ?_
      refine x_iload 219 0 dL_act_217 rfl rfl ?_
      refine x_iload_n 220 2 dL_act_219 rfl rfl ?_
      refine x_sipush 223 (5400 : Int32) dL_act_220 rfl (by decide) ?_
      refine x_idiv 224 (by decide) dL_act_223 rfl ?_
      refine x_bipush 226 (60 : Int32) dL_act_224 rfl (by decide) ?_
      refine x_irem 227 (by decide) dL_act_226 rfl ?_
      refine x_iadd 228 dL_act_227 rfl ?_
      refine x_iconst 229 (0 : Int32) dL_act_228 rfl (by decide) ?_
      refine x_iconst 230 (0 : Int32) dL_act_229 rfl (by decide) ?_
      obtain ⟨v13, s14, h12, hF⟩ := b2_inv hF
      refine x_callSW (As := [.ref p0, .int (irm (p1 / (16 : Int32)) (3 : Int32)), .int (irm ((p1 / (16 : Int32)) / (3 : Int32)) (6 : Int32)), .int (2 : Int32), .int ((1 : Int32) + (irm ((p1 / (16 : Int32)) / (18 : Int32)) (300 : Int32))), .int (((1 : Int32) + (irm ((p1 / (16 : Int32)) / (18 : Int32)) (300 : Int32))) + (irm ((p1 / (16 : Int32)) / (5400 : Int32)) (60 : Int32))), .int (0 : Int32), .int (0 : Int32)]) (rest := []) 233 6 36 (mL_told hst p0 (irm (p1 / (16 : Int32)) (3 : Int32)) (irm ((p1 / (16 : Int32)) / (3 : Int32)) (6 : Int32)) (2 : Int32) ((1 : Int32) + (irm ((p1 / (16 : Int32)) / (18 : Int32)) (300 : Int32))) (((1 : Int32) + (irm ((p1 / (16 : Int32)) / (18 : Int32)) (300 : Int32))) + (irm ((p1 / (16 : Int32)) / (5400 : Int32)) (60 : Int32))) (0 : Int32) (0 : Int32) s3 none v13 s14 h12) qyL_told wd_816 wd_817 rfl rfl (by decide) (Nat.le_of_ble_eq_true rfl) ⟨Nat.le_of_ble_eq_true rfl, Nat.le_of_ble_eq_true rfl⟩ dL_act_230 rfl rfl rfl rfl ?_
      cases hF
      exact x_iret rfl rfl (Nat.le_of_ble_eq_true rfl) (Nat.le_of_ble_eq_true rfl) dL_act_233
    rcases h15 with h15 | h15 | h15 | h15
    · exact x_tableIn (174) 204 dL_act_30 (by rw [h15]; decide) (by rw [h15]; decide) (by rw [h15]; decide) (by decide) hK
    · exact x_tableIn (174) 204 dL_act_30 (by rw [h15]; decide) (by rw [h15]; decide) (by rw [h15]; decide) (by decide) hK
    · exact x_tableIn (174) 204 dL_act_30 (by rw [h15]; decide) (by rw [h15]; decide) (by rw [h15]; decide) (by decide) hK
    · exact x_tableIn (174) 204 dL_act_30 (by rw [h15]; decide) (by rw [h15]; decide) (by rw [h15]; decide) (by decide) hK
  rcases ite_inv hF with ⟨h23, hF⟩ | ⟨h23, hF⟩
  · have hK : qX l G RL "act" cL_act 5 (some .int) [] rmL_act 6 36 (.inl (some (.int ro), so, none)) 2 12 s3 none 234 [(4, .int ((1 : Int32) + (irm ((p1 / (16 : Int32)) / (18 : Int32)) (300 : Int32)))), (3, .int v2), (2, .int (p1 / (16 : Int32))), (0, .ref p0), (1, .int p1)] [] := by
      refine x_iload_n 235 1 dL_act_234 rfl rfl ?_
      obtain ⟨x16, s17, h22, hF⟩ := b2_inv hF
      have hJ : qX l G RL "act" cL_act 5 (some .int) [] rmL_act 6 36 (.inl (some (.int ro), so, none)) 4 24 s17 none 253 [] [.int x16] := by
        cases hF
        exact x_iret rfl rfl (Nat.le_of_ble_eq_true rfl) (Nat.le_of_ble_eq_true rfl) dL_act_253
      have hF := h22
      rcases ite_inv hF with ⟨hc, hF⟩ | ⟨hc, hF⟩
      · refine x_if_ne 242 238 dL_act_235 (by decide) rfl (fun q => absurd hc q) (fun _ => ?_)
        refine x_iconst 239 (-1 : Int32) dL_act_238 rfl (by decide) ?_
        refine x_goto 253 dL_act_239 (by decide) ?_
        obtain ⟨e1, e2⟩ := so2 hF
        subst e1
        subst e2
        refine x_wide 4 24 (Nat.le_of_ble_eq_true rfl) (Nat.le_of_ble_eq_true rfl) ?_
        refine x_sub [] [] rfl ?_
        exact hJ
      · refine x_if_ne 242 238 dL_act_235 (by decide) rfl (fun _ => ?_) (fun q => absurd q hc)
        refine x_aload_n 243 3 dL_act_242 rfl rfl ?_
        refine x_bipush 245 (9 : Int32) dL_act_243 rfl (by decide) ?_
        refine x_iload_n 246 2 dL_act_245 rfl rfl ?_
        refine x_iload_n 247 1 dL_act_246 rfl rfl ?_
        obtain ⟨h18, hF⟩ := ite_else hF
        refine x_irem 248 h18 dL_act_247 rfl ?_
        refine x_iconst 249 (0 : Int32) dL_act_248 rfl (by decide) ?_
        refine x_iconst 250 (0 : Int32) dL_act_249 rfl (by decide) ?_
        obtain ⟨v20, s21, h19, hF⟩ := b2_inv hF
        refine x_callS (As := [.ref p0, .int (9 : Int32), .int (irm (p1 / (16 : Int32)) v2), .int (0 : Int32), .int (0 : Int32)]) (rest := []) 253 4 24 (mL_call hst p0 (9 : Int32) (irm (p1 / (16 : Int32)) v2) (0 : Int32) (0 : Int32) s3 none v20 s21 h19) qyL_call wd_180 wd_181 rfl rfl (by decide) (Nat.le_of_ble_eq_true rfl) ⟨Nat.le_of_ble_eq_true rfl, Nat.le_of_ble_eq_true rfl⟩ dL_act_250 rfl rfl rfl rfl ?_
        obtain ⟨e1, e2⟩ := so2 hF
        subst e1
        subst e2
        refine x_sub [] [] rfl ?_
        exact hJ
    · exact x_tableIn (204) 234 dL_act_30 (by rw [h23]; decide) (by rw [h23]; decide) (by rw [h23]; decide) (by decide) hK
  rcases ite_inv hF with ⟨h27, hF⟩ | ⟨h27, hF⟩
  · have hK : qX l G RL "act" cL_act 5 (some .int) [] rmL_act 6 36 (.inl (some (.int ro), so, none)) 2 12 s3 none 254 [(4, .int ((1 : Int32) + (irm ((p1 / (16 : Int32)) / (18 : Int32)) (300 : Int32)))), (3, .int v2), (2, .int (p1 / (16 : Int32))), (0, .ref p0), (1, .int p1)] [] := by
      refine x_aload_n 255 3 dL_act_254 rfl rfl ?_
      refine x_bipush 257 (10 : Int32) dL_act_255 rfl (by decide) ?_
      refine x_iload_n 258 2 dL_act_257 rfl rfl ?_
      refine x_bipush 260 (6 : Int32) dL_act_258 rfl (by decide) ?_
      refine x_irem 261 (by decide) dL_act_260 rfl ?_
      refine x_iload_n 262 2 dL_act_261 rfl rfl ?_
      refine x_bipush 264 (6 : Int32) dL_act_262 rfl (by decide) ?_
      refine x_idiv 265 (by decide) dL_act_264 rfl ?_
      refine x_bipush 267 (10 : Int32) dL_act_265 rfl (by decide) ?_
      refine x_irem 268 (by decide) dL_act_267 rfl ?_
      refine x_iconst 269 (0 : Int32) dL_act_268 rfl (by decide) ?_
      obtain ⟨v25, s26, h24, hF⟩ := b2_inv hF
      refine x_callS (As := [.ref p0, .int (10 : Int32), .int (irm (p1 / (16 : Int32)) (6 : Int32)), .int (irm ((p1 / (16 : Int32)) / (6 : Int32)) (10 : Int32)), .int (0 : Int32)]) (rest := []) 272 4 24 (mL_call hst p0 (10 : Int32) (irm (p1 / (16 : Int32)) (6 : Int32)) (irm ((p1 / (16 : Int32)) / (6 : Int32)) (10 : Int32)) (0 : Int32) s3 none v25 s26 h24) qyL_call wd_180 wd_181 rfl rfl (by decide) (Nat.le_of_ble_eq_true rfl) ⟨Nat.le_of_ble_eq_true rfl, Nat.le_of_ble_eq_true rfl⟩ dL_act_269 rfl rfl rfl rfl ?_
      cases hF
      exact x_iret rfl rfl (Nat.le_of_ble_eq_true rfl) (Nat.le_of_ble_eq_true rfl) dL_act_272
    · exact x_tableIn (224) 254 dL_act_30 (by rw [h27]; decide) (by rw [h27]; decide) (by rw [h27]; decide) (by decide) hK
  rcases ite_inv hF with ⟨h31, hF⟩ | ⟨h31, hF⟩
  · have hK : qX l G RL "act" cL_act 5 (some .int) [] rmL_act 6 36 (.inl (some (.int ro), so, none)) 2 12 s3 none 273 [(4, .int ((1 : Int32) + (irm ((p1 / (16 : Int32)) / (18 : Int32)) (300 : Int32)))), (3, .int v2), (2, .int (p1 / (16 : Int32))), (0, .ref p0), (1, .int p1)] [] := by
      refine x_aload_n 274 3 dL_act_273 rfl rfl ?_
      obtain ⟨v29, s30, h28, hF⟩ := b2_inv hF
      obtain ⟨fs, hb⟩ : ∃ fs : List Value, True ∧ s3 p0 = some (.inr (4, fs)) := kX6_evening h28
      refine x_callV (As := []) (rest := []) 277 2 12 (mX6_evening hst p0 s3 none v29 s30 h28) qyX6_evening wd_911 wd_912 wd_913 hb.2 rfl rfl rfl (by decide) (Nat.le_of_ble_eq_true rfl) ⟨Nat.le_of_ble_eq_true rfl, Nat.le_of_ble_eq_true rfl⟩ dL_act_274 rfl rfl rfl rfl ?_
      cases hF
      exact x_iret rfl rfl (Nat.le_of_ble_eq_true rfl) (Nat.le_of_ble_eq_true rfl) dL_act_277
    rcases h31 with h31 | h31
    · exact x_tableIn (243) 273 dL_act_30 (by rw [h31]; decide) (by rw [h31]; decide) (by rw [h31]; decide) (by decide) hK
    · exact x_tableIn (243) 273 dL_act_30 (by rw [h31]; decide) (by rw [h31]; decide) (by rw [h31]; decide) (by decide) hK
  rcases ite_inv hF with ⟨h41, hF⟩ | ⟨h41, hF⟩
  · have hK : qX l G RL "act" cL_act 5 (some .int) [] rmL_act 6 36 (.inl (some (.int ro), so, none)) 2 12 s3 none 278 [(4, .int ((1 : Int32) + (irm ((p1 / (16 : Int32)) / (18 : Int32)) (300 : Int32)))), (3, .int v2), (2, .int (p1 / (16 : Int32))), (0, .ref p0), (1, .int p1)] [] := by
      refine x_iload_n 279 2 dL_act_278 rfl rfl ?_
      refine x_iconst 280 (2 : Int32) dL_act_279 rfl (by decide) ?_
      refine x_irem 281 (by decide) dL_act_280 rfl ?_
      obtain ⟨x32, s33, h40, hF⟩ := b2_inv hF
      have hJ : qX l G RL "act" cL_act 5 (some .int) [] rmL_act 6 36 (.inl (some (.int ro), so, none)) 4 24 s33 none 315 [] [.int x32] := by
        cases hF
        exact x_iret rfl rfl (Nat.le_of_ble_eq_true rfl) (Nat.le_of_ble_eq_true rfl) dL_act_315
      have hF := h40
      rcases ite_inv hF with ⟨hc, hF⟩ | ⟨hc, hF⟩
      · refine x_if_ne 301 284 dL_act_281 (by decide) rfl (fun q => absurd hc q) (fun _ => ?_)
        refine x_aload_n 285 3 dL_act_284 rfl rfl ?_
        refine x_bipush 287 (12 : Int32) dL_act_285 rfl (by decide) ?_
        refine x_iconst 288 (0 : Int32) dL_act_287 rfl (by decide) ?_
        refine x_iload_n 289 2 dL_act_288 rfl rfl ?_
        refine x_iconst 290 (2 : Int32) dL_act_289 rfl (by decide) ?_
        refine x_idiv 291 (by decide) dL_act_290 rfl ?_
        refine x_bipush 293 (6 : Int32) dL_act_291 rfl (by decide) ?_
        refine x_irem 294 (by decide) dL_act_293 rfl ?_
        refine x_iconst 295 (0 : Int32) dL_act_294 rfl (by decide) ?_
        obtain ⟨v35, s36, h34, hF⟩ := b2_inv hF
        refine x_callS (As := [.ref p0, .int (12 : Int32), .int (0 : Int32), .int (irm ((p1 / (16 : Int32)) / (2 : Int32)) (6 : Int32)), .int (0 : Int32)]) (rest := []) 298 4 24 (mL_call hst p0 (12 : Int32) (0 : Int32) (irm ((p1 / (16 : Int32)) / (2 : Int32)) (6 : Int32)) (0 : Int32) s3 none v35 s36 h34) qyL_call wd_180 wd_181 rfl rfl (by decide) (Nat.le_of_ble_eq_true rfl) ⟨Nat.le_of_ble_eq_true rfl, Nat.le_of_ble_eq_true rfl⟩ dL_act_295 rfl rfl rfl rfl ?_
        refine x_goto 315 dL_act_298 (by decide) ?_
        obtain ⟨e1, e2⟩ := so2 hF
        subst e1
        subst e2
        refine x_sub [] [] rfl ?_
        exact hJ
      · refine x_if_ne 301 284 dL_act_281 (by decide) rfl (fun _ => ?_) (fun q => absurd q hc)
        refine x_aload_n 302 3 dL_act_301 rfl rfl ?_
        refine x_bipush 304 (12 : Int32) dL_act_302 rfl (by decide) ?_
        refine x_iconst 305 (1 : Int32) dL_act_304 rfl (by decide) ?_
        refine x_iload_n 306 2 dL_act_305 rfl rfl ?_
        refine x_iconst 307 (2 : Int32) dL_act_306 rfl (by decide) ?_
        refine x_idiv 308 (by decide) dL_act_307 rfl ?_
        refine x_bipush 310 (51 : Int32) dL_act_308 rfl (by decide) ?_
        refine x_irem 311 (by decide) dL_act_310 rfl ?_
        refine x_iconst 312 (0 : Int32) dL_act_311 rfl (by decide) ?_
        obtain ⟨v38, s39, h37, hF⟩ := b2_inv hF
        refine x_callS (As := [.ref p0, .int (12 : Int32), .int (1 : Int32), .int (irm ((p1 / (16 : Int32)) / (2 : Int32)) (51 : Int32)), .int (0 : Int32)]) (rest := []) 315 4 24 (mL_call hst p0 (12 : Int32) (1 : Int32) (irm ((p1 / (16 : Int32)) / (2 : Int32)) (51 : Int32)) (0 : Int32) s3 none v38 s39 h37) qyL_call wd_180 wd_181 rfl rfl (by decide) (Nat.le_of_ble_eq_true rfl) ⟨Nat.le_of_ble_eq_true rfl, Nat.le_of_ble_eq_true rfl⟩ dL_act_312 rfl rfl rfl rfl ?_
        obtain ⟨e1, e2⟩ := so2 hF
        subst e1
        subst e2
        refine x_sub [] [] rfl ?_
        exact hJ
    · exact x_tableIn (248) 278 dL_act_30 (by rw [h41]; decide) (by rw [h41]; decide) (by rw [h41]; decide) (by decide) hK
  rcases ite_inv hF with ⟨h45, hF⟩ | ⟨h45, hF⟩
  · have hK : qX l G RL "act" cL_act 5 (some .int) [] rmL_act 6 36 (.inl (some (.int ro), so, none)) 2 12 s3 none 316 [(4, .int ((1 : Int32) + (irm ((p1 / (16 : Int32)) / (18 : Int32)) (300 : Int32)))), (3, .int v2), (2, .int (p1 / (16 : Int32))), (0, .ref p0), (1, .int p1)] [] := by
      refine x_aload_n 317 3 dL_act_316 rfl rfl ?_
      refine x_bipush 319 (13 : Int32) dL_act_317 rfl (by decide) ?_
      refine x_iconst 320 (0 : Int32) dL_act_319 rfl (by decide) ?_
      refine x_iconst 321 (0 : Int32) dL_act_320 rfl (by decide) ?_
      refine x_iconst 322 (0 : Int32) dL_act_321 rfl (by decide) ?_
      obtain ⟨v43, s44, h42, hF⟩ := b2_inv hF
      refine x_callS (As := [.ref p0, .int (13 : Int32), .int (0 : Int32), .int (0 : Int32), .int (0 : Int32)]) (rest := []) 325 4 24 (mL_call hst p0 (13 : Int32) (0 : Int32) (0 : Int32) (0 : Int32) s3 none v43 s44 h42) qyL_call wd_180 wd_181 rfl rfl (by decide) (Nat.le_of_ble_eq_true rfl) ⟨Nat.le_of_ble_eq_true rfl, Nat.le_of_ble_eq_true rfl⟩ dL_act_322 rfl rfl rfl rfl ?_
      cases hF
      exact x_iret rfl rfl (Nat.le_of_ble_eq_true rfl) (Nat.le_of_ble_eq_true rfl) dL_act_325
    · exact x_tableIn (286) 316 dL_act_30 (by rw [h45]; decide) (by rw [h45]; decide) (by rw [h45]; decide) (by decide) hK
  rcases ite_inv hF with ⟨h55, hF⟩ | ⟨h55, hF⟩
  · have hK : qX l G RL "act" cL_act 5 (some .int) [] rmL_act 6 36 (.inl (some (.int ro), so, none)) 2 12 s3 none 326 [(4, .int ((1 : Int32) + (irm ((p1 / (16 : Int32)) / (18 : Int32)) (300 : Int32)))), (3, .int v2), (2, .int (p1 / (16 : Int32))), (0, .ref p0), (1, .int p1)] [] := by
      refine x_iload_n 327 2 dL_act_326 rfl rfl ?_
      refine x_iconst 328 (2 : Int32) dL_act_327 rfl (by decide) ?_
      refine x_irem 329 (by decide) dL_act_328 rfl ?_
      obtain ⟨x46, s47, h54, hF⟩ := b2_inv hF
      have hJ : qX l G RL "act" cL_act 5 (some .int) [] rmL_act 6 36 (.inl (some (.int ro), so, none)) 4 24 s47 none 361 [] [.int x46] := by
        cases hF
        exact x_iret rfl rfl (Nat.le_of_ble_eq_true rfl) (Nat.le_of_ble_eq_true rfl) dL_act_361
      have hF := h54
      rcases ite_inv hF with ⟨hc, hF⟩ | ⟨hc, hF⟩
      · refine x_if_ne 348 332 dL_act_329 (by decide) rfl (fun q => absurd hc q) (fun _ => ?_)
        refine x_aload_n 333 3 dL_act_332 rfl rfl ?_
        refine x_bipush 335 (18 : Int32) dL_act_333 rfl (by decide) ?_
        refine x_iload_n 336 2 dL_act_335 rfl rfl ?_
        refine x_iconst 337 (2 : Int32) dL_act_336 rfl (by decide) ?_
        refine x_idiv 338 (by decide) dL_act_337 rfl ?_
        refine x_iconst 339 (2 : Int32) dL_act_338 rfl (by decide) ?_
        refine x_irem 340 (by decide) dL_act_339 rfl ?_
        refine x_iconst 341 (0 : Int32) dL_act_340 rfl (by decide) ?_
        refine x_iconst 342 (0 : Int32) dL_act_341 rfl (by decide) ?_
        obtain ⟨v49, s50, h48, hF⟩ := b2_inv hF
        refine x_callS (As := [.ref p0, .int (18 : Int32), .int (irm ((p1 / (16 : Int32)) / (2 : Int32)) (2 : Int32)), .int (0 : Int32), .int (0 : Int32)]) (rest := []) 345 4 24 (mL_call hst p0 (18 : Int32) (irm ((p1 / (16 : Int32)) / (2 : Int32)) (2 : Int32)) (0 : Int32) (0 : Int32) s3 none v49 s50 h48) qyL_call wd_180 wd_181 rfl rfl (by decide) (Nat.le_of_ble_eq_true rfl) ⟨Nat.le_of_ble_eq_true rfl, Nat.le_of_ble_eq_true rfl⟩ dL_act_342 rfl rfl rfl rfl ?_
        refine x_goto 361 dL_act_345 (by decide) ?_
        obtain ⟨e1, e2⟩ := so2 hF
        subst e1
        subst e2
        refine x_sub [] [] rfl ?_
        exact hJ
      · refine x_if_ne 348 332 dL_act_329 (by decide) rfl (fun _ => ?_) (fun q => absurd q hc)
        refine x_aload_n 349 3 dL_act_348 rfl rfl ?_
        refine x_bipush 351 (19 : Int32) dL_act_349 rfl (by decide) ?_
        refine x_iload_n 352 2 dL_act_351 rfl rfl ?_
        refine x_iconst 353 (2 : Int32) dL_act_352 rfl (by decide) ?_
        refine x_idiv 354 (by decide) dL_act_353 rfl ?_
        refine x_iconst 355 (2 : Int32) dL_act_354 rfl (by decide) ?_
        refine x_irem 356 (by decide) dL_act_355 rfl ?_
        refine x_iconst 357 (0 : Int32) dL_act_356 rfl (by decide) ?_
        refine x_iconst 358 (0 : Int32) dL_act_357 rfl (by decide) ?_
        obtain ⟨v52, s53, h51, hF⟩ := b2_inv hF
        refine x_callS (As := [.ref p0, .int (19 : Int32), .int (irm ((p1 / (16 : Int32)) / (2 : Int32)) (2 : Int32)), .int (0 : Int32), .int (0 : Int32)]) (rest := []) 361 4 24 (mL_call hst p0 (19 : Int32) (irm ((p1 / (16 : Int32)) / (2 : Int32)) (2 : Int32)) (0 : Int32) (0 : Int32) s3 none v52 s53 h51) qyL_call wd_180 wd_181 rfl rfl (by decide) (Nat.le_of_ble_eq_true rfl) ⟨Nat.le_of_ble_eq_true rfl, Nat.le_of_ble_eq_true rfl⟩ dL_act_358 rfl rfl rfl rfl ?_
        obtain ⟨e1, e2⟩ := so2 hF
        subst e1
        subst e2
        refine x_sub [] [] rfl ?_
        exact hJ
    · exact x_tableIn (296) 326 dL_act_30 (by rw [h55]; decide) (by rw [h55]; decide) (by rw [h55]; decide) (by decide) hK
  have hK : qX l G RL "act" cL_act 5 (some .int) [] rmL_act 6 36 (.inl (some (.int ro), so, none)) 2 12 s3 none 362 [(4, .int ((1 : Int32) + (irm ((p1 / (16 : Int32)) / (18 : Int32)) (300 : Int32)))), (3, .int v2), (2, .int (p1 / (16 : Int32))), (0, .ref p0), (1, .int p1)] [] := by
    refine x_aload_n 363 3 dL_act_362 rfl rfl ?_
    refine x_bipush 365 (11 : Int32) dL_act_363 rfl (by decide) ?_
    refine x_iload_n 366 2 dL_act_365 rfl rfl ?_
    refine x_iconst 367 (3 : Int32) dL_act_366 rfl (by decide) ?_
    refine x_irem 368 (by decide) dL_act_367 rfl ?_
    refine x_iconst 369 (1 : Int32) dL_act_368 rfl (by decide) ?_
    refine x_iload_n 370 2 dL_act_369 rfl rfl ?_
    refine x_bipush 372 (18 : Int32) dL_act_370 rfl (by decide) ?_
    refine x_idiv 373 (by decide) dL_act_372 rfl ?_
    refine x_sipush 376 (360 : Int32) dL_act_373 rfl (by decide) ?_
    refine x_irem 377 (by decide) dL_act_376 rfl ?_
    refine x_iadd 378 dL_act_377 rfl ?_
    refine x_iconst 379 (0 : Int32) dL_act_378 rfl (by decide) ?_
    obtain ⟨v57, s58, h56, hF⟩ := b2_inv hF
    refine x_callS (As := [.ref p0, .int (11 : Int32), .int (irm (p1 / (16 : Int32)) (3 : Int32)), .int ((1 : Int32) + (irm ((p1 / (16 : Int32)) / (18 : Int32)) (360 : Int32))), .int (0 : Int32)]) (rest := []) 382 4 24 (mL_call hst p0 (11 : Int32) (irm (p1 / (16 : Int32)) (3 : Int32)) ((1 : Int32) + (irm ((p1 / (16 : Int32)) / (18 : Int32)) (360 : Int32))) (0 : Int32) s3 none v57 s58 h56) qyL_call wd_180 wd_181 rfl rfl (by decide) (Nat.le_of_ble_eq_true rfl) ⟨Nat.le_of_ble_eq_true rfl, Nat.le_of_ble_eq_true rfl⟩ dL_act_379 rfl rfl rfl rfl ?_
    cases hF
    exact x_iret rfl rfl (Nat.le_of_ble_eq_true rfl) (Nat.le_of_ble_eq_true rfl) dL_act_382
  have h59 : ¬ (irm p1 (16 : Int32)) = (0 : Int32) := fun z => h7 (by simp [z])
  have h60 : ¬ (irm p1 (16 : Int32)) = (1 : Int32) := fun z => h7 (by simp [z])
  have h61 : ¬ (irm p1 (16 : Int32)) = (3 : Int32) := fun z => h15 (by simp [z])
  have h62 : ¬ (irm p1 (16 : Int32)) = (4 : Int32) := fun z => h15 (by simp [z])
  have h63 : ¬ (irm p1 (16 : Int32)) = (5 : Int32) := fun z => h15 (by simp [z])
  have h64 : ¬ (irm p1 (16 : Int32)) = (6 : Int32) := fun z => h15 (by simp [z])
  have h65 : ¬ (irm p1 (16 : Int32)) = (9 : Int32) := fun z => h31 (by simp [z])
  have h66 : ¬ (irm p1 (16 : Int32)) = (10 : Int32) := fun z => h31 (by simp [z])
  have h59z := i32_ne (z := 0) h59 (by decide)
  have h60z := i32_ne (z := 1) h60 (by decide)
  have h11z := i32_ne (z := 2) h11 (by decide)
  have h61z := i32_ne (z := 3) h61 (by decide)
  have h62z := i32_ne (z := 4) h62 (by decide)
  have h63z := i32_ne (z := 5) h63 (by decide)
  have h64z := i32_ne (z := 6) h64 (by decide)
  have h23z := i32_ne (z := 7) h23 (by decide)
  have h27z := i32_ne (z := 8) h27 (by decide)
  have h65z := i32_ne (z := 9) h65 (by decide)
  have h66z := i32_ne (z := 10) h66 (by decide)
  have h41z := i32_ne (z := 11) h41 (by decide)
  have h45z := i32_ne (z := 12) h45 (by decide)
  have h55z := i32_ne (z := 13) h55 (by decide)
  exact x_tableOut 362 dL_act_30 (by omega) (by decide) hK
def rmL_doScript : Room := { frames := 8, cells := 2, slots := 12, locals := 167 }
theorem qyL_doScript : qYW yL_doScript cL_doScript 5 (some .int) [(0, 6, 7, 16)] 3 := ⟨wd_829, wd_16, by decide +kernel, by decide +kernel, by decide +kernel⟩
set_option maxHeartbeats 4000000 in
set_option maxRecDepth 100000 in
theorem mL_doScript {l : Launch} {G : qG} (hst : l.stackTraces = false) (p0 : Nat) (p1 : Int32) (p2 : Int64) (σ : qH) (n : Option Nat) (ro : Int32) (so : qH) (hF : FL_doScript p0 p1 p2 σ = some (ro, so)) : qMW l G yL_doScript cL_doScript 5 (some .int) [(0, 6, 7, 16)] rmL_doScript [.ref p0, .int p1, .long p2] σ n (.inl (some (.int ro), so, none)) := by
  refine q_bodyW (own := RL) (nm := "doScript") (tab := [⟨0, 6, 7, 16⟩]) (ls := [(0, .ref p0), (1, .int p1), (2, .long p2)]) hst (by decide +kernel) rfl rfl (Nat.le_of_ble_eq_true rfl) rfl rfl rfl rfl ?_
  unfold FL_doScript at hF
  refine x_aload_n 1 0 dL_doScript_0 rfl rfl ?_
  refine x_iload_n 2 1 dL_doScript_1 rfl rfl ?_
  refine x_lload_n 3 2 dL_doScript_2 rfl rfl ?_
  rcases bc2_inv hF with ⟨v3, s4, h1, hF⟩ | ⟨e2, s5, h1, hF⟩
  · obtain ⟨fs, hb⟩ : ∃ fs : List Value, True ∧ σ p0 = some (.inr (4, fs)) := kX6_runScript h1
    refine x_callV (As := [.int p1, .long p2]) (rest := []) 6 2 12 (mX6_runScript hst p0 p1 p2 σ n (.inl (v3, s4)) h1) qyX6_runScript wd_830 wd_831 wd_832 hb.2 rfl rfl rfl (by decide) (Nat.le_of_ble_eq_true rfl) ⟨Nat.le_of_ble_eq_true rfl, Nat.le_of_ble_eq_true rfl⟩ dL_doScript_3 rfl rfl rfl rfl ?_
    refine x_anyn ?_
    cases hF
    exact x_iret rfl rfl (Nat.le_of_ble_eq_true rfl) (Nat.le_of_ble_eq_true rfl) dL_doScript_6
  · obtain ⟨fs, hb⟩ : ∃ fs : List Value, True ∧ σ p0 = some (.inr (4, fs)) := kX6_runScript h1
    rcases ite_inv hF with ⟨he, hF⟩ | ⟨he, hF⟩
    · subst he
      refine x_callVC (E := "java/lang/IllegalArgumentException") (As := [.int p1, .long p2]) (rest := []) 2 12 [] ⟨0, 6, 7, 16⟩ [] (mX6_runScript hst p0 p1 p2 σ n (.inr ("java/lang/IllegalArgumentException", s5)) h1) qyX6_runScript wd_830 wd_831 wd_832 hb.2 rfl rfl rfl (by decide) (Nat.le_of_ble_eq_true rfl) ⟨Nat.le_of_ble_eq_true rfl, Nat.le_of_ble_eq_true rfl⟩ dL_doScript_3 rfl (fun _ h => absurd h List.not_mem_nil) (by decide) (by decide) wd_186 cst_A rfl rfl (fun qx => ?_)
      refine x_astore 9 4 [(4, .ref qx), (0, .ref p0), (1, .int p1), (2, .long p2)] dL_doScript_7 rfl (by decide) rfl ?_
      refine x_ldc 11 (-9999002 : Int32) wd_287 dL_doScript_9 rfl ?_
      refine x_anyn ?_
      cases hF
      exact x_iret rfl rfl (Nat.le_of_ble_eq_true rfl) (Nat.le_of_ble_eq_true rfl) dL_doScript_11
    cases hF
def rmL_doSimulate : Room := { frames := 8, cells := 1, slots := 6, locals := 175 }
theorem qyL_doSimulate : qYW yL_doSimulate cL_doSimulate 5 (some .int) [(0, 6, 7, 16)] 3 := ⟨wd_872, wd_16, by decide +kernel, by decide +kernel, by decide +kernel⟩
set_option maxHeartbeats 4000000 in
set_option maxRecDepth 100000 in
theorem mL_doSimulate {l : Launch} {G : qG} (hst : l.stackTraces = false) (p0 : Nat) (p1 : Int64) (p2 : Int32) (σ : qH) (n : Option Nat) (ro : Int32) (so : qH) (hF : FL_doSimulate p0 p1 p2 σ = some (ro, so)) : qMW l G yL_doSimulate cL_doSimulate 5 (some .int) [(0, 6, 7, 16)] rmL_doSimulate [.ref p0, .long p1, .int p2] σ n (.inl (some (.int ro), so, none)) := by
  refine q_bodyW (own := RL) (nm := "doSimulate") (tab := [⟨0, 6, 7, 16⟩]) (ls := [(0, .ref p0), (1, .long p1), (3, .int p2)]) hst (by decide +kernel) rfl rfl (Nat.le_of_ble_eq_true rfl) rfl rfl rfl rfl ?_
  unfold FL_doSimulate at hF
  refine x_aload_n 1 0 dL_doSimulate_0 rfl rfl ?_
  refine x_lload_n 2 1 dL_doSimulate_1 rfl rfl ?_
  refine x_iload_n 3 2 dL_doSimulate_2 rfl rfl ?_
  rcases bc2_inv hF with ⟨v3, s4, h1, hF⟩ | ⟨e2, s5, h1, hF⟩
  · obtain ⟨fs, hb⟩ : ∃ fs : List Value, True ∧ σ p0 = some (.inr (4, fs)) := kX6_simulate h1
    refine x_callV (As := [.long p1, .int p2]) (rest := []) 6 1 6 (mX6_simulate hst p0 p1 p2 σ n (.inl (v3, s4)) h1) qyX6_simulate wd_873 wd_874 wd_875 hb.2 rfl rfl rfl (by decide) (Nat.le_of_ble_eq_true rfl) ⟨Nat.le_of_ble_eq_true rfl, Nat.le_of_ble_eq_true rfl⟩ dL_doSimulate_3 rfl rfl rfl rfl ?_
    refine x_anyn ?_
    cases hF
    exact x_iret rfl rfl (Nat.le_of_ble_eq_true rfl) (Nat.le_of_ble_eq_true rfl) dL_doSimulate_6
  · obtain ⟨fs, hb⟩ : ∃ fs : List Value, True ∧ σ p0 = some (.inr (4, fs)) := kX6_simulate h1
    rcases ite_inv hF with ⟨he, hF⟩ | ⟨he, hF⟩
    · subst he
      refine x_callVC (E := "java/lang/IllegalArgumentException") (As := [.long p1, .int p2]) (rest := []) 1 6 [] ⟨0, 6, 7, 16⟩ [] (mX6_simulate hst p0 p1 p2 σ n (.inr ("java/lang/IllegalArgumentException", s5)) h1) qyX6_simulate wd_873 wd_874 wd_875 hb.2 rfl rfl rfl (by decide) (Nat.le_of_ble_eq_true rfl) ⟨Nat.le_of_ble_eq_true rfl, Nat.le_of_ble_eq_true rfl⟩ dL_doSimulate_3 rfl (fun _ h => absurd h List.not_mem_nil) (by decide) (by decide) wd_186 cst_A rfl rfl (fun qx => ?_)
      refine x_astore 9 4 [(4, .ref qx), (0, .ref p0), (1, .long p1), (3, .int p2)] dL_doSimulate_7 rfl (by decide) rfl ?_
      refine x_ldc 11 (-9999002 : Int32) wd_287 dL_doSimulate_9 rfl ?_
      refine x_anyn ?_
      cases hF
      exact x_iret rfl rfl (Nat.le_of_ble_eq_true rfl) (Nat.le_of_ble_eq_true rfl) dL_doSimulate_11
    cases hF
def rmL_thrown : Room := { frames := 0, cells := 0, slots := 0, locals := 0 }
theorem qyL_thrown : qY yL_thrown cL_thrown 1 (some .boolean) 1 := ⟨wd_923, wd_16, by decide +kernel, by decide +kernel, by decide +kernel⟩
set_option maxHeartbeats 4000000 in
set_option maxRecDepth 100000 in
theorem mL_thrown {l : Launch} {G : qG} (hst : l.stackTraces = false) (p0 : Int32) (σ : qH) (n : Option Nat) (ro : Int32) (hF : FL_thrown p0 σ = some ro) : qM l G yL_thrown cL_thrown 1 (some .boolean) rmL_thrown [.int p0] σ n (.inl (some (.int ro), σ, n)) := by
  refine q_body (own := RL) (nm := "thrown") (ls := [(0, .int p0)]) hst (by decide +kernel) rfl rfl (Nat.le_of_ble_eq_true rfl) rfl rfl rfl ?_
  unfold FL_thrown at hF
  refine x_iload_n 1 0 dL_thrown_0 rfl rfl ?_
  refine x_ldc 3 (-9999001 : Int32) wd_565 dL_thrown_1 rfl ?_
  obtain ⟨x1, h2, hF⟩ := b1_inv hF
  have hJ : qX l G RL "thrown" cL_thrown 1 (some .boolean) [] rmL_thrown 0 0 (.inl (some (.int ro), σ, n)) 0 0 σ n 23 [] [.int x1] := by
    obtain ⟨hz, hF⟩ := ite_none hF
    cases hF
    exact x_zret rfl (by rcases hz with h | h <;> rw [h] <;> rfl) rfl (Nat.le_of_ble_eq_true rfl) (Nat.le_of_ble_eq_true rfl) dL_thrown_23
  have hF := h2
  rcases ite_inv hF with ⟨hc, hF⟩ | ⟨hc, hF⟩
  · refine x_icmp_eq 18 6 dL_thrown_3 (by decide) rfl (fun _ => ?_) (fun q => absurd hc q)
    refine x_iconst 19 (1 : Int32) dL_thrown_18 rfl (by decide) ?_
    refine x_goto 23 dL_thrown_19 (by decide) ?_
    have e1 := Option.some.inj hF
    subst e1
    refine x_sub [] [] rfl ?_
    exact hJ
  · refine x_icmp_eq 18 6 dL_thrown_3 (by decide) rfl (fun q => absurd q hc) (fun _ => ?_)
    refine x_iload_n 7 0 dL_thrown_6 rfl rfl ?_
    refine x_ldc 9 (-9999002 : Int32) wd_287 dL_thrown_7 rfl ?_
    rcases ite_inv hF with ⟨hc, hF⟩ | ⟨hc, hF⟩
    · refine x_icmp_eq 18 12 dL_thrown_9 (by decide) rfl (fun _ => ?_) (fun q => absurd hc q)
      refine x_iconst 19 (1 : Int32) dL_thrown_18 rfl (by decide) ?_
      refine x_goto 23 dL_thrown_19 (by decide) ?_
      have e1 := Option.some.inj hF
      subst e1
      refine x_sub [] [] rfl ?_
      exact hJ
    · refine x_icmp_eq 18 12 dL_thrown_9 (by decide) rfl (fun q => absurd q hc) (fun _ => ?_)
      refine x_iload_n 13 0 dL_thrown_12 rfl rfl ?_
      refine x_ldc 15 (-9999003 : Int32) wd_288 dL_thrown_13 rfl ?_
      rcases ite_inv hF with ⟨hc, hF⟩ | ⟨hc, hF⟩
      · refine x_icmp_ne 22 18 dL_thrown_15 (by decide) rfl (fun q => absurd hc q) (fun _ => ?_)
        refine x_iconst 19 (1 : Int32) dL_thrown_18 rfl (by decide) ?_
        refine x_goto 23 dL_thrown_19 (by decide) ?_
        have e1 := Option.some.inj hF
        subst e1
        refine x_sub [] [] rfl ?_
        exact hJ
      · refine x_icmp_ne 22 18 dL_thrown_15 (by decide) rfl (fun _ => ?_) (fun q => absurd q hc)
        refine x_iconst 23 (0 : Int32) dL_thrown_22 rfl (by decide) ?_
        have e1 := Option.some.inj hF
        subst e1
        refine x_sub [] [] rfl ?_
        exact hJ
