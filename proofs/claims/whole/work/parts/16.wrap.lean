def rmL_append : Room := { frames := 8, cells := 2, slots := 12, locals := 123 }
theorem qyL_append : qYW yL_append cL_append 4 (some .int) [(0, 9, 12, 13), (0, 9, 15, 15)] 3 := ⟨wd_294, wd_25, by decide +kernel, by decide +kernel, by decide +kernel⟩
set_option maxHeartbeats 4000000 in
set_option maxRecDepth 100000 in
theorem mL_append {l : Launch} {G : qG} (hst : l.stackTraces = false) (p0 : Nat) (p1 : Int32) (p2 : Nat) (σ : qH) (n : Option Nat) (ro : Int32) (so : qH) (hF : FL_append p0 p1 p2 σ = some (ro, so)) : qMW l G yL_append cL_append 4 (some .int) [(0, 9, 12, 13), (0, 9, 15, 15)] rmL_append [.ref p0, .int p1, .ref p2] σ n (.inl (some (.int ro), so, none)) := by
  refine q_bodyW (own := RL) (nm := "append") (tab := [⟨0, 9, 12, 13⟩, ⟨0, 9, 15, 15⟩]) (ls := [(0, .ref p0), (1, .int p1), (2, .ref p2)]) hst (by decide +kernel) rfl rfl (Nat.le_of_ble_eq_true rfl) rfl rfl rfl rfl ?_
  unfold FL_append at hF
  refine x_aload_n 1 2 dL_append_0 rfl rfl ?_
  refine x_iconst 2 (0 : Int32) dL_append_1 rfl (by decide) ?_
  refine x_aload_n 3 0 dL_append_2 rfl rfl ?_
  refine x_iload_n 4 1 dL_append_3 rfl rfl ?_
  rcases bc2_inv hF with ⟨v3, s4, h1, hF⟩ | ⟨e2, s5, h1, hF⟩
  · obtain ⟨fs, hb⟩ : ∃ fs : List Value, True ∧ σ p0 = some (.inr (4, fs)) := kX6_append h1
    refine x_callV (As := [.int p1]) (rest := [.int (0 : Int32), .ref p2]) 7 2 12 (mX6_append hst p0 p1 σ n (.inl (v3, s4)) h1) qyX6_append wd_297 wd_298 wd_299 hb.2 rfl rfl rfl (by decide) (Nat.le_of_ble_eq_true rfl) (by decide) dL_append_4 rfl rfl rfl rfl ?_
    refine x_i2l 8 dL_append_7 rfl ?_
    obtain ⟨s6, h7, hF⟩ := b1_inv hF
    refine x_sJ 9 h7 dL_append_8 rfl ?_
    refine x_goto 18 dL_append_9 (by decide) ?_
    refine x_iconst 19 (0 : Int32) dL_append_18 rfl (by decide) ?_
    refine x_anyn ?_
    cases hF
    exact x_iret rfl rfl (by decide) (by decide) dL_append_19
  · obtain ⟨fs, hb⟩ : ∃ fs : List Value, True ∧ σ p0 = some (.inr (4, fs)) := kX6_append h1
    rcases ite_inv hF with ⟨he, hF⟩ | ⟨he, hF⟩
    · subst he
      refine x_callVC (E := "java/lang/IllegalArgumentException") (As := [.int p1]) (rest := [.int (0 : Int32), .ref p2]) 2 12 [] ⟨0, 9, 12, 13⟩ [⟨0, 9, 15, 15⟩] (mX6_append hst p0 p1 σ n (.inr ("java/lang/IllegalArgumentException", s5)) h1) qyX6_append wd_297 wd_298 wd_299 hb.2 rfl rfl rfl (by decide) (Nat.le_of_ble_eq_true rfl) (by decide) dL_append_4 rfl (fun _ h => absurd h List.not_mem_nil) (by decide) (by decide) wd_295 cst_A rfl rfl (fun qx => ?_)
      refine x_astore_n 13 3 [(3, .ref qx), (0, .ref p0), (1, .int p1), (2, .ref p2)] dL_append_12 rfl rfl (by decide) rfl ?_
      refine x_iconst 14 (1 : Int32) dL_append_13 rfl (by decide) ?_
      refine x_anyn ?_
      cases hF
      exact x_iret rfl rfl (by decide) (by decide) dL_append_14
    rcases ite_inv hF with ⟨he, hF⟩ | ⟨he, hF⟩
    · subst he
      refine x_callVC (E := "java/lang/IllegalStateException") (As := [.int p1]) (rest := [.int (0 : Int32), .ref p2]) 2 12 [⟨0, 9, 12, 13⟩] ⟨0, 9, 15, 15⟩ [] (mX6_append hst p0 p1 σ n (.inr ("java/lang/IllegalStateException", s5)) h1) qyX6_append wd_297 wd_298 wd_299 hb.2 rfl rfl rfl (by decide) (Nat.le_of_ble_eq_true rfl) (by decide) dL_append_4 rfl (List.forall_mem_cons.mpr ⟨⟨by decide, _, wd_295, by decide⟩, fun _ h => absurd h List.not_mem_nil⟩) (by decide) (by decide) wd_296 cst_S rfl rfl (fun qx => ?_)
      refine x_astore_n 16 3 [(3, .ref qx), (0, .ref p0), (1, .int p1), (2, .ref p2)] dL_append_15 rfl rfl (by decide) rfl ?_
      refine x_iconst 17 (2 : Int32) dL_append_16 rfl (by decide) ?_
      refine x_anyn ?_
      cases hF
      exact x_iret rfl rfl (by decide) (by decide) dL_append_17
    cases hF
def rmL_load : Room := { frames := 7, cells := 1, slots := 6, locals := 162 }
theorem qyL_load : qYW yL_load cL_load 3 (some .int) [(0, 8, 11, 15)] 2 := ⟨wd_398, wd_25, by decide +kernel, by decide +kernel, by decide +kernel⟩
set_option maxHeartbeats 4000000 in
set_option maxRecDepth 100000 in
theorem mL_load {l : Launch} {G : qG} (hst : l.stackTraces = false) (p0 : Nat) (p1 : Nat) (σ : qH) (n : Option Nat) (ro : Int32) (so : qH) (hF : FL_load (G.2.2.2.1) p0 p1 σ = some (ro, so)) : qMW l G yL_load cL_load 3 (some .int) [(0, 8, 11, 15)] rmL_load [.ref p0, .ref p1] σ n (.inl (some (.int ro), so, none)) := by
  refine q_bodyW (own := RL) (nm := "load") (tab := [⟨0, 8, 11, 15⟩]) (ls := [(0, .ref p0), (1, .ref p1)]) hst (by decide +kernel) rfl rfl (Nat.le_of_ble_eq_true rfl) rfl rfl rfl rfl ?_
  unfold FL_load at hF
  refine x_aload_n 1 1 dL_load_0 rfl rfl ?_
  refine x_iconst 2 (0 : Int32) dL_load_1 rfl (by decide) ?_
  refine x_aload_n 3 0 dL_load_2 rfl rfl ?_
  rcases bc2_inv hF with ⟨v3, s4, h1, hF⟩ | ⟨e2, s5, h1, hF⟩
  · obtain ⟨fs, hb⟩ : ∃ fs : List Value, True ∧ σ p0 = some (.inr (4, fs)) := kX6_load h1
    refine x_callV (As := []) (rest := [.int (0 : Int32), .ref p1]) 6 1 6 (mX6_load hst p0 σ n (.inl (v3, s4)) h1) qyX6_load wd_399 wd_400 wd_401 hb.2 rfl rfl rfl (by decide) (Nat.le_of_ble_eq_true rfl) (by decide) dL_load_3 rfl rfl rfl rfl ?_
    refine x_i2l 7 dL_load_6 rfl ?_
    obtain ⟨s6, h7, hF⟩ := b1_inv hF
    refine x_sJ 8 h7 dL_load_7 rfl ?_
    refine x_goto 14 dL_load_8 (by decide) ?_
    refine x_iconst 15 (0 : Int32) dL_load_14 rfl (by decide) ?_
    refine x_anyn ?_
    cases hF
    exact x_iret rfl rfl (by decide) (by decide) dL_load_15
  · obtain ⟨fs, hb⟩ : ∃ fs : List Value, True ∧ σ p0 = some (.inr (4, fs)) := kX6_load h1
    rcases ite_inv hF with ⟨he, hF⟩ | ⟨he, hF⟩
    · subst he
      refine x_callVC (E := "java/lang/IllegalStateException") (As := []) (rest := [.int (0 : Int32), .ref p1]) 1 6 [] ⟨0, 8, 11, 15⟩ [] (mX6_load hst p0 σ n (.inr ("java/lang/IllegalStateException", s5)) h1) qyX6_load wd_399 wd_400 wd_401 hb.2 rfl rfl rfl (by decide) (Nat.le_of_ble_eq_true rfl) (by decide) dL_load_3 rfl (fun _ h => absurd h List.not_mem_nil) (by decide) (by decide) wd_296 cst_S rfl rfl (fun qx => ?_)
      refine x_astore_n 12 2 [(2, .ref qx), (0, .ref p0), (1, .ref p1)] dL_load_11 rfl rfl (by decide) rfl ?_
      refine x_iconst 13 (1 : Int32) dL_load_12 rfl (by decide) ?_
      refine x_anyn ?_
      cases hF
      exact x_iret rfl rfl (by decide) (by decide) dL_load_13
    cases hF
def rmL_about : Room := { frames := 8, cells := 1, slots := 6, locals := 123 }
theorem qyL_about : qYW yL_about cL_about 4 (some .int) [(0, 9, 12, 13)] 3 := ⟨wd_512, wd_25, by decide +kernel, by decide +kernel, by decide +kernel⟩
set_option maxHeartbeats 4000000 in
set_option maxRecDepth 100000 in
theorem mL_about {l : Launch} {G : qG} (hst : l.stackTraces = false) (p0 : Nat) (p1 : Int32) (p2 : Nat) (σ : qH) (n : Option Nat) (ro : Int32) (so : qH) (hF : FL_about p0 p1 p2 σ = some (ro, so)) : qMW l G yL_about cL_about 4 (some .int) [(0, 9, 12, 13)] rmL_about [.ref p0, .int p1, .ref p2] σ n (.inl (some (.int ro), so, none)) := by
  refine q_bodyW (own := RL) (nm := "about") (tab := [⟨0, 9, 12, 13⟩]) (ls := [(0, .ref p0), (1, .int p1), (2, .ref p2)]) hst (by decide +kernel) rfl rfl (Nat.le_of_ble_eq_true rfl) rfl rfl rfl rfl ?_
  unfold FL_about at hF
  refine x_aload_n 1 2 dL_about_0 rfl rfl ?_
  refine x_iconst 2 (0 : Int32) dL_about_1 rfl (by decide) ?_
  refine x_aload_n 3 0 dL_about_2 rfl rfl ?_
  refine x_iload_n 4 1 dL_about_3 rfl rfl ?_
  rcases bc_inv hF with ⟨v3, h1, hF⟩ | ⟨e2, h1, hF⟩
  · obtain ⟨fs, hb⟩ : ∃ fs : List Value, True ∧ σ p0 = some (.inr (4, fs)) := kX6_about h1
    refine x_callV (As := [.int p1]) (rest := [.int (0 : Int32), .ref p2]) 7 1 6 (mX6_about hst p0 p1 σ n (.inl v3) h1) qyX6_about wd_513 wd_514 wd_515 hb.2 rfl rfl rfl (by decide) (Nat.le_of_ble_eq_true rfl) (by decide) dL_about_4 rfl rfl rfl rfl ?_
    refine x_i2l 8 dL_about_7 rfl ?_
    obtain ⟨s6, h7, hF⟩ := b1_inv hF
    refine x_sJ 9 h7 dL_about_8 rfl ?_
    refine x_goto 15 dL_about_9 (by decide) ?_
    refine x_iconst 16 (0 : Int32) dL_about_15 rfl (by decide) ?_
    refine x_anyn ?_
    cases hF
    exact x_iret rfl rfl (by decide) (by decide) dL_about_16
  · obtain ⟨fs, hb⟩ : ∃ fs : List Value, True ∧ σ p0 = some (.inr (4, fs)) := kX6_about h1
    rcases ite_inv hF with ⟨he, hF⟩ | ⟨he, hF⟩
    · subst he
      refine x_callVC (E := "java/lang/IllegalArgumentException") (As := [.int p1]) (rest := [.int (0 : Int32), .ref p2]) 1 6 [] ⟨0, 9, 12, 13⟩ [] (mX6_about hst p0 p1 σ n (.inr "java/lang/IllegalArgumentException") h1) qyX6_about wd_513 wd_514 wd_515 hb.2 rfl rfl rfl (by decide) (Nat.le_of_ble_eq_true rfl) (by decide) dL_about_4 rfl (fun _ h => absurd h List.not_mem_nil) (by decide) (by decide) wd_295 cst_A rfl rfl (fun qx => ?_)
      refine x_astore_n 13 3 [(3, .ref qx), (0, .ref p0), (1, .int p1), (2, .ref p2)] dL_about_12 rfl rfl (by decide) rfl ?_
      refine x_iconst 14 (1 : Int32) dL_about_13 rfl (by decide) ?_
      refine x_anyn ?_
      cases hF
      exact x_iret rfl rfl (by decide) (by decide) dL_about_14
    cases hF
def rmL_measureOf : Room := { frames := 8, cells := 2, slots := 12, locals := 125 }
theorem qyL_measureOf : qYW yL_measureOf cL_measureOf 5 (some .int) [(0, 10, 13, 28), (0, 10, 17, 13)] 4 := ⟨wd_566, wd_25, by decide +kernel, by decide +kernel, by decide +kernel⟩
set_option maxHeartbeats 4000000 in
set_option maxRecDepth 100000 in
theorem mL_measureOf {l : Launch} {G : qG} (hst : l.stackTraces = false) (p0 : Nat) (p1 : Int32) (p2 : Int32) (p3 : Nat) (σ : qH) (n : Option Nat) (ro : Int32) (so : qH) (hF : FL_measureOf p0 p1 p2 p3 σ = some (ro, so)) : qMW l G yL_measureOf cL_measureOf 5 (some .int) [(0, 10, 13, 28), (0, 10, 17, 13)] rmL_measureOf [.ref p0, .int p1, .int p2, .ref p3] σ n (.inl (some (.int ro), so, none)) := by
  refine q_bodyW (own := RL) (nm := "measureOf") (tab := [⟨0, 10, 13, 28⟩, ⟨0, 10, 17, 13⟩]) (ls := [(0, .ref p0), (1, .int p1), (2, .int p2), (3, .ref p3)]) hst (by decide +kernel) rfl rfl (Nat.le_of_ble_eq_true rfl) rfl rfl rfl rfl ?_
  unfold FL_measureOf at hF
  refine x_aload_n 1 3 dL_measureOf_0 rfl rfl ?_
  refine x_iconst 2 (0 : Int32) dL_measureOf_1 rfl (by decide) ?_
  refine x_aload_n 3 0 dL_measureOf_2 rfl rfl ?_
  refine x_iload_n 4 1 dL_measureOf_3 rfl rfl ?_
  refine x_iload_n 5 2 dL_measureOf_4 rfl rfl ?_
  rcases bc_inv hF with ⟨v3, h1, hF⟩ | ⟨e2, h1, hF⟩
  · obtain ⟨fs, hb⟩ : ∃ fs : List Value, True ∧ σ p0 = some (.inr (4, fs)) := kX6_measureOf h1
    refine x_callV (As := [.int p1, .int p2]) (rest := [.int (0 : Int32), .ref p3]) 8 2 12 (mX6_measureOf hst p0 p1 p2 σ n (.inl v3) h1) qyX6_measureOf wd_568 wd_569 wd_570 hb.2 rfl rfl rfl (by decide) (Nat.le_of_ble_eq_true rfl) (by decide) dL_measureOf_5 rfl rfl rfl rfl ?_
    refine x_i2l 9 dL_measureOf_8 rfl ?_
    obtain ⟨s6, h7, hF⟩ := b1_inv hF
    refine x_sJ 10 h7 dL_measureOf_9 rfl ?_
    refine x_goto 21 dL_measureOf_10 (by decide) ?_
    refine x_iconst 22 (0 : Int32) dL_measureOf_21 rfl (by decide) ?_
    refine x_anyn ?_
    cases hF
    exact x_iret rfl rfl (by decide) (by decide) dL_measureOf_22
  · obtain ⟨fs, hb⟩ : ∃ fs : List Value, True ∧ σ p0 = some (.inr (4, fs)) := kX6_measureOf h1
    rcases ite_inv hF with ⟨he, hF⟩ | ⟨he, hF⟩
    · subst he
      refine x_callVC (E := "java/lang/IndexOutOfBoundsException") (As := [.int p1, .int p2]) (rest := [.int (0 : Int32), .ref p3]) 2 12 [] ⟨0, 10, 13, 28⟩ [⟨0, 10, 17, 13⟩] (mX6_measureOf hst p0 p1 p2 σ n (.inr "java/lang/IndexOutOfBoundsException") h1) qyX6_measureOf wd_568 wd_569 wd_570 hb.2 rfl rfl rfl (by decide) (Nat.le_of_ble_eq_true rfl) (by decide) dL_measureOf_5 rfl (fun _ h => absurd h List.not_mem_nil) (by decide) (by decide) wd_567 cst_I rfl rfl (fun qx => ?_)
      refine x_astore 15 4 [(4, .ref qx), (0, .ref p0), (1, .int p1), (2, .int p2), (3, .ref p3)] dL_measureOf_13 rfl (by decide) rfl ?_
      refine x_iconst 16 (1 : Int32) dL_measureOf_15 rfl (by decide) ?_
      refine x_anyn ?_
      cases hF
      exact x_iret rfl rfl (by decide) (by decide) dL_measureOf_16
    rcases ite_inv hF with ⟨he, hF⟩ | ⟨he, hF⟩
    · subst he
      refine x_callVC (E := "java/lang/IllegalArgumentException") (As := [.int p1, .int p2]) (rest := [.int (0 : Int32), .ref p3]) 2 12 [⟨0, 10, 13, 28⟩] ⟨0, 10, 17, 13⟩ [] (mX6_measureOf hst p0 p1 p2 σ n (.inr "java/lang/IllegalArgumentException") h1) qyX6_measureOf wd_568 wd_569 wd_570 hb.2 rfl rfl rfl (by decide) (Nat.le_of_ble_eq_true rfl) (by decide) dL_measureOf_5 rfl (List.forall_mem_cons.mpr ⟨⟨by decide, _, wd_567, by decide⟩, fun _ h => absurd h List.not_mem_nil⟩) (by decide) (by decide) wd_295 cst_A rfl rfl (fun qx => ?_)
      refine x_astore 19 4 [(4, .ref qx), (0, .ref p0), (1, .int p1), (2, .int p2), (3, .ref p3)] dL_measureOf_17 rfl (by decide) rfl ?_
      refine x_iconst 20 (2 : Int32) dL_measureOf_19 rfl (by decide) ?_
      refine x_anyn ?_
      cases hF
      exact x_iret rfl rfl (by decide) (by decide) dL_measureOf_20
    cases hF
def rmL_tellerOf : Room := { frames := 8, cells := 2, slots := 12, locals := 136 }
theorem qyL_tellerOf : qYW yL_tellerOf cL_tellerOf 5 (some .int) [(0, 10, 13, 28), (0, 10, 17, 13)] 4 := ⟨wd_601, wd_25, by decide +kernel, by decide +kernel, by decide +kernel⟩
set_option maxHeartbeats 4000000 in
set_option maxRecDepth 100000 in
theorem mL_tellerOf {l : Launch} {G : qG} (hst : l.stackTraces = false) (p0 : Nat) (p1 : Int32) (p2 : Int32) (p3 : Nat) (σ : qH) (n : Option Nat) (ro : Int32) (so : qH) (hF : FL_tellerOf p0 p1 p2 p3 σ = some (ro, so)) : qMW l G yL_tellerOf cL_tellerOf 5 (some .int) [(0, 10, 13, 28), (0, 10, 17, 13)] rmL_tellerOf [.ref p0, .int p1, .int p2, .ref p3] σ n (.inl (some (.int ro), so, none)) := by
  refine q_bodyW (own := RL) (nm := "tellerOf") (tab := [⟨0, 10, 13, 28⟩, ⟨0, 10, 17, 13⟩]) (ls := [(0, .ref p0), (1, .int p1), (2, .int p2), (3, .ref p3)]) hst (by decide +kernel) rfl rfl (Nat.le_of_ble_eq_true rfl) rfl rfl rfl rfl ?_
  unfold FL_tellerOf at hF
  refine x_aload_n 1 3 dL_tellerOf_0 rfl rfl ?_
  refine x_iconst 2 (0 : Int32) dL_tellerOf_1 rfl (by decide) ?_
  refine x_aload_n 3 0 dL_tellerOf_2 rfl rfl ?_
  refine x_iload_n 4 1 dL_tellerOf_3 rfl rfl ?_
  refine x_iload_n 5 2 dL_tellerOf_4 rfl rfl ?_
  rcases bc_inv hF with ⟨v3, h1, hF⟩ | ⟨e2, h1, hF⟩
  · obtain ⟨fs, hb⟩ : ∃ fs : List Value, True ∧ σ p0 = some (.inr (4, fs)) := kX6_tellerOf h1
    refine x_callV (As := [.int p1, .int p2]) (rest := [.int (0 : Int32), .ref p3]) 8 2 12 (mX6_tellerOf hst p0 p1 p2 σ n (.inl v3) h1) qyX6_tellerOf wd_602 wd_603 wd_604 hb.2 rfl rfl rfl (by decide) (Nat.le_of_ble_eq_true rfl) (by decide) dL_tellerOf_5 rfl rfl rfl rfl ?_
    refine x_i2l 9 dL_tellerOf_8 rfl ?_
    obtain ⟨s6, h7, hF⟩ := b1_inv hF
    refine x_sJ 10 h7 dL_tellerOf_9 rfl ?_
    refine x_goto 21 dL_tellerOf_10 (by decide) ?_
    refine x_iconst 22 (0 : Int32) dL_tellerOf_21 rfl (by decide) ?_
    refine x_anyn ?_
    cases hF
    exact x_iret rfl rfl (by decide) (by decide) dL_tellerOf_22
  · obtain ⟨fs, hb⟩ : ∃ fs : List Value, True ∧ σ p0 = some (.inr (4, fs)) := kX6_tellerOf h1
    rcases ite_inv hF with ⟨he, hF⟩ | ⟨he, hF⟩
    · subst he
      refine x_callVC (E := "java/lang/IndexOutOfBoundsException") (As := [.int p1, .int p2]) (rest := [.int (0 : Int32), .ref p3]) 2 12 [] ⟨0, 10, 13, 28⟩ [⟨0, 10, 17, 13⟩] (mX6_tellerOf hst p0 p1 p2 σ n (.inr "java/lang/IndexOutOfBoundsException") h1) qyX6_tellerOf wd_602 wd_603 wd_604 hb.2 rfl rfl rfl (by decide) (Nat.le_of_ble_eq_true rfl) (by decide) dL_tellerOf_5 rfl (fun _ h => absurd h List.not_mem_nil) (by decide) (by decide) wd_567 cst_I rfl rfl (fun qx => ?_)
      refine x_astore 15 4 [(4, .ref qx), (0, .ref p0), (1, .int p1), (2, .int p2), (3, .ref p3)] dL_tellerOf_13 rfl (by decide) rfl ?_
      refine x_iconst 16 (1 : Int32) dL_tellerOf_15 rfl (by decide) ?_
      refine x_anyn ?_
      cases hF
      exact x_iret rfl rfl (by decide) (by decide) dL_tellerOf_16
    rcases ite_inv hF with ⟨he, hF⟩ | ⟨he, hF⟩
    · subst he
      refine x_callVC (E := "java/lang/IllegalArgumentException") (As := [.int p1, .int p2]) (rest := [.int (0 : Int32), .ref p3]) 2 12 [⟨0, 10, 13, 28⟩] ⟨0, 10, 17, 13⟩ [] (mX6_tellerOf hst p0 p1 p2 σ n (.inr "java/lang/IllegalArgumentException") h1) qyX6_tellerOf wd_602 wd_603 wd_604 hb.2 rfl rfl rfl (by decide) (Nat.le_of_ble_eq_true rfl) (by decide) dL_tellerOf_5 rfl (List.forall_mem_cons.mpr ⟨⟨by decide, _, wd_567, by decide⟩, fun _ h => absurd h List.not_mem_nil⟩) (by decide) (by decide) wd_295 cst_A rfl rfl (fun qx => ?_)
      refine x_astore 19 4 [(4, .ref qx), (0, .ref p0), (1, .int p1), (2, .int p2), (3, .ref p3)] dL_tellerOf_17 rfl (by decide) rfl ?_
      refine x_iconst 20 (2 : Int32) dL_tellerOf_19 rfl (by decide) ?_
      refine x_anyn ?_
      cases hF
      exact x_iret rfl rfl (by decide) (by decide) dL_tellerOf_20
    cases hF
def rmL_steepleOf : Room := { frames := 8, cells := 2, slots := 12, locals := 124 }
theorem qyL_steepleOf : qYW yL_steepleOf cL_steepleOf 5 (some .int) [(0, 10, 13, 28), (0, 10, 17, 13)] 4 := ⟨wd_634, wd_25, by decide +kernel, by decide +kernel, by decide +kernel⟩
set_option maxHeartbeats 4000000 in
set_option maxRecDepth 100000 in
theorem mL_steepleOf {l : Launch} {G : qG} (hst : l.stackTraces = false) (p0 : Nat) (p1 : Int32) (p2 : Int32) (p3 : Nat) (σ : qH) (n : Option Nat) (ro : Int32) (so : qH) (hF : FL_steepleOf p0 p1 p2 p3 σ = some (ro, so)) : qMW l G yL_steepleOf cL_steepleOf 5 (some .int) [(0, 10, 13, 28), (0, 10, 17, 13)] rmL_steepleOf [.ref p0, .int p1, .int p2, .ref p3] σ n (.inl (some (.int ro), so, none)) := by
  refine q_bodyW (own := RL) (nm := "steepleOf") (tab := [⟨0, 10, 13, 28⟩, ⟨0, 10, 17, 13⟩]) (ls := [(0, .ref p0), (1, .int p1), (2, .int p2), (3, .ref p3)]) hst (by decide +kernel) rfl rfl (Nat.le_of_ble_eq_true rfl) rfl rfl rfl rfl ?_
  unfold FL_steepleOf at hF
  refine x_aload_n 1 3 dL_steepleOf_0 rfl rfl ?_
  refine x_iconst 2 (0 : Int32) dL_steepleOf_1 rfl (by decide) ?_
  refine x_aload_n 3 0 dL_steepleOf_2 rfl rfl ?_
  refine x_iload_n 4 1 dL_steepleOf_3 rfl rfl ?_
  refine x_iload_n 5 2 dL_steepleOf_4 rfl rfl ?_
  rcases bc_inv hF with ⟨v3, h1, hF⟩ | ⟨e2, h1, hF⟩
  · obtain ⟨fs, hb⟩ : ∃ fs : List Value, True ∧ σ p0 = some (.inr (4, fs)) := kX6_steepleOf h1
    refine x_callV (As := [.int p1, .int p2]) (rest := [.int (0 : Int32), .ref p3]) 8 2 12 (mX6_steepleOf hst p0 p1 p2 σ n (.inl v3) h1) qyX6_steepleOf wd_635 wd_636 wd_637 hb.2 rfl rfl rfl (by decide) (Nat.le_of_ble_eq_true rfl) (by decide) dL_steepleOf_5 rfl rfl rfl rfl ?_
    refine x_i2l 9 dL_steepleOf_8 rfl ?_
    obtain ⟨s6, h7, hF⟩ := b1_inv hF
    refine x_sJ 10 h7 dL_steepleOf_9 rfl ?_
    refine x_goto 21 dL_steepleOf_10 (by decide) ?_
    refine x_iconst 22 (0 : Int32) dL_steepleOf_21 rfl (by decide) ?_
    refine x_anyn ?_
    cases hF
    exact x_iret rfl rfl (by decide) (by decide) dL_steepleOf_22
  · obtain ⟨fs, hb⟩ : ∃ fs : List Value, True ∧ σ p0 = some (.inr (4, fs)) := kX6_steepleOf h1
    rcases ite_inv hF with ⟨he, hF⟩ | ⟨he, hF⟩
    · subst he
      refine x_callVC (E := "java/lang/IndexOutOfBoundsException") (As := [.int p1, .int p2]) (rest := [.int (0 : Int32), .ref p3]) 2 12 [] ⟨0, 10, 13, 28⟩ [⟨0, 10, 17, 13⟩] (mX6_steepleOf hst p0 p1 p2 σ n (.inr "java/lang/IndexOutOfBoundsException") h1) qyX6_steepleOf wd_635 wd_636 wd_637 hb.2 rfl rfl rfl (by decide) (Nat.le_of_ble_eq_true rfl) (by decide) dL_steepleOf_5 rfl (fun _ h => absurd h List.not_mem_nil) (by decide) (by decide) wd_567 cst_I rfl rfl (fun qx => ?_)
      refine x_astore 15 4 [(4, .ref qx), (0, .ref p0), (1, .int p1), (2, .int p2), (3, .ref p3)] dL_steepleOf_13 rfl (by decide) rfl ?_
      refine x_iconst 16 (1 : Int32) dL_steepleOf_15 rfl (by decide) ?_
      refine x_anyn ?_
      cases hF
      exact x_iret rfl rfl (by decide) (by decide) dL_steepleOf_16
    rcases ite_inv hF with ⟨he, hF⟩ | ⟨he, hF⟩
    · subst he
      refine x_callVC (E := "java/lang/IllegalArgumentException") (As := [.int p1, .int p2]) (rest := [.int (0 : Int32), .ref p3]) 2 12 [⟨0, 10, 13, 28⟩] ⟨0, 10, 17, 13⟩ [] (mX6_steepleOf hst p0 p1 p2 σ n (.inr "java/lang/IllegalArgumentException") h1) qyX6_steepleOf wd_635 wd_636 wd_637 hb.2 rfl rfl rfl (by decide) (Nat.le_of_ble_eq_true rfl) (by decide) dL_steepleOf_5 rfl (List.forall_mem_cons.mpr ⟨⟨by decide, _, wd_567, by decide⟩, fun _ h => absurd h List.not_mem_nil⟩) (by decide) (by decide) wd_295 cst_A rfl rfl (fun qx => ?_)
      refine x_astore 19 4 [(4, .ref qx), (0, .ref p0), (1, .int p1), (2, .int p2), (3, .ref p3)] dL_steepleOf_17 rfl (by decide) rfl ?_
      refine x_iconst 20 (2 : Int32) dL_steepleOf_19 rfl (by decide) ?_
      refine x_anyn ?_
      cases hF
      exact x_iret rfl rfl (by decide) (by decide) dL_steepleOf_20
    cases hF
def rmL_vote : Room := { frames := 8, cells := 2, slots := 12, locals := 124 }
theorem qyL_vote : qYW yL_vote cL_vote 5 (some .int) [(0, 10, 13, 28), (0, 10, 17, 13)] 4 := ⟨wd_658, wd_25, by decide +kernel, by decide +kernel, by decide +kernel⟩
set_option maxHeartbeats 4000000 in
set_option maxRecDepth 100000 in
theorem mL_vote {l : Launch} {G : qG} (hst : l.stackTraces = false) (p0 : Nat) (p1 : Int32) (p2 : Int32) (p3 : Nat) (σ : qH) (n : Option Nat) (ro : Int32) (so : qH) (hF : FL_vote p0 p1 p2 p3 σ = some (ro, so)) : qMW l G yL_vote cL_vote 5 (some .int) [(0, 10, 13, 28), (0, 10, 17, 13)] rmL_vote [.ref p0, .int p1, .int p2, .ref p3] σ n (.inl (some (.int ro), so, none)) := by
  refine q_bodyW (own := RL) (nm := "vote") (tab := [⟨0, 10, 13, 28⟩, ⟨0, 10, 17, 13⟩]) (ls := [(0, .ref p0), (1, .int p1), (2, .int p2), (3, .ref p3)]) hst (by decide +kernel) rfl rfl (Nat.le_of_ble_eq_true rfl) rfl rfl rfl rfl ?_
  unfold FL_vote at hF
  refine x_aload_n 1 3 dL_vote_0 rfl rfl ?_
  refine x_iconst 2 (0 : Int32) dL_vote_1 rfl (by decide) ?_
  refine x_aload_n 3 0 dL_vote_2 rfl rfl ?_
  refine x_iload_n 4 1 dL_vote_3 rfl rfl ?_
  refine x_iload_n 5 2 dL_vote_4 rfl rfl ?_
  rcases bc_inv hF with ⟨v3, h1, hF⟩ | ⟨e2, h1, hF⟩
  · obtain ⟨fs, hb⟩ : ∃ fs : List Value, True ∧ σ p0 = some (.inr (4, fs)) := kX6_vote h1
    refine x_callV (As := [.int p1, .int p2]) (rest := [.int (0 : Int32), .ref p3]) 8 2 12 (mX6_vote hst p0 p1 p2 σ n (.inl v3) h1) qyX6_vote wd_659 wd_660 wd_661 hb.2 rfl rfl rfl (by decide) (Nat.le_of_ble_eq_true rfl) (by decide) dL_vote_5 rfl rfl rfl rfl ?_
    refine x_i2l 9 dL_vote_8 rfl ?_
    obtain ⟨s6, h7, hF⟩ := b1_inv hF
    refine x_sJ 10 h7 dL_vote_9 rfl ?_
    refine x_goto 21 dL_vote_10 (by decide) ?_
    refine x_iconst 22 (0 : Int32) dL_vote_21 rfl (by decide) ?_
    refine x_anyn ?_
    cases hF
    exact x_iret rfl rfl (by decide) (by decide) dL_vote_22
  · obtain ⟨fs, hb⟩ : ∃ fs : List Value, True ∧ σ p0 = some (.inr (4, fs)) := kX6_vote h1
    rcases ite_inv hF with ⟨he, hF⟩ | ⟨he, hF⟩
    · subst he
      refine x_callVC (E := "java/lang/IndexOutOfBoundsException") (As := [.int p1, .int p2]) (rest := [.int (0 : Int32), .ref p3]) 2 12 [] ⟨0, 10, 13, 28⟩ [⟨0, 10, 17, 13⟩] (mX6_vote hst p0 p1 p2 σ n (.inr "java/lang/IndexOutOfBoundsException") h1) qyX6_vote wd_659 wd_660 wd_661 hb.2 rfl rfl rfl (by decide) (Nat.le_of_ble_eq_true rfl) (by decide) dL_vote_5 rfl (fun _ h => absurd h List.not_mem_nil) (by decide) (by decide) wd_567 cst_I rfl rfl (fun qx => ?_)
      refine x_astore 15 4 [(4, .ref qx), (0, .ref p0), (1, .int p1), (2, .int p2), (3, .ref p3)] dL_vote_13 rfl (by decide) rfl ?_
      refine x_iconst 16 (1 : Int32) dL_vote_15 rfl (by decide) ?_
      refine x_anyn ?_
      cases hF
      exact x_iret rfl rfl (by decide) (by decide) dL_vote_16
    rcases ite_inv hF with ⟨he, hF⟩ | ⟨he, hF⟩
    · subst he
      refine x_callVC (E := "java/lang/IllegalArgumentException") (As := [.int p1, .int p2]) (rest := [.int (0 : Int32), .ref p3]) 2 12 [⟨0, 10, 13, 28⟩] ⟨0, 10, 17, 13⟩ [] (mX6_vote hst p0 p1 p2 σ n (.inr "java/lang/IllegalArgumentException") h1) qyX6_vote wd_659 wd_660 wd_661 hb.2 rfl rfl rfl (by decide) (Nat.le_of_ble_eq_true rfl) (by decide) dL_vote_5 rfl (List.forall_mem_cons.mpr ⟨⟨by decide, _, wd_567, by decide⟩, fun _ h => absurd h List.not_mem_nil⟩) (by decide) (by decide) wd_295 cst_A rfl rfl (fun qx => ?_)
      refine x_astore 19 4 [(4, .ref qx), (0, .ref p0), (1, .int p1), (2, .int p2), (3, .ref p3)] dL_vote_17 rfl (by decide) rfl ?_
      refine x_iconst 20 (2 : Int32) dL_vote_19 rfl (by decide) ?_
      refine x_anyn ?_
      cases hF
      exact x_iret rfl rfl (by decide) (by decide) dL_vote_20
    cases hF
def rmL_best : Room := { frames := 8, cells := 2, slots := 12, locals := 125 }
theorem qyL_best : qYW yL_best cL_best 6 (some .int) [(0, 12, 15, 28), (0, 12, 19, 13)] 5 := ⟨wd_670, wd_25, by decide +kernel, by decide +kernel, by decide +kernel⟩
set_option maxHeartbeats 4000000 in
set_option maxRecDepth 100000 in
theorem mL_best {l : Launch} {G : qG} (hst : l.stackTraces = false) (p0 : Nat) (p1 : Int32) (p2 : Int32) (p3 : Int32) (p4 : Nat) (σ : qH) (n : Option Nat) (ro : Int32) (so : qH) (hF : FL_best p0 p1 p2 p3 p4 σ = some (ro, so)) : qMW l G yL_best cL_best 6 (some .int) [(0, 12, 15, 28), (0, 12, 19, 13)] rmL_best [.ref p0, .int p1, .int p2, .int p3, .ref p4] σ n (.inl (some (.int ro), so, none)) := by
  refine q_bodyW (own := RL) (nm := "best") (tab := [⟨0, 12, 15, 28⟩, ⟨0, 12, 19, 13⟩]) (ls := [(0, .ref p0), (1, .int p1), (2, .int p2), (3, .int p3), (4, .ref p4)]) hst (by decide +kernel) rfl rfl (Nat.le_of_ble_eq_true rfl) rfl rfl rfl rfl ?_
  unfold FL_best at hF
  refine x_aload 2 4 dL_best_0 rfl rfl ?_
  refine x_iconst 3 (0 : Int32) dL_best_2 rfl (by decide) ?_
  refine x_aload_n 4 0 dL_best_3 rfl rfl ?_
  refine x_iload_n 5 1 dL_best_4 rfl rfl ?_
  refine x_iload_n 6 2 dL_best_5 rfl rfl ?_
  refine x_iload_n 7 3 dL_best_6 rfl rfl ?_
  rcases bc2_inv hF with ⟨v3, s4, h1, hF⟩ | ⟨e2, s5, h1, hF⟩
  · obtain ⟨fs, hb⟩ : ∃ fs : List Value, True ∧ σ p0 = some (.inr (4, fs)) := kX6_best h1
    refine x_callV (As := [.int p1, .int p2, .int p3]) (rest := [.int (0 : Int32), .ref p4]) 10 2 12 (mX6_best hst p0 p1 p2 p3 σ n (.inl (v3, s4)) h1) qyX6_best wd_671 wd_672 wd_673 hb.2 rfl rfl rfl (by decide) (Nat.le_of_ble_eq_true rfl) (by decide) dL_best_7 rfl rfl rfl rfl ?_
    refine x_i2l 11 dL_best_10 rfl ?_
    obtain ⟨s6, h7, hF⟩ := b1_inv hF
    refine x_sJ 12 h7 dL_best_11 rfl ?_
    refine x_goto 23 dL_best_12 (by decide) ?_
    refine x_iconst 24 (0 : Int32) dL_best_23 rfl (by decide) ?_
    refine x_anyn ?_
    cases hF
    exact x_iret rfl rfl (by decide) (by decide) dL_best_24
  · obtain ⟨fs, hb⟩ : ∃ fs : List Value, True ∧ σ p0 = some (.inr (4, fs)) := kX6_best h1
    rcases ite_inv hF with ⟨he, hF⟩ | ⟨he, hF⟩
    · subst he
      refine x_callVC (E := "java/lang/IndexOutOfBoundsException") (As := [.int p1, .int p2, .int p3]) (rest := [.int (0 : Int32), .ref p4]) 2 12 [] ⟨0, 12, 15, 28⟩ [⟨0, 12, 19, 13⟩] (mX6_best hst p0 p1 p2 p3 σ n (.inr ("java/lang/IndexOutOfBoundsException", s5)) h1) qyX6_best wd_671 wd_672 wd_673 hb.2 rfl rfl rfl (by decide) (Nat.le_of_ble_eq_true rfl) (by decide) dL_best_7 rfl (fun _ h => absurd h List.not_mem_nil) (by decide) (by decide) wd_567 cst_I rfl rfl (fun qx => ?_)
      refine x_astore 17 5 [(5, .ref qx), (0, .ref p0), (1, .int p1), (2, .int p2), (3, .int p3), (4, .ref p4)] dL_best_15 rfl (by decide) rfl ?_
      refine x_iconst 18 (1 : Int32) dL_best_17 rfl (by decide) ?_
      refine x_anyn ?_
      cases hF
      exact x_iret rfl rfl (by decide) (by decide) dL_best_18
    rcases ite_inv hF with ⟨he, hF⟩ | ⟨he, hF⟩
    · subst he
      refine x_callVC (E := "java/lang/IllegalArgumentException") (As := [.int p1, .int p2, .int p3]) (rest := [.int (0 : Int32), .ref p4]) 2 12 [⟨0, 12, 15, 28⟩] ⟨0, 12, 19, 13⟩ [] (mX6_best hst p0 p1 p2 p3 σ n (.inr ("java/lang/IllegalArgumentException", s5)) h1) qyX6_best wd_671 wd_672 wd_673 hb.2 rfl rfl rfl (by decide) (Nat.le_of_ble_eq_true rfl) (by decide) dL_best_7 rfl (List.forall_mem_cons.mpr ⟨⟨by decide, _, wd_567, by decide⟩, fun _ h => absurd h List.not_mem_nil⟩) (by decide) (by decide) wd_295 cst_A rfl rfl (fun qx => ?_)
      refine x_astore 21 5 [(5, .ref qx), (0, .ref p0), (1, .int p1), (2, .int p2), (3, .int p3), (4, .ref p4)] dL_best_19 rfl (by decide) rfl ?_
      refine x_iconst 22 (2 : Int32) dL_best_21 rfl (by decide) ?_
      refine x_anyn ?_
      cases hF
      exact x_iret rfl rfl (by decide) (by decide) dL_best_22
    cases hF
def rmL_setting : Room := { frames := 8, cells := 1, slots := 6, locals := 123 }
theorem qyL_setting : qYW yL_setting cL_setting 4 (some .int) [(0, 9, 12, 13)] 3 := ⟨wd_703, wd_25, by decide +kernel, by decide +kernel, by decide +kernel⟩
set_option maxHeartbeats 4000000 in
set_option maxRecDepth 100000 in
theorem mL_setting {l : Launch} {G : qG} (hst : l.stackTraces = false) (p0 : Nat) (p1 : Int32) (p2 : Nat) (σ : qH) (n : Option Nat) (ro : Int32) (so : qH) (hF : FL_setting p0 p1 p2 σ = some (ro, so)) : qMW l G yL_setting cL_setting 4 (some .int) [(0, 9, 12, 13)] rmL_setting [.ref p0, .int p1, .ref p2] σ n (.inl (some (.int ro), so, none)) := by
  refine q_bodyW (own := RL) (nm := "setting") (tab := [⟨0, 9, 12, 13⟩]) (ls := [(0, .ref p0), (1, .int p1), (2, .ref p2)]) hst (by decide +kernel) rfl rfl (Nat.le_of_ble_eq_true rfl) rfl rfl rfl rfl ?_
  unfold FL_setting at hF
  refine x_aload_n 1 2 dL_setting_0 rfl rfl ?_
  refine x_iconst 2 (0 : Int32) dL_setting_1 rfl (by decide) ?_
  refine x_aload_n 3 0 dL_setting_2 rfl rfl ?_
  refine x_iload_n 4 1 dL_setting_3 rfl rfl ?_
  rcases bc_inv hF with ⟨v3, h1, hF⟩ | ⟨e2, h1, hF⟩
  · obtain ⟨fs, hb⟩ : ∃ fs : List Value, True ∧ σ p0 = some (.inr (4, fs)) := kX6_setting h1
    refine x_callV (As := [.int p1]) (rest := [.int (0 : Int32), .ref p2]) 7 1 6 (mX6_setting hst p0 p1 σ n (.inl v3) h1) qyX6_setting wd_704 wd_705 wd_706 hb.2 rfl rfl rfl (by decide) (Nat.le_of_ble_eq_true rfl) (by decide) dL_setting_4 rfl rfl rfl rfl ?_
    refine x_i2l 8 dL_setting_7 rfl ?_
    obtain ⟨s6, h7, hF⟩ := b1_inv hF
    refine x_sJ 9 h7 dL_setting_8 rfl ?_
    refine x_goto 15 dL_setting_9 (by decide) ?_
    refine x_iconst 16 (0 : Int32) dL_setting_15 rfl (by decide) ?_
    refine x_anyn ?_
    cases hF
    exact x_iret rfl rfl (by decide) (by decide) dL_setting_16
  · obtain ⟨fs, hb⟩ : ∃ fs : List Value, True ∧ σ p0 = some (.inr (4, fs)) := kX6_setting h1
    rcases ite_inv hF with ⟨he, hF⟩ | ⟨he, hF⟩
    · subst he
      refine x_callVC (E := "java/lang/IllegalArgumentException") (As := [.int p1]) (rest := [.int (0 : Int32), .ref p2]) 1 6 [] ⟨0, 9, 12, 13⟩ [] (mX6_setting hst p0 p1 σ n (.inr "java/lang/IllegalArgumentException") h1) qyX6_setting wd_704 wd_705 wd_706 hb.2 rfl rfl rfl (by decide) (Nat.le_of_ble_eq_true rfl) (by decide) dL_setting_4 rfl (fun _ h => absurd h List.not_mem_nil) (by decide) (by decide) wd_295 cst_A rfl rfl (fun qx => ?_)
      refine x_astore_n 13 3 [(3, .ref qx), (0, .ref p0), (1, .int p1), (2, .ref p2)] dL_setting_12 rfl rfl (by decide) rfl ?_
      refine x_iconst 14 (1 : Int32) dL_setting_13 rfl (by decide) ?_
      refine x_anyn ?_
      cases hF
      exact x_iret rfl rfl (by decide) (by decide) dL_setting_14
    cases hF
def rmL_measure : Room := { frames := 8, cells := 4, slots := 24, locals := 129 }
theorem qyL_measure : qYW yL_measure cL_measure 10 (some .int) [(0, 20, 23, 28), (0, 20, 27, 13), (0, 20, 31, 15)] 9 := ⟨wd_717, wd_25, by decide +kernel, by decide +kernel, by decide +kernel⟩
set_option maxHeartbeats 4000000 in
set_option maxRecDepth 100000 in
theorem mL_measure {l : Launch} {G : qG} (hst : l.stackTraces = false) (p0 : Nat) (p1 : Int32) (p2 : Int32) (p3 : Int32) (p4 : Int32) (p5 : Int32) (p6 : Int32) (p7 : Int32) (p8 : Nat) (σ : qH) (n : Option Nat) (ro : Int32) (so : qH) (hF : FL_measure p0 p1 p2 p3 p4 p5 p6 p7 p8 σ = some (ro, so)) : qMW l G yL_measure cL_measure 10 (some .int) [(0, 20, 23, 28), (0, 20, 27, 13), (0, 20, 31, 15)] rmL_measure [.ref p0, .int p1, .int p2, .int p3, .int p4, .int p5, .int p6, .int p7, .ref p8] σ n (.inl (some (.int ro), so, none)) := by
  refine q_bodyW (own := RL) (nm := "measure") (tab := [⟨0, 20, 23, 28⟩, ⟨0, 20, 27, 13⟩, ⟨0, 20, 31, 15⟩]) (ls := [(0, .ref p0), (1, .int p1), (2, .int p2), (3, .int p3), (4, .int p4), (5, .int p5), (6, .int p6), (7, .int p7), (8, .ref p8)]) hst (by decide +kernel) rfl rfl (Nat.le_of_ble_eq_true rfl) rfl rfl rfl rfl ?_
  unfold FL_measure at hF
  refine x_aload 2 8 dL_measure_0 rfl rfl ?_
  refine x_iconst 3 (0 : Int32) dL_measure_2 rfl (by decide) ?_
  refine x_aload_n 4 0 dL_measure_3 rfl rfl ?_
  refine x_iload_n 5 1 dL_measure_4 rfl rfl ?_
  refine x_iload_n 6 2 dL_measure_5 rfl rfl ?_
  refine x_iload_n 7 3 dL_measure_6 rfl rfl ?_
  refine x_iload 9 4 dL_measure_7 rfl rfl ?_
  refine x_iload 11 5 dL_measure_9 rfl rfl ?_
  refine x_iload 13 6 dL_measure_11 rfl rfl ?_
  refine x_iload 15 7 dL_measure_13 rfl rfl ?_
  rcases bc2_inv hF with ⟨v3, s4, h1, hF⟩ | ⟨e2, s5, h1, hF⟩
  · obtain ⟨fs, hb⟩ : ∃ fs : List Value, True ∧ σ p0 = some (.inr (4, fs)) := kX6_measure h1
    refine x_callV (As := [.int p1, .int p2, .int p3, .int p4, .int p5, .int p6, .int p7]) (rest := [.int (0 : Int32), .ref p8]) 18 4 24 (mX6_measure hst p0 p1 p2 p3 p4 p5 p6 p7 σ n (.inl (v3, s4)) h1) qyX6_measure wd_718 wd_719 wd_720 hb.2 rfl rfl rfl (by decide) (Nat.le_of_ble_eq_true rfl) (by decide) dL_measure_15 rfl rfl rfl rfl ?_
    refine x_i2l 19 dL_measure_18 rfl ?_
    obtain ⟨s6, h7, hF⟩ := b1_inv hF
    refine x_sJ 20 h7 dL_measure_19 rfl ?_
    refine x_goto 35 dL_measure_20 (by decide) ?_
    refine x_iconst 36 (0 : Int32) dL_measure_35 rfl (by decide) ?_
    refine x_anyn ?_
    cases hF
    exact x_iret rfl rfl (by decide) (by decide) dL_measure_36
  · obtain ⟨fs, hb⟩ : ∃ fs : List Value, True ∧ σ p0 = some (.inr (4, fs)) := kX6_measure h1
    rcases ite_inv hF with ⟨he, hF⟩ | ⟨he, hF⟩
    · subst he
      refine x_callVC (E := "java/lang/IndexOutOfBoundsException") (As := [.int p1, .int p2, .int p3, .int p4, .int p5, .int p6, .int p7]) (rest := [.int (0 : Int32), .ref p8]) 4 24 [] ⟨0, 20, 23, 28⟩ [⟨0, 20, 27, 13⟩, ⟨0, 20, 31, 15⟩] (mX6_measure hst p0 p1 p2 p3 p4 p5 p6 p7 σ n (.inr ("java/lang/IndexOutOfBoundsException", s5)) h1) qyX6_measure wd_718 wd_719 wd_720 hb.2 rfl rfl rfl (by decide) (Nat.le_of_ble_eq_true rfl) (by decide) dL_measure_15 rfl (fun _ h => absurd h List.not_mem_nil) (by decide) (by decide) wd_567 cst_I rfl rfl (fun qx => ?_)
      refine x_astore 25 9 [(9, .ref qx), (0, .ref p0), (1, .int p1), (2, .int p2), (3, .int p3), (4, .int p4), (5, .int p5), (6, .int p6), (7, .int p7), (8, .ref p8)] dL_measure_23 rfl (by decide) rfl ?_
      refine x_iconst 26 (1 : Int32) dL_measure_25 rfl (by decide) ?_
      refine x_anyn ?_
      cases hF
      exact x_iret rfl rfl (by decide) (by decide) dL_measure_26
    rcases ite_inv hF with ⟨he, hF⟩ | ⟨he, hF⟩
    · subst he
      refine x_callVC (E := "java/lang/IllegalArgumentException") (As := [.int p1, .int p2, .int p3, .int p4, .int p5, .int p6, .int p7]) (rest := [.int (0 : Int32), .ref p8]) 4 24 [⟨0, 20, 23, 28⟩] ⟨0, 20, 27, 13⟩ [⟨0, 20, 31, 15⟩] (mX6_measure hst p0 p1 p2 p3 p4 p5 p6 p7 σ n (.inr ("java/lang/IllegalArgumentException", s5)) h1) qyX6_measure wd_718 wd_719 wd_720 hb.2 rfl rfl rfl (by decide) (Nat.le_of_ble_eq_true rfl) (by decide) dL_measure_15 rfl (List.forall_mem_cons.mpr ⟨⟨by decide, _, wd_567, by decide⟩, fun _ h => absurd h List.not_mem_nil⟩) (by decide) (by decide) wd_295 cst_A rfl rfl (fun qx => ?_)
      refine x_astore 29 9 [(9, .ref qx), (0, .ref p0), (1, .int p1), (2, .int p2), (3, .int p3), (4, .int p4), (5, .int p5), (6, .int p6), (7, .int p7), (8, .ref p8)] dL_measure_27 rfl (by decide) rfl ?_
      refine x_iconst 30 (2 : Int32) dL_measure_29 rfl (by decide) ?_
      refine x_anyn ?_
      cases hF
      exact x_iret rfl rfl (by decide) (by decide) dL_measure_30
    rcases ite_inv hF with ⟨he, hF⟩ | ⟨he, hF⟩
    · subst he
      refine x_callVC (E := "java/lang/IllegalStateException") (As := [.int p1, .int p2, .int p3, .int p4, .int p5, .int p6, .int p7]) (rest := [.int (0 : Int32), .ref p8]) 4 24 [⟨0, 20, 23, 28⟩, ⟨0, 20, 27, 13⟩] ⟨0, 20, 31, 15⟩ [] (mX6_measure hst p0 p1 p2 p3 p4 p5 p6 p7 σ n (.inr ("java/lang/IllegalStateException", s5)) h1) qyX6_measure wd_718 wd_719 wd_720 hb.2 rfl rfl rfl (by decide) (Nat.le_of_ble_eq_true rfl) (by decide) dL_measure_15 rfl (List.forall_mem_cons.mpr ⟨⟨by decide, _, wd_567, by decide⟩, List.forall_mem_cons.mpr ⟨⟨by decide, _, wd_295, by decide⟩, fun _ h => absurd h List.not_mem_nil⟩⟩) (by decide) (by decide) wd_296 cst_S rfl rfl (fun qx => ?_)
      refine x_astore 33 9 [(9, .ref qx), (0, .ref p0), (1, .int p1), (2, .int p2), (3, .int p3), (4, .int p4), (5, .int p5), (6, .int p6), (7, .int p7), (8, .ref p8)] dL_measure_31 rfl (by decide) rfl ?_
      refine x_iconst 34 (3 : Int32) dL_measure_33 rfl (by decide) ?_
      refine x_anyn ?_
      cases hF
      exact x_iret rfl rfl (by decide) (by decide) dL_measure_34
    cases hF
def rmL_drop : Room := { frames := 8, cells := 1, slots := 6, locals := 124 }
theorem qyL_drop : qYW yL_drop cL_drop 4 (some .int) [(0, 9, 12, 28)] 3 := ⟨wd_728, wd_25, by decide +kernel, by decide +kernel, by decide +kernel⟩
set_option maxHeartbeats 4000000 in
set_option maxRecDepth 100000 in
theorem mL_drop {l : Launch} {G : qG} (hst : l.stackTraces = false) (p0 : Nat) (p1 : Int32) (p2 : Nat) (σ : qH) (n : Option Nat) (ro : Int32) (so : qH) (hF : FL_drop p0 p1 p2 σ = some (ro, so)) : qMW l G yL_drop cL_drop 4 (some .int) [(0, 9, 12, 28)] rmL_drop [.ref p0, .int p1, .ref p2] σ n (.inl (some (.int ro), so, none)) := by
  refine q_bodyW (own := RL) (nm := "drop") (tab := [⟨0, 9, 12, 28⟩]) (ls := [(0, .ref p0), (1, .int p1), (2, .ref p2)]) hst (by decide +kernel) rfl rfl (Nat.le_of_ble_eq_true rfl) rfl rfl rfl rfl ?_
  unfold FL_drop at hF
  refine x_aload_n 1 2 dL_drop_0 rfl rfl ?_
  refine x_iconst 2 (0 : Int32) dL_drop_1 rfl (by decide) ?_
  refine x_aload_n 3 0 dL_drop_2 rfl rfl ?_
  refine x_iload_n 4 1 dL_drop_3 rfl rfl ?_
  rcases bc2_inv hF with ⟨v3, s4, h1, hF⟩ | ⟨e2, s5, h1, hF⟩
  · obtain ⟨fs, hb⟩ : ∃ fs : List Value, True ∧ σ p0 = some (.inr (4, fs)) := kX6_drop h1
    refine x_callV (As := [.int p1]) (rest := [.int (0 : Int32), .ref p2]) 7 1 6 (mX6_drop hst p0 p1 σ n (.inl (v3, s4)) h1) qyX6_drop wd_729 wd_730 wd_731 hb.2 rfl rfl rfl (by decide) (Nat.le_of_ble_eq_true rfl) (by decide) dL_drop_4 rfl rfl rfl rfl ?_
    refine x_i2l 8 dL_drop_7 rfl ?_
    obtain ⟨s6, h7, hF⟩ := b1_inv hF
    refine x_sJ 9 h7 dL_drop_8 rfl ?_
    refine x_goto 15 dL_drop_9 (by decide) ?_
    refine x_iconst 16 (0 : Int32) dL_drop_15 rfl (by decide) ?_
    refine x_anyn ?_
    cases hF
    exact x_iret rfl rfl (by decide) (by decide) dL_drop_16
  · obtain ⟨fs, hb⟩ : ∃ fs : List Value, True ∧ σ p0 = some (.inr (4, fs)) := kX6_drop h1
    rcases ite_inv hF with ⟨he, hF⟩ | ⟨he, hF⟩
    · subst he
      refine x_callVC (E := "java/lang/IndexOutOfBoundsException") (As := [.int p1]) (rest := [.int (0 : Int32), .ref p2]) 1 6 [] ⟨0, 9, 12, 28⟩ [] (mX6_drop hst p0 p1 σ n (.inr ("java/lang/IndexOutOfBoundsException", s5)) h1) qyX6_drop wd_729 wd_730 wd_731 hb.2 rfl rfl rfl (by decide) (Nat.le_of_ble_eq_true rfl) (by decide) dL_drop_4 rfl (fun _ h => absurd h List.not_mem_nil) (by decide) (by decide) wd_567 cst_I rfl rfl (fun qx => ?_)
      refine x_astore_n 13 3 [(3, .ref qx), (0, .ref p0), (1, .int p1), (2, .ref p2)] dL_drop_12 rfl rfl (by decide) rfl ?_
      refine x_iconst 14 (1 : Int32) dL_drop_13 rfl (by decide) ?_
      refine x_anyn ?_
      cases hF
      exact x_iret rfl rfl (by decide) (by decide) dL_drop_14
    cases hF
def rmL_trust : Room := { frames := 8, cells := 2, slots := 12, locals := 124 }
theorem qyL_trust : qYW yL_trust cL_trust 5 (some .int) [(0, 10, 13, 28), (0, 10, 17, 13)] 4 := ⟨wd_736, wd_25, by decide +kernel, by decide +kernel, by decide +kernel⟩
set_option maxHeartbeats 4000000 in
set_option maxRecDepth 100000 in
theorem mL_trust {l : Launch} {G : qG} (hst : l.stackTraces = false) (p0 : Nat) (p1 : Int32) (p2 : Int32) (p3 : Nat) (σ : qH) (n : Option Nat) (ro : Int32) (so : qH) (hF : FL_trust p0 p1 p2 p3 σ = some (ro, so)) : qMW l G yL_trust cL_trust 5 (some .int) [(0, 10, 13, 28), (0, 10, 17, 13)] rmL_trust [.ref p0, .int p1, .int p2, .ref p3] σ n (.inl (some (.int ro), so, none)) := by
  refine q_bodyW (own := RL) (nm := "trust") (tab := [⟨0, 10, 13, 28⟩, ⟨0, 10, 17, 13⟩]) (ls := [(0, .ref p0), (1, .int p1), (2, .int p2), (3, .ref p3)]) hst (by decide +kernel) rfl rfl (Nat.le_of_ble_eq_true rfl) rfl rfl rfl rfl ?_
  unfold FL_trust at hF
  refine x_aload_n 1 3 dL_trust_0 rfl rfl ?_
  refine x_iconst 2 (0 : Int32) dL_trust_1 rfl (by decide) ?_
  refine x_aload_n 3 0 dL_trust_2 rfl rfl ?_
  refine x_iload_n 4 1 dL_trust_3 rfl rfl ?_
  refine x_iload_n 5 2 dL_trust_4 rfl rfl ?_
  rcases bc2_inv hF with ⟨v3, s4, h1, hF⟩ | ⟨e2, s5, h1, hF⟩
  · obtain ⟨fs, hb⟩ : ∃ fs : List Value, True ∧ σ p0 = some (.inr (4, fs)) := kX6_trust h1
    refine x_callV (As := [.int p1, .int p2]) (rest := [.int (0 : Int32), .ref p3]) 8 2 12 (mX6_trust hst p0 p1 p2 σ n (.inl (v3, s4)) h1) qyX6_trust wd_737 wd_738 wd_739 hb.2 rfl rfl rfl (by decide) (Nat.le_of_ble_eq_true rfl) (by decide) dL_trust_5 rfl rfl rfl rfl ?_
    refine x_i2l 9 dL_trust_8 rfl ?_
    obtain ⟨s6, h7, hF⟩ := b1_inv hF
    refine x_sJ 10 h7 dL_trust_9 rfl ?_
    refine x_goto 21 dL_trust_10 (by decide) ?_
    refine x_iconst 22 (0 : Int32) dL_trust_21 rfl (by decide) ?_
    refine x_anyn ?_
    cases hF
    exact x_iret rfl rfl (by decide) (by decide) dL_trust_22
  · obtain ⟨fs, hb⟩ : ∃ fs : List Value, True ∧ σ p0 = some (.inr (4, fs)) := kX6_trust h1
    rcases ite_inv hF with ⟨he, hF⟩ | ⟨he, hF⟩
    · subst he
      refine x_callVC (E := "java/lang/IndexOutOfBoundsException") (As := [.int p1, .int p2]) (rest := [.int (0 : Int32), .ref p3]) 2 12 [] ⟨0, 10, 13, 28⟩ [⟨0, 10, 17, 13⟩] (mX6_trust hst p0 p1 p2 σ n (.inr ("java/lang/IndexOutOfBoundsException", s5)) h1) qyX6_trust wd_737 wd_738 wd_739 hb.2 rfl rfl rfl (by decide) (Nat.le_of_ble_eq_true rfl) (by decide) dL_trust_5 rfl (fun _ h => absurd h List.not_mem_nil) (by decide) (by decide) wd_567 cst_I rfl rfl (fun qx => ?_)
      refine x_astore 15 4 [(4, .ref qx), (0, .ref p0), (1, .int p1), (2, .int p2), (3, .ref p3)] dL_trust_13 rfl (by decide) rfl ?_
      refine x_iconst 16 (1 : Int32) dL_trust_15 rfl (by decide) ?_
      refine x_anyn ?_
      cases hF
      exact x_iret rfl rfl (by decide) (by decide) dL_trust_16
    rcases ite_inv hF with ⟨he, hF⟩ | ⟨he, hF⟩
    · subst he
      refine x_callVC (E := "java/lang/IllegalArgumentException") (As := [.int p1, .int p2]) (rest := [.int (0 : Int32), .ref p3]) 2 12 [⟨0, 10, 13, 28⟩] ⟨0, 10, 17, 13⟩ [] (mX6_trust hst p0 p1 p2 σ n (.inr ("java/lang/IllegalArgumentException", s5)) h1) qyX6_trust wd_737 wd_738 wd_739 hb.2 rfl rfl rfl (by decide) (Nat.le_of_ble_eq_true rfl) (by decide) dL_trust_5 rfl (List.forall_mem_cons.mpr ⟨⟨by decide, _, wd_567, by decide⟩, fun _ h => absurd h List.not_mem_nil⟩) (by decide) (by decide) wd_295 cst_A rfl rfl (fun qx => ?_)
      refine x_astore 19 4 [(4, .ref qx), (0, .ref p0), (1, .int p1), (2, .int p2), (3, .ref p3)] dL_trust_17 rfl (by decide) rfl ?_
      refine x_iconst 20 (2 : Int32) dL_trust_19 rfl (by decide) ?_
      refine x_anyn ?_
      cases hF
      exact x_iret rfl rfl (by decide) (by decide) dL_trust_20
    cases hF
def rmL_survey : Room := { frames := 8, cells := 2, slots := 12, locals := 124 }
theorem qyL_survey : qYW yL_survey cL_survey 5 (some .int) [(0, 10, 13, 28), (0, 10, 17, 13)] 4 := ⟨wd_745, wd_25, by decide +kernel, by decide +kernel, by decide +kernel⟩
set_option maxHeartbeats 4000000 in
set_option maxRecDepth 100000 in
theorem mL_survey {l : Launch} {G : qG} (hst : l.stackTraces = false) (p0 : Nat) (p1 : Int32) (p2 : Int32) (p3 : Nat) (σ : qH) (n : Option Nat) (ro : Int32) (so : qH) (hF : FL_survey p0 p1 p2 p3 σ = some (ro, so)) : qMW l G yL_survey cL_survey 5 (some .int) [(0, 10, 13, 28), (0, 10, 17, 13)] rmL_survey [.ref p0, .int p1, .int p2, .ref p3] σ n (.inl (some (.int ro), so, none)) := by
  refine q_bodyW (own := RL) (nm := "survey") (tab := [⟨0, 10, 13, 28⟩, ⟨0, 10, 17, 13⟩]) (ls := [(0, .ref p0), (1, .int p1), (2, .int p2), (3, .ref p3)]) hst (by decide +kernel) rfl rfl (Nat.le_of_ble_eq_true rfl) rfl rfl rfl rfl ?_
  unfold FL_survey at hF
  refine x_aload_n 1 3 dL_survey_0 rfl rfl ?_
  refine x_iconst 2 (0 : Int32) dL_survey_1 rfl (by decide) ?_
  refine x_aload_n 3 0 dL_survey_2 rfl rfl ?_
  refine x_iload_n 4 1 dL_survey_3 rfl rfl ?_
  refine x_iload_n 5 2 dL_survey_4 rfl rfl ?_
  rcases bc2_inv hF with ⟨v3, s4, h1, hF⟩ | ⟨e2, s5, h1, hF⟩
  · obtain ⟨fs, hb⟩ : ∃ fs : List Value, True ∧ σ p0 = some (.inr (4, fs)) := kX6_survey h1
    refine x_callV (As := [.int p1, .int p2]) (rest := [.int (0 : Int32), .ref p3]) 8 2 12 (mX6_survey hst p0 p1 p2 σ n (.inl (v3, s4)) h1) qyX6_survey wd_746 wd_747 wd_748 hb.2 rfl rfl rfl (by decide) (Nat.le_of_ble_eq_true rfl) (by decide) dL_survey_5 rfl rfl rfl rfl ?_
    refine x_i2l 9 dL_survey_8 rfl ?_
    obtain ⟨s6, h7, hF⟩ := b1_inv hF
    refine x_sJ 10 h7 dL_survey_9 rfl ?_
    refine x_goto 21 dL_survey_10 (by decide) ?_
    refine x_iconst 22 (0 : Int32) dL_survey_21 rfl (by decide) ?_
    refine x_anyn ?_
    cases hF
    exact x_iret rfl rfl (by decide) (by decide) dL_survey_22
  · obtain ⟨fs, hb⟩ : ∃ fs : List Value, True ∧ σ p0 = some (.inr (4, fs)) := kX6_survey h1
    rcases ite_inv hF with ⟨he, hF⟩ | ⟨he, hF⟩
    · subst he
      refine x_callVC (E := "java/lang/IndexOutOfBoundsException") (As := [.int p1, .int p2]) (rest := [.int (0 : Int32), .ref p3]) 2 12 [] ⟨0, 10, 13, 28⟩ [⟨0, 10, 17, 13⟩] (mX6_survey hst p0 p1 p2 σ n (.inr ("java/lang/IndexOutOfBoundsException", s5)) h1) qyX6_survey wd_746 wd_747 wd_748 hb.2 rfl rfl rfl (by decide) (Nat.le_of_ble_eq_true rfl) (by decide) dL_survey_5 rfl (fun _ h => absurd h List.not_mem_nil) (by decide) (by decide) wd_567 cst_I rfl rfl (fun qx => ?_)
      refine x_astore 15 4 [(4, .ref qx), (0, .ref p0), (1, .int p1), (2, .int p2), (3, .ref p3)] dL_survey_13 rfl (by decide) rfl ?_
      refine x_iconst 16 (1 : Int32) dL_survey_15 rfl (by decide) ?_
      refine x_anyn ?_
      cases hF
      exact x_iret rfl rfl (by decide) (by decide) dL_survey_16
    rcases ite_inv hF with ⟨he, hF⟩ | ⟨he, hF⟩
    · subst he
      refine x_callVC (E := "java/lang/IllegalArgumentException") (As := [.int p1, .int p2]) (rest := [.int (0 : Int32), .ref p3]) 2 12 [⟨0, 10, 13, 28⟩] ⟨0, 10, 17, 13⟩ [] (mX6_survey hst p0 p1 p2 σ n (.inr ("java/lang/IllegalArgumentException", s5)) h1) qyX6_survey wd_746 wd_747 wd_748 hb.2 rfl rfl rfl (by decide) (Nat.le_of_ble_eq_true rfl) (by decide) dL_survey_5 rfl (List.forall_mem_cons.mpr ⟨⟨by decide, _, wd_567, by decide⟩, fun _ h => absurd h List.not_mem_nil⟩) (by decide) (by decide) wd_295 cst_A rfl rfl (fun qx => ?_)
      refine x_astore 19 4 [(4, .ref qx), (0, .ref p0), (1, .int p1), (2, .int p2), (3, .ref p3)] dL_survey_17 rfl (by decide) rfl ?_
      refine x_iconst 20 (2 : Int32) dL_survey_19 rfl (by decide) ?_
      refine x_anyn ?_
      cases hF
      exact x_iret rfl rfl (by decide) (by decide) dL_survey_20
    cases hF
def rmL_set : Room := { frames := 8, cells := 1, slots := 6, locals := 124 }
theorem qyL_set : qYW yL_set cL_set 5 (some .int) [(0, 10, 13, 13)] 4 := ⟨wd_753, wd_25, by decide +kernel, by decide +kernel, by decide +kernel⟩
set_option maxHeartbeats 4000000 in
set_option maxRecDepth 100000 in
theorem mL_set {l : Launch} {G : qG} (hst : l.stackTraces = false) (p0 : Nat) (p1 : Int32) (p2 : Int32) (p3 : Nat) (σ : qH) (n : Option Nat) (ro : Int32) (so : qH) (hF : FL_set p0 p1 p2 p3 σ = some (ro, so)) : qMW l G yL_set cL_set 5 (some .int) [(0, 10, 13, 13)] rmL_set [.ref p0, .int p1, .int p2, .ref p3] σ n (.inl (some (.int ro), so, none)) := by
  refine q_bodyW (own := RL) (nm := "set") (tab := [⟨0, 10, 13, 13⟩]) (ls := [(0, .ref p0), (1, .int p1), (2, .int p2), (3, .ref p3)]) hst (by decide +kernel) rfl rfl (Nat.le_of_ble_eq_true rfl) rfl rfl rfl rfl ?_
  unfold FL_set at hF
  refine x_aload_n 1 3 dL_set_0 rfl rfl ?_
  refine x_iconst 2 (0 : Int32) dL_set_1 rfl (by decide) ?_
  refine x_aload_n 3 0 dL_set_2 rfl rfl ?_
  refine x_iload_n 4 1 dL_set_3 rfl rfl ?_
  refine x_iload_n 5 2 dL_set_4 rfl rfl ?_
  rcases bc2_inv hF with ⟨v3, s4, h1, hF⟩ | ⟨e2, s5, h1, hF⟩
  · obtain ⟨fs, hb⟩ : ∃ fs : List Value, True ∧ σ p0 = some (.inr (4, fs)) := kX6_set h1
    refine x_callV (As := [.int p1, .int p2]) (rest := [.int (0 : Int32), .ref p3]) 8 1 6 (mX6_set hst p0 p1 p2 σ n (.inl (v3, s4)) h1) qyX6_set wd_754 wd_755 wd_756 hb.2 rfl rfl rfl (by decide) (Nat.le_of_ble_eq_true rfl) (by decide) dL_set_5 rfl rfl rfl rfl ?_
    refine x_i2l 9 dL_set_8 rfl ?_
    obtain ⟨s6, h7, hF⟩ := b1_inv hF
    refine x_sJ 10 h7 dL_set_9 rfl ?_
    refine x_goto 17 dL_set_10 (by decide) ?_
    refine x_iconst 18 (0 : Int32) dL_set_17 rfl (by decide) ?_
    refine x_anyn ?_
    cases hF
    exact x_iret rfl rfl (by decide) (by decide) dL_set_18
  · obtain ⟨fs, hb⟩ : ∃ fs : List Value, True ∧ σ p0 = some (.inr (4, fs)) := kX6_set h1
    rcases ite_inv hF with ⟨he, hF⟩ | ⟨he, hF⟩
    · subst he
      refine x_callVC (E := "java/lang/IllegalArgumentException") (As := [.int p1, .int p2]) (rest := [.int (0 : Int32), .ref p3]) 1 6 [] ⟨0, 10, 13, 13⟩ [] (mX6_set hst p0 p1 p2 σ n (.inr ("java/lang/IllegalArgumentException", s5)) h1) qyX6_set wd_754 wd_755 wd_756 hb.2 rfl rfl rfl (by decide) (Nat.le_of_ble_eq_true rfl) (by decide) dL_set_5 rfl (fun _ h => absurd h List.not_mem_nil) (by decide) (by decide) wd_295 cst_A rfl rfl (fun qx => ?_)
      refine x_astore 15 4 [(4, .ref qx), (0, .ref p0), (1, .int p1), (2, .int p2), (3, .ref p3)] dL_set_13 rfl (by decide) rfl ?_
      refine x_iconst 16 (1 : Int32) dL_set_15 rfl (by decide) ?_
      refine x_anyn ?_
      cases hF
      exact x_iret rfl rfl (by decide) (by decide) dL_set_16
    cases hF
def rmL_undo : Room := { frames := 7, cells := 1, slots := 6, locals := 102 }
theorem qyL_undo : qYW yL_undo cL_undo 3 (some .int) [(0, 8, 11, 15)] 2 := ⟨wd_768, wd_25, by decide +kernel, by decide +kernel, by decide +kernel⟩
set_option maxHeartbeats 4000000 in
set_option maxRecDepth 100000 in
theorem mL_undo {l : Launch} {G : qG} (hst : l.stackTraces = false) (p0 : Nat) (p1 : Nat) (σ : qH) (n : Option Nat) (ro : Int32) (so : qH) (hF : FL_undo p0 p1 σ = some (ro, so)) : qMW l G yL_undo cL_undo 3 (some .int) [(0, 8, 11, 15)] rmL_undo [.ref p0, .ref p1] σ n (.inl (some (.int ro), so, none)) := by
  refine q_bodyW (own := RL) (nm := "undo") (tab := [⟨0, 8, 11, 15⟩]) (ls := [(0, .ref p0), (1, .ref p1)]) hst (by decide +kernel) rfl rfl (Nat.le_of_ble_eq_true rfl) rfl rfl rfl rfl ?_
  unfold FL_undo at hF
  refine x_aload_n 1 1 dL_undo_0 rfl rfl ?_
  refine x_iconst 2 (0 : Int32) dL_undo_1 rfl (by decide) ?_
  refine x_aload_n 3 0 dL_undo_2 rfl rfl ?_
  rcases bc2_inv hF with ⟨v3, s4, h1, hF⟩ | ⟨e2, s5, h1, hF⟩
  · obtain ⟨fs, hb⟩ : ∃ fs : List Value, True ∧ σ p0 = some (.inr (4, fs)) := kX6_undo h1
    refine x_callV (As := []) (rest := [.int (0 : Int32), .ref p1]) 6 1 6 (mX6_undo hst p0 σ n (.inl (v3, s4)) h1) qyX6_undo wd_769 wd_770 wd_771 hb.2 rfl rfl rfl (by decide) (Nat.le_of_ble_eq_true rfl) (by decide) dL_undo_3 rfl rfl rfl rfl ?_
    refine x_i2l 7 dL_undo_6 rfl ?_
    obtain ⟨s6, h7, hF⟩ := b1_inv hF
    refine x_sJ 8 h7 dL_undo_7 rfl ?_
    refine x_goto 14 dL_undo_8 (by decide) ?_
    refine x_iconst 15 (0 : Int32) dL_undo_14 rfl (by decide) ?_
    refine x_anyn ?_
    cases hF
    exact x_iret rfl rfl (by decide) (by decide) dL_undo_15
  · obtain ⟨fs, hb⟩ : ∃ fs : List Value, True ∧ σ p0 = some (.inr (4, fs)) := kX6_undo h1
    rcases ite_inv hF with ⟨he, hF⟩ | ⟨he, hF⟩
    · subst he
      refine x_callVC (E := "java/lang/IllegalStateException") (As := []) (rest := [.int (0 : Int32), .ref p1]) 1 6 [] ⟨0, 8, 11, 15⟩ [] (mX6_undo hst p0 σ n (.inr ("java/lang/IllegalStateException", s5)) h1) qyX6_undo wd_769 wd_770 wd_771 hb.2 rfl rfl rfl (by decide) (Nat.le_of_ble_eq_true rfl) (by decide) dL_undo_3 rfl (fun _ h => absurd h List.not_mem_nil) (by decide) (by decide) wd_296 cst_S rfl rfl (fun qx => ?_)
      refine x_astore_n 12 2 [(2, .ref qx), (0, .ref p0), (1, .ref p1)] dL_undo_11 rfl rfl (by decide) rfl ?_
      refine x_iconst 13 (1 : Int32) dL_undo_12 rfl (by decide) ?_
      refine x_anyn ?_
      cases hF
      exact x_iret rfl rfl (by decide) (by decide) dL_undo_13
    cases hF
def rmL_apart : Room := { frames := 8, cells := 2, slots := 12, locals := 125 }
theorem qyL_apart : qYW yL_apart cL_apart 5 (some .int) [(0, 10, 13, 28)] 4 := ⟨wd_784, wd_25, by decide +kernel, by decide +kernel, by decide +kernel⟩
set_option maxHeartbeats 4000000 in
set_option maxRecDepth 100000 in
theorem mL_apart {l : Launch} {G : qG} (hst : l.stackTraces = false) (p0 : Nat) (p1 : Int32) (p2 : Int32) (p3 : Nat) (σ : qH) (n : Option Nat) (ro : Int32) (so : qH) (hF : FL_apart p0 p1 p2 p3 σ = some (ro, so)) : qMW l G yL_apart cL_apart 5 (some .int) [(0, 10, 13, 28)] rmL_apart [.ref p0, .int p1, .int p2, .ref p3] σ n (.inl (some (.int ro), so, none)) := by
  refine q_bodyW (own := RL) (nm := "apart") (tab := [⟨0, 10, 13, 28⟩]) (ls := [(0, .ref p0), (1, .int p1), (2, .int p2), (3, .ref p3)]) hst (by decide +kernel) rfl rfl (Nat.le_of_ble_eq_true rfl) rfl rfl rfl rfl ?_
  unfold FL_apart at hF
  refine x_aload_n 1 3 dL_apart_0 rfl rfl ?_
  refine x_iconst 2 (0 : Int32) dL_apart_1 rfl (by decide) ?_
  refine x_aload_n 3 0 dL_apart_2 rfl rfl ?_
  refine x_iload_n 4 1 dL_apart_3 rfl rfl ?_
  refine x_iload_n 5 2 dL_apart_4 rfl rfl ?_
  rcases bc_inv hF with ⟨v3, h1, hF⟩ | ⟨e2, h1, hF⟩
  · obtain ⟨fs, hb⟩ : ∃ fs : List Value, True ∧ σ p0 = some (.inr (4, fs)) := kX6_apart h1
    refine x_callV (As := [.int p1, .int p2]) (rest := [.int (0 : Int32), .ref p3]) 8 2 12 (mX6_apart hst p0 p1 p2 σ n (.inl v3) h1) qyX6_apart wd_785 wd_786 wd_787 hb.2 rfl rfl rfl (by decide) (Nat.le_of_ble_eq_true rfl) (by decide) dL_apart_5 rfl rfl rfl rfl ?_
    refine x_i2l 9 dL_apart_8 rfl ?_
    obtain ⟨s6, h7, hF⟩ := b1_inv hF
    refine x_sJ 10 h7 dL_apart_9 rfl ?_
    refine x_goto 17 dL_apart_10 (by decide) ?_
    refine x_iconst 18 (0 : Int32) dL_apart_17 rfl (by decide) ?_
    refine x_anyn ?_
    cases hF
    exact x_iret rfl rfl (by decide) (by decide) dL_apart_18
  · obtain ⟨fs, hb⟩ : ∃ fs : List Value, True ∧ σ p0 = some (.inr (4, fs)) := kX6_apart h1
    rcases ite_inv hF with ⟨he, hF⟩ | ⟨he, hF⟩
    · subst he
      refine x_callVC (E := "java/lang/IndexOutOfBoundsException") (As := [.int p1, .int p2]) (rest := [.int (0 : Int32), .ref p3]) 2 12 [] ⟨0, 10, 13, 28⟩ [] (mX6_apart hst p0 p1 p2 σ n (.inr "java/lang/IndexOutOfBoundsException") h1) qyX6_apart wd_785 wd_786 wd_787 hb.2 rfl rfl rfl (by decide) (Nat.le_of_ble_eq_true rfl) (by decide) dL_apart_5 rfl (fun _ h => absurd h List.not_mem_nil) (by decide) (by decide) wd_567 cst_I rfl rfl (fun qx => ?_)
      refine x_astore 15 4 [(4, .ref qx), (0, .ref p0), (1, .int p1), (2, .int p2), (3, .ref p3)] dL_apart_13 rfl (by decide) rfl ?_
      refine x_iconst 16 (1 : Int32) dL_apart_15 rfl (by decide) ?_
      refine x_anyn ?_
      cases hF
      exact x_iret rfl rfl (by decide) (by decide) dL_apart_16
    cases hF
def rmL_against : Room := { frames := 8, cells := 1, slots := 6, locals := 123 }
theorem qyL_against : qYW yL_against cL_against 4 (some .int) [(0, 9, 12, 28)] 3 := ⟨wd_792, wd_25, by decide +kernel, by decide +kernel, by decide +kernel⟩
set_option maxHeartbeats 4000000 in
set_option maxRecDepth 100000 in
theorem mL_against {l : Launch} {G : qG} (hst : l.stackTraces = false) (p0 : Nat) (p1 : Int32) (p2 : Nat) (σ : qH) (n : Option Nat) (ro : Int32) (so : qH) (hF : FL_against p0 p1 p2 σ = some (ro, so)) : qMW l G yL_against cL_against 4 (some .int) [(0, 9, 12, 28)] rmL_against [.ref p0, .int p1, .ref p2] σ n (.inl (some (.int ro), so, none)) := by
  refine q_bodyW (own := RL) (nm := "against") (tab := [⟨0, 9, 12, 28⟩]) (ls := [(0, .ref p0), (1, .int p1), (2, .ref p2)]) hst (by decide +kernel) rfl rfl (Nat.le_of_ble_eq_true rfl) rfl rfl rfl rfl ?_
  unfold FL_against at hF
  refine x_aload_n 1 2 dL_against_0 rfl rfl ?_
  refine x_iconst 2 (0 : Int32) dL_against_1 rfl (by decide) ?_
  refine x_aload_n 3 0 dL_against_2 rfl rfl ?_
  refine x_iload_n 4 1 dL_against_3 rfl rfl ?_
  rcases bc2_inv hF with ⟨v3, s4, h1, hF⟩ | ⟨e2, s5, h1, hF⟩
  · obtain ⟨fs, hb⟩ : ∃ fs : List Value, True ∧ σ p0 = some (.inr (4, fs)) := kX6_against h1
    refine x_callV (As := [.int p1]) (rest := [.int (0 : Int32), .ref p2]) 7 1 6 (mX6_against hst p0 p1 σ n (.inl (v3, s4)) h1) qyX6_against wd_793 wd_794 wd_795 hb.2 rfl rfl rfl (by decide) (Nat.le_of_ble_eq_true rfl) (by decide) dL_against_4 rfl rfl rfl rfl ?_
    refine x_i2l 8 dL_against_7 rfl ?_
    obtain ⟨s6, h7, hF⟩ := b1_inv hF
    refine x_sJ 9 h7 dL_against_8 rfl ?_
    refine x_goto 15 dL_against_9 (by decide) ?_
    refine x_iconst 16 (0 : Int32) dL_against_15 rfl (by decide) ?_
    refine x_anyn ?_
    cases hF
    exact x_iret rfl rfl (by decide) (by decide) dL_against_16
  · obtain ⟨fs, hb⟩ : ∃ fs : List Value, True ∧ σ p0 = some (.inr (4, fs)) := kX6_against h1
    rcases ite_inv hF with ⟨he, hF⟩ | ⟨he, hF⟩
    · subst he
      refine x_callVC (E := "java/lang/IndexOutOfBoundsException") (As := [.int p1]) (rest := [.int (0 : Int32), .ref p2]) 1 6 [] ⟨0, 9, 12, 28⟩ [] (mX6_against hst p0 p1 σ n (.inr ("java/lang/IndexOutOfBoundsException", s5)) h1) qyX6_against wd_793 wd_794 wd_795 hb.2 rfl rfl rfl (by decide) (Nat.le_of_ble_eq_true rfl) (by decide) dL_against_4 rfl (fun _ h => absurd h List.not_mem_nil) (by decide) (by decide) wd_567 cst_I rfl rfl (fun qx => ?_)
      refine x_astore_n 13 3 [(3, .ref qx), (0, .ref p0), (1, .int p1), (2, .ref p2)] dL_against_12 rfl rfl (by decide) rfl ?_
      refine x_iconst 14 (1 : Int32) dL_against_13 rfl (by decide) ?_
      refine x_anyn ?_
      cases hF
      exact x_iret rfl rfl (by decide) (by decide) dL_against_14
    cases hF
def rmL_without : Room := { frames := 8, cells := 2, slots := 12, locals := 125 }
theorem qyL_without : qYW yL_without cL_without 5 (some .int) [(0, 10, 13, 28), (0, 10, 17, 13)] 4 := ⟨wd_815, wd_25, by decide +kernel, by decide +kernel, by decide +kernel⟩
set_option maxHeartbeats 4000000 in
set_option maxRecDepth 100000 in
theorem mL_without {l : Launch} {G : qG} (hst : l.stackTraces = false) (p0 : Nat) (p1 : Int32) (p2 : Int32) (p3 : Nat) (σ : qH) (n : Option Nat) (ro : Int32) (so : qH) (hF : FL_without p0 p1 p2 p3 σ = some (ro, so)) : qMW l G yL_without cL_without 5 (some .int) [(0, 10, 13, 28), (0, 10, 17, 13)] rmL_without [.ref p0, .int p1, .int p2, .ref p3] σ n (.inl (some (.int ro), so, none)) := by
  refine q_bodyW (own := RL) (nm := "without") (tab := [⟨0, 10, 13, 28⟩, ⟨0, 10, 17, 13⟩]) (ls := [(0, .ref p0), (1, .int p1), (2, .int p2), (3, .ref p3)]) hst (by decide +kernel) rfl rfl (Nat.le_of_ble_eq_true rfl) rfl rfl rfl rfl ?_
  unfold FL_without at hF
  refine x_aload_n 1 3 dL_without_0 rfl rfl ?_
  refine x_iconst 2 (0 : Int32) dL_without_1 rfl (by decide) ?_
  refine x_aload_n 3 0 dL_without_2 rfl rfl ?_
  refine x_iload_n 4 1 dL_without_3 rfl rfl ?_
  refine x_iload_n 5 2 dL_without_4 rfl rfl ?_
  rcases bc2_inv hF with ⟨v3, s4, h1, hF⟩ | ⟨e2, s5, h1, hF⟩
  · obtain ⟨fs, hb⟩ : ∃ fs : List Value, True ∧ σ p0 = some (.inr (4, fs)) := kX6_without h1
    refine x_callV (As := [.int p1, .int p2]) (rest := [.int (0 : Int32), .ref p3]) 8 2 12 (mX6_without hst p0 p1 p2 σ n (.inl (v3, s4)) h1) qyX6_without wd_816 wd_817 wd_818 hb.2 rfl rfl rfl (by decide) (Nat.le_of_ble_eq_true rfl) (by decide) dL_without_5 rfl rfl rfl rfl ?_
    refine x_i2l 9 dL_without_8 rfl ?_
    obtain ⟨s6, h7, hF⟩ := b1_inv hF
    refine x_sJ 10 h7 dL_without_9 rfl ?_
    refine x_goto 21 dL_without_10 (by decide) ?_
    refine x_iconst 22 (0 : Int32) dL_without_21 rfl (by decide) ?_
    refine x_anyn ?_
    cases hF
    exact x_iret rfl rfl (by decide) (by decide) dL_without_22
  · obtain ⟨fs, hb⟩ : ∃ fs : List Value, True ∧ σ p0 = some (.inr (4, fs)) := kX6_without h1
    rcases ite_inv hF with ⟨he, hF⟩ | ⟨he, hF⟩
    · subst he
      refine x_callVC (E := "java/lang/IndexOutOfBoundsException") (As := [.int p1, .int p2]) (rest := [.int (0 : Int32), .ref p3]) 2 12 [] ⟨0, 10, 13, 28⟩ [⟨0, 10, 17, 13⟩] (mX6_without hst p0 p1 p2 σ n (.inr ("java/lang/IndexOutOfBoundsException", s5)) h1) qyX6_without wd_816 wd_817 wd_818 hb.2 rfl rfl rfl (by decide) (Nat.le_of_ble_eq_true rfl) (by decide) dL_without_5 rfl (fun _ h => absurd h List.not_mem_nil) (by decide) (by decide) wd_567 cst_I rfl rfl (fun qx => ?_)
      refine x_astore 15 4 [(4, .ref qx), (0, .ref p0), (1, .int p1), (2, .int p2), (3, .ref p3)] dL_without_13 rfl (by decide) rfl ?_
      refine x_iconst 16 (1 : Int32) dL_without_15 rfl (by decide) ?_
      refine x_anyn ?_
      cases hF
      exact x_iret rfl rfl (by decide) (by decide) dL_without_16
    rcases ite_inv hF with ⟨he, hF⟩ | ⟨he, hF⟩
    · subst he
      refine x_callVC (E := "java/lang/IllegalArgumentException") (As := [.int p1, .int p2]) (rest := [.int (0 : Int32), .ref p3]) 2 12 [⟨0, 10, 13, 28⟩] ⟨0, 10, 17, 13⟩ [] (mX6_without hst p0 p1 p2 σ n (.inr ("java/lang/IllegalArgumentException", s5)) h1) qyX6_without wd_816 wd_817 wd_818 hb.2 rfl rfl rfl (by decide) (Nat.le_of_ble_eq_true rfl) (by decide) dL_without_5 rfl (List.forall_mem_cons.mpr ⟨⟨by decide, _, wd_567, by decide⟩, fun _ h => absurd h List.not_mem_nil⟩) (by decide) (by decide) wd_295 cst_A rfl rfl (fun qx => ?_)
      refine x_astore 19 4 [(4, .ref qx), (0, .ref p0), (1, .int p1), (2, .int p2), (3, .ref p3)] dL_without_17 rfl (by decide) rfl ?_
      refine x_iconst 20 (2 : Int32) dL_without_19 rfl (by decide) ?_
      refine x_anyn ?_
      cases hF
      exact x_iret rfl rfl (by decide) (by decide) dL_without_20
    cases hF
def rmL_swings : Room := { frames := 8, cells := 2, slots := 12, locals := 125 }
theorem qyL_swings : qYW yL_swings cL_swings 5 (some .int) [(0, 10, 13, 28)] 4 := ⟨wd_822, wd_25, by decide +kernel, by decide +kernel, by decide +kernel⟩
set_option maxHeartbeats 4000000 in
set_option maxRecDepth 100000 in
theorem mL_swings {l : Launch} {G : qG} (hst : l.stackTraces = false) (p0 : Nat) (p1 : Int32) (p2 : Int32) (p3 : Nat) (σ : qH) (n : Option Nat) (ro : Int32) (so : qH) (hF : FL_swings p0 p1 p2 p3 σ = some (ro, so)) : qMW l G yL_swings cL_swings 5 (some .int) [(0, 10, 13, 28)] rmL_swings [.ref p0, .int p1, .int p2, .ref p3] σ n (.inl (some (.int ro), so, none)) := by
  refine q_bodyW (own := RL) (nm := "swings") (tab := [⟨0, 10, 13, 28⟩]) (ls := [(0, .ref p0), (1, .int p1), (2, .int p2), (3, .ref p3)]) hst (by decide +kernel) rfl rfl (Nat.le_of_ble_eq_true rfl) rfl rfl rfl rfl ?_
  unfold FL_swings at hF
  refine x_aload_n 1 3 dL_swings_0 rfl rfl ?_
  refine x_iconst 2 (0 : Int32) dL_swings_1 rfl (by decide) ?_
  refine x_aload_n 3 0 dL_swings_2 rfl rfl ?_
  refine x_iload_n 4 1 dL_swings_3 rfl rfl ?_
  refine x_iload_n 5 2 dL_swings_4 rfl rfl ?_
  rcases bc2_inv hF with ⟨v3, s4, h1, hF⟩ | ⟨e2, s5, h1, hF⟩
  · obtain ⟨fs, hb⟩ : ∃ fs : List Value, True ∧ σ p0 = some (.inr (4, fs)) := kX6_swings h1
    refine x_callV (As := [.int p1, .int p2]) (rest := [.int (0 : Int32), .ref p3]) 8 2 12 (mX6_swings hst p0 p1 p2 σ n (.inl (v3, s4)) h1) qyX6_swings wd_823 wd_824 wd_825 hb.2 rfl rfl rfl (by decide) (Nat.le_of_ble_eq_true rfl) (by decide) dL_swings_5 rfl rfl rfl rfl ?_
    refine x_i2l 9 dL_swings_8 rfl ?_
    obtain ⟨s6, h7, hF⟩ := b1_inv hF
    refine x_sJ 10 h7 dL_swings_9 rfl ?_
    refine x_goto 17 dL_swings_10 (by decide) ?_
    refine x_iconst 18 (0 : Int32) dL_swings_17 rfl (by decide) ?_
    refine x_anyn ?_
    cases hF
    exact x_iret rfl rfl (by decide) (by decide) dL_swings_18
  · obtain ⟨fs, hb⟩ : ∃ fs : List Value, True ∧ σ p0 = some (.inr (4, fs)) := kX6_swings h1
    rcases ite_inv hF with ⟨he, hF⟩ | ⟨he, hF⟩
    · subst he
      refine x_callVC (E := "java/lang/IndexOutOfBoundsException") (As := [.int p1, .int p2]) (rest := [.int (0 : Int32), .ref p3]) 2 12 [] ⟨0, 10, 13, 28⟩ [] (mX6_swings hst p0 p1 p2 σ n (.inr ("java/lang/IndexOutOfBoundsException", s5)) h1) qyX6_swings wd_823 wd_824 wd_825 hb.2 rfl rfl rfl (by decide) (Nat.le_of_ble_eq_true rfl) (by decide) dL_swings_5 rfl (fun _ h => absurd h List.not_mem_nil) (by decide) (by decide) wd_567 cst_I rfl rfl (fun qx => ?_)
      refine x_astore 15 4 [(4, .ref qx), (0, .ref p0), (1, .int p1), (2, .int p2), (3, .ref p3)] dL_swings_13 rfl (by decide) rfl ?_
      refine x_iconst 16 (1 : Int32) dL_swings_15 rfl (by decide) ?_
      refine x_anyn ?_
      cases hF
      exact x_iret rfl rfl (by decide) (by decide) dL_swings_16
    cases hF
def rmL_runScript : Room := { frames := 8, cells := 2, slots := 12, locals := 167 }
theorem qyL_runScript : qYW yL_runScript cL_runScript 6 (some .int) [(0, 11, 14, 13)] 4 := ⟨wd_834, wd_25, by decide +kernel, by decide +kernel, by decide +kernel⟩
set_option maxHeartbeats 4000000 in
set_option maxRecDepth 100000 in
theorem mL_runScript {l : Launch} {G : qG} (hst : l.stackTraces = false) (p0 : Nat) (p1 : Int32) (p2 : Int64) (p3 : Nat) (σ : qH) (n : Option Nat) (ro : Int32) (so : qH) (hF : FL_runScript p0 p1 p2 p3 σ = some (ro, so)) : qMW l G yL_runScript cL_runScript 6 (some .int) [(0, 11, 14, 13)] rmL_runScript [.ref p0, .int p1, .long p2, .ref p3] σ n (.inl (some (.int ro), so, none)) := by
  refine q_bodyW (own := RL) (nm := "runScript") (tab := [⟨0, 11, 14, 13⟩]) (ls := [(0, .ref p0), (1, .int p1), (2, .long p2), (4, .ref p3)]) hst (by decide +kernel) rfl rfl (Nat.le_of_ble_eq_true rfl) rfl rfl rfl rfl ?_
  unfold FL_runScript at hF
  refine x_aload 2 3 dL_runScript_0 rfl rfl ?_
  refine x_iconst 3 (0 : Int32) dL_runScript_2 rfl (by decide) ?_
  refine x_aload_n 4 0 dL_runScript_3 rfl rfl ?_
  refine x_iload_n 5 1 dL_runScript_4 rfl rfl ?_
  refine x_lload_n 6 2 dL_runScript_5 rfl rfl ?_
  rcases bc2_inv hF with ⟨v3, s4, h1, hF⟩ | ⟨e2, s5, h1, hF⟩
  · obtain ⟨fs, hb⟩ : ∃ fs : List Value, True ∧ σ p0 = some (.inr (4, fs)) := kX6_runScript h1
    refine x_callV (As := [.int p1, .long p2]) (rest := [.int (0 : Int32), .ref p3]) 9 2 12 (mX6_runScript hst p0 p1 p2 σ n (.inl (v3, s4)) h1) qyX6_runScript wd_835 wd_836 wd_837 hb.2 rfl rfl rfl (by decide) (Nat.le_of_ble_eq_true rfl) (by decide) dL_runScript_6 rfl rfl rfl rfl ?_
    refine x_i2l 10 dL_runScript_9 rfl ?_
    obtain ⟨s6, h7, hF⟩ := b1_inv hF
    refine x_sJ 11 h7 dL_runScript_10 rfl ?_
    refine x_goto 18 dL_runScript_11 (by decide) ?_
    refine x_iconst 19 (0 : Int32) dL_runScript_18 rfl (by decide) ?_
    refine x_anyn ?_
    cases hF
    exact x_iret rfl rfl (by decide) (by decide) dL_runScript_19
  · obtain ⟨fs, hb⟩ : ∃ fs : List Value, True ∧ σ p0 = some (.inr (4, fs)) := kX6_runScript h1
    rcases ite_inv hF with ⟨he, hF⟩ | ⟨he, hF⟩
    · subst he
      refine x_callVC (E := "java/lang/IllegalArgumentException") (As := [.int p1, .long p2]) (rest := [.int (0 : Int32), .ref p3]) 2 12 [] ⟨0, 11, 14, 13⟩ [] (mX6_runScript hst p0 p1 p2 σ n (.inr ("java/lang/IllegalArgumentException", s5)) h1) qyX6_runScript wd_835 wd_836 wd_837 hb.2 rfl rfl rfl (by decide) (Nat.le_of_ble_eq_true rfl) (by decide) dL_runScript_6 rfl (fun _ h => absurd h List.not_mem_nil) (by decide) (by decide) wd_295 cst_A rfl rfl (fun qx => ?_)
      refine x_astore 16 5 [(5, .ref qx), (0, .ref p0), (1, .int p1), (2, .long p2), (4, .ref p3)] dL_runScript_14 rfl (by decide) rfl ?_
      refine x_iconst 17 (1 : Int32) dL_runScript_16 rfl (by decide) ?_
      refine x_anyn ?_
      cases hF
      exact x_iret rfl rfl (by decide) (by decide) dL_runScript_17
    cases hF
def rmL_simulate : Room := { frames := 8, cells := 1, slots := 6, locals := 175 }
theorem qyL_simulate : qYW yL_simulate cL_simulate 6 (some .int) [(0, 11, 14, 13)] 4 := ⟨wd_876, wd_25, by decide +kernel, by decide +kernel, by decide +kernel⟩
set_option maxHeartbeats 4000000 in
set_option maxRecDepth 100000 in
theorem mL_simulate {l : Launch} {G : qG} (hst : l.stackTraces = false) (p0 : Nat) (p1 : Int64) (p2 : Int32) (p3 : Nat) (σ : qH) (n : Option Nat) (ro : Int32) (so : qH) (hF : FL_simulate p0 p1 p2 p3 σ = some (ro, so)) : qMW l G yL_simulate cL_simulate 6 (some .int) [(0, 11, 14, 13)] rmL_simulate [.ref p0, .long p1, .int p2, .ref p3] σ n (.inl (some (.int ro), so, none)) := by
  refine q_bodyW (own := RL) (nm := "simulate") (tab := [⟨0, 11, 14, 13⟩]) (ls := [(0, .ref p0), (1, .long p1), (3, .int p2), (4, .ref p3)]) hst (by decide +kernel) rfl rfl (Nat.le_of_ble_eq_true rfl) rfl rfl rfl rfl ?_
  unfold FL_simulate at hF
  refine x_aload 2 3 dL_simulate_0 rfl rfl ?_
  refine x_iconst 3 (0 : Int32) dL_simulate_2 rfl (by decide) ?_
  refine x_aload_n 4 0 dL_simulate_3 rfl rfl ?_
  refine x_lload_n 5 1 dL_simulate_4 rfl rfl ?_
  refine x_iload_n 6 2 dL_simulate_5 rfl rfl ?_
  rcases bc2_inv hF with ⟨v3, s4, h1, hF⟩ | ⟨e2, s5, h1, hF⟩
  · obtain ⟨fs, hb⟩ : ∃ fs : List Value, True ∧ σ p0 = some (.inr (4, fs)) := kX6_simulate h1
    refine x_callV (As := [.long p1, .int p2]) (rest := [.int (0 : Int32), .ref p3]) 9 1 6 (mX6_simulate hst p0 p1 p2 σ n (.inl (v3, s4)) h1) qyX6_simulate wd_877 wd_878 wd_879 hb.2 rfl rfl rfl (by decide) (Nat.le_of_ble_eq_true rfl) (by decide) dL_simulate_6 rfl rfl rfl rfl ?_
    refine x_i2l 10 dL_simulate_9 rfl ?_
    obtain ⟨s6, h7, hF⟩ := b1_inv hF
    refine x_sJ 11 h7 dL_simulate_10 rfl ?_
    refine x_goto 18 dL_simulate_11 (by decide) ?_
    refine x_iconst 19 (0 : Int32) dL_simulate_18 rfl (by decide) ?_
    refine x_anyn ?_
    cases hF
    exact x_iret rfl rfl (by decide) (by decide) dL_simulate_19
  · obtain ⟨fs, hb⟩ : ∃ fs : List Value, True ∧ σ p0 = some (.inr (4, fs)) := kX6_simulate h1
    rcases ite_inv hF with ⟨he, hF⟩ | ⟨he, hF⟩
    · subst he
      refine x_callVC (E := "java/lang/IllegalArgumentException") (As := [.long p1, .int p2]) (rest := [.int (0 : Int32), .ref p3]) 1 6 [] ⟨0, 11, 14, 13⟩ [] (mX6_simulate hst p0 p1 p2 σ n (.inr ("java/lang/IllegalArgumentException", s5)) h1) qyX6_simulate wd_877 wd_878 wd_879 hb.2 rfl rfl rfl (by decide) (Nat.le_of_ble_eq_true rfl) (by decide) dL_simulate_6 rfl (fun _ h => absurd h List.not_mem_nil) (by decide) (by decide) wd_295 cst_A rfl rfl (fun qx => ?_)
      refine x_astore 16 5 [(5, .ref qx), (0, .ref p0), (1, .long p1), (3, .int p2), (4, .ref p3)] dL_simulate_14 rfl (by decide) rfl ?_
      refine x_iconst 17 (1 : Int32) dL_simulate_16 rfl (by decide) ?_
      refine x_anyn ?_
      cases hF
      exact x_iret rfl rfl (by decide) (by decide) dL_simulate_17
    cases hF
def rmL_save : Room := { frames := 8, cells := 1, slots := 6, locals := 123 }
theorem qyL_save : qYW yL_save cL_save 4 (some .int) [(0, 9, 12, 28)] 3 := ⟨wd_899, wd_25, by decide +kernel, by decide +kernel, by decide +kernel⟩
set_option maxHeartbeats 4000000 in
set_option maxRecDepth 100000 in
theorem mL_save {l : Launch} {G : qG} (hst : l.stackTraces = false) (p0 : Nat) (p1 : Int32) (p2 : Nat) (σ : qH) (n : Option Nat) (ro : Int32) (so : qH) (hF : FL_save p0 p1 p2 σ = some (ro, so)) : qMW l G yL_save cL_save 4 (some .int) [(0, 9, 12, 28)] rmL_save [.ref p0, .int p1, .ref p2] σ n (.inl (some (.int ro), so, none)) := by
  refine q_bodyW (own := RL) (nm := "save") (tab := [⟨0, 9, 12, 28⟩]) (ls := [(0, .ref p0), (1, .int p1), (2, .ref p2)]) hst (by decide +kernel) rfl rfl (Nat.le_of_ble_eq_true rfl) rfl rfl rfl rfl ?_
  unfold FL_save at hF
  refine x_aload_n 1 2 dL_save_0 rfl rfl ?_
  refine x_iconst 2 (0 : Int32) dL_save_1 rfl (by decide) ?_
  refine x_aload_n 3 0 dL_save_2 rfl rfl ?_
  refine x_iload_n 4 1 dL_save_3 rfl rfl ?_
  rcases bc2_inv hF with ⟨v3, s4, h1, hF⟩ | ⟨e2, s5, h1, hF⟩
  · obtain ⟨fs, hb⟩ : ∃ fs : List Value, True ∧ σ p0 = some (.inr (4, fs)) := kX6_save h1
    refine x_callV (As := [.int p1]) (rest := [.int (0 : Int32), .ref p2]) 7 1 6 (mX6_save hst p0 p1 σ n (.inl (v3, s4)) h1) qyX6_save wd_900 wd_901 wd_902 hb.2 rfl rfl rfl (by decide) (Nat.le_of_ble_eq_true rfl) (by decide) dL_save_4 rfl rfl rfl rfl ?_
    refine x_i2l 8 dL_save_7 rfl ?_
    obtain ⟨s6, h7, hF⟩ := b1_inv hF
    refine x_sJ 9 h7 dL_save_8 rfl ?_
    refine x_goto 15 dL_save_9 (by decide) ?_
    refine x_iconst 16 (0 : Int32) dL_save_15 rfl (by decide) ?_
    refine x_anyn ?_
    cases hF
    exact x_iret rfl rfl (by decide) (by decide) dL_save_16
  · obtain ⟨fs, hb⟩ : ∃ fs : List Value, True ∧ σ p0 = some (.inr (4, fs)) := kX6_save h1
    rcases ite_inv hF with ⟨he, hF⟩ | ⟨he, hF⟩
    · subst he
      refine x_callVC (E := "java/lang/IndexOutOfBoundsException") (As := [.int p1]) (rest := [.int (0 : Int32), .ref p2]) 1 6 [] ⟨0, 9, 12, 28⟩ [] (mX6_save hst p0 p1 σ n (.inr ("java/lang/IndexOutOfBoundsException", s5)) h1) qyX6_save wd_900 wd_901 wd_902 hb.2 rfl rfl rfl (by decide) (Nat.le_of_ble_eq_true rfl) (by decide) dL_save_4 rfl (fun _ h => absurd h List.not_mem_nil) (by decide) (by decide) wd_567 cst_I rfl rfl (fun qx => ?_)
      refine x_astore_n 13 3 [(3, .ref qx), (0, .ref p0), (1, .int p1), (2, .ref p2)] dL_save_12 rfl rfl (by decide) rfl ?_
      refine x_iconst 14 (1 : Int32) dL_save_13 rfl (by decide) ?_
      refine x_anyn ?_
      cases hF
      exact x_iret rfl rfl (by decide) (by decide) dL_save_14
    cases hF
def rmL_restore : Room := { frames := 8, cells := 2, slots := 12, locals := 123 }
theorem qyL_restore : qYW yL_restore cL_restore 4 (some .int) [(0, 9, 12, 28), (0, 9, 15, 15)] 3 := ⟨wd_910, wd_25, by decide +kernel, by decide +kernel, by decide +kernel⟩
set_option maxHeartbeats 4000000 in
set_option maxRecDepth 100000 in
theorem mL_restore {l : Launch} {G : qG} (hst : l.stackTraces = false) (p0 : Nat) (p1 : Int32) (p2 : Nat) (σ : qH) (n : Option Nat) (ro : Int32) (so : qH) (hF : FL_restore p0 p1 p2 σ = some (ro, so)) : qMW l G yL_restore cL_restore 4 (some .int) [(0, 9, 12, 28), (0, 9, 15, 15)] rmL_restore [.ref p0, .int p1, .ref p2] σ n (.inl (some (.int ro), so, none)) := by
  refine q_bodyW (own := RL) (nm := "restore") (tab := [⟨0, 9, 12, 28⟩, ⟨0, 9, 15, 15⟩]) (ls := [(0, .ref p0), (1, .int p1), (2, .ref p2)]) hst (by decide +kernel) rfl rfl (Nat.le_of_ble_eq_true rfl) rfl rfl rfl rfl ?_
  unfold FL_restore at hF
  refine x_aload_n 1 2 dL_restore_0 rfl rfl ?_
  refine x_iconst 2 (0 : Int32) dL_restore_1 rfl (by decide) ?_
  refine x_aload_n 3 0 dL_restore_2 rfl rfl ?_
  refine x_iload_n 4 1 dL_restore_3 rfl rfl ?_
  rcases bc2_inv hF with ⟨v3, s4, h1, hF⟩ | ⟨e2, s5, h1, hF⟩
  · obtain ⟨fs, hb⟩ : ∃ fs : List Value, True ∧ σ p0 = some (.inr (4, fs)) := kX6_restore h1
    refine x_callV (As := [.int p1]) (rest := [.int (0 : Int32), .ref p2]) 7 2 12 (mX6_restore hst p0 p1 σ n (.inl (v3, s4)) h1) qyX6_restore wd_911 wd_912 wd_913 hb.2 rfl rfl rfl (by decide) (Nat.le_of_ble_eq_true rfl) (by decide) dL_restore_4 rfl rfl rfl rfl ?_
    refine x_i2l 8 dL_restore_7 rfl ?_
    obtain ⟨s6, h7, hF⟩ := b1_inv hF
    refine x_sJ 9 h7 dL_restore_8 rfl ?_
    refine x_goto 18 dL_restore_9 (by decide) ?_
    refine x_iconst 19 (0 : Int32) dL_restore_18 rfl (by decide) ?_
    refine x_anyn ?_
    cases hF
    exact x_iret rfl rfl (by decide) (by decide) dL_restore_19
  · obtain ⟨fs, hb⟩ : ∃ fs : List Value, True ∧ σ p0 = some (.inr (4, fs)) := kX6_restore h1
    rcases ite_inv hF with ⟨he, hF⟩ | ⟨he, hF⟩
    · subst he
      refine x_callVC (E := "java/lang/IndexOutOfBoundsException") (As := [.int p1]) (rest := [.int (0 : Int32), .ref p2]) 2 12 [] ⟨0, 9, 12, 28⟩ [⟨0, 9, 15, 15⟩] (mX6_restore hst p0 p1 σ n (.inr ("java/lang/IndexOutOfBoundsException", s5)) h1) qyX6_restore wd_911 wd_912 wd_913 hb.2 rfl rfl rfl (by decide) (Nat.le_of_ble_eq_true rfl) (by decide) dL_restore_4 rfl (fun _ h => absurd h List.not_mem_nil) (by decide) (by decide) wd_567 cst_I rfl rfl (fun qx => ?_)
      refine x_astore_n 13 3 [(3, .ref qx), (0, .ref p0), (1, .int p1), (2, .ref p2)] dL_restore_12 rfl rfl (by decide) rfl ?_
      refine x_iconst 14 (1 : Int32) dL_restore_13 rfl (by decide) ?_
      refine x_anyn ?_
      cases hF
      exact x_iret rfl rfl (by decide) (by decide) dL_restore_14
    rcases ite_inv hF with ⟨he, hF⟩ | ⟨he, hF⟩
    · subst he
      refine x_callVC (E := "java/lang/IllegalStateException") (As := [.int p1]) (rest := [.int (0 : Int32), .ref p2]) 2 12 [⟨0, 9, 12, 28⟩] ⟨0, 9, 15, 15⟩ [] (mX6_restore hst p0 p1 σ n (.inr ("java/lang/IllegalStateException", s5)) h1) qyX6_restore wd_911 wd_912 wd_913 hb.2 rfl rfl rfl (by decide) (Nat.le_of_ble_eq_true rfl) (by decide) dL_restore_4 rfl (List.forall_mem_cons.mpr ⟨⟨by decide, _, wd_567, by decide⟩, fun _ h => absurd h List.not_mem_nil⟩) (by decide) (by decide) wd_296 cst_S rfl rfl (fun qx => ?_)
      refine x_astore_n 16 3 [(3, .ref qx), (0, .ref p0), (1, .int p1), (2, .ref p2)] dL_restore_15 rfl rfl (by decide) rfl ?_
      refine x_iconst 17 (2 : Int32) dL_restore_16 rfl (by decide) ?_
      refine x_anyn ?_
      cases hF
      exact x_iret rfl rfl (by decide) (by decide) dL_restore_17
    cases hF
