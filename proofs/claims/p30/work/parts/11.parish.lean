def rmX2_makeNew : Room := { frames := 1, cells := 0, slots := 0, locals := 23 }
theorem qyX2_makeNew : qY yX2_makeNew cX2_makeNew 1 (none) 0 := ⟨wd_50, wd_18, by decide +kernel, by decide +kernel, by decide +kernel⟩
theorem kX2_makeNew {b : Nat} {σ : qH} {o : qH} (h : FX2_makeNew b σ = some o) : ∃ fs : List Value, True ∧ σ b = some (.inr (2, fs)) := by
  unfold FX2_makeNew at h
  obtain ⟨_, h1, _⟩ := b1_inv h
  obtain ⟨fs, h2⟩ := gC_inv h1
  exact ⟨fs, trivial, h2⟩
set_option maxHeartbeats 4000000 in
set_option maxRecDepth 100000 in
theorem mX2_makeNew {l : Launch} {G : qG} (hst : l.stackTraces = false) (b : Nat) (σ : qH) (n : Option Nat) (so : qH) (hF : FX2_makeNew b σ = some so) : qM l G yX2_makeNew cX2_makeNew 1 (none) rmX2_makeNew [.ref b] σ n (.inl (none, so, n)) := by
  refine q_body (own := RX2) (nm := "makeNew") (ls := [(0, .ref b)]) hst (by decide +kernel) rfl rfl (Nat.le_of_ble_eq_true rfl) rfl rfl rfl ?_
  unfold FX2_makeNew at hF
  obtain ⟨_, hC, hF⟩ := b1_inv hF
  refine x_aload_n 1 0 dX2_makeNew_0 rfl rfl ?_
  obtain ⟨r1, h2, hF⟩ := b1_inv hF
  refine x_getR 4 0 inX2 rfl (by decide) wd_54 h2 dX2_makeNew_1 rfl ?_
  refine x_iconst 5 (0 : Int32) dX2_makeNew_4 rfl (by decide) ?_
  obtain ⟨s4, h3, hF⟩ := b1_inv hF
  refine x_callS (As := [.ref r1, .int (0 : Int32)]) (rest := []) 8 0 0 (mJ7_fill_53178 hst r1 (0 : Int32) σ n s4 h3) qyJ7_fill_53178 wd_51 wd_52 rfl rfl (by decide) (Nat.le_of_ble_eq_true rfl) (by decide) dX2_makeNew_5 rfl rfl rfl rfl ?_
  refine x_aload_n 9 0 dX2_makeNew_8 rfl rfl ?_
  obtain ⟨r5, h6, hF⟩ := b1_inv hF
  refine x_getR 12 1 inX2 rfl (by decide) wd_55 h6 dX2_makeNew_9 rfl ?_
  refine x_iconst 13 (5 : Int32) dX2_makeNew_12 rfl (by decide) ?_
  obtain ⟨s8, h7, hF⟩ := b1_inv hF
  refine x_callS (As := [.ref r5, .int (5 : Int32)]) (rest := []) 16 0 0 (mJ7_fill_53178 hst r5 (5 : Int32) s4 n s8 h7) qyJ7_fill_53178 wd_51 wd_52 rfl rfl (by decide) (Nat.le_of_ble_eq_true rfl) (by decide) dX2_makeNew_13 rfl rfl rfl rfl ?_
  refine x_aload_n 17 0 dX2_makeNew_16 rfl rfl ?_
  obtain ⟨r9, h10, hF⟩ := b1_inv hF
  refine x_getR 20 2 inX2 rfl (by decide) wd_56 h10 dX2_makeNew_17 rfl ?_
  refine x_iconst 21 (0 : Int32) dX2_makeNew_20 rfl (by decide) ?_
  obtain ⟨s12, h11, hF⟩ := b1_inv hF
  refine x_callS (As := [.ref r9, .int (0 : Int32)]) (rest := []) 24 0 0 (mJ7_fill_53178 hst r9 (0 : Int32) s8 n s12 h11) qyJ7_fill_53178 wd_51 wd_52 rfl rfl (by decide) (Nat.le_of_ble_eq_true rfl) (by decide) dX2_makeNew_21 rfl rfl rfl rfl ?_
  refine x_aload_n 25 0 dX2_makeNew_24 rfl rfl ?_
  obtain ⟨r13, h14, hF⟩ := b1_inv hF
  refine x_getR 28 3 inX2 rfl (by decide) wd_57 h14 dX2_makeNew_25 rfl ?_
  refine x_iconst 29 (0 : Int32) dX2_makeNew_28 rfl (by decide) ?_
  obtain ⟨s16, h15, hF⟩ := b1_inv hF
  refine x_callS (As := [.ref r13, .int (0 : Int32)]) (rest := []) 32 0 0 (mJ7_fill_53178 hst r13 (0 : Int32) s12 n s16 h15) qyJ7_fill_53178 wd_51 wd_52 rfl rfl (by decide) (Nat.le_of_ble_eq_true rfl) (by decide) dX2_makeNew_29 rfl rfl rfl rfl ?_
  refine x_aload_n 33 0 dX2_makeNew_32 rfl rfl ?_
  obtain ⟨r17, h18, hF⟩ := b1_inv hF
  refine x_getR 36 4 inX2 rfl (by decide) wd_58 h18 dX2_makeNew_33 rfl ?_
  refine x_iconst 37 (-1 : Int32) dX2_makeNew_36 rfl (by decide) ?_
  obtain ⟨s20, h19, hF⟩ := b1_inv hF
  refine x_callS (As := [.ref r17, .int (-1 : Int32)]) (rest := []) 40 0 0 (mJ7_fill_53178 hst r17 (-1 : Int32) s16 n s20 h19) qyJ7_fill_53178 wd_51 wd_52 rfl rfl (by decide) (Nat.le_of_ble_eq_true rfl) (by decide) dX2_makeNew_37 rfl rfl rfl rfl ?_
  refine x_aload_n 41 0 dX2_makeNew_40 rfl rfl ?_
  obtain ⟨r21, h22, hF⟩ := b1_inv hF
  refine x_getR 44 5 inX2 rfl (by decide) wd_59 h22 dX2_makeNew_41 rfl ?_
  refine x_iconst 45 (0 : Int32) dX2_makeNew_44 rfl (by decide) ?_
  refine x_iconst 46 (1 : Int32) dX2_makeNew_45 rfl (by decide) ?_
  obtain ⟨s23, h24, hF⟩ := b1_inv hF
  refine x_sI 47 h24 dX2_makeNew_46 rfl ?_
  refine x_aload_n 48 0 dX2_makeNew_47 rfl rfl ?_
  obtain ⟨r25, h26, hF⟩ := b1_inv hF
  refine x_getR 51 5 inX2 rfl (by decide) wd_59 h26 dX2_makeNew_48 rfl ?_
  refine x_iconst 52 (1 : Int32) dX2_makeNew_51 rfl (by decide) ?_
  refine x_iconst 53 (5 : Int32) dX2_makeNew_52 rfl (by decide) ?_
  obtain ⟨s27, h28, hF⟩ := b1_inv hF
  refine x_sI 54 h28 dX2_makeNew_53 rfl ?_
  refine x_aload_n 55 0 dX2_makeNew_54 rfl rfl ?_
  refine x_iconst 56 (0 : Int32) dX2_makeNew_55 rfl (by decide) ?_
  obtain ⟨s29, h30, hF⟩ := b1_inv hF
  refine x_put 59 6 inX2 tyX2 tyX2_ok nmX2 rfl (by decide) wd_60 rfl (tX2_6) rfl rfl h30 dX2_makeNew_56 rfl ?_
  refine x_aload_n 60 0 dX2_makeNew_59 rfl rfl ?_
  refine x_iconst 61 (0 : Int32) dX2_makeNew_60 rfl (by decide) ?_
  obtain ⟨s31, h32, hF⟩ := b1_inv hF
  refine x_put 64 7 inX2 tyX2 tyX2_ok nmX2 rfl (by decide) wd_61 rfl (tX2_7) rfl rfl h32 dX2_makeNew_61 rfl ?_
  refine x_aload_n 65 0 dX2_makeNew_64 rfl rfl ?_
  refine x_iconst 66 (0 : Int32) dX2_makeNew_65 rfl (by decide) ?_
  obtain ⟨s33, h34, hF⟩ := b1_inv hF
  refine x_put 69 8 inX2 tyX2 tyX2_ok nmX2 rfl (by decide) wd_62 rfl (tX2_8) rfl rfl h34 dX2_makeNew_66 rfl ?_
  refine x_aload_n 70 0 dX2_makeNew_69 rfl rfl ?_
  refine x_iconst 71 (0 : Int32) dX2_makeNew_70 rfl (by decide) ?_
  obtain ⟨s35, h36, hF⟩ := b1_inv hF
  refine x_put 74 9 inX2 tyX2 tyX2_ok nmX2 rfl (by decide) wd_63 rfl (tX2_9) rfl rfl h36 dX2_makeNew_71 rfl ?_
  refine x_aload_n 75 0 dX2_makeNew_74 rfl rfl ?_
  refine x_iconst 76 (0 : Int32) dX2_makeNew_75 rfl (by decide) ?_
  obtain ⟨s37, h38, hF⟩ := b1_inv hF
  refine x_put 79 10 inX2 tyX2 tyX2_ok nmX2 rfl (by decide) wd_64 rfl (tX2_10) rfl rfl h38 dX2_makeNew_76 rfl ?_
  cases hF
  exact x_vret rfl rfl (by decide) (by decide) dX2_makeNew_79
def rmX2_isSteeple : Room := { frames := 0, cells := 0, slots := 0, locals := 0 }
theorem qyX2_isSteeple : qY yX2_isSteeple cX2_isSteeple 1 (some .boolean) 1 := ⟨wd_363, wd_18, by decide +kernel, by decide +kernel, by decide +kernel⟩
set_option maxHeartbeats 4000000 in
set_option maxRecDepth 100000 in
theorem mX2_isSteeple {l : Launch} {G : qG} (hst : l.stackTraces = false) (p0 : Int32) (σ : qH) (n : Option Nat) (ro : Int32) (hF : FX2_isSteeple p0 σ = some ro) : qM l G yX2_isSteeple cX2_isSteeple 1 (some .boolean) rmX2_isSteeple [.int p0] σ n (.inl (some (.int ro), σ, n)) := by
  refine q_body (own := RX2) (nm := "isSteeple") (ls := [(0, .int p0)]) hst (by decide +kernel) rfl rfl (Nat.le_of_ble_eq_true rfl) rfl rfl rfl ?_
  unfold FX2_isSteeple at hF
  refine x_iconst 1 (0 : Int32) dX2_isSteeple_0 rfl (by decide) ?_
  refine x_iload_n 2 0 dX2_isSteeple_1 rfl rfl ?_
  obtain ⟨x1, h2, hF⟩ := b1_inv hF
  have hJ : qX l G RX2 "isSteeple" cX2_isSteeple 1 (some .boolean) [] rmX2_isSteeple 0 0 (.inl (some (.int ro), σ, n)) 0 0 σ n 15 [] [.int x1] := by
    obtain ⟨hz, hF⟩ := ite_none hF
    cases hF
    exact x_zret rfl (by rcases hz with h | h <;> rw [h] <;> rfl) rfl (by decide) (by decide) dX2_isSteeple_15
  have hF := h2
  rcases ite_inv hF with ⟨hc, hF⟩ | ⟨hc, hF⟩
  · refine x_icmp_gt 14 5 dX2_isSteeple_2 (by decide) rfl (fun _ => ?_) (fun q => absurd hc q)
    refine x_iconst 15 (0 : Int32) dX2_isSteeple_14 rfl (by decide) ?_
    have e1 := Option.some.inj hF
    subst e1
    refine x_sub [] [] rfl ?_
    exact hJ
  · refine x_icmp_gt 14 5 dX2_isSteeple_2 (by decide) rfl (fun q => absurd q hc) (fun _ => ?_)
    refine x_iload_n 6 0 dX2_isSteeple_5 rfl rfl ?_
    refine x_iconst 7 (3 : Int32) dX2_isSteeple_6 rfl (by decide) ?_
    rcases ite_inv hF with ⟨hc, hF⟩ | ⟨hc, hF⟩
    · refine x_icmp_ge 14 10 dX2_isSteeple_7 (by decide) rfl (fun _ => ?_) (fun q => absurd hc q)
      refine x_iconst 15 (0 : Int32) dX2_isSteeple_14 rfl (by decide) ?_
      have e1 := Option.some.inj hF
      subst e1
      refine x_sub [] [] rfl ?_
      exact hJ
    · refine x_icmp_ge 14 10 dX2_isSteeple_7 (by decide) rfl (fun q => absurd q hc) (fun _ => ?_)
      refine x_iconst 11 (1 : Int32) dX2_isSteeple_10 rfl (by decide) ?_
      refine x_goto 15 dX2_isSteeple_11 (by decide) ?_
      have e1 := Option.some.inj hF
      subst e1
      refine x_sub [] [] rfl ?_
      exact hJ
def rmX2_isTeller : Room := { frames := 0, cells := 0, slots := 0, locals := 0 }
theorem qyX2_isTeller : qY yX2_isTeller cX2_isTeller 1 (some .boolean) 1 := ⟨wd_366, wd_18, by decide +kernel, by decide +kernel, by decide +kernel⟩
set_option maxHeartbeats 4000000 in
set_option maxRecDepth 100000 in
theorem mX2_isTeller {l : Launch} {G : qG} (hst : l.stackTraces = false) (p0 : Int32) (σ : qH) (n : Option Nat) (ro : Int32) (hF : FX2_isTeller p0 σ = some ro) : qM l G yX2_isTeller cX2_isTeller 1 (some .boolean) rmX2_isTeller [.int p0] σ n (.inl (some (.int ro), σ, n)) := by
  refine q_body (own := RX2) (nm := "isTeller") (ls := [(0, .int p0)]) hst (by decide +kernel) rfl rfl (Nat.le_of_ble_eq_true rfl) rfl rfl rfl ?_
  unfold FX2_isTeller at hF
  refine x_iconst 1 (0 : Int32) dX2_isTeller_0 rfl (by decide) ?_
  refine x_iload_n 2 0 dX2_isTeller_1 rfl rfl ?_
  obtain ⟨x1, h2, hF⟩ := b1_inv hF
  have hJ : qX l G RX2 "isTeller" cX2_isTeller 1 (some .boolean) [] rmX2_isTeller 0 0 (.inl (some (.int ro), σ, n)) 0 0 σ n 16 [] [.int x1] := by
    obtain ⟨hz, hF⟩ := ite_none hF
    cases hF
    exact x_zret rfl (by rcases hz with h | h <;> rw [h] <;> rfl) rfl (by decide) (by decide) dX2_isTeller_16
  have hF := h2
  rcases ite_inv hF with ⟨hc, hF⟩ | ⟨hc, hF⟩
  · refine x_icmp_gt 15 5 dX2_isTeller_2 (by decide) rfl (fun _ => ?_) (fun q => absurd hc q)
    refine x_iconst 16 (0 : Int32) dX2_isTeller_15 rfl (by decide) ?_
    have e1 := Option.some.inj hF
    subst e1
    refine x_sub [] [] rfl ?_
    exact hJ
  · refine x_icmp_gt 15 5 dX2_isTeller_2 (by decide) rfl (fun q => absurd q hc) (fun _ => ?_)
    refine x_iload_n 6 0 dX2_isTeller_5 rfl rfl ?_
    refine x_bipush 8 (6 : Int32) dX2_isTeller_6 rfl (by decide) ?_
    rcases ite_inv hF with ⟨hc, hF⟩ | ⟨hc, hF⟩
    · refine x_icmp_ge 15 11 dX2_isTeller_8 (by decide) rfl (fun _ => ?_) (fun q => absurd hc q)
      refine x_iconst 16 (0 : Int32) dX2_isTeller_15 rfl (by decide) ?_
      have e1 := Option.some.inj hF
      subst e1
      refine x_sub [] [] rfl ?_
      exact hJ
    · refine x_icmp_ge 15 11 dX2_isTeller_8 (by decide) rfl (fun q => absurd q hc) (fun _ => ?_)
      refine x_iconst 12 (1 : Int32) dX2_isTeller_11 rfl (by decide) ?_
      refine x_goto 16 dX2_isTeller_12 (by decide) ?_
      have e1 := Option.some.inj hF
      subst e1
      refine x_sub [] [] rfl ?_
      exact hJ
def rmX2_fitsFarSide : Room := { frames := 0, cells := 0, slots := 0, locals := 0 }
theorem qyX2_fitsFarSide : qY yX2_fitsFarSide cX2_fitsFarSide 2 (some .boolean) 2 := ⟨wd_372, wd_18, by decide +kernel, by decide +kernel, by decide +kernel⟩
set_option maxHeartbeats 4000000 in
set_option maxRecDepth 100000 in
theorem mX2_fitsFarSide {l : Launch} {G : qG} (hst : l.stackTraces = false) (p0 : Int32) (p1 : Int32) (σ : qH) (n : Option Nat) (ro : Int32) (hF : FX2_fitsFarSide p0 p1 σ = some ro) : qM l G yX2_fitsFarSide cX2_fitsFarSide 2 (some .boolean) rmX2_fitsFarSide [.int p0, .int p1] σ n (.inl (some (.int ro), σ, n)) := by
  refine q_body (own := RX2) (nm := "fitsFarSide") (ls := [(0, .int p0), (1, .int p1)]) hst (by decide +kernel) rfl rfl (Nat.le_of_ble_eq_true rfl) rfl rfl rfl ?_
  unfold FX2_fitsFarSide at hF
  refine x_iconst 1 (1 : Int32) dX2_fitsFarSide_0 rfl (by decide) ?_
  refine x_iload_n 2 0 dX2_fitsFarSide_1 rfl rfl ?_
  obtain ⟨x1, h2, hF⟩ := b1_inv hF
  have hJ : qX l G RX2 "fitsFarSide" cX2_fitsFarSide 2 (some .boolean) [] rmX2_fitsFarSide 0 0 (.inl (some (.int ro), σ, n)) 0 0 σ n 28 [] [.int x1] := by
    obtain ⟨hz, hF⟩ := ite_none hF
    cases hF
    exact x_zret rfl (by rcases hz with h | h <;> rw [h] <;> rfl) rfl (by decide) (by decide) dX2_fitsFarSide_28
  have hF := h2
  rcases ite_inv hF with ⟨hc, hF⟩ | ⟨hc, hF⟩
  · refine x_icmp_gt 27 5 dX2_fitsFarSide_2 (by decide) rfl (fun _ => ?_) (fun q => absurd hc q)
    refine x_iconst 28 (0 : Int32) dX2_fitsFarSide_27 rfl (by decide) ?_
    have e1 := Option.some.inj hF
    subst e1
    refine x_sub [] [] rfl ?_
    exact hJ
  · refine x_icmp_gt 27 5 dX2_fitsFarSide_2 (by decide) rfl (fun q => absurd q hc) (fun _ => ?_)
    refine x_iload_n 6 0 dX2_fitsFarSide_5 rfl rfl ?_
    refine x_sipush 9 (400 : Int32) dX2_fitsFarSide_6 rfl (by decide) ?_
    rcases ite_inv hF with ⟨hc, hF⟩ | ⟨hc, hF⟩
    · refine x_icmp_gt 27 12 dX2_fitsFarSide_9 (by decide) rfl (fun _ => ?_) (fun q => absurd hc q)
      refine x_iconst 28 (0 : Int32) dX2_fitsFarSide_27 rfl (by decide) ?_
      have e1 := Option.some.inj hF
      subst e1
      refine x_sub [] [] rfl ?_
      exact hJ
    · refine x_icmp_gt 27 12 dX2_fitsFarSide_9 (by decide) rfl (fun q => absurd q hc) (fun _ => ?_)
      refine x_iconst 13 (0 : Int32) dX2_fitsFarSide_12 rfl (by decide) ?_
      refine x_iload_n 14 1 dX2_fitsFarSide_13 rfl rfl ?_
      rcases ite_inv hF with ⟨hc, hF⟩ | ⟨hc, hF⟩
      · refine x_icmp_gt 27 17 dX2_fitsFarSide_14 (by decide) rfl (fun _ => ?_) (fun q => absurd hc q)
        refine x_iconst 28 (0 : Int32) dX2_fitsFarSide_27 rfl (by decide) ?_
        have e1 := Option.some.inj hF
        subst e1
        refine x_sub [] [] rfl ?_
        exact hJ
      · refine x_icmp_gt 27 17 dX2_fitsFarSide_14 (by decide) rfl (fun q => absurd q hc) (fun _ => ?_)
        refine x_iload_n 18 1 dX2_fitsFarSide_17 rfl rfl ?_
        refine x_bipush 20 (20 : Int32) dX2_fitsFarSide_18 rfl (by decide) ?_
        rcases ite_inv hF with ⟨hc, hF⟩ | ⟨hc, hF⟩
        · refine x_icmp_gt 27 23 dX2_fitsFarSide_20 (by decide) rfl (fun _ => ?_) (fun q => absurd hc q)
          refine x_iconst 28 (0 : Int32) dX2_fitsFarSide_27 rfl (by decide) ?_
          have e1 := Option.some.inj hF
          subst e1
          refine x_sub [] [] rfl ?_
          exact hJ
        · refine x_icmp_gt 27 23 dX2_fitsFarSide_20 (by decide) rfl (fun q => absurd q hc) (fun _ => ?_)
          refine x_iconst 24 (1 : Int32) dX2_fitsFarSide_23 rfl (by decide) ?_
          refine x_goto 28 dX2_fitsFarSide_24 (by decide) ?_
          have e1 := Option.some.inj hF
          subst e1
          refine x_sub [] [] rfl ?_
          exact hJ
def rmX2_isHeight : Room := { frames := 0, cells := 0, slots := 0, locals := 0 }
theorem qyX2_isHeight : qY yX2_isHeight cX2_isHeight 1 (some .boolean) 1 := ⟨wd_375, wd_18, by decide +kernel, by decide +kernel, by decide +kernel⟩
set_option maxHeartbeats 4000000 in
set_option maxRecDepth 100000 in
theorem mX2_isHeight {l : Launch} {G : qG} (hst : l.stackTraces = false) (p0 : Int32) (σ : qH) (n : Option Nat) (ro : Int32) (hF : FX2_isHeight p0 σ = some ro) : qM l G yX2_isHeight cX2_isHeight 1 (some .boolean) rmX2_isHeight [.int p0] σ n (.inl (some (.int ro), σ, n)) := by
  refine q_body (own := RX2) (nm := "isHeight") (ls := [(0, .int p0)]) hst (by decide +kernel) rfl rfl (Nat.le_of_ble_eq_true rfl) rfl rfl rfl ?_
  unfold FX2_isHeight at hF
  refine x_iconst 1 (1 : Int32) dX2_isHeight_0 rfl (by decide) ?_
  refine x_iload_n 2 0 dX2_isHeight_1 rfl rfl ?_
  obtain ⟨x1, h2, hF⟩ := b1_inv hF
  have hJ : qX l G RX2 "isHeight" cX2_isHeight 1 (some .boolean) [] rmX2_isHeight 0 0 (.inl (some (.int ro), σ, n)) 0 0 σ n 17 [] [.int x1] := by
    obtain ⟨hz, hF⟩ := ite_none hF
    cases hF
    exact x_zret rfl (by rcases hz with h | h <;> rw [h] <;> rfl) rfl (by decide) (by decide) dX2_isHeight_17
  have hF := h2
  rcases ite_inv hF with ⟨hc, hF⟩ | ⟨hc, hF⟩
  · refine x_icmp_gt 16 5 dX2_isHeight_2 (by decide) rfl (fun _ => ?_) (fun q => absurd hc q)
    refine x_iconst 17 (0 : Int32) dX2_isHeight_16 rfl (by decide) ?_
    have e1 := Option.some.inj hF
    subst e1
    refine x_sub [] [] rfl ?_
    exact hJ
  · refine x_icmp_gt 16 5 dX2_isHeight_2 (by decide) rfl (fun q => absurd q hc) (fun _ => ?_)
    refine x_iload_n 6 0 dX2_isHeight_5 rfl rfl ?_
    refine x_sipush 9 (999 : Int32) dX2_isHeight_6 rfl (by decide) ?_
    rcases ite_inv hF with ⟨hc, hF⟩ | ⟨hc, hF⟩
    · refine x_icmp_gt 16 12 dX2_isHeight_9 (by decide) rfl (fun _ => ?_) (fun q => absurd hc q)
      refine x_iconst 17 (0 : Int32) dX2_isHeight_16 rfl (by decide) ?_
      have e1 := Option.some.inj hF
      subst e1
      refine x_sub [] [] rfl ?_
      exact hJ
    · refine x_icmp_gt 16 12 dX2_isHeight_9 (by decide) rfl (fun q => absurd q hc) (fun _ => ?_)
      refine x_iconst 13 (1 : Int32) dX2_isHeight_12 rfl (by decide) ?_
      refine x_goto 17 dX2_isHeight_13 (by decide) ?_
      have e1 := Option.some.inj hF
      subst e1
      refine x_sub [] [] rfl ?_
      exact hJ
def rmX2_fits : Room := { frames := 1, cells := 0, slots := 0, locals := 21 }
theorem qyX2_fits : qY yX2_fits cX2_fits 5 (some .boolean) 5 := ⟨wd_369, wd_18, by decide +kernel, by decide +kernel, by decide +kernel⟩
set_option maxHeartbeats 4000000 in
set_option maxRecDepth 100000 in
theorem mX2_fits {l : Launch} {G : qG} (hst : l.stackTraces = false) (p0 : Int32) (p1 : Int32) (p2 : Int32) (p3 : Int32) (p4 : Int32) (σ : qH) (n : Option Nat) (ro : Int32) (hF : FX2_fits p0 p1 p2 p3 p4 σ = some ro) : qM l G yX2_fits cX2_fits 5 (some .boolean) rmX2_fits [.int p0, .int p1, .int p2, .int p3, .int p4] σ n (.inl (some (.int ro), σ, n)) := by
  refine q_body (own := RX2) (nm := "fits") (ls := [(0, .int p0), (1, .int p1), (2, .int p2), (3, .int p3), (4, .int p4)]) hst (by decide +kernel) rfl rfl (Nat.le_of_ble_eq_true rfl) rfl rfl rfl ?_
  unfold FX2_fits at hF
  refine x_iload_n 1 0 dX2_fits_0 rfl rfl ?_
  rcases ite_inv hF with ⟨h5, hF⟩ | ⟨h5, hF⟩
  · have hK : qX l G RX2 "fits" cX2_fits 5 (some .boolean) [] rmX2_fits 0 0 (.inl (some (.int ro), σ, n)) 0 0 σ n 28 [(0, .int p0), (1, .int p1), (2, .int p2), (3, .int p3), (4, .int p4)] [] := by
      refine x_iconst 29 (1 : Int32) dX2_fits_28 rfl (by decide) ?_
      refine x_iload_n 30 1 dX2_fits_29 rfl rfl ?_
      obtain ⟨x1, h4, hF⟩ := b1_inv hF
      have hJ : qX l G RX2 "fits" cX2_fits 5 (some .boolean) [] rmX2_fits 0 0 (.inl (some (.int ro), σ, n)) 0 0 σ n 64 [] [.int x1] := by
        obtain ⟨hz, hF⟩ := ite_none hF
        cases hF
        exact x_zret rfl (by rcases hz with h | h <;> rw [h] <;> rfl) rfl (by decide) (by decide) dX2_fits_64
      have hF := h4
      rcases ite_inv hF with ⟨hc, hF⟩ | ⟨hc, hF⟩
      · refine x_icmp_gt 63 33 dX2_fits_30 (by decide) rfl (fun _ => ?_) (fun q => absurd hc q)
        refine x_iconst 64 (0 : Int32) dX2_fits_63 rfl (by decide) ?_
        have e1 := Option.some.inj hF
        subst e1
        refine x_sub [] [] rfl ?_
        exact hJ
      · refine x_icmp_gt 63 33 dX2_fits_30 (by decide) rfl (fun q => absurd q hc) (fun _ => ?_)
        refine x_iload_n 34 1 dX2_fits_33 rfl rfl ?_
        refine x_bipush 36 (20 : Int32) dX2_fits_34 rfl (by decide) ?_
        rcases ite_inv hF with ⟨hc, hF⟩ | ⟨hc, hF⟩
        · refine x_icmp_gt 63 39 dX2_fits_36 (by decide) rfl (fun _ => ?_) (fun q => absurd hc q)
          refine x_iconst 64 (0 : Int32) dX2_fits_63 rfl (by decide) ?_
          have e1 := Option.some.inj hF
          subst e1
          refine x_sub [] [] rfl ?_
          exact hJ
        · refine x_icmp_gt 63 39 dX2_fits_36 (by decide) rfl (fun q => absurd q hc) (fun _ => ?_)
          refine x_iconst 40 (1 : Int32) dX2_fits_39 rfl (by decide) ?_
          refine x_iload_n 41 2 dX2_fits_40 rfl rfl ?_
          rcases ite_inv hF with ⟨hc, hF⟩ | ⟨hc, hF⟩
          · refine x_icmp_gt 63 44 dX2_fits_41 (by decide) rfl (fun _ => ?_) (fun q => absurd hc q)
            refine x_iconst 64 (0 : Int32) dX2_fits_63 rfl (by decide) ?_
            have e1 := Option.some.inj hF
            subst e1
            refine x_sub [] [] rfl ?_
            exact hJ
          · refine x_icmp_gt 63 44 dX2_fits_41 (by decide) rfl (fun q => absurd q hc) (fun _ => ?_)
            refine x_iload_n 45 2 dX2_fits_44 rfl rfl ?_
            refine x_bipush 47 (40 : Int32) dX2_fits_45 rfl (by decide) ?_
            rcases ite_inv hF with ⟨hc, hF⟩ | ⟨hc, hF⟩
            · refine x_icmp_gt 63 50 dX2_fits_47 (by decide) rfl (fun _ => ?_) (fun q => absurd hc q)
              refine x_iconst 64 (0 : Int32) dX2_fits_63 rfl (by decide) ?_
              have e1 := Option.some.inj hF
              subst e1
              refine x_sub [] [] rfl ?_
              exact hJ
            · refine x_icmp_gt 63 50 dX2_fits_47 (by decide) rfl (fun q => absurd q hc) (fun _ => ?_)
              refine x_iload_n 51 3 dX2_fits_50 rfl rfl ?_
              refine x_iload 53 4 dX2_fits_51 rfl rfl ?_
              obtain ⟨v3, h2, hF⟩ := b1_inv hF
              refine x_callS (As := [.int p3, .int p4]) (rest := []) 56 0 0 (mX2_fitsFarSide hst p3 p4 σ n v3 h2) qyX2_fitsFarSide wd_370 wd_371 rfl rfl (by decide) (Nat.le_of_ble_eq_true rfl) (by decide) dX2_fits_53 rfl rfl rfl rfl ?_
              rcases ite_inv hF with ⟨hc, hF⟩ | ⟨hc, hF⟩
              · refine x_if_eq 63 59 dX2_fits_56 (by decide) rfl (fun _ => ?_) (fun q => absurd hc q)
                refine x_iconst 64 (0 : Int32) dX2_fits_63 rfl (by decide) ?_
                have e1 := Option.some.inj hF
                subst e1
                refine x_sub [] [] rfl ?_
                exact hJ
              · refine x_if_eq 63 59 dX2_fits_56 (by decide) rfl (fun q => absurd q hc) (fun _ => ?_)
                refine x_iconst 60 (1 : Int32) dX2_fits_59 rfl (by decide) ?_
                refine x_goto 64 dX2_fits_60 (by decide) ?_
                have e1 := Option.some.inj hF
                subst e1
                refine x_sub [] [] rfl ?_
                exact hJ
    · exact x_tableIn (27) 28 dX2_fits_1 (by rw [h5]; decide) (by rw [h5]; decide) (by rw [h5]; decide) (by decide) hK
  rcases ite_inv hF with ⟨h10, hF⟩ | ⟨h10, hF⟩
  · have hK : qX l G RX2 "fits" cX2_fits 5 (some .boolean) [] rmX2_fits 0 0 (.inl (some (.int ro), σ, n)) 0 0 σ n 65 [(0, .int p0), (1, .int p1), (2, .int p2), (3, .int p3), (4, .int p4)] [] := by
      refine x_iconst 66 (1 : Int32) dX2_fits_65 rfl (by decide) ?_
      refine x_iload_n 67 1 dX2_fits_66 rfl rfl ?_
      obtain ⟨x6, h9, hF⟩ := b1_inv hF
      have hJ : qX l G RX2 "fits" cX2_fits 5 (some .boolean) [] rmX2_fits 0 0 (.inl (some (.int ro), σ, n)) 0 0 σ n 101 [] [.int x6] := by
        obtain ⟨hz, hF⟩ := ite_none hF
        cases hF
        exact x_zret rfl (by rcases hz with h | h <;> rw [h] <;> rfl) rfl (by decide) (by decide) dX2_fits_101
      have hF := h9
      rcases ite_inv hF with ⟨hc, hF⟩ | ⟨hc, hF⟩
      · refine x_icmp_gt 100 70 dX2_fits_67 (by decide) rfl (fun _ => ?_) (fun q => absurd hc q)
        refine x_iconst 101 (0 : Int32) dX2_fits_100 rfl (by decide) ?_
        have e1 := Option.some.inj hF
        subst e1
        refine x_sub [] [] rfl ?_
        exact hJ
      · refine x_icmp_gt 100 70 dX2_fits_67 (by decide) rfl (fun q => absurd q hc) (fun _ => ?_)
        refine x_iload_n 71 1 dX2_fits_70 rfl rfl ?_
        refine x_bipush 73 (9 : Int32) dX2_fits_71 rfl (by decide) ?_
        rcases ite_inv hF with ⟨hc, hF⟩ | ⟨hc, hF⟩
        · refine x_icmp_gt 100 76 dX2_fits_73 (by decide) rfl (fun _ => ?_) (fun q => absurd hc q)
          refine x_iconst 101 (0 : Int32) dX2_fits_100 rfl (by decide) ?_
          have e1 := Option.some.inj hF
          subst e1
          refine x_sub [] [] rfl ?_
          exact hJ
        · refine x_icmp_gt 100 76 dX2_fits_73 (by decide) rfl (fun q => absurd q hc) (fun _ => ?_)
          refine x_iconst 77 (1 : Int32) dX2_fits_76 rfl (by decide) ?_
          refine x_iload_n 78 2 dX2_fits_77 rfl rfl ?_
          rcases ite_inv hF with ⟨hc, hF⟩ | ⟨hc, hF⟩
          · refine x_icmp_gt 100 81 dX2_fits_78 (by decide) rfl (fun _ => ?_) (fun q => absurd hc q)
            refine x_iconst 101 (0 : Int32) dX2_fits_100 rfl (by decide) ?_
            have e1 := Option.some.inj hF
            subst e1
            refine x_sub [] [] rfl ?_
            exact hJ
          · refine x_icmp_gt 100 81 dX2_fits_78 (by decide) rfl (fun q => absurd q hc) (fun _ => ?_)
            refine x_iload_n 82 2 dX2_fits_81 rfl rfl ?_
            refine x_bipush 84 (60 : Int32) dX2_fits_82 rfl (by decide) ?_
            rcases ite_inv hF with ⟨hc, hF⟩ | ⟨hc, hF⟩
            · refine x_icmp_gt 100 87 dX2_fits_84 (by decide) rfl (fun _ => ?_) (fun q => absurd hc q)
              refine x_iconst 101 (0 : Int32) dX2_fits_100 rfl (by decide) ?_
              have e1 := Option.some.inj hF
              subst e1
              refine x_sub [] [] rfl ?_
              exact hJ
            · refine x_icmp_gt 100 87 dX2_fits_84 (by decide) rfl (fun q => absurd q hc) (fun _ => ?_)
              refine x_iload_n 88 3 dX2_fits_87 rfl rfl ?_
              refine x_iload 90 4 dX2_fits_88 rfl rfl ?_
              obtain ⟨v8, h7, hF⟩ := b1_inv hF
              refine x_callS (As := [.int p3, .int p4]) (rest := []) 93 0 0 (mX2_fitsFarSide hst p3 p4 σ n v8 h7) qyX2_fitsFarSide wd_370 wd_371 rfl rfl (by decide) (Nat.le_of_ble_eq_true rfl) (by decide) dX2_fits_90 rfl rfl rfl rfl ?_
              rcases ite_inv hF with ⟨hc, hF⟩ | ⟨hc, hF⟩
              · refine x_if_eq 100 96 dX2_fits_93 (by decide) rfl (fun _ => ?_) (fun q => absurd hc q)
                refine x_iconst 101 (0 : Int32) dX2_fits_100 rfl (by decide) ?_
                have e1 := Option.some.inj hF
                subst e1
                refine x_sub [] [] rfl ?_
                exact hJ
              · refine x_if_eq 100 96 dX2_fits_93 (by decide) rfl (fun q => absurd q hc) (fun _ => ?_)
                refine x_iconst 97 (1 : Int32) dX2_fits_96 rfl (by decide) ?_
                refine x_goto 101 dX2_fits_97 (by decide) ?_
                have e1 := Option.some.inj hF
                subst e1
                refine x_sub [] [] rfl ?_
                exact hJ
    · exact x_tableIn (64) 65 dX2_fits_1 (by rw [h10]; decide) (by rw [h10]; decide) (by rw [h10]; decide) (by decide) hK
  rcases ite_inv hF with ⟨h17, hF⟩ | ⟨h17, hF⟩
  · have hK : qX l G RX2 "fits" cX2_fits 5 (some .boolean) [] rmX2_fits 0 0 (.inl (some (.int ro), σ, n)) 0 0 σ n 102 [(0, .int p0), (1, .int p1), (2, .int p2), (3, .int p3), (4, .int p4)] [] := by
      refine x_iload_n 103 1 dX2_fits_102 rfl rfl ?_
      obtain ⟨v12, h11, hF⟩ := b1_inv hF
      refine x_callS (As := [.int p1]) (rest := []) 106 0 0 (mX2_isHeight hst p1 σ n v12 h11) qyX2_isHeight wd_373 wd_374 rfl rfl (by decide) (Nat.le_of_ble_eq_true rfl) (by decide) dX2_fits_103 rfl rfl rfl rfl ?_
      obtain ⟨x13, h16, hF⟩ := b1_inv hF
      have hJ : qX l G RX2 "fits" cX2_fits 5 (some .boolean) [] rmX2_fits 0 0 (.inl (some (.int ro), σ, n)) 0 0 σ n 135 [] [.int x13] := by
        obtain ⟨hz, hF⟩ := ite_none hF
        cases hF
        exact x_zret rfl (by rcases hz with h | h <;> rw [h] <;> rfl) rfl (by decide) (by decide) dX2_fits_135
      have hF := h16
      rcases ite_inv hF with ⟨hc, hF⟩ | ⟨hc, hF⟩
      · refine x_if_eq 134 109 dX2_fits_106 (by decide) rfl (fun _ => ?_) (fun q => absurd hc q)
        refine x_iconst 135 (0 : Int32) dX2_fits_134 rfl (by decide) ?_
        have e1 := Option.some.inj hF
        subst e1
        refine x_sub [] [] rfl ?_
        exact hJ
      · refine x_if_eq 134 109 dX2_fits_106 (by decide) rfl (fun q => absurd q hc) (fun _ => ?_)
        refine x_iload_n 110 2 dX2_fits_109 rfl rfl ?_
        obtain ⟨v15, h14, hF⟩ := b1_inv hF
        refine x_callS (As := [.int p2]) (rest := []) 113 0 0 (mX2_isHeight hst p2 σ n v15 h14) qyX2_isHeight wd_373 wd_374 rfl rfl (by decide) (Nat.le_of_ble_eq_true rfl) (by decide) dX2_fits_110 rfl rfl rfl rfl ?_
        rcases ite_inv hF with ⟨hc, hF⟩ | ⟨hc, hF⟩
        · refine x_if_eq 134 116 dX2_fits_113 (by decide) rfl (fun _ => ?_) (fun q => absurd hc q)
          refine x_iconst 135 (0 : Int32) dX2_fits_134 rfl (by decide) ?_
          have e1 := Option.some.inj hF
          subst e1
          refine x_sub [] [] rfl ?_
          exact hJ
        · refine x_if_eq 134 116 dX2_fits_113 (by decide) rfl (fun q => absurd q hc) (fun _ => ?_)
          refine x_iload_n 117 1 dX2_fits_116 rfl rfl ?_
          refine x_iload_n 118 2 dX2_fits_117 rfl rfl ?_
          rcases ite_inv hF with ⟨hc, hF⟩ | ⟨hc, hF⟩
          · refine x_icmp_gt 134 121 dX2_fits_118 (by decide) rfl (fun _ => ?_) (fun q => absurd hc q)
            refine x_iconst 135 (0 : Int32) dX2_fits_134 rfl (by decide) ?_
            have e1 := Option.some.inj hF
            subst e1
            refine x_sub [] [] rfl ?_
            exact hJ
          · refine x_icmp_gt 134 121 dX2_fits_118 (by decide) rfl (fun q => absurd q hc) (fun _ => ?_)
            refine x_iload_n 122 3 dX2_fits_121 rfl rfl ?_
            rcases ite_inv hF with ⟨hc, hF⟩ | ⟨hc, hF⟩
            · refine x_if_ne 134 125 dX2_fits_122 (by decide) rfl (fun q => absurd hc q) (fun _ => ?_)
              refine x_iload 127 4 dX2_fits_125 rfl rfl ?_
              rcases ite_inv hF with ⟨hc, hF⟩ | ⟨hc, hF⟩
              · refine x_if_ne 134 130 dX2_fits_127 (by decide) rfl (fun q => absurd hc q) (fun _ => ?_)
                refine x_iconst 131 (1 : Int32) dX2_fits_130 rfl (by decide) ?_
                refine x_goto 135 dX2_fits_131 (by decide) ?_
                have e1 := Option.some.inj hF
                subst e1
                refine x_sub [] [] rfl ?_
                exact hJ
              · refine x_if_ne 134 130 dX2_fits_127 (by decide) rfl (fun _ => ?_) (fun q => absurd q hc)
                refine x_iconst 135 (0 : Int32) dX2_fits_134 rfl (by decide) ?_
                have e1 := Option.some.inj hF
                subst e1
                refine x_sub [] [] rfl ?_
                exact hJ
            · refine x_if_ne 134 125 dX2_fits_122 (by decide) rfl (fun _ => ?_) (fun q => absurd q hc)
              refine x_iconst 135 (0 : Int32) dX2_fits_134 rfl (by decide) ?_
              have e1 := Option.some.inj hF
              subst e1
              refine x_sub [] [] rfl ?_
              exact hJ
    · exact x_tableIn (101) 102 dX2_fits_1 (by rw [h17]; decide) (by rw [h17]; decide) (by rw [h17]; decide) (by decide) hK
  have hK : qX l G RX2 "fits" cX2_fits 5 (some .boolean) [] rmX2_fits 0 0 (.inl (some (.int ro), σ, n)) 0 0 σ n 136 [(0, .int p0), (1, .int p1), (2, .int p2), (3, .int p3), (4, .int p4)] [] := by
    refine x_iconst 137 (0 : Int32) dX2_fits_136 rfl (by decide) ?_
    cases hF
    exact x_zret rfl rfl rfl (by decide) (by decide) dX2_fits_137
  have h5z := i32_ne (z := 0) h5 (by decide)
  have h10z := i32_ne (z := 1) h10 (by decide)
  have h17z := i32_ne (z := 2) h17 (by decide)
  exact x_tableOut 136 dX2_fits_1 (by omega) (by decide) hK
def rmX2_isFull : Room := { frames := 0, cells := 0, slots := 0, locals := 0 }
theorem qyX2_isFull : qY yX2_isFull cX2_isFull 1 (some .boolean) 0 := ⟨wd_379, wd_18, by decide +kernel, by decide +kernel, by decide +kernel⟩
theorem kX2_isFull {b : Nat} {σ : qH} {o : Int32} (h : FX2_isFull b σ = some o) : ∃ fs : List Value, True ∧ σ b = some (.inr (2, fs)) := by
  unfold FX2_isFull at h
  obtain ⟨_, h1, _⟩ := b1_inv h
  obtain ⟨fs, h2⟩ := gC_inv h1
  exact ⟨fs, trivial, h2⟩
set_option maxHeartbeats 4000000 in
set_option maxRecDepth 100000 in
theorem mX2_isFull {l : Launch} {G : qG} (hst : l.stackTraces = false) (b : Nat) (σ : qH) (n : Option Nat) (ro : Int32) (hF : FX2_isFull b σ = some ro) : qM l G yX2_isFull cX2_isFull 1 (some .boolean) rmX2_isFull [.ref b] σ n (.inl (some (.int ro), σ, n)) := by
  refine q_body (own := RX2) (nm := "isFull") (ls := [(0, .ref b)]) hst (by decide +kernel) rfl rfl (Nat.le_of_ble_eq_true rfl) rfl rfl rfl ?_
  unfold FX2_isFull at hF
  obtain ⟨_, hC, hF⟩ := b1_inv hF
  refine x_aload_n 1 0 dX2_isFull_0 rfl rfl ?_
  obtain ⟨v1, h2, hF⟩ := b1_inv hF
  refine x_getI 4 6 inX2 rfl (by decide) wd_60 h2 dX2_isFull_1 rfl ?_
  refine x_bipush 6 (16 : Int32) dX2_isFull_4 rfl (by decide) ?_
  obtain ⟨x3, h4, hF⟩ := b1_inv hF
  have hJ : qX l G RX2 "isFull" cX2_isFull 1 (some .boolean) [] rmX2_isFull 0 0 (.inl (some (.int ro), σ, n)) 0 0 σ n 14 [] [.int x3] := by
    obtain ⟨hz, hF⟩ := ite_none hF
    cases hF
    exact x_zret rfl (by rcases hz with h | h <;> rw [h] <;> rfl) rfl (by decide) (by decide) dX2_isFull_14
  have hF := h4
  rcases ite_inv hF with ⟨hc, hF⟩ | ⟨hc, hF⟩
  · refine x_icmp_lt 13 9 dX2_isFull_6 (by decide) rfl (fun _ => ?_) (fun q => absurd hc q)
    refine x_iconst 14 (0 : Int32) dX2_isFull_13 rfl (by decide) ?_
    have e1 := Option.some.inj hF
    subst e1
    refine x_sub [] [] rfl ?_
    exact hJ
  · refine x_icmp_lt 13 9 dX2_isFull_6 (by decide) rfl (fun q => absurd q hc) (fun _ => ?_)
    refine x_iconst 10 (1 : Int32) dX2_isFull_9 rfl (by decide) ?_
    refine x_goto 14 dX2_isFull_10 (by decide) ?_
    have e1 := Option.some.inj hF
    subst e1
    refine x_sub [] [] rfl ?_
    exact hJ
def rmX2_leastHeight : Room := { frames := 1, cells := 0, slots := 0, locals := 22 }
theorem qyX2_leastHeight : qY yX2_leastHeight cX2_leastHeight 3 (some .int) 3 := ⟨wd_386, wd_18, by decide +kernel, by decide +kernel, by decide +kernel⟩
set_option maxHeartbeats 4000000 in
set_option maxRecDepth 100000 in
theorem mX2_leastHeight {l : Launch} {G : qG} (hst : l.stackTraces = false) (p0 : Int32) (p1 : Int32) (p2 : Int32) (σ : qH) (n : Option Nat) (ro : Int32) (hF : FX2_leastHeight p0 p1 p2 σ = some ro) : qM l G yX2_leastHeight cX2_leastHeight 3 (some .int) rmX2_leastHeight [.int p0, .int p1, .int p2] σ n (.inl (some (.int ro), σ, n)) := by
  refine q_body (own := RX2) (nm := "leastHeight") (ls := [(0, .int p0), (1, .int p1), (2, .int p2)]) hst (by decide +kernel) rfl rfl (Nat.le_of_ble_eq_true rfl) rfl rfl rfl ?_
  unfold FX2_leastHeight at hF
  refine x_iload_n 1 1 dX2_leastHeight_0 rfl rfl ?_
  refine x_iconst 2 (1 : Int32) dX2_leastHeight_1 rfl (by decide) ?_
  obtain ⟨x1, h4, hF⟩ := b1_inv hF
  have hJ : qX l G RX2 "leastHeight" cX2_leastHeight 3 (some .int) [] rmX2_leastHeight 0 0 (.inl (some (.int ro), σ, n)) 0 0 σ n 16 [] [.int x1] := by
    cases hF
    exact x_iret rfl rfl (by decide) (by decide) dX2_leastHeight_16
  have hF := h4
  rcases ite_inv hF with ⟨hc, hF⟩ | ⟨hc, hF⟩
  · refine x_icmp_ge 9 5 dX2_leastHeight_2 (by decide) rfl (fun _ => ?_) (fun q => absurd hc q)
    refine x_iload_n 10 0 dX2_leastHeight_9 rfl rfl ?_
    refine x_iload_n 11 2 dX2_leastHeight_10 rfl rfl ?_
    refine x_imul 12 dX2_leastHeight_11 rfl ?_
    refine x_iload_n 13 1 dX2_leastHeight_12 rfl rfl ?_
    obtain ⟨v3, h2, hF⟩ := b1_inv hF
    refine x_callS (As := [.int (p0 * p2), .int p1]) (rest := []) 16 0 0 (mJ9_floorDiv_7cf53 hst (p0 * p2) p1 σ n v3 h2) qyJ9_floorDiv_7cf53 wd_387 wd_388 rfl rfl (by decide) (Nat.le_of_ble_eq_true rfl) (by decide) dX2_leastHeight_13 rfl rfl rfl rfl ?_
    have e1 := Option.some.inj hF
    subst e1
    refine x_sub [] [] rfl ?_
    exact hJ
  · refine x_icmp_ge 9 5 dX2_leastHeight_2 (by decide) rfl (fun q => absurd q hc) (fun _ => ?_)
    refine x_iconst 6 (1 : Int32) dX2_leastHeight_5 rfl (by decide) ?_
    refine x_goto 16 dX2_leastHeight_6 (by decide) ?_
    have e1 := Option.some.inj hF
    subst e1
    refine x_sub [] [] rfl ?_
    exact hJ
def rmX2_withinFeet : Room := { frames := 1, cells := 0, slots := 0, locals := 21 }
theorem qyX2_withinFeet : qY yX2_withinFeet cX2_withinFeet 1 (some .int) 1 := ⟨wd_392, wd_18, by decide +kernel, by decide +kernel, by decide +kernel⟩
set_option maxHeartbeats 4000000 in
set_option maxRecDepth 100000 in
theorem mX2_withinFeet {l : Launch} {G : qG} (hst : l.stackTraces = false) (p0 : Int32) (σ : qH) (n : Option Nat) (ro : Int32) (hF : FX2_withinFeet p0 σ = some ro) : qM l G yX2_withinFeet cX2_withinFeet 1 (some .int) rmX2_withinFeet [.int p0] σ n (.inl (some (.int ro), σ, n)) := by
  refine q_body (own := RX2) (nm := "withinFeet") (ls := [(0, .int p0)]) hst (by decide +kernel) rfl rfl (Nat.le_of_ble_eq_true rfl) rfl rfl rfl ?_
  unfold FX2_withinFeet at hF
  refine x_iconst 1 (1 : Int32) dX2_withinFeet_0 rfl (by decide) ?_
  refine x_sipush 4 (999 : Int32) dX2_withinFeet_1 rfl (by decide) ?_
  refine x_iload_n 5 0 dX2_withinFeet_4 rfl rfl ?_
  obtain ⟨v2, h1, hF⟩ := b1_inv hF
  refine x_callS (As := [.int (999 : Int32), .int p0]) (rest := [.int (1 : Int32)]) 8 0 0 (mJ9_min_7cf53 hst (999 : Int32) p0 σ n v2 h1) qyJ9_min_7cf53 wd_393 wd_394 rfl rfl (by decide) (Nat.le_of_ble_eq_true rfl) (by decide) dX2_withinFeet_5 rfl rfl rfl rfl ?_
  obtain ⟨v4, h3, hF⟩ := b1_inv hF
  refine x_callS (As := [.int (1 : Int32), .int v2]) (rest := []) 11 0 0 (mJ9_max_7cf53 hst (1 : Int32) v2 σ n v4 h3) qyJ9_max_7cf53 wd_396 wd_397 rfl rfl (by decide) (Nat.le_of_ble_eq_true rfl) (by decide) dX2_withinFeet_8 rfl rfl rfl rfl ?_
  cases hF
  exact x_iret rfl rfl (by decide) (by decide) dX2_withinFeet_11
def rmX2_greatestHeight : Room := { frames := 0, cells := 0, slots := 0, locals := 0 }
theorem qyX2_greatestHeight : qY yX2_greatestHeight cX2_greatestHeight 3 (some .int) 3 := ⟨wd_401, wd_18, by decide +kernel, by decide +kernel, by decide +kernel⟩
set_option maxHeartbeats 4000000 in
set_option maxRecDepth 100000 in
theorem mX2_greatestHeight {l : Launch} {G : qG} (hst : l.stackTraces = false) (p0 : Int32) (p1 : Int32) (p2 : Int32) (σ : qH) (n : Option Nat) (ro : Int32) (hF : FX2_greatestHeight p0 p1 p2 σ = some ro) : qM l G yX2_greatestHeight cX2_greatestHeight 3 (some .int) rmX2_greatestHeight [.int p0, .int p1, .int p2] σ n (.inl (some (.int ro), σ, n)) := by
  refine q_body (own := RX2) (nm := "greatestHeight") (ls := [(0, .int p0), (1, .int p1), (2, .int p2)]) hst (by decide +kernel) rfl rfl (Nat.le_of_ble_eq_true rfl) rfl rfl rfl ?_
  unfold FX2_greatestHeight at hF
  refine x_iload_n 1 1 dX2_greatestHeight_0 rfl rfl ?_
  refine x_iconst 2 (1 : Int32) dX2_greatestHeight_1 rfl (by decide) ?_
  obtain ⟨x1, h3, hF⟩ := b1_inv hF
  have hJ : qX l G RX2 "greatestHeight" cX2_greatestHeight 3 (some .int) [] rmX2_greatestHeight 0 0 (.inl (some (.int ro), σ, n)) 0 0 σ n 18 [] [.int x1] := by
    cases hF
    exact x_iret rfl rfl (by decide) (by decide) dX2_greatestHeight_18
  have hF := h3
  rcases ite_inv hF with ⟨hc, hF⟩ | ⟨hc, hF⟩
  · refine x_icmp_ge 9 5 dX2_greatestHeight_2 (by decide) rfl (fun _ => ?_) (fun q => absurd hc q)
    refine x_iload_n 10 0 dX2_greatestHeight_9 rfl rfl ?_
    refine x_iload_n 11 2 dX2_greatestHeight_10 rfl rfl ?_
    refine x_imul 12 dX2_greatestHeight_11 rfl ?_
    refine x_iload_n 13 1 dX2_greatestHeight_12 rfl rfl ?_
    refine x_iadd 14 dX2_greatestHeight_13 rfl ?_
    refine x_iconst 15 (1 : Int32) dX2_greatestHeight_14 rfl (by decide) ?_
    refine x_isub 16 dX2_greatestHeight_15 rfl ?_
    refine x_iload_n 17 1 dX2_greatestHeight_16 rfl rfl ?_
    obtain ⟨h2, hF⟩ := ite_else hF
    refine x_idiv 18 h2 dX2_greatestHeight_17 rfl ?_
    have e1 := Option.some.inj hF
    subst e1
    refine x_sub [] [] rfl ?_
    exact hJ
  · refine x_icmp_ge 9 5 dX2_greatestHeight_2 (by decide) rfl (fun q => absurd q hc) (fun _ => ?_)
    refine x_iconst 6 (1 : Int32) dX2_greatestHeight_5 rfl (by decide) ?_
    refine x_goto 18 dX2_greatestHeight_6 (by decide) ?_
    have e1 := Option.some.inj hF
    subst e1
    refine x_sub [] [] rfl ?_
    exact hJ
def rmX2_addMeasure : Room := { frames := 2, cells := 0, slots := 0, locals := 44 }
theorem qyX2_addMeasure : qY yX2_addMeasure cX2_addMeasure 9 (some .int) 7 := ⟨wd_383, wd_18, by decide +kernel, by decide +kernel, by decide +kernel⟩
theorem kX2_addMeasure {b : Nat} {p0 : Int32} {p1 : Int32} {p2 : Int32} {p3 : Int32} {p4 : Int32} {p5 : Int32} {p6 : Int32} {σ : qH} {o : Int32 × qH} (h : FX2_addMeasure b p0 p1 p2 p3 p4 p5 p6 σ = some o) : ∃ fs : List Value, True ∧ σ b = some (.inr (2, fs)) := by
  unfold FX2_addMeasure at h
  obtain ⟨_, h1, _⟩ := b1_inv h
  obtain ⟨fs, h2⟩ := gC_inv h1
  exact ⟨fs, trivial, h2⟩
set_option maxHeartbeats 4000000 in
set_option maxRecDepth 100000 in
theorem mX2_addMeasure {l : Launch} {G : qG} (hst : l.stackTraces = false) (b : Nat) (p0 : Int32) (p1 : Int32) (p2 : Int32) (p3 : Int32) (p4 : Int32) (p5 : Int32) (p6 : Int32) (σ : qH) (n : Option Nat) (ro : Int32) (so : qH) (hF : FX2_addMeasure b p0 p1 p2 p3 p4 p5 p6 σ = some (ro, so)) : qM l G yX2_addMeasure cX2_addMeasure 9 (some .int) rmX2_addMeasure [.ref b, .int p0, .int p1, .int p2, .int p3, .int p4, .int p5, .int p6] σ n (.inl (some (.int ro), so, n)) := by
  refine q_body (own := RX2) (nm := "addMeasure") (ls := [(0, .ref b), (1, .int p0), (2, .int p1), (3, .int p2), (4, .int p3), (5, .int p4), (6, .int p5), (7, .int p6)]) hst (by decide +kernel) rfl rfl (Nat.le_of_ble_eq_true rfl) rfl rfl rfl ?_
  unfold FX2_addMeasure at hF
  obtain ⟨_, hC, hF⟩ := b1_inv hF
  refine x_aload_n 1 0 dX2_addMeasure_0 rfl rfl ?_
  obtain ⟨v1, h2, hF⟩ := b1_inv hF
  refine x_getI 4 6 inX2 rfl (by decide) wd_60 h2 dX2_addMeasure_1 rfl ?_
  refine x_bipush 6 (9 : Int32) dX2_addMeasure_4 rfl (by decide) ?_
  refine x_imul 7 dX2_addMeasure_6 rfl ?_
  refine x_istore 9 8 [(8, .int (v1 * (9 : Int32))), (0, .ref b), (1, .int p0), (2, .int p1), (3, .int p2), (4, .int p3), (5, .int p4), (6, .int p5), (7, .int p6)] dX2_addMeasure_7 rfl (by decide) rfl ?_
  refine x_aload_n 10 1 dX2_addMeasure_9 rfl rfl ?_
  obtain ⟨r3, h4, hF⟩ := b1_inv hF
  refine x_getR 13 0 inX2 rfl (by decide) wd_54 h4 dX2_addMeasure_10 rfl ?_
  refine x_iload 15 0 dX2_addMeasure_13 rfl rfl ?_
  refine x_iconst 16 (0 : Int32) dX2_addMeasure_15 rfl (by decide) ?_
  refine x_iadd 17 dX2_addMeasure_16 rfl ?_
  refine x_iload_n 18 2 dX2_addMeasure_17 rfl rfl ?_
  obtain ⟨s5, h6, hF⟩ := b1_inv hF
  refine x_sI 19 h6 dX2_addMeasure_18 rfl ?_
  refine x_aload_n 20 1 dX2_addMeasure_19 rfl rfl ?_
  obtain ⟨r7, h8, hF⟩ := b1_inv hF
  refine x_getR 23 0 inX2 rfl (by decide) wd_54 h8 dX2_addMeasure_20 rfl ?_
  refine x_iload 25 0 dX2_addMeasure_23 rfl rfl ?_
  refine x_iconst 26 (1 : Int32) dX2_addMeasure_25 rfl (by decide) ?_
  refine x_iadd 27 dX2_addMeasure_26 rfl ?_
  refine x_iload_n 28 3 dX2_addMeasure_27 rfl rfl ?_
  obtain ⟨s9, h10, hF⟩ := b1_inv hF
  refine x_sI 29 h10 dX2_addMeasure_28 rfl ?_
  refine x_aload_n 30 1 dX2_addMeasure_29 rfl rfl ?_
  obtain ⟨r11, h12, hF⟩ := b1_inv hF
  refine x_getR 33 0 inX2 rfl (by decide) wd_54 h12 dX2_addMeasure_30 rfl ?_
  refine x_iload 35 0 dX2_addMeasure_33 rfl rfl ?_
  refine x_iconst 36 (2 : Int32) dX2_addMeasure_35 rfl (by decide) ?_
  refine x_iadd 37 dX2_addMeasure_36 rfl ?_
  refine x_iload_n 38 4 dX2_addMeasure_37 rfl rfl ?_
  obtain ⟨s13, h14, hF⟩ := b1_inv hF
  refine x_sI 39 h14 dX2_addMeasure_38 rfl ?_
  refine x_aload_n 40 1 dX2_addMeasure_39 rfl rfl ?_
  obtain ⟨r15, h16, hF⟩ := b1_inv hF
  refine x_getR 43 0 inX2 rfl (by decide) wd_54 h16 dX2_addMeasure_40 rfl ?_
  refine x_iload 45 0 dX2_addMeasure_43 rfl rfl ?_
  refine x_iconst 46 (3 : Int32) dX2_addMeasure_45 rfl (by decide) ?_
  refine x_iadd 47 dX2_addMeasure_46 rfl ?_
  refine x_iload 49 5 dX2_addMeasure_47 rfl rfl ?_
  obtain ⟨s17, h18, hF⟩ := b1_inv hF
  refine x_sI 50 h18 dX2_addMeasure_49 rfl ?_
  refine x_aload_n 51 1 dX2_addMeasure_50 rfl rfl ?_
  obtain ⟨r19, h20, hF⟩ := b1_inv hF
  refine x_getR 54 0 inX2 rfl (by decide) wd_54 h20 dX2_addMeasure_51 rfl ?_
  refine x_iload 56 0 dX2_addMeasure_54 rfl rfl ?_
  refine x_iconst 57 (4 : Int32) dX2_addMeasure_56 rfl (by decide) ?_
  refine x_iadd 58 dX2_addMeasure_57 rfl ?_
  refine x_iload 60 6 dX2_addMeasure_58 rfl rfl ?_
  obtain ⟨s21, h22, hF⟩ := b1_inv hF
  refine x_sI 61 h22 dX2_addMeasure_60 rfl ?_
  refine x_aload_n 62 1 dX2_addMeasure_61 rfl rfl ?_
  obtain ⟨r23, h24, hF⟩ := b1_inv hF
  refine x_getR 65 0 inX2 rfl (by decide) wd_54 h24 dX2_addMeasure_62 rfl ?_
  refine x_iload 67 0 dX2_addMeasure_65 rfl rfl ?_
  refine x_iconst 68 (5 : Int32) dX2_addMeasure_67 rfl (by decide) ?_
  refine x_iadd 69 dX2_addMeasure_68 rfl ?_
  refine x_iload 71 7 dX2_addMeasure_69 rfl rfl ?_
  obtain ⟨s25, h26, hF⟩ := b1_inv hF
  refine x_sI 72 h26 dX2_addMeasure_71 rfl ?_
  refine x_aload_n 73 1 dX2_addMeasure_72 rfl rfl ?_
  obtain ⟨r27, h28, hF⟩ := b1_inv hF
  refine x_getR 76 0 inX2 rfl (by decide) wd_54 h28 dX2_addMeasure_73 rfl ?_
  refine x_iload 78 0 dX2_addMeasure_76 rfl rfl ?_
  refine x_bipush 80 (6 : Int32) dX2_addMeasure_78 rfl (by decide) ?_
  refine x_iadd 81 dX2_addMeasure_80 rfl ?_
  refine x_iload 83 8 dX2_addMeasure_81 rfl rfl ?_
  obtain ⟨s29, h30, hF⟩ := b1_inv hF
  refine x_sI 84 h30 dX2_addMeasure_83 rfl ?_
  refine x_aload_n 85 1 dX2_addMeasure_84 rfl rfl ?_
  obtain ⟨r31, h32, hF⟩ := b1_inv hF
  refine x_getR 88 0 inX2 rfl (by decide) wd_54 h32 dX2_addMeasure_85 rfl ?_
  refine x_iload 90 0 dX2_addMeasure_88 rfl rfl ?_
  refine x_bipush 92 (7 : Int32) dX2_addMeasure_90 rfl (by decide) ?_
  refine x_iadd 93 dX2_addMeasure_92 rfl ?_
  refine x_iload_n 94 4 dX2_addMeasure_93 rfl rfl ?_
  refine x_iconst 95 (2 : Int32) dX2_addMeasure_94 rfl (by decide) ?_
  obtain ⟨x33, h60, hF⟩ := b1_inv hF
  have hJ : qX l G RX2 "addMeasure" cX2_addMeasure 9 (some .int) [] rmX2_addMeasure 0 0 (.inl (some (.int ro), so, n)) 0 0 s29 n 115 [(0, .ref b), (3, .int p2), (4, .int p3), (5, .int p4), (6, .int p5), (7, .int p6), (8, .int (v1 * (9 : Int32)))] [.int x33, .int ((v1 * (9 : Int32)) + (7 : Int32)), .ref r31] := by
    obtain ⟨v37, h36, hF⟩ := b1_inv hF
    refine x_callS (As := [.int x33]) (rest := [.int ((v1 * (9 : Int32)) + (7 : Int32)), .ref r31]) 118 0 0 (mX2_withinFeet hst x33 s29 n v37 h36) qyX2_withinFeet wd_390 wd_391 rfl rfl (by decide) (Nat.le_of_ble_eq_true rfl) (by decide) dX2_addMeasure_115 rfl rfl rfl rfl ?_
    obtain ⟨s38, h39, hF⟩ := b1_inv hF
    refine x_sI 119 h39 dX2_addMeasure_118 rfl ?_
    refine x_aload_n 120 0 dX2_addMeasure_119 rfl rfl ?_
    obtain ⟨r40, h41, hF⟩ := b1_inv hF
    refine x_getR 123 0 inX2 rfl (by decide) wd_54 h41 dX2_addMeasure_120 rfl ?_
    refine x_iload 125 6 dX2_addMeasure_123 rfl rfl ?_
    refine x_bipush 127 (8 : Int32) dX2_addMeasure_125 rfl (by decide) ?_
    refine x_iadd 128 dX2_addMeasure_127 rfl ?_
    refine x_iload_n 129 1 dX2_addMeasure_128 rfl rfl ?_
    refine x_iconst 130 (2 : Int32) dX2_addMeasure_129 rfl (by decide) ?_
    obtain ⟨x42, h59, hF⟩ := b1_inv hF
    have hJ : qX l G RX2 "addMeasure" cX2_addMeasure 9 (some .int) [] rmX2_addMeasure 0 0 (.inl (some (.int ro), so, n)) 0 0 s38 n 150 [(0, .ref b)] [.int x42, .int ((v1 * (9 : Int32)) + (8 : Int32)), .ref r40] := by
      obtain ⟨v46, h45, hF⟩ := b1_inv hF
      refine x_callS (As := [.int x42]) (rest := [.int ((v1 * (9 : Int32)) + (8 : Int32)), .ref r40]) 153 0 0 (mX2_withinFeet hst x42 s38 n v46 h45) qyX2_withinFeet wd_390 wd_391 rfl rfl (by decide) (Nat.le_of_ble_eq_true rfl) (by decide) dX2_addMeasure_150 rfl rfl rfl rfl ?_
      obtain ⟨s47, h48, hF⟩ := b1_inv hF
      refine x_sI 154 h48 dX2_addMeasure_153 rfl ?_
      refine x_aload_n 155 0 dX2_addMeasure_154 rfl rfl ?_
      refine x_dup 156 rfl dX2_addMeasure_155 rfl ?_
      obtain ⟨v49, h50, hF⟩ := b1_inv hF
      refine x_getI 159 6 inX2 rfl (by decide) wd_60 h50 dX2_addMeasure_156 rfl ?_
      refine x_iconst 160 (1 : Int32) dX2_addMeasure_159 rfl (by decide) ?_
      refine x_iadd 161 dX2_addMeasure_160 rfl ?_
      obtain ⟨s51, h52, hF⟩ := b1_inv hF
      refine x_put 164 6 inX2 tyX2 tyX2_ok nmX2 rfl (by decide) wd_60 rfl (tX2_6) rfl rfl h52 dX2_addMeasure_161 rfl ?_
      refine x_aload_n 165 0 dX2_addMeasure_164 rfl rfl ?_
      refine x_dup 166 rfl dX2_addMeasure_165 rfl ?_
      obtain ⟨v53, h54, hF⟩ := b1_inv hF
      refine x_getI 169 7 inX2 rfl (by decide) wd_61 h54 dX2_addMeasure_166 rfl ?_
      refine x_iconst 170 (1 : Int32) dX2_addMeasure_169 rfl (by decide) ?_
      refine x_iadd 171 dX2_addMeasure_170 rfl ?_
      obtain ⟨s55, h56, hF⟩ := b1_inv hF
      refine x_put 174 7 inX2 tyX2 tyX2_ok nmX2 rfl (by decide) wd_61 rfl (tX2_7) rfl rfl h56 dX2_addMeasure_171 rfl ?_
      refine x_aload_n 175 0 dX2_addMeasure_174 rfl rfl ?_
      obtain ⟨v57, h58, hF⟩ := b1_inv hF
      refine x_getI 178 6 inX2 rfl (by decide) wd_60 h58 dX2_addMeasure_175 rfl ?_
      refine x_iconst 179 (1 : Int32) dX2_addMeasure_178 rfl (by decide) ?_
      refine x_isub 180 dX2_addMeasure_179 rfl ?_
      cases hF
      exact x_iret rfl rfl (by decide) (by decide) dX2_addMeasure_180
    have hF := h59
    rcases ite_inv hF with ⟨hc, hF⟩ | ⟨hc, hF⟩
    · refine x_icmp_ne 138 133 dX2_addMeasure_130 (by decide) rfl (fun q => absurd hc q) (fun _ => ?_)
      refine x_iload 135 3 dX2_addMeasure_133 rfl rfl ?_
      refine x_goto 150 dX2_addMeasure_135 (by decide) ?_
      have e1 := Option.some.inj hF
      subst e1
      refine x_sub [(0, .ref b)] [0] rfl ?_
      exact hJ
    · refine x_icmp_ne 138 133 dX2_addMeasure_130 (by decide) rfl (fun _ => ?_) (fun q => absurd q hc)
      refine x_iload 140 2 dX2_addMeasure_138 rfl rfl ?_
      refine x_iload 142 3 dX2_addMeasure_140 rfl rfl ?_
      refine x_iload 144 4 dX2_addMeasure_142 rfl rfl ?_
      refine x_iload 146 5 dX2_addMeasure_144 rfl rfl ?_
      refine x_iadd 147 dX2_addMeasure_146 rfl ?_
      obtain ⟨v44, h43, hF⟩ := b1_inv hF
      refine x_callS (As := [.int p3, .int p4, .int (p5 + p6)]) (rest := [.int ((v1 * (9 : Int32)) + (8 : Int32)), .ref r40]) 150 0 0 (mX2_greatestHeight hst p3 p4 (p5 + p6) s38 n v44 h43) qyX2_greatestHeight wd_399 wd_400 rfl rfl (by decide) (Nat.le_of_ble_eq_true rfl) (by decide) dX2_addMeasure_147 rfl rfl rfl rfl ?_
      have e1 := Option.some.inj hF
      subst e1
      refine x_sub [(0, .ref b)] [0] rfl ?_
      exact hJ
  have hF := h60
  rcases ite_inv hF with ⟨hc, hF⟩ | ⟨hc, hF⟩
  · refine x_icmp_ne 103 98 dX2_addMeasure_95 (by decide) rfl (fun q => absurd hc q) (fun _ => ?_)
    refine x_iload 100 5 dX2_addMeasure_98 rfl rfl ?_
    refine x_goto 115 dX2_addMeasure_100 (by decide) ?_
    have e1 := Option.some.inj hF
    subst e1
    refine x_sub [(0, .ref b), (3, .int p2), (4, .int p3), (5, .int p4), (6, .int p5), (7, .int p6), (8, .int (v1 * (9 : Int32)))] [1, 4, 5, 6, 7, 8, 0] rfl ?_
    exact hJ
  · refine x_icmp_ne 103 98 dX2_addMeasure_95 (by decide) rfl (fun _ => ?_) (fun q => absurd q hc)
    refine x_iload 105 5 dX2_addMeasure_103 rfl rfl ?_
    refine x_iload 107 6 dX2_addMeasure_105 rfl rfl ?_
    refine x_iload 109 7 dX2_addMeasure_107 rfl rfl ?_
    refine x_iload 111 8 dX2_addMeasure_109 rfl rfl ?_
    refine x_isub 112 dX2_addMeasure_111 rfl ?_
    obtain ⟨v35, h34, hF⟩ := b1_inv hF
    refine x_callS (As := [.int p3, .int p4, .int (p5 - p6)]) (rest := [.int ((v1 * (9 : Int32)) + (7 : Int32)), .ref r31]) 115 0 0 (mX2_leastHeight hst p3 p4 (p5 - p6) s29 n v35 h34) qyX2_leastHeight wd_384 wd_385 rfl rfl (by decide) (Nat.le_of_ble_eq_true rfl) (by decide) dX2_addMeasure_112 rfl rfl rfl rfl ?_
    have e1 := Option.some.inj hF
    subst e1
    refine x_sub [(0, .ref b), (3, .int p2), (4, .int p3), (5, .int p4), (6, .int p5), (7, .int p6), (8, .int (v1 * (9 : Int32)))] [1, 4, 5, 6, 7, 8, 0] rfl ?_
    exact hJ
def rmX2_tryMeasure : Room := { frames := 3, cells := 0, slots := 0, locals := 72 }
theorem qyX2_tryMeasure : qY yX2_tryMeasure cX2_tryMeasure 8 (some .boolean) 7 := ⟨wd_360, wd_18, by decide +kernel, by decide +kernel, by decide +kernel⟩
theorem kX2_tryMeasure {b : Nat} {p0 : Int32} {p1 : Int32} {p2 : Int32} {p3 : Int32} {p4 : Int32} {p5 : Int32} {p6 : Int32} {σ : qH} {o : Int32 × qH} (h : FX2_tryMeasure b p0 p1 p2 p3 p4 p5 p6 σ = some o) : ∃ fs : List Value, True ∧ σ b = some (.inr (2, fs)) := by
  unfold FX2_tryMeasure at h
  obtain ⟨_, h1, _⟩ := b1_inv h
  obtain ⟨fs, h2⟩ := gC_inv h1
  exact ⟨fs, trivial, h2⟩
set_option maxHeartbeats 4000000 in
set_option maxRecDepth 100000 in
theorem mX2_tryMeasure {l : Launch} {G : qG} (hst : l.stackTraces = false) (b : Nat) (p0 : Int32) (p1 : Int32) (p2 : Int32) (p3 : Int32) (p4 : Int32) (p5 : Int32) (p6 : Int32) (σ : qH) (n : Option Nat) (ro : Int32) (so : qH) (hF : FX2_tryMeasure b p0 p1 p2 p3 p4 p5 p6 σ = some (ro, so)) : qM l G yX2_tryMeasure cX2_tryMeasure 8 (some .boolean) rmX2_tryMeasure [.ref b, .int p0, .int p1, .int p2, .int p3, .int p4, .int p5, .int p6] σ n (.inl (some (.int ro), so, n)) := by
  refine q_body (own := RX2) (nm := "tryMeasure") (ls := [(0, .ref b), (1, .int p0), (2, .int p1), (3, .int p2), (4, .int p3), (5, .int p4), (6, .int p5), (7, .int p6)]) hst (by decide +kernel) rfl rfl (Nat.le_of_ble_eq_true rfl) rfl rfl rfl ?_
  unfold FX2_tryMeasure at hF
  obtain ⟨_, hC, hF⟩ := b1_inv hF
  refine x_iload_n 1 1 dX2_tryMeasure_0 rfl rfl ?_
  obtain ⟨v2, h1, hF⟩ := b1_inv hF
  refine x_callS (As := [.int p0]) (rest := []) 4 0 0 (mX2_isSteeple hst p0 σ n v2 h1) qyX2_isSteeple wd_361 wd_362 rfl rfl (by decide) (Nat.le_of_ble_eq_true rfl) (by decide) dX2_tryMeasure_1 rfl rfl rfl rfl ?_
  rcases ite_inv hF with ⟨hc, hF⟩ | ⟨hc, hF⟩
  · refine x_if_eq 36 7 dX2_tryMeasure_4 (by decide) rfl (fun _ => ?_) (fun q => absurd hc q)
    refine x_iconst 37 (0 : Int32) dX2_tryMeasure_36 rfl (by decide) ?_
    cases hF
    exact x_zret rfl rfl rfl (by decide) (by decide) dX2_tryMeasure_37
  · refine x_if_eq 36 7 dX2_tryMeasure_4 (by decide) rfl (fun q => absurd q hc) (fun _ => ?_)
    refine x_iload_n 8 2 dX2_tryMeasure_7 rfl rfl ?_
    obtain ⟨v4, h3, hF⟩ := b1_inv hF
    refine x_callS (As := [.int p1]) (rest := []) 11 0 0 (mX2_isTeller hst p1 σ n v4 h3) qyX2_isTeller wd_364 wd_365 rfl rfl (by decide) (Nat.le_of_ble_eq_true rfl) (by decide) dX2_tryMeasure_8 rfl rfl rfl rfl ?_
    rcases ite_inv hF with ⟨hc, hF⟩ | ⟨hc, hF⟩
    · refine x_if_eq 36 14 dX2_tryMeasure_11 (by decide) rfl (fun _ => ?_) (fun q => absurd hc q)
      refine x_iconst 37 (0 : Int32) dX2_tryMeasure_36 rfl (by decide) ?_
      cases hF
      exact x_zret rfl rfl rfl (by decide) (by decide) dX2_tryMeasure_37
    · refine x_if_eq 36 14 dX2_tryMeasure_11 (by decide) rfl (fun q => absurd q hc) (fun _ => ?_)
      refine x_iload_n 15 3 dX2_tryMeasure_14 rfl rfl ?_
      refine x_iload 17 4 dX2_tryMeasure_15 rfl rfl ?_
      refine x_iload 19 5 dX2_tryMeasure_17 rfl rfl ?_
      refine x_iload 21 6 dX2_tryMeasure_19 rfl rfl ?_
      refine x_iload 23 7 dX2_tryMeasure_21 rfl rfl ?_
      obtain ⟨v6, h5, hF⟩ := b1_inv hF
      refine x_callS (As := [.int p2, .int p3, .int p4, .int p5, .int p6]) (rest := []) 26 0 0 (mX2_fits hst p2 p3 p4 p5 p6 σ n v6 h5) qyX2_fits wd_367 wd_368 rfl rfl (by decide) (Nat.le_of_ble_eq_true rfl) (by decide) dX2_tryMeasure_23 rfl rfl rfl rfl ?_
      rcases ite_inv hF with ⟨hc, hF⟩ | ⟨hc, hF⟩
      · refine x_if_eq 36 29 dX2_tryMeasure_26 (by decide) rfl (fun _ => ?_) (fun q => absurd hc q)
        refine x_iconst 37 (0 : Int32) dX2_tryMeasure_36 rfl (by decide) ?_
        cases hF
        exact x_zret rfl rfl rfl (by decide) (by decide) dX2_tryMeasure_37
      · refine x_if_eq 36 29 dX2_tryMeasure_26 (by decide) rfl (fun q => absurd q hc) (fun _ => ?_)
        refine x_aload_n 30 0 dX2_tryMeasure_29 rfl rfl ?_
        obtain ⟨v8, h7, hF⟩ := b1_inv hF
        obtain ⟨fs, hb⟩ : ∃ fs : List Value, True ∧ σ b = some (.inr (2, fs)) := kX2_isFull h7
        refine x_callV (As := []) (rest := []) 33 0 0 (mX2_isFull hst b σ n v8 h7) qyX2_isFull wd_376 wd_377 wd_378 hb.2 rfl rfl rfl (by decide) (Nat.le_of_ble_eq_true rfl) (by decide) dX2_tryMeasure_30 rfl rfl rfl rfl ?_
        rcases ite_inv hF with ⟨hc, hF⟩ | ⟨hc, hF⟩
        · refine x_if_eq 38 36 dX2_tryMeasure_33 (by decide) rfl (fun _ => ?_) (fun q => absurd hc q)
          refine x_aload_n 39 0 dX2_tryMeasure_38 rfl rfl ?_
          refine x_iload_n 40 1 dX2_tryMeasure_39 rfl rfl ?_
          refine x_iload_n 41 2 dX2_tryMeasure_40 rfl rfl ?_
          refine x_iload_n 42 3 dX2_tryMeasure_41 rfl rfl ?_
          refine x_iload 44 4 dX2_tryMeasure_42 rfl rfl ?_
          refine x_iload 46 5 dX2_tryMeasure_44 rfl rfl ?_
          refine x_iload 48 6 dX2_tryMeasure_46 rfl rfl ?_
          refine x_iload 50 7 dX2_tryMeasure_48 rfl rfl ?_
          obtain ⟨v10, s11, h9, hF⟩ := b2_inv hF
          obtain ⟨fs, hb⟩ : ∃ fs : List Value, True ∧ σ b = some (.inr (2, fs)) := kX2_addMeasure h9
          refine x_callV (As := [.int p0, .int p1, .int p2, .int p3, .int p4, .int p5, .int p6]) (rest := []) 53 0 0 (mX2_addMeasure hst b p0 p1 p2 p3 p4 p5 p6 σ n v10 s11 h9) qyX2_addMeasure wd_380 wd_381 wd_382 hb.2 rfl rfl rfl (by decide) (Nat.le_of_ble_eq_true rfl) (by decide) dX2_tryMeasure_50 rfl rfl rfl rfl ?_
          refine x_pop 54 rfl dX2_tryMeasure_53 rfl ?_
          refine x_iconst 55 (1 : Int32) dX2_tryMeasure_54 rfl (by decide) ?_
          cases hF
          exact x_zret rfl rfl rfl (by decide) (by decide) dX2_tryMeasure_55
        · refine x_if_eq 38 36 dX2_tryMeasure_33 (by decide) rfl (fun q => absurd q hc) (fun _ => ?_)
          refine x_iconst 37 (0 : Int32) dX2_tryMeasure_36 rfl (by decide) ?_
          cases hF
          exact x_zret rfl rfl rfl (by decide) (by decide) dX2_tryMeasure_37
def rmX2_hasMeasure : Room := { frames := 0, cells := 0, slots := 0, locals := 0 }
theorem qyX2_hasMeasure : qY yX2_hasMeasure cX2_hasMeasure 2 (some .boolean) 1 := ⟨wd_409, wd_18, by decide +kernel, by decide +kernel, by decide +kernel⟩
theorem kX2_hasMeasure {b : Nat} {p0 : Int32} {σ : qH} {o : Int32} (h : FX2_hasMeasure b p0 σ = some o) : ∃ fs : List Value, True ∧ σ b = some (.inr (2, fs)) := by
  unfold FX2_hasMeasure at h
  obtain ⟨_, h1, _⟩ := b1_inv h
  obtain ⟨fs, h2⟩ := gC_inv h1
  exact ⟨fs, trivial, h2⟩
set_option maxHeartbeats 4000000 in
set_option maxRecDepth 100000 in
theorem mX2_hasMeasure {l : Launch} {G : qG} (hst : l.stackTraces = false) (b : Nat) (p0 : Int32) (σ : qH) (n : Option Nat) (ro : Int32) (hF : FX2_hasMeasure b p0 σ = some ro) : qM l G yX2_hasMeasure cX2_hasMeasure 2 (some .boolean) rmX2_hasMeasure [.ref b, .int p0] σ n (.inl (some (.int ro), σ, n)) := by
  refine q_body (own := RX2) (nm := "hasMeasure") (ls := [(0, .ref b), (1, .int p0)]) hst (by decide +kernel) rfl rfl (Nat.le_of_ble_eq_true rfl) rfl rfl rfl ?_
  unfold FX2_hasMeasure at hF
  obtain ⟨_, hC, hF⟩ := b1_inv hF
  refine x_iconst 1 (0 : Int32) dX2_hasMeasure_0 rfl (by decide) ?_
  refine x_iload_n 2 1 dX2_hasMeasure_1 rfl rfl ?_
  obtain ⟨x1, h4, hF⟩ := b1_inv hF
  have hJ : qX l G RX2 "hasMeasure" cX2_hasMeasure 2 (some .boolean) [] rmX2_hasMeasure 0 0 (.inl (some (.int ro), σ, n)) 0 0 σ n 18 [] [.int x1] := by
    obtain ⟨hz, hF⟩ := ite_none hF
    cases hF
    exact x_zret rfl (by rcases hz with h | h <;> rw [h] <;> rfl) rfl (by decide) (by decide) dX2_hasMeasure_18
  have hF := h4
  rcases ite_inv hF with ⟨hc, hF⟩ | ⟨hc, hF⟩
  · refine x_icmp_gt 17 5 dX2_hasMeasure_2 (by decide) rfl (fun _ => ?_) (fun q => absurd hc q)
    refine x_iconst 18 (0 : Int32) dX2_hasMeasure_17 rfl (by decide) ?_
    have e1 := Option.some.inj hF
    subst e1
    refine x_sub [] [] rfl ?_
    exact hJ
  · refine x_icmp_gt 17 5 dX2_hasMeasure_2 (by decide) rfl (fun q => absurd q hc) (fun _ => ?_)
    refine x_iload_n 6 1 dX2_hasMeasure_5 rfl rfl ?_
    refine x_aload_n 7 0 dX2_hasMeasure_6 rfl rfl ?_
    obtain ⟨v2, h3, hF⟩ := b1_inv hF
    refine x_getI 10 6 inX2 rfl (by decide) wd_60 h3 dX2_hasMeasure_7 rfl ?_
    rcases ite_inv hF with ⟨hc, hF⟩ | ⟨hc, hF⟩
    · refine x_icmp_ge 17 13 dX2_hasMeasure_10 (by decide) rfl (fun _ => ?_) (fun q => absurd hc q)
      refine x_iconst 18 (0 : Int32) dX2_hasMeasure_17 rfl (by decide) ?_
      have e1 := Option.some.inj hF
      subst e1
      refine x_sub [] [] rfl ?_
      exact hJ
    · refine x_icmp_ge 17 13 dX2_hasMeasure_10 (by decide) rfl (fun q => absurd q hc) (fun _ => ?_)
      refine x_iconst 14 (1 : Int32) dX2_hasMeasure_13 rfl (by decide) ?_
      refine x_goto 18 dX2_hasMeasure_14 (by decide) ?_
      have e1 := Option.some.inj hF
      subst e1
      refine x_sub [] [] rfl ?_
      exact hJ
def rmX2_removeMeasure : Room := { frames := 1, cells := 0, slots := 0, locals := 27 }
theorem qyX2_removeMeasure : qY yX2_removeMeasure cX2_removeMeasure 3 (some .int) 1 := ⟨wd_413, wd_18, by decide +kernel, by decide +kernel, by decide +kernel⟩
theorem kX2_removeMeasure {b : Nat} {p0 : Int32} {σ : qH} {o : Int32 × qH} (h : FX2_removeMeasure b p0 σ = some o) : ∃ fs : List Value, True ∧ σ b = some (.inr (2, fs)) := by
  unfold FX2_removeMeasure at h
  obtain ⟨_, h1, _⟩ := b1_inv h
  obtain ⟨fs, h2⟩ := gC_inv h1
  exact ⟨fs, trivial, h2⟩
set_option maxHeartbeats 4000000 in
set_option maxRecDepth 100000 in
theorem mX2_removeMeasure {l : Launch} {G : qG} (hst : l.stackTraces = false) (b : Nat) (p0 : Int32) (σ : qH) (n : Option Nat) (ro : Int32) (so : qH) (hF : FX2_removeMeasure b p0 σ = some (ro, so)) : qM l G yX2_removeMeasure cX2_removeMeasure 3 (some .int) rmX2_removeMeasure [.ref b, .int p0] σ n (.inl (some (.int ro), so, n)) := by
  refine q_body (own := RX2) (nm := "removeMeasure") (ls := [(0, .ref b), (1, .int p0)]) hst (by decide +kernel) rfl rfl (Nat.le_of_ble_eq_true rfl) rfl rfl rfl ?_
  unfold FX2_removeMeasure at hF
  obtain ⟨_, hC, hF⟩ := b1_inv hF
  refine x_aload_n 1 0 dX2_removeMeasure_0 rfl rfl ?_
  obtain ⟨v1, h2, hF⟩ := b1_inv hF
  refine x_getI 4 6 inX2 rfl (by decide) wd_60 h2 dX2_removeMeasure_1 rfl ?_
  refine x_iconst 5 (1 : Int32) dX2_removeMeasure_4 rfl (by decide) ?_
  refine x_isub 6 dX2_removeMeasure_5 rfl ?_
  refine x_iload_n 7 1 dX2_removeMeasure_6 rfl rfl ?_
  refine x_isub 8 dX2_removeMeasure_7 rfl ?_
  refine x_istore_n 9 2 [(2, .int ((v1 - (1 : Int32)) - p0)), (0, .ref b), (1, .int p0)] dX2_removeMeasure_8 rfl rfl (by decide) rfl ?_
  refine x_aload_n 10 1 dX2_removeMeasure_9 rfl rfl ?_
  obtain ⟨r3, h4, hF⟩ := b1_inv hF
  refine x_getR 13 0 inX2 rfl (by decide) wd_54 h4 dX2_removeMeasure_10 rfl ?_
  refine x_iload_n 14 2 dX2_removeMeasure_13 rfl rfl ?_
  refine x_iconst 15 (1 : Int32) dX2_removeMeasure_14 rfl (by decide) ?_
  refine x_iadd 16 dX2_removeMeasure_15 rfl ?_
  refine x_bipush 18 (9 : Int32) dX2_removeMeasure_16 rfl (by decide) ?_
  refine x_imul 19 dX2_removeMeasure_18 rfl ?_
  refine x_aload_n 20 1 dX2_removeMeasure_19 rfl rfl ?_
  obtain ⟨r5, h6, hF⟩ := b1_inv hF
  refine x_getR 23 0 inX2 rfl (by decide) wd_54 h6 dX2_removeMeasure_20 rfl ?_
  refine x_iload_n 24 2 dX2_removeMeasure_23 rfl rfl ?_
  refine x_bipush 26 (9 : Int32) dX2_removeMeasure_24 rfl (by decide) ?_
  refine x_imul 27 dX2_removeMeasure_26 rfl ?_
  refine x_iload_n 28 0 dX2_removeMeasure_27 rfl rfl ?_
  refine x_bipush 30 (9 : Int32) dX2_removeMeasure_28 rfl (by decide) ?_
  refine x_imul 31 dX2_removeMeasure_30 rfl ?_
  obtain ⟨s7, h8, hF⟩ := b1_inv hF
  refine x_copy 34 rfl wd_414 wd_416 wd_415 wd_29 h8 (by decide) (Nat.le_of_ble_eq_true rfl) dX2_removeMeasure_31 rfl ?_
  refine x_aload_n 35 1 dX2_removeMeasure_34 rfl rfl ?_
  refine x_dup 36 rfl dX2_removeMeasure_35 rfl ?_
  obtain ⟨v9, h10, hF⟩ := b1_inv hF
  refine x_getI 39 6 inX2 rfl (by decide) wd_60 h10 dX2_removeMeasure_36 rfl ?_
  refine x_iconst 40 (1 : Int32) dX2_removeMeasure_39 rfl (by decide) ?_
  refine x_isub 41 dX2_removeMeasure_40 rfl ?_
  obtain ⟨s11, h12, hF⟩ := b1_inv hF
  refine x_put 44 6 inX2 tyX2 tyX2_ok nmX2 rfl (by decide) wd_60 rfl (tX2_6) rfl rfl h12 dX2_removeMeasure_41 rfl ?_
  refine x_aload_n 45 1 dX2_removeMeasure_44 rfl rfl ?_
  obtain ⟨v13, h14, hF⟩ := b1_inv hF
  refine x_getI 48 6 inX2 rfl (by decide) wd_60 h14 dX2_removeMeasure_45 rfl ?_
  cases hF
  exact x_iret rfl rfl (by decide) (by decide) dX2_removeMeasure_48
def rmX2_tryDrop : Room := { frames := 2, cells := 0, slots := 0, locals := 49 }
theorem qyX2_tryDrop : qY yX2_tryDrop cX2_tryDrop 2 (some .boolean) 1 := ⟨wd_405, wd_18, by decide +kernel, by decide +kernel, by decide +kernel⟩
theorem kX2_tryDrop {b : Nat} {p0 : Int32} {σ : qH} {o : Int32 × qH} (h : FX2_tryDrop b p0 σ = some o) : ∃ fs : List Value, True ∧ σ b = some (.inr (2, fs)) := by
  unfold FX2_tryDrop at h
  obtain ⟨_, h1, _⟩ := b1_inv h
  obtain ⟨fs, h2⟩ := gC_inv h1
  exact ⟨fs, trivial, h2⟩
set_option maxHeartbeats 4000000 in
set_option maxRecDepth 100000 in
theorem mX2_tryDrop {l : Launch} {G : qG} (hst : l.stackTraces = false) (b : Nat) (p0 : Int32) (σ : qH) (n : Option Nat) (ro : Int32) (so : qH) (hF : FX2_tryDrop b p0 σ = some (ro, so)) : qM l G yX2_tryDrop cX2_tryDrop 2 (some .boolean) rmX2_tryDrop [.ref b, .int p0] σ n (.inl (some (.int ro), so, n)) := by
  refine q_body (own := RX2) (nm := "tryDrop") (ls := [(0, .ref b), (1, .int p0)]) hst (by decide +kernel) rfl rfl (Nat.le_of_ble_eq_true rfl) rfl rfl rfl ?_
  unfold FX2_tryDrop at hF
  obtain ⟨_, hC, hF⟩ := b1_inv hF
  refine x_aload_n 1 0 dX2_tryDrop_0 rfl rfl ?_
  refine x_iload_n 2 1 dX2_tryDrop_1 rfl rfl ?_
  obtain ⟨v2, h1, hF⟩ := b1_inv hF
  obtain ⟨fs, hb⟩ : ∃ fs : List Value, True ∧ σ b = some (.inr (2, fs)) := kX2_hasMeasure h1
  refine x_callV (As := [.int p0]) (rest := []) 5 0 0 (mX2_hasMeasure hst b p0 σ n v2 h1) qyX2_hasMeasure wd_406 wd_407 wd_408 hb.2 rfl rfl rfl (by decide) (Nat.le_of_ble_eq_true rfl) (by decide) dX2_tryDrop_2 rfl rfl rfl rfl ?_
  rcases ite_inv hF with ⟨hc, hF⟩ | ⟨hc, hF⟩
  · refine x_if_ne 10 8 dX2_tryDrop_5 (by decide) rfl (fun q => absurd hc q) (fun _ => ?_)
    refine x_iconst 9 (0 : Int32) dX2_tryDrop_8 rfl (by decide) ?_
    cases hF
    exact x_zret rfl rfl rfl (by decide) (by decide) dX2_tryDrop_9
  · refine x_if_ne 10 8 dX2_tryDrop_5 (by decide) rfl (fun _ => ?_) (fun q => absurd q hc)
    refine x_aload_n 11 0 dX2_tryDrop_10 rfl rfl ?_
    refine x_iload_n 12 1 dX2_tryDrop_11 rfl rfl ?_
    obtain ⟨v4, s5, h3, hF⟩ := b2_inv hF
    obtain ⟨fs, hb⟩ : ∃ fs : List Value, True ∧ σ b = some (.inr (2, fs)) := kX2_removeMeasure h3
    refine x_callV (As := [.int p0]) (rest := []) 15 0 0 (mX2_removeMeasure hst b p0 σ n v4 s5 h3) qyX2_removeMeasure wd_410 wd_411 wd_412 hb.2 rfl rfl rfl (by decide) (Nat.le_of_ble_eq_true rfl) (by decide) dX2_tryDrop_12 rfl rfl rfl rfl ?_
    refine x_pop 16 rfl dX2_tryDrop_15 rfl ?_
    refine x_iconst 17 (1 : Int32) dX2_tryDrop_16 rfl (by decide) ?_
    cases hF
    exact x_zret rfl rfl rfl (by decide) (by decide) dX2_tryDrop_17
def rmX2_isTrust : Room := { frames := 0, cells := 0, slots := 0, locals := 0 }
theorem qyX2_isTrust : qY yX2_isTrust cX2_isTrust 1 (some .boolean) 1 := ⟨wd_423, wd_18, by decide +kernel, by decide +kernel, by decide +kernel⟩
set_option maxHeartbeats 4000000 in
set_option maxRecDepth 100000 in
theorem mX2_isTrust {l : Launch} {G : qG} (hst : l.stackTraces = false) (p0 : Int32) (σ : qH) (n : Option Nat) (ro : Int32) (hF : FX2_isTrust p0 σ = some ro) : qM l G yX2_isTrust cX2_isTrust 1 (some .boolean) rmX2_isTrust [.int p0] σ n (.inl (some (.int ro), σ, n)) := by
  refine q_body (own := RX2) (nm := "isTrust") (ls := [(0, .int p0)]) hst (by decide +kernel) rfl rfl (Nat.le_of_ble_eq_true rfl) rfl rfl rfl ?_
  unfold FX2_isTrust at hF
  refine x_iconst 1 (0 : Int32) dX2_isTrust_0 rfl (by decide) ?_
  refine x_iload_n 2 0 dX2_isTrust_1 rfl rfl ?_
  obtain ⟨x1, h2, hF⟩ := b1_inv hF
  have hJ : qX l G RX2 "isTrust" cX2_isTrust 1 (some .boolean) [] rmX2_isTrust 0 0 (.inl (some (.int ro), σ, n)) 0 0 σ n 16 [] [.int x1] := by
    obtain ⟨hz, hF⟩ := ite_none hF
    cases hF
    exact x_zret rfl (by rcases hz with h | h <;> rw [h] <;> rfl) rfl (by decide) (by decide) dX2_isTrust_16
  have hF := h2
  rcases ite_inv hF with ⟨hc, hF⟩ | ⟨hc, hF⟩
  · refine x_icmp_gt 15 5 dX2_isTrust_2 (by decide) rfl (fun _ => ?_) (fun q => absurd hc q)
    refine x_iconst 16 (0 : Int32) dX2_isTrust_15 rfl (by decide) ?_
    have e1 := Option.some.inj hF
    subst e1
    refine x_sub [] [] rfl ?_
    exact hJ
  · refine x_icmp_gt 15 5 dX2_isTrust_2 (by decide) rfl (fun q => absurd q hc) (fun _ => ?_)
    refine x_iload_n 6 0 dX2_isTrust_5 rfl rfl ?_
    refine x_bipush 8 (9 : Int32) dX2_isTrust_6 rfl (by decide) ?_
    rcases ite_inv hF with ⟨hc, hF⟩ | ⟨hc, hF⟩
    · refine x_icmp_gt 15 11 dX2_isTrust_8 (by decide) rfl (fun _ => ?_) (fun q => absurd hc q)
      refine x_iconst 16 (0 : Int32) dX2_isTrust_15 rfl (by decide) ?_
      have e1 := Option.some.inj hF
      subst e1
      refine x_sub [] [] rfl ?_
      exact hJ
    · refine x_icmp_gt 15 11 dX2_isTrust_8 (by decide) rfl (fun q => absurd q hc) (fun _ => ?_)
      refine x_iconst 12 (1 : Int32) dX2_isTrust_11 rfl (by decide) ?_
      refine x_goto 16 dX2_isTrust_12 (by decide) ?_
      have e1 := Option.some.inj hF
      subst e1
      refine x_sub [] [] rfl ?_
      exact hJ
def rmX2_changeTrust : Room := { frames := 0, cells := 0, slots := 0, locals := 0 }
theorem qyX2_changeTrust : qY yX2_changeTrust cX2_changeTrust 4 (some .int) 2 := ⟨wd_427, wd_18, by decide +kernel, by decide +kernel, by decide +kernel⟩
theorem kX2_changeTrust {b : Nat} {p0 : Int32} {p1 : Int32} {σ : qH} {o : Int32 × qH} (h : FX2_changeTrust b p0 p1 σ = some o) : ∃ fs : List Value, True ∧ σ b = some (.inr (2, fs)) := by
  unfold FX2_changeTrust at h
  obtain ⟨_, h1, _⟩ := b1_inv h
  obtain ⟨fs, h2⟩ := gC_inv h1
  exact ⟨fs, trivial, h2⟩
set_option maxHeartbeats 4000000 in
set_option maxRecDepth 100000 in
theorem mX2_changeTrust {l : Launch} {G : qG} (hst : l.stackTraces = false) (b : Nat) (p0 : Int32) (p1 : Int32) (σ : qH) (n : Option Nat) (ro : Int32) (so : qH) (hF : FX2_changeTrust b p0 p1 σ = some (ro, so)) : qM l G yX2_changeTrust cX2_changeTrust 4 (some .int) rmX2_changeTrust [.ref b, .int p0, .int p1] σ n (.inl (some (.int ro), so, n)) := by
  refine q_body (own := RX2) (nm := "changeTrust") (ls := [(0, .ref b), (1, .int p0), (2, .int p1)]) hst (by decide +kernel) rfl rfl (Nat.le_of_ble_eq_true rfl) rfl rfl rfl ?_
  unfold FX2_changeTrust at hF
  obtain ⟨_, hC, hF⟩ := b1_inv hF
  refine x_aload_n 1 0 dX2_changeTrust_0 rfl rfl ?_
  obtain ⟨r1, h2, hF⟩ := b1_inv hF
  refine x_getR 4 1 inX2 rfl (by decide) wd_55 h2 dX2_changeTrust_1 rfl ?_
  refine x_iload_n 5 1 dX2_changeTrust_4 rfl rfl ?_
  obtain ⟨v3, h4, hF⟩ := b1_inv hF
  refine x_aI 6 h4 dX2_changeTrust_5 rfl ?_
  refine x_istore_n 7 3 [(3, .int v3), (0, .ref b), (1, .int p0), (2, .int p1)] dX2_changeTrust_6 rfl rfl (by decide) rfl ?_
  refine x_aload_n 8 1 dX2_changeTrust_7 rfl rfl ?_
  obtain ⟨r5, h6, hF⟩ := b1_inv hF
  refine x_getR 11 1 inX2 rfl (by decide) wd_55 h6 dX2_changeTrust_8 rfl ?_
  refine x_iload_n 12 2 dX2_changeTrust_11 rfl rfl ?_
  refine x_iload_n 13 3 dX2_changeTrust_12 rfl rfl ?_
  obtain ⟨s7, h8, hF⟩ := b1_inv hF
  refine x_sI 14 h8 dX2_changeTrust_13 rfl ?_
  refine x_iload_n 15 0 dX2_changeTrust_14 rfl rfl ?_
  cases hF
  exact x_iret rfl rfl (by decide) (by decide) dX2_changeTrust_15
def rmX2_tryTrust : Room := { frames := 1, cells := 0, slots := 0, locals := 23 }
theorem qyX2_tryTrust : qY yX2_tryTrust cX2_tryTrust 3 (some .boolean) 2 := ⟨wd_420, wd_18, by decide +kernel, by decide +kernel, by decide +kernel⟩
theorem kX2_tryTrust {b : Nat} {p0 : Int32} {p1 : Int32} {σ : qH} {o : Int32 × qH} (h : FX2_tryTrust b p0 p1 σ = some o) : ∃ fs : List Value, True ∧ σ b = some (.inr (2, fs)) := by
  unfold FX2_tryTrust at h
  obtain ⟨_, h1, _⟩ := b1_inv h
  obtain ⟨fs, h2⟩ := gC_inv h1
  exact ⟨fs, trivial, h2⟩
set_option maxHeartbeats 4000000 in
set_option maxRecDepth 100000 in
theorem mX2_tryTrust {l : Launch} {G : qG} (hst : l.stackTraces = false) (b : Nat) (p0 : Int32) (p1 : Int32) (σ : qH) (n : Option Nat) (ro : Int32) (so : qH) (hF : FX2_tryTrust b p0 p1 σ = some (ro, so)) : qM l G yX2_tryTrust cX2_tryTrust 3 (some .boolean) rmX2_tryTrust [.ref b, .int p0, .int p1] σ n (.inl (some (.int ro), so, n)) := by
  refine q_body (own := RX2) (nm := "tryTrust") (ls := [(0, .ref b), (1, .int p0), (2, .int p1)]) hst (by decide +kernel) rfl rfl (Nat.le_of_ble_eq_true rfl) rfl rfl rfl ?_
  unfold FX2_tryTrust at hF
  obtain ⟨_, hC, hF⟩ := b1_inv hF
  refine x_iload_n 1 1 dX2_tryTrust_0 rfl rfl ?_
  obtain ⟨v2, h1, hF⟩ := b1_inv hF
  refine x_callS (As := [.int p0]) (rest := []) 4 0 0 (mX2_isTeller hst p0 σ n v2 h1) qyX2_isTeller wd_364 wd_365 rfl rfl (by decide) (Nat.le_of_ble_eq_true rfl) (by decide) dX2_tryTrust_1 rfl rfl rfl rfl ?_
  rcases ite_inv hF with ⟨hc, hF⟩ | ⟨hc, hF⟩
  · refine x_if_eq 14 7 dX2_tryTrust_4 (by decide) rfl (fun _ => ?_) (fun q => absurd hc q)
    refine x_iconst 15 (0 : Int32) dX2_tryTrust_14 rfl (by decide) ?_
    cases hF
    exact x_zret rfl rfl rfl (by decide) (by decide) dX2_tryTrust_15
  · refine x_if_eq 14 7 dX2_tryTrust_4 (by decide) rfl (fun q => absurd q hc) (fun _ => ?_)
    refine x_iload_n 8 2 dX2_tryTrust_7 rfl rfl ?_
    obtain ⟨v4, h3, hF⟩ := b1_inv hF
    refine x_callS (As := [.int p1]) (rest := []) 11 0 0 (mX2_isTrust hst p1 σ n v4 h3) qyX2_isTrust wd_421 wd_422 rfl rfl (by decide) (Nat.le_of_ble_eq_true rfl) (by decide) dX2_tryTrust_8 rfl rfl rfl rfl ?_
    rcases ite_inv hF with ⟨hc, hF⟩ | ⟨hc, hF⟩
    · refine x_if_ne 16 14 dX2_tryTrust_11 (by decide) rfl (fun q => absurd hc q) (fun _ => ?_)
      refine x_iconst 15 (0 : Int32) dX2_tryTrust_14 rfl (by decide) ?_
      cases hF
      exact x_zret rfl rfl rfl (by decide) (by decide) dX2_tryTrust_15
    · refine x_if_ne 16 14 dX2_tryTrust_11 (by decide) rfl (fun _ => ?_) (fun q => absurd q hc)
      refine x_aload_n 17 0 dX2_tryTrust_16 rfl rfl ?_
      refine x_iload_n 18 1 dX2_tryTrust_17 rfl rfl ?_
      refine x_iload_n 19 2 dX2_tryTrust_18 rfl rfl ?_
      obtain ⟨v6, s7, h5, hF⟩ := b2_inv hF
      obtain ⟨fs, hb⟩ : ∃ fs : List Value, True ∧ σ b = some (.inr (2, fs)) := kX2_changeTrust h5
      refine x_callV (As := [.int p0, .int p1]) (rest := []) 22 0 0 (mX2_changeTrust hst b p0 p1 σ n v6 s7 h5) qyX2_changeTrust wd_424 wd_425 wd_426 hb.2 rfl rfl rfl (by decide) (Nat.le_of_ble_eq_true rfl) (by decide) dX2_tryTrust_19 rfl rfl rfl rfl ?_
      refine x_pop 23 rfl dX2_tryTrust_22 rfl ?_
      refine x_iconst 24 (1 : Int32) dX2_tryTrust_23 rfl (by decide) ?_
      cases hF
      exact x_zret rfl rfl rfl (by decide) (by decide) dX2_tryTrust_24
def rmX2_number : Room := { frames := 0, cells := 0, slots := 0, locals := 0 }
theorem qyX2_number : qY yX2_number cX2_number 3 (some .int) 2 := ⟨wd_439, wd_18, by decide +kernel, by decide +kernel, by decide +kernel⟩
theorem kX2_number {b : Nat} {p0 : Int32} {p1 : Int32} {σ : qH} {o : Int32} (h : FX2_number b p0 p1 σ = some o) : ∃ fs : List Value, True ∧ σ b = some (.inr (2, fs)) := by
  unfold FX2_number at h
  obtain ⟨_, h1, _⟩ := b1_inv h
  obtain ⟨fs, h2⟩ := gC_inv h1
  exact ⟨fs, trivial, h2⟩
set_option maxHeartbeats 4000000 in
set_option maxRecDepth 100000 in
theorem mX2_number {l : Launch} {G : qG} (hst : l.stackTraces = false) (b : Nat) (p0 : Int32) (p1 : Int32) (σ : qH) (n : Option Nat) (ro : Int32) (hF : FX2_number b p0 p1 σ = some ro) : qM l G yX2_number cX2_number 3 (some .int) rmX2_number [.ref b, .int p0, .int p1] σ n (.inl (some (.int ro), σ, n)) := by
  refine q_body (own := RX2) (nm := "number") (ls := [(0, .ref b), (1, .int p0), (2, .int p1)]) hst (by decide +kernel) rfl rfl (Nat.le_of_ble_eq_true rfl) rfl rfl rfl ?_
  unfold FX2_number at hF
  obtain ⟨_, hC, hF⟩ := b1_inv hF
  refine x_aload_n 1 0 dX2_number_0 rfl rfl ?_
  obtain ⟨r1, h2, hF⟩ := b1_inv hF
  refine x_getR 4 0 inX2 rfl (by decide) wd_54 h2 dX2_number_1 rfl ?_
  refine x_iload_n 5 1 dX2_number_4 rfl rfl ?_
  refine x_bipush 7 (9 : Int32) dX2_number_5 rfl (by decide) ?_
  refine x_imul 8 dX2_number_7 rfl ?_
  refine x_iload_n 9 2 dX2_number_8 rfl rfl ?_
  refine x_iadd 10 dX2_number_9 rfl ?_
  obtain ⟨v3, h4, hF⟩ := b1_inv hF
  refine x_aI 11 h4 dX2_number_10 rfl ?_
  cases hF
  exact x_iret rfl rfl (by decide) (by decide) dX2_number_11
def rmX2_feetApart : Room := { frames := 1, cells := 0, slots := 0, locals := 22 }
theorem qyX2_feetApart : qY yX2_feetApart cX2_feetApart 5 (some .int) 2 := ⟨wd_443, wd_18, by decide +kernel, by decide +kernel, by decide +kernel⟩
theorem kX2_feetApart {b : Nat} {p0 : Int32} {p1 : Int32} {σ : qH} {o : Int32} (h : FX2_feetApart b p0 p1 σ = some o) : ∃ fs : List Value, True ∧ σ b = some (.inr (2, fs)) := by
  unfold FX2_feetApart at h
  obtain ⟨_, h1, _⟩ := b1_inv h
  obtain ⟨fs, h2⟩ := gC_inv h1
  exact ⟨fs, trivial, h2⟩
set_option maxHeartbeats 4000000 in
set_option maxRecDepth 100000 in
theorem mX2_feetApart {l : Launch} {G : qG} (hst : l.stackTraces = false) (b : Nat) (p0 : Int32) (p1 : Int32) (σ : qH) (n : Option Nat) (ro : Int32) (hF : FX2_feetApart b p0 p1 σ = some ro) : qM l G yX2_feetApart cX2_feetApart 5 (some .int) rmX2_feetApart [.ref b, .int p0, .int p1] σ n (.inl (some (.int ro), σ, n)) := by
  refine q_body (own := RX2) (nm := "feetApart") (ls := [(0, .ref b), (1, .int p0), (2, .int p1)]) hst (by decide +kernel) rfl rfl (Nat.le_of_ble_eq_true rfl) rfl rfl rfl ?_
  unfold FX2_feetApart at hF
  obtain ⟨_, hC, hF⟩ := b1_inv hF
  refine x_aload_n 1 0 dX2_feetApart_0 rfl rfl ?_
  refine x_iload_n 2 1 dX2_feetApart_1 rfl rfl ?_
  refine x_iconst 3 (0 : Int32) dX2_feetApart_2 rfl (by decide) ?_
  obtain ⟨v2, h1, hF⟩ := b1_inv hF
  obtain ⟨fs, hb⟩ : ∃ fs : List Value, True ∧ σ b = some (.inr (2, fs)) := kX2_number h1
  refine x_callV (As := [.int p0, .int (0 : Int32)]) (rest := []) 6 0 0 (mX2_number hst b p0 (0 : Int32) σ n v2 h1) qyX2_number wd_436 wd_437 wd_438 hb.2 rfl rfl rfl (by decide) (Nat.le_of_ble_eq_true rfl) (by decide) dX2_feetApart_3 rfl rfl rfl rfl ?_
  refine x_aload_n 7 0 dX2_feetApart_6 rfl rfl ?_
  refine x_iload_n 8 2 dX2_feetApart_7 rfl rfl ?_
  refine x_iconst 9 (0 : Int32) dX2_feetApart_8 rfl (by decide) ?_
  obtain ⟨v4, h3, hF⟩ := b1_inv hF
  obtain ⟨fs, hb⟩ : ∃ fs : List Value, True ∧ σ b = some (.inr (2, fs)) := kX2_number h3
  refine x_callV (As := [.int p1, .int (0 : Int32)]) (rest := [.int v2]) 12 0 0 (mX2_number hst b p1 (0 : Int32) σ n v4 h3) qyX2_number wd_436 wd_437 wd_438 hb.2 rfl rfl rfl (by decide) (Nat.le_of_ble_eq_true rfl) (by decide) dX2_feetApart_9 rfl rfl rfl rfl ?_
  rcases ite_inv hF with ⟨hc, hF⟩ | ⟨hc, hF⟩
  · refine x_icmp_eq 17 15 dX2_feetApart_12 (by decide) rfl (fun _ => ?_) (fun q => absurd hc q)
    refine x_aload_n 18 0 dX2_feetApart_17 rfl rfl ?_
    refine x_iload_n 19 1 dX2_feetApart_18 rfl rfl ?_
    refine x_bipush 21 (7 : Int32) dX2_feetApart_19 rfl (by decide) ?_
    obtain ⟨v6, h5, hF⟩ := b1_inv hF
    obtain ⟨fs, hb⟩ : ∃ fs : List Value, True ∧ σ b = some (.inr (2, fs)) := kX2_number h5
    refine x_callV (As := [.int p0, .int (7 : Int32)]) (rest := []) 24 0 0 (mX2_number hst b p0 (7 : Int32) σ n v6 h5) qyX2_number wd_436 wd_437 wd_438 hb.2 rfl rfl rfl (by decide) (Nat.le_of_ble_eq_true rfl) (by decide) dX2_feetApart_21 rfl rfl rfl rfl ?_
    refine x_aload_n 25 0 dX2_feetApart_24 rfl rfl ?_
    refine x_iload_n 26 2 dX2_feetApart_25 rfl rfl ?_
    refine x_bipush 28 (8 : Int32) dX2_feetApart_26 rfl (by decide) ?_
    obtain ⟨v8, h7, hF⟩ := b1_inv hF
    obtain ⟨fs, hb⟩ : ∃ fs : List Value, True ∧ σ b = some (.inr (2, fs)) := kX2_number h7
    refine x_callV (As := [.int p1, .int (8 : Int32)]) (rest := [.int v6]) 31 0 0 (mX2_number hst b p1 (8 : Int32) σ n v8 h7) qyX2_number wd_436 wd_437 wd_438 hb.2 rfl rfl rfl (by decide) (Nat.le_of_ble_eq_true rfl) (by decide) dX2_feetApart_28 rfl rfl rfl rfl ?_
    refine x_isub 32 dX2_feetApart_31 rfl ?_
    refine x_istore_n 33 3 [(3, .int (v6 - v8)), (0, .ref b), (1, .int p0), (2, .int p1)] dX2_feetApart_32 rfl rfl (by decide) rfl ?_
    refine x_aload_n 34 1 dX2_feetApart_33 rfl rfl ?_
    refine x_iload_n 35 3 dX2_feetApart_34 rfl rfl ?_
    refine x_bipush 37 (7 : Int32) dX2_feetApart_35 rfl (by decide) ?_
    obtain ⟨v10, h9, hF⟩ := b1_inv hF
    obtain ⟨fs, hb⟩ : ∃ fs : List Value, True ∧ σ b = some (.inr (2, fs)) := kX2_number h9
    refine x_callV (As := [.int p1, .int (7 : Int32)]) (rest := []) 40 0 0 (mX2_number hst b p1 (7 : Int32) σ n v10 h9) qyX2_number wd_436 wd_437 wd_438 hb.2 rfl rfl rfl (by decide) (Nat.le_of_ble_eq_true rfl) (by decide) dX2_feetApart_37 rfl rfl rfl rfl ?_
    refine x_aload_n 41 1 dX2_feetApart_40 rfl rfl ?_
    refine x_iload_n 42 2 dX2_feetApart_41 rfl rfl ?_
    refine x_bipush 44 (8 : Int32) dX2_feetApart_42 rfl (by decide) ?_
    obtain ⟨v12, h11, hF⟩ := b1_inv hF
    obtain ⟨fs, hb⟩ : ∃ fs : List Value, True ∧ σ b = some (.inr (2, fs)) := kX2_number h11
    refine x_callV (As := [.int p0, .int (8 : Int32)]) (rest := [.int v10]) 47 0 0 (mX2_number hst b p0 (8 : Int32) σ n v12 h11) qyX2_number wd_436 wd_437 wd_438 hb.2 rfl rfl rfl (by decide) (Nat.le_of_ble_eq_true rfl) (by decide) dX2_feetApart_44 rfl rfl rfl rfl ?_
    refine x_isub 48 dX2_feetApart_47 rfl ?_
    refine x_istore 50 4 [(4, .int (v10 - v12)), (3, .int (v6 - v8)), (0, .ref b), (1, .int p0), (2, .int p1)] dX2_feetApart_48 rfl (by decide) rfl ?_
    refine x_iconst 51 (0 : Int32) dX2_feetApart_50 rfl (by decide) ?_
    refine x_iload_n 52 1 dX2_feetApart_51 rfl rfl ?_
    refine x_iload 54 0 dX2_feetApart_52 rfl rfl ?_
    obtain ⟨v14, h13, hF⟩ := b1_inv hF
    refine x_callS (As := [.int (v6 - v8), .int (v10 - v12)]) (rest := [.int (0 : Int32)]) 57 0 0 (mJ9_max_7cf53 hst (v6 - v8) (v10 - v12) σ n v14 h13) qyJ9_max_7cf53 wd_396 wd_397 rfl rfl (by decide) (Nat.le_of_ble_eq_true rfl) (by decide) dX2_feetApart_54 rfl rfl rfl rfl ?_
    obtain ⟨v16, h15, hF⟩ := b1_inv hF
    refine x_callS (As := [.int (0 : Int32), .int v14]) (rest := []) 60 0 0 (mJ9_max_7cf53 hst (0 : Int32) v14 σ n v16 h15) qyJ9_max_7cf53 wd_396 wd_397 rfl rfl (by decide) (Nat.le_of_ble_eq_true rfl) (by decide) dX2_feetApart_57 rfl rfl rfl rfl ?_
    cases hF
    exact x_iret rfl rfl (by decide) (by decide) dX2_feetApart_60
  · refine x_icmp_eq 17 15 dX2_feetApart_12 (by decide) rfl (fun q => absurd q hc) (fun _ => ?_)
    refine x_iconst 16 (-1 : Int32) dX2_feetApart_15 rfl (by decide) ?_
    cases hF
    exact x_iret rfl rfl (by decide) (by decide) dX2_feetApart_16
def rmX2_matters : Room := { frames := 2, cells := 0, slots := 0, locals := 46 }
theorem qyX2_matters : qY yX2_matters cX2_matters 3 (some .boolean) 2 := ⟨wd_435, wd_18, by decide +kernel, by decide +kernel, by decide +kernel⟩
theorem kX2_matters {b : Nat} {p0 : Int32} {p1 : Int32} {σ : qH} {o : Int32} (h : FX2_matters b p0 p1 σ = some o) : ∃ fs : List Value, True ∧ σ b = some (.inr (2, fs)) := by
  unfold FX2_matters at h
  obtain ⟨_, h1, _⟩ := b1_inv h
  obtain ⟨fs, h2⟩ := gC_inv h1
  exact ⟨fs, trivial, h2⟩
set_option maxHeartbeats 4000000 in
set_option maxRecDepth 100000 in
theorem mX2_matters {l : Launch} {G : qG} (hst : l.stackTraces = false) (b : Nat) (p0 : Int32) (p1 : Int32) (σ : qH) (n : Option Nat) (ro : Int32) (hF : FX2_matters b p0 p1 σ = some ro) : qM l G yX2_matters cX2_matters 3 (some .boolean) rmX2_matters [.ref b, .int p0, .int p1] σ n (.inl (some (.int ro), σ, n)) := by
  refine q_body (own := RX2) (nm := "matters") (ls := [(0, .ref b), (1, .int p0), (2, .int p1)]) hst (by decide +kernel) rfl rfl (Nat.le_of_ble_eq_true rfl) rfl rfl rfl ?_
  unfold FX2_matters at hF
  obtain ⟨_, hC, hF⟩ := b1_inv hF
  refine x_aload_n 1 0 dX2_matters_0 rfl rfl ?_
  refine x_iload_n 2 1 dX2_matters_1 rfl rfl ?_
  refine x_iconst 3 (1 : Int32) dX2_matters_2 rfl (by decide) ?_
  obtain ⟨v2, h1, hF⟩ := b1_inv hF
  obtain ⟨fs, hb⟩ : ∃ fs : List Value, True ∧ σ b = some (.inr (2, fs)) := kX2_number h1
  refine x_callV (As := [.int p0, .int (1 : Int32)]) (rest := []) 6 0 0 (mX2_number hst b p0 (1 : Int32) σ n v2 h1) qyX2_number wd_436 wd_437 wd_438 hb.2 rfl rfl rfl (by decide) (Nat.le_of_ble_eq_true rfl) (by decide) dX2_matters_3 rfl rfl rfl rfl ?_
  refine x_aload_n 7 0 dX2_matters_6 rfl rfl ?_
  refine x_iload_n 8 2 dX2_matters_7 rfl rfl ?_
  refine x_iconst 9 (1 : Int32) dX2_matters_8 rfl (by decide) ?_
  obtain ⟨v4, h3, hF⟩ := b1_inv hF
  obtain ⟨fs, hb⟩ : ∃ fs : List Value, True ∧ σ b = some (.inr (2, fs)) := kX2_number h3
  refine x_callV (As := [.int p1, .int (1 : Int32)]) (rest := [.int v2]) 12 0 0 (mX2_number hst b p1 (1 : Int32) σ n v4 h3) qyX2_number wd_436 wd_437 wd_438 hb.2 rfl rfl rfl (by decide) (Nat.le_of_ble_eq_true rfl) (by decide) dX2_matters_9 rfl rfl rfl rfl ?_
  obtain ⟨x5, h12, hF⟩ := b1_inv hF
  have hJ : qX l G RX2 "matters" cX2_matters 3 (some .boolean) [] rmX2_matters 0 0 (.inl (some (.int ro), σ, n)) 0 0 σ n 35 [] [.int x5] := by
    obtain ⟨hz, hF⟩ := ite_none hF
    cases hF
    exact x_zret rfl (by rcases hz with h | h <;> rw [h] <;> rfl) rfl (by decide) (by decide) dX2_matters_35
  have hF := h12
  rcases ite_inv hF with ⟨hc, hF⟩ | ⟨hc, hF⟩
  · refine x_icmp_eq 34 15 dX2_matters_12 (by decide) rfl (fun _ => ?_) (fun q => absurd hc q)
    refine x_iconst 35 (0 : Int32) dX2_matters_34 rfl (by decide) ?_
    have e1 := Option.some.inj hF
    subst e1
    refine x_sub [] [] rfl ?_
    exact hJ
  · refine x_icmp_eq 34 15 dX2_matters_12 (by decide) rfl (fun q => absurd q hc) (fun _ => ?_)
    refine x_aload_n 16 0 dX2_matters_15 rfl rfl ?_
    refine x_iload_n 17 1 dX2_matters_16 rfl rfl ?_
    refine x_iload_n 18 2 dX2_matters_17 rfl rfl ?_
    obtain ⟨v7, h6, hF⟩ := b1_inv hF
    obtain ⟨fs, hb⟩ : ∃ fs : List Value, True ∧ σ b = some (.inr (2, fs)) := kX2_feetApart h6
    refine x_callV (As := [.int p0, .int p1]) (rest := []) 21 0 0 (mX2_feetApart hst b p0 p1 σ n v7 h6) qyX2_feetApart wd_440 wd_441 wd_442 hb.2 rfl rfl rfl (by decide) (Nat.le_of_ble_eq_true rfl) (by decide) dX2_matters_18 rfl rfl rfl rfl ?_
    refine x_aload_n 22 0 dX2_matters_21 rfl rfl ?_
    obtain ⟨r8, h9, hF⟩ := b1_inv hF
    refine x_getR 25 5 inX2 rfl (by decide) wd_59 h9 dX2_matters_22 rfl ?_
    refine x_iconst 26 (1 : Int32) dX2_matters_25 rfl (by decide) ?_
    obtain ⟨v10, h11, hF⟩ := b1_inv hF
    refine x_aI 27 h11 dX2_matters_26 rfl ?_
    rcases ite_inv hF with ⟨hc, hF⟩ | ⟨hc, hF⟩
    · refine x_icmp_le 34 30 dX2_matters_27 (by decide) rfl (fun _ => ?_) (fun q => absurd hc q)
      refine x_iconst 35 (0 : Int32) dX2_matters_34 rfl (by decide) ?_
      have e1 := Option.some.inj hF
      subst e1
      refine x_sub [] [] rfl ?_
      exact hJ
    · refine x_icmp_le 34 30 dX2_matters_27 (by decide) rfl (fun q => absurd q hc) (fun _ => ?_)
      refine x_iconst 31 (1 : Int32) dX2_matters_30 rfl (by decide) ?_
      refine x_goto 35 dX2_matters_31 (by decide) ?_
      have e1 := Option.some.inj hF
      subst e1
      refine x_sub [] [] rfl ?_
      exact hJ
def rmX2_weight : Room := { frames := 1, cells := 0, slots := 0, locals := 22 }
theorem qyX2_weight : qY yX2_weight cX2_weight 2 (some .int) 1 := ⟨wd_451, wd_18, by decide +kernel, by decide +kernel, by decide +kernel⟩
theorem kX2_weight {b : Nat} {p0 : Int32} {σ : qH} {o : Int32} (h : FX2_weight b p0 σ = some o) : ∃ fs : List Value, True ∧ σ b = some (.inr (2, fs)) := by
  unfold FX2_weight at h
  obtain ⟨_, h1, _⟩ := b1_inv h
  obtain ⟨fs, h2⟩ := gC_inv h1
  exact ⟨fs, trivial, h2⟩
set_option maxHeartbeats 4000000 in
set_option maxRecDepth 100000 in
theorem mX2_weight {l : Launch} {G : qG} (hst : l.stackTraces = false) (b : Nat) (p0 : Int32) (σ : qH) (n : Option Nat) (ro : Int32) (hF : FX2_weight b p0 σ = some ro) : qM l G yX2_weight cX2_weight 2 (some .int) rmX2_weight [.ref b, .int p0] σ n (.inl (some (.int ro), σ, n)) := by
  refine q_body (own := RX2) (nm := "weight") (ls := [(0, .ref b), (1, .int p0)]) hst (by decide +kernel) rfl rfl (Nat.le_of_ble_eq_true rfl) rfl rfl rfl ?_
  unfold FX2_weight at hF
  obtain ⟨_, hC, hF⟩ := b1_inv hF
  refine x_aload_n 1 0 dX2_weight_0 rfl rfl ?_
  obtain ⟨r1, h2, hF⟩ := b1_inv hF
  refine x_getR 4 1 inX2 rfl (by decide) wd_55 h2 dX2_weight_1 rfl ?_
  refine x_aload_n 5 0 dX2_weight_4 rfl rfl ?_
  refine x_iload_n 6 1 dX2_weight_5 rfl rfl ?_
  refine x_iconst 7 (1 : Int32) dX2_weight_6 rfl (by decide) ?_
  obtain ⟨v4, h3, hF⟩ := b1_inv hF
  obtain ⟨fs, hb⟩ : ∃ fs : List Value, True ∧ σ b = some (.inr (2, fs)) := kX2_number h3
  refine x_callV (As := [.int p0, .int (1 : Int32)]) (rest := [.ref r1]) 10 0 0 (mX2_number hst b p0 (1 : Int32) σ n v4 h3) qyX2_number wd_436 wd_437 wd_438 hb.2 rfl rfl rfl (by decide) (Nat.le_of_ble_eq_true rfl) (by decide) dX2_weight_7 rfl rfl rfl rfl ?_
  obtain ⟨v5, h6, hF⟩ := b1_inv hF
  refine x_aI 11 h6 dX2_weight_10 rfl ?_
  refine x_aload_n 12 0 dX2_weight_11 rfl rfl ?_
  refine x_iload_n 13 1 dX2_weight_12 rfl rfl ?_
  refine x_iconst 14 (2 : Int32) dX2_weight_13 rfl (by decide) ?_
  obtain ⟨v8, h7, hF⟩ := b1_inv hF
  obtain ⟨fs, hb⟩ : ∃ fs : List Value, True ∧ σ b = some (.inr (2, fs)) := kX2_number h7
  refine x_callV (As := [.int p0, .int (2 : Int32)]) (rest := [.int v5]) 17 0 0 (mX2_number hst b p0 (2 : Int32) σ n v8 h7) qyX2_number wd_436 wd_437 wd_438 hb.2 rfl rfl rfl (by decide) (Nat.le_of_ble_eq_true rfl) (by decide) dX2_weight_14 rfl rfl rfl rfl ?_
  refine x_iconst 18 (2 : Int32) dX2_weight_17 rfl (by decide) ?_
  obtain ⟨x9, h14, hF⟩ := b1_inv hF
  have hJ : qX l G RX2 "weight" cX2_weight 2 (some .int) [] rmX2_weight 0 0 (.inl (some (.int ro), σ, n)) 0 0 σ n 31 [] [.int x9, .int v5] := by
    refine x_iadd 32 dX2_weight_31 rfl ?_
    cases hF
    exact x_iret rfl rfl (by decide) (by decide) dX2_weight_32
  have hF := h14
  rcases ite_inv hF with ⟨hc, hF⟩ | ⟨hc, hF⟩
  · refine x_icmp_ne 25 21 dX2_weight_18 (by decide) rfl (fun q => absurd hc q) (fun _ => ?_)
    refine x_iconst 22 (0 : Int32) dX2_weight_21 rfl (by decide) ?_
    refine x_goto 31 dX2_weight_22 (by decide) ?_
    have e1 := Option.some.inj hF
    subst e1
    refine x_sub [] [] rfl ?_
    exact hJ
  · refine x_icmp_ne 25 21 dX2_weight_18 (by decide) rfl (fun _ => ?_) (fun q => absurd q hc)
    refine x_aload_n 26 0 dX2_weight_25 rfl rfl ?_
    obtain ⟨r10, h11, hF⟩ := b1_inv hF
    refine x_getR 29 5 inX2 rfl (by decide) wd_59 h11 dX2_weight_26 rfl ?_
    refine x_iconst 30 (0 : Int32) dX2_weight_29 rfl (by decide) ?_
    obtain ⟨v12, h13, hF⟩ := b1_inv hF
    refine x_aI 31 h13 dX2_weight_30 rfl ?_
    have e1 := Option.some.inj hF
    subst e1
    refine x_sub [] [] rfl ?_
    exact hJ
def rmX2_shameLighter : Room := { frames := 2, cells := 0, slots := 0, locals := 43 }
theorem qyX2_shameLighter : qY yX2_shameLighter cX2_shameLighter 5 (none) 2 := ⟨wd_447, wd_18, by decide +kernel, by decide +kernel, by decide +kernel⟩
theorem kX2_shameLighter {b : Nat} {p0 : Int32} {p1 : Int32} {σ : qH} {o : qH} (h : FX2_shameLighter b p0 p1 σ = some o) : ∃ fs : List Value, True ∧ σ b = some (.inr (2, fs)) := by
  unfold FX2_shameLighter at h
  obtain ⟨_, h1, _⟩ := b1_inv h
  obtain ⟨fs, h2⟩ := gC_inv h1
  exact ⟨fs, trivial, h2⟩
set_option maxHeartbeats 4000000 in
set_option maxRecDepth 100000 in
theorem mX2_shameLighter {l : Launch} {G : qG} (hst : l.stackTraces = false) (b : Nat) (p0 : Int32) (p1 : Int32) (σ : qH) (n : Option Nat) (so : qH) (hF : FX2_shameLighter b p0 p1 σ = some so) : qM l G yX2_shameLighter cX2_shameLighter 5 (none) rmX2_shameLighter [.ref b, .int p0, .int p1] σ n (.inl (none, so, n)) := by
  refine q_body (own := RX2) (nm := "shameLighter") (ls := [(0, .ref b), (1, .int p0), (2, .int p1)]) hst (by decide +kernel) rfl rfl (Nat.le_of_ble_eq_true rfl) rfl rfl rfl ?_
  unfold FX2_shameLighter at hF
  obtain ⟨_, hC, hF⟩ := b1_inv hF
  refine x_aload_n 1 0 dX2_shameLighter_0 rfl rfl ?_
  refine x_iload_n 2 1 dX2_shameLighter_1 rfl rfl ?_
  obtain ⟨v2, h1, hF⟩ := b1_inv hF
  obtain ⟨fs, hb⟩ : ∃ fs : List Value, True ∧ σ b = some (.inr (2, fs)) := kX2_weight h1
  refine x_callV (As := [.int p0]) (rest := []) 5 0 0 (mX2_weight hst b p0 σ n v2 h1) qyX2_weight wd_448 wd_449 wd_450 hb.2 rfl rfl rfl (by decide) (Nat.le_of_ble_eq_true rfl) (by decide) dX2_shameLighter_2 rfl rfl rfl rfl ?_
  refine x_aload_n 6 0 dX2_shameLighter_5 rfl rfl ?_
  refine x_iload_n 7 2 dX2_shameLighter_6 rfl rfl ?_
  obtain ⟨v4, h3, hF⟩ := b1_inv hF
  obtain ⟨fs, hb⟩ : ∃ fs : List Value, True ∧ σ b = some (.inr (2, fs)) := kX2_weight h3
  refine x_callV (As := [.int p1]) (rest := [.int v2]) 10 0 0 (mX2_weight hst b p1 σ n v4 h3) qyX2_weight wd_448 wd_449 wd_450 hb.2 rfl rfl rfl (by decide) (Nat.le_of_ble_eq_true rfl) (by decide) dX2_shameLighter_7 rfl rfl rfl rfl ?_
  refine x_isub 11 dX2_shameLighter_10 rfl ?_
  refine x_istore_n 12 3 [(3, .int (v2 - v4)), (0, .ref b), (1, .int p0), (2, .int p1)] dX2_shameLighter_11 rfl rfl (by decide) rfl ?_
  refine x_iload_n 13 0 dX2_shameLighter_12 rfl rfl ?_
  obtain ⟨s5, h24, hF⟩ := b1_inv hF
  have hJ : qX l G RX2 "shameLighter" cX2_shameLighter 5 (none) [] rmX2_shameLighter 0 0 (.inl (none, so, n)) 0 0 s5 n 63 [] [] := by
    cases hF
    exact x_vret rfl rfl (by decide) (by decide) dX2_shameLighter_63
  have hF := h24
  rcases ite_inv hF with ⟨hc, hF⟩ | ⟨hc, hF⟩
  · refine x_if_eq 63 16 dX2_shameLighter_13 (by decide) rfl (fun _ => ?_) (fun q => absurd hc q)
    have e1 := Option.some.inj hF
    subst e1
    refine x_sub [] [] rfl ?_
    exact hJ
  · refine x_if_eq 63 16 dX2_shameLighter_13 (by decide) rfl (fun q => absurd q hc) (fun _ => ?_)
    refine x_aload_n 17 1 dX2_shameLighter_16 rfl rfl ?_
    refine x_iload_n 18 0 dX2_shameLighter_17 rfl rfl ?_
    obtain ⟨x6, h23, hF⟩ := b1_inv hF
    have hJ : qX l G RX2 "shameLighter" cX2_shameLighter 5 (none) [] rmX2_shameLighter 0 0 (.inl (none, so, n)) 0 0 σ n 26 [(0, .ref b)] [.int x6, .ref b] := by
      refine x_iconst 27 (1 : Int32) dX2_shameLighter_26 rfl (by decide) ?_
      obtain ⟨v8, h7, hF⟩ := b1_inv hF
      obtain ⟨fs, hb⟩ : ∃ fs : List Value, True ∧ σ b = some (.inr (2, fs)) := kX2_number h7
      refine x_callV (As := [.int x6, .int (1 : Int32)]) (rest := []) 30 0 0 (mX2_number hst b x6 (1 : Int32) σ n v8 h7) qyX2_number wd_436 wd_437 wd_438 hb.2 rfl rfl rfl (by decide) (Nat.le_of_ble_eq_true rfl) (by decide) dX2_shameLighter_27 rfl rfl rfl rfl ?_
      refine x_istore 32 4 [(4, .int v8), (0, .ref b)] dX2_shameLighter_30 rfl (by decide) rfl ?_
      refine x_aload_n 33 1 dX2_shameLighter_32 rfl rfl ?_
      obtain ⟨r9, h10, hF⟩ := b1_inv hF
      refine x_getR 36 1 inX2 rfl (by decide) wd_55 h10 dX2_shameLighter_33 rfl ?_
      refine x_iload 38 0 dX2_shameLighter_36 rfl rfl ?_
      obtain ⟨v11, h12, hF⟩ := b1_inv hF
      refine x_aI 39 h12 dX2_shameLighter_38 rfl ?_
      rcases ite_inv hF with ⟨hc, hF⟩ | ⟨hc, hF⟩
      · refine x_if_le 63 42 dX2_shameLighter_39 (by decide) rfl (fun _ => ?_) (fun q => absurd hc q)
        have e1 := Option.some.inj hF
        subst e1
        refine x_sub [] [] rfl ?_
        exact hJ
      · refine x_if_le 63 42 dX2_shameLighter_39 (by decide) rfl (fun q => absurd q hc) (fun _ => ?_)
        refine x_aload_n 43 1 dX2_shameLighter_42 rfl rfl ?_
        obtain ⟨r13, h14, hF⟩ := b1_inv hF
        refine x_getR 46 1 inX2 rfl (by decide) wd_55 h14 dX2_shameLighter_43 rfl ?_
        refine x_iload 48 0 dX2_shameLighter_46 rfl rfl ?_
        refine x_dup2 49 rfl rfl dX2_shameLighter_48 rfl ?_
        obtain ⟨v15, h16, hF⟩ := b1_inv hF
        refine x_aI 50 h16 dX2_shameLighter_49 rfl ?_
        refine x_iconst 51 (1 : Int32) dX2_shameLighter_50 rfl (by decide) ?_
        refine x_isub 52 dX2_shameLighter_51 rfl ?_
        obtain ⟨s17, h18, hF⟩ := b1_inv hF
        refine x_sI 53 h18 dX2_shameLighter_52 rfl ?_
        refine x_aload_n 54 1 dX2_shameLighter_53 rfl rfl ?_
        refine x_dup 55 rfl dX2_shameLighter_54 rfl ?_
        obtain ⟨v19, h20, hF⟩ := b1_inv hF
        refine x_getI 58 10 inX2 rfl (by decide) wd_64 h20 dX2_shameLighter_55 rfl ?_
        refine x_iconst 59 (1 : Int32) dX2_shameLighter_58 rfl (by decide) ?_
        refine x_iadd 60 dX2_shameLighter_59 rfl ?_
        obtain ⟨s21, h22, hF⟩ := b1_inv hF
        refine x_put 63 10 inX2 tyX2 tyX2_ok nmX2 rfl (by decide) wd_64 rfl (tX2_10) rfl rfl h22 dX2_shameLighter_60 rfl ?_
        have e1 := Option.some.inj hF
        subst e1
        refine x_sub [] [] rfl ?_
        exact hJ
    have hF := h23
    rcases ite_inv hF with ⟨hc, hF⟩ | ⟨hc, hF⟩
    · refine x_if_ge 25 21 dX2_shameLighter_18 (by decide) rfl (fun _ => ?_) (fun q => absurd hc q)
      refine x_iload_n 26 3 dX2_shameLighter_25 rfl rfl ?_
      have e1 := Option.some.inj hF
      subst e1
      refine x_sub [(0, .ref b)] [1] rfl ?_
      exact hJ
    · refine x_if_ge 25 21 dX2_shameLighter_18 (by decide) rfl (fun q => absurd q hc) (fun _ => ?_)
      refine x_iload_n 22 2 dX2_shameLighter_21 rfl rfl ?_
      refine x_goto 26 dX2_shameLighter_22 (by decide) ?_
      have e1 := Option.some.inj hF
      subst e1
      refine x_sub [(0, .ref b)] [1] rfl ?_
      exact hJ
def rmX2_passEvening : Room := { frames := 3, cells := 0, slots := 0, locals := 68 }
theorem qyX2_passEvening : qY yX2_passEvening cX2_passEvening 4 (some .int) 0 := ⟨wd_431, wd_18, by decide +kernel, by decide +kernel, by decide +kernel⟩
set_option maxHeartbeats 4000000 in
set_option maxRecDepth 100000 in
theorem mX2_passEvening_L19 {l : Launch} {G : qG} (hst : l.stackTraces = false) (a0 : Nat) (a1 : Int32) (a2 : Int32) (n : Option Nat) (r : qR) : ∀ (q : Nat) (y3 : Int32) (σ : qH) (so : qH), FX2_passEvening_L19 a0 a1 a2 q y3 σ = some so → qX l G RX2 "passEvening" cX2_passEvening 4 (some .int) [] rmX2_passEvening 0 0 r 0 0 so n 48 [(0, .ref a0), (1, .int a1), (2, .int a2)] [] → qX l G RX2 "passEvening" cX2_passEvening 4 (some .int) [] rmX2_passEvening 0 0 r 0 0 σ n 19 [(0, .ref a0), (1, .int a1), (2, .int a2), (3, .int y3)] [] := by
  intro q
  induction q with
  | zero => intro y3 σ so hF; rw [FX2_passEvening_L19] at hF; cases hF
  | succ q ih =>
    intro y3 σ so hF hJ
    rw [FX2_passEvening_L19] at hF
    refine x_iload_n 20 3 dX2_passEvening_19 rfl rfl ?_
    refine x_aload_n 21 0 dX2_passEvening_20 rfl rfl ?_
    obtain ⟨v5, h6, hF⟩ := b1_inv hF
    refine x_getI 24 6 inX2 rfl (by decide) wd_60 h6 dX2_passEvening_21 rfl ?_
    rcases ite_inv hF with ⟨hc, hF⟩ | ⟨hc, hF⟩
    · refine x_icmp_ge 48 27 dX2_passEvening_24 (by decide) rfl (fun _ => ?_) (fun q => absurd hc q)
      have e1 := Option.some.inj hF
      subst e1
      refine x_sub [(0, .ref a0), (1, .int a1), (2, .int a2)] [0, 1, 2] rfl ?_
      exact hJ
    · refine x_icmp_ge 48 27 dX2_passEvening_24 (by decide) rfl (fun q => absurd q hc) (fun _ => ?_)
      refine x_aload_n 28 0 dX2_passEvening_27 rfl rfl ?_
      refine x_iload_n 29 2 dX2_passEvening_28 rfl rfl ?_
      refine x_iload_n 30 3 dX2_passEvening_29 rfl rfl ?_
      obtain ⟨v8, h7, hF⟩ := b1_inv hF
      obtain ⟨fs, hb⟩ : ∃ fs : List Value, True ∧ σ a0 = some (.inr (2, fs)) := kX2_matters h7
      refine x_callV (As := [.int a2, .int y3]) (rest := []) 33 0 0 (mX2_matters hst a0 a2 y3 σ n v8 h7) qyX2_matters wd_432 wd_434 wd_5 hb.2 rfl rfl rfl (by decide) (Nat.le_of_ble_eq_true rfl) (by decide) dX2_passEvening_30 rfl rfl rfl rfl ?_
      obtain ⟨s9, h12, hF⟩ := b1_inv hF
      have hJ : qX l G RX2 "passEvening" cX2_passEvening 4 (some .int) [] rmX2_passEvening 0 0 r 0 0 s9 n 42 [(0, .ref a0), (1, .int a1), (2, .int a2), (3, .int y3)] [] := by
        refine x_iinc 45 3 3 (y3 + (1 : Int32)) [(3, .int (y3 + (1 : Int32))), (0, .ref a0), (1, .int a1), (2, .int a2)] dX2_passEvening_42 rfl rfl rfl (by decide) rfl ?_
        refine x_goto 19 dX2_passEvening_45 (by decide) ?_
        refine x_sub [(0, .ref a0), (1, .int a1), (2, .int a2), (3, .int (y3 + (1 : Int32)))] [1, 2, 3, 0] rfl ?_
        exact ih _ _ _ hF hJ
      have hF := h12
      rcases ite_inv hF with ⟨hc, hF⟩ | ⟨hc, hF⟩
      · refine x_if_eq 42 36 dX2_passEvening_33 (by decide) rfl (fun _ => ?_) (fun q => absurd hc q)
        have e1 := Option.some.inj hF
        subst e1
        exact hJ
      · refine x_if_eq 42 36 dX2_passEvening_33 (by decide) rfl (fun q => absurd q hc) (fun _ => ?_)
        refine x_aload_n 37 0 dX2_passEvening_36 rfl rfl ?_
        refine x_iload_n 38 2 dX2_passEvening_37 rfl rfl ?_
        refine x_iload_n 39 3 dX2_passEvening_38 rfl rfl ?_
        obtain ⟨s11, h10, hF⟩ := b1_inv hF
        obtain ⟨fs, hb⟩ : ∃ fs : List Value, True ∧ σ a0 = some (.inr (2, fs)) := kX2_shameLighter h10
        refine x_callV (As := [.int a2, .int y3]) (rest := []) 42 0 0 (mX2_shameLighter hst a0 a2 y3 σ n s11 h10) qyX2_shameLighter wd_444 wd_446 wd_6 hb.2 rfl rfl rfl (by decide) (Nat.le_of_ble_eq_true rfl) (by decide) dX2_passEvening_39 rfl rfl rfl rfl ?_
        have e1 := Option.some.inj hF
        subst e1
        exact hJ
set_option maxHeartbeats 4000000 in
set_option maxRecDepth 100000 in
theorem mX2_passEvening_L7 {l : Launch} {G : qG} (hst : l.stackTraces = false) (a0 : Nat) (a1 : Int32) (n : Option Nat) (r : qR) : ∀ (q : Nat) (y2 : Int32) (σ : qH) (so : qH), FX2_passEvening_L7 a0 a1 q y2 σ = some so → qX l G RX2 "passEvening" cX2_passEvening 4 (some .int) [] rmX2_passEvening 0 0 r 0 0 so n 54 [(0, .ref a0), (1, .int a1)] [] → qX l G RX2 "passEvening" cX2_passEvening 4 (some .int) [] rmX2_passEvening 0 0 r 0 0 σ n 7 [(0, .ref a0), (1, .int a1), (2, .int y2)] [] := by
  intro q
  induction q with
  | zero => intro y2 σ so hF; rw [FX2_passEvening_L7] at hF; cases hF
  | succ q ih =>
    intro y2 σ so hF hJ
    rw [FX2_passEvening_L7] at hF
    refine x_iload_n 8 2 dX2_passEvening_7 rfl rfl ?_
    refine x_aload_n 9 0 dX2_passEvening_8 rfl rfl ?_
    obtain ⟨v3, h4, hF⟩ := b1_inv hF
    refine x_getI 12 6 inX2 rfl (by decide) wd_60 h4 dX2_passEvening_9 rfl ?_
    rcases ite_inv hF with ⟨hc, hF⟩ | ⟨hc, hF⟩
    · refine x_icmp_ge 54 15 dX2_passEvening_12 (by decide) rfl (fun _ => ?_) (fun q => absurd hc q)
      have e1 := Option.some.inj hF
      subst e1
      refine x_sub [(0, .ref a0), (1, .int a1)] [0, 1] rfl ?_
      exact hJ
    · refine x_icmp_ge 54 15 dX2_passEvening_12 (by decide) rfl (fun q => absurd q hc) (fun _ => ?_)
      refine x_iload_n 16 2 dX2_passEvening_15 rfl rfl ?_
      refine x_iconst 17 (1 : Int32) dX2_passEvening_16 rfl (by decide) ?_
      refine x_iadd 18 dX2_passEvening_17 rfl ?_
      refine x_istore_n 19 3 [(3, .int (y2 + (1 : Int32))), (0, .ref a0), (1, .int a1), (2, .int y2)] dX2_passEvening_18 rfl rfl (by decide) rfl ?_
      obtain ⟨s13, h14, hF⟩ := b1_inv hF
      have hJ : qX l G RX2 "passEvening" cX2_passEvening 4 (some .int) [] rmX2_passEvening 0 0 r 0 0 s13 n 48 [(0, .ref a0), (1, .int a1), (2, .int y2)] [] := by
        refine x_iinc 51 2 2 (y2 + (1 : Int32)) [(2, .int (y2 + (1 : Int32))), (0, .ref a0), (1, .int a1)] dX2_passEvening_48 rfl rfl rfl (by decide) rfl ?_
        refine x_goto 7 dX2_passEvening_51 (by decide) ?_
        refine x_sub [(0, .ref a0), (1, .int a1), (2, .int (y2 + (1 : Int32)))] [1, 2, 0] rfl ?_
        exact ih _ _ _ hF hJ
      refine x_sub [(0, .ref a0), (1, .int a1), (2, .int y2), (3, .int (y2 + (1 : Int32)))] [1, 2, 3, 0] rfl ?_
      exact mX2_passEvening_L19 hst a0 a1 y2 n _ qfuel (y2 + (1 : Int32)) σ s13 h14 hJ
theorem kX2_passEvening {b : Nat} {σ : qH} {o : Int32 × qH} (h : FX2_passEvening b σ = some o) : ∃ fs : List Value, True ∧ σ b = some (.inr (2, fs)) := by
  unfold FX2_passEvening at h
  obtain ⟨_, h1, _⟩ := b1_inv h
  obtain ⟨fs, h2⟩ := gC_inv h1
  exact ⟨fs, trivial, h2⟩
set_option maxHeartbeats 4000000 in
set_option maxRecDepth 100000 in
theorem mX2_passEvening {l : Launch} {G : qG} (hst : l.stackTraces = false) (b : Nat) (σ : qH) (n : Option Nat) (ro : Int32) (so : qH) (hF : FX2_passEvening b σ = some (ro, so)) : qM l G yX2_passEvening cX2_passEvening 4 (some .int) rmX2_passEvening [.ref b] σ n (.inl (some (.int ro), so, n)) := by
  refine q_body (own := RX2) (nm := "passEvening") (ls := [(0, .ref b)]) hst (by decide +kernel) rfl rfl (Nat.le_of_ble_eq_true rfl) rfl rfl rfl ?_
  unfold FX2_passEvening at hF
  obtain ⟨_, hC, hF⟩ := b1_inv hF
  refine x_aload_n 1 0 dX2_passEvening_0 rfl rfl ?_
  obtain ⟨v1, h2, hF⟩ := b1_inv hF
  refine x_getI 4 10 inX2 rfl (by decide) wd_64 h2 dX2_passEvening_1 rfl ?_
  refine x_istore_n 5 1 [(1, .int v1), (0, .ref b)] dX2_passEvening_4 rfl rfl (by decide) rfl ?_
  refine x_iconst 6 (0 : Int32) dX2_passEvening_5 rfl (by decide) ?_
  refine x_istore_n 7 2 [(2, .int (0 : Int32)), (1, .int v1), (0, .ref b)] dX2_passEvening_6 rfl rfl (by decide) rfl ?_
  obtain ⟨s15, h22, hF⟩ := b1_inv hF
  have hJ : qX l G RX2 "passEvening" cX2_passEvening 4 (some .int) [] rmX2_passEvening 0 0 (.inl (some (.int ro), so, n)) 0 0 s15 n 54 [(0, .ref b), (1, .int v1)] [] := by
    refine x_aload_n 55 0 dX2_passEvening_54 rfl rfl ?_
    refine x_dup 56 rfl dX2_passEvening_55 rfl ?_
    obtain ⟨v16, h17, hF⟩ := b1_inv hF
    refine x_getI 59 8 inX2 rfl (by decide) wd_62 h17 dX2_passEvening_56 rfl ?_
    refine x_iconst 60 (1 : Int32) dX2_passEvening_59 rfl (by decide) ?_
    refine x_iadd 61 dX2_passEvening_60 rfl ?_
    obtain ⟨s18, h19, hF⟩ := b1_inv hF
    refine x_put 64 8 inX2 tyX2 tyX2_ok nmX2 rfl (by decide) wd_62 rfl (tX2_8) rfl rfl h19 dX2_passEvening_61 rfl ?_
    refine x_aload_n 65 0 dX2_passEvening_64 rfl rfl ?_
    obtain ⟨v20, h21, hF⟩ := b1_inv hF
    refine x_getI 68 10 inX2 rfl (by decide) wd_64 h21 dX2_passEvening_65 rfl ?_
    refine x_iload_n 69 1 dX2_passEvening_68 rfl rfl ?_
    refine x_isub 70 dX2_passEvening_69 rfl ?_
    cases hF
    exact x_iret rfl rfl (by decide) (by decide) dX2_passEvening_70
  refine x_sub [(0, .ref b), (1, .int v1), (2, .int (0 : Int32))] [2, 1, 0] rfl ?_
  exact mX2_passEvening_L7 hst b v1 n _ qfuel (0 : Int32) σ s15 h22 hJ
def rmX2_isOf : Room := { frames := 1, cells := 0, slots := 0, locals := 22 }
theorem qyX2_isOf : qY yX2_isOf cX2_isOf 3 (some .boolean) 2 := ⟨wd_463, wd_18, by decide +kernel, by decide +kernel, by decide +kernel⟩
theorem kX2_isOf {b : Nat} {p0 : Int32} {p1 : Int32} {σ : qH} {o : Int32} (h : FX2_isOf b p0 p1 σ = some o) : ∃ fs : List Value, True ∧ σ b = some (.inr (2, fs)) := by
  unfold FX2_isOf at h
  obtain ⟨_, h1, _⟩ := b1_inv h
  obtain ⟨fs, h2⟩ := gC_inv h1
  exact ⟨fs, trivial, h2⟩
set_option maxHeartbeats 4000000 in
set_option maxRecDepth 100000 in
theorem mX2_isOf {l : Launch} {G : qG} (hst : l.stackTraces = false) (b : Nat) (p0 : Int32) (p1 : Int32) (σ : qH) (n : Option Nat) (ro : Int32) (hF : FX2_isOf b p0 p1 σ = some ro) : qM l G yX2_isOf cX2_isOf 3 (some .boolean) rmX2_isOf [.ref b, .int p0, .int p1] σ n (.inl (some (.int ro), σ, n)) := by
  refine q_body (own := RX2) (nm := "isOf") (ls := [(0, .ref b), (1, .int p0), (2, .int p1)]) hst (by decide +kernel) rfl rfl (Nat.le_of_ble_eq_true rfl) rfl rfl rfl ?_
  unfold FX2_isOf at hF
  obtain ⟨_, hC, hF⟩ := b1_inv hF
  refine x_aload_n 1 0 dX2_isOf_0 rfl rfl ?_
  refine x_iload_n 2 1 dX2_isOf_1 rfl rfl ?_
  refine x_iconst 3 (0 : Int32) dX2_isOf_2 rfl (by decide) ?_
  obtain ⟨v2, h1, hF⟩ := b1_inv hF
  obtain ⟨fs, hb⟩ : ∃ fs : List Value, True ∧ σ b = some (.inr (2, fs)) := kX2_number h1
  refine x_callV (As := [.int p0, .int (0 : Int32)]) (rest := []) 6 0 0 (mX2_number hst b p0 (0 : Int32) σ n v2 h1) qyX2_number wd_436 wd_437 wd_438 hb.2 rfl rfl rfl (by decide) (Nat.le_of_ble_eq_true rfl) (by decide) dX2_isOf_3 rfl rfl rfl rfl ?_
  refine x_iload_n 7 2 dX2_isOf_6 rfl rfl ?_
  obtain ⟨x3, h4, hF⟩ := b1_inv hF
  have hJ : qX l G RX2 "isOf" cX2_isOf 3 (some .boolean) [] rmX2_isOf 0 0 (.inl (some (.int ro), σ, n)) 0 0 σ n 15 [] [.int x3] := by
    obtain ⟨hz, hF⟩ := ite_none hF
    cases hF
    exact x_zret rfl (by rcases hz with h | h <;> rw [h] <;> rfl) rfl (by decide) (by decide) dX2_isOf_15
  have hF := h4
  rcases ite_inv hF with ⟨hc, hF⟩ | ⟨hc, hF⟩
  · refine x_icmp_ne 14 10 dX2_isOf_7 (by decide) rfl (fun q => absurd hc q) (fun _ => ?_)
    refine x_iconst 11 (1 : Int32) dX2_isOf_10 rfl (by decide) ?_
    refine x_goto 15 dX2_isOf_11 (by decide) ?_
    have e1 := Option.some.inj hF
    subst e1
    refine x_sub [] [] rfl ?_
    exact hJ
  · refine x_icmp_ne 14 10 dX2_isOf_7 (by decide) rfl (fun _ => ?_) (fun q => absurd q hc)
    refine x_iconst 15 (0 : Int32) dX2_isOf_14 rfl (by decide) ?_
    have e1 := Option.some.inj hF
    subst e1
    refine x_sub [] [] rfl ?_
    exact hJ
def rmX2_tells : Room := { frames := 1, cells := 0, slots := 0, locals := 22 }
theorem qyX2_tells : qY yX2_tells cX2_tells 3 (some .boolean) 2 := ⟨wd_467, wd_18, by decide +kernel, by decide +kernel, by decide +kernel⟩
theorem kX2_tells {b : Nat} {p0 : Int32} {p1 : Int32} {σ : qH} {o : Int32} (h : FX2_tells b p0 p1 σ = some o) : ∃ fs : List Value, True ∧ σ b = some (.inr (2, fs)) := by
  unfold FX2_tells at h
  obtain ⟨_, h1, _⟩ := b1_inv h
  obtain ⟨fs, h2⟩ := gC_inv h1
  exact ⟨fs, trivial, h2⟩
set_option maxHeartbeats 4000000 in
set_option maxRecDepth 100000 in
theorem mX2_tells {l : Launch} {G : qG} (hst : l.stackTraces = false) (b : Nat) (p0 : Int32) (p1 : Int32) (σ : qH) (n : Option Nat) (ro : Int32) (hF : FX2_tells b p0 p1 σ = some ro) : qM l G yX2_tells cX2_tells 3 (some .boolean) rmX2_tells [.ref b, .int p0, .int p1] σ n (.inl (some (.int ro), σ, n)) := by
  refine q_body (own := RX2) (nm := "tells") (ls := [(0, .ref b), (1, .int p0), (2, .int p1)]) hst (by decide +kernel) rfl rfl (Nat.le_of_ble_eq_true rfl) rfl rfl rfl ?_
  unfold FX2_tells at hF
  obtain ⟨_, hC, hF⟩ := b1_inv hF
  refine x_aload_n 1 0 dX2_tells_0 rfl rfl ?_
  refine x_iload_n 2 1 dX2_tells_1 rfl rfl ?_
  refine x_bipush 4 (7 : Int32) dX2_tells_2 rfl (by decide) ?_
  obtain ⟨v2, h1, hF⟩ := b1_inv hF
  obtain ⟨fs, hb⟩ : ∃ fs : List Value, True ∧ σ b = some (.inr (2, fs)) := kX2_number h1
  refine x_callV (As := [.int p0, .int (7 : Int32)]) (rest := []) 7 0 0 (mX2_number hst b p0 (7 : Int32) σ n v2 h1) qyX2_number wd_436 wd_437 wd_438 hb.2 rfl rfl rfl (by decide) (Nat.le_of_ble_eq_true rfl) (by decide) dX2_tells_4 rfl rfl rfl rfl ?_
  refine x_iload_n 8 2 dX2_tells_7 rfl rfl ?_
  obtain ⟨x3, h6, hF⟩ := b1_inv hF
  have hJ : qX l G RX2 "tells" cX2_tells 3 (some .boolean) [] rmX2_tells 0 0 (.inl (some (.int ro), σ, n)) 0 0 σ n 27 [] [.int x3] := by
    obtain ⟨hz, hF⟩ := ite_none hF
    cases hF
    exact x_zret rfl (by rcases hz with h | h <;> rw [h] <;> rfl) rfl (by decide) (by decide) dX2_tells_27
  have hF := h6
  rcases ite_inv hF with ⟨hc, hF⟩ | ⟨hc, hF⟩
  · refine x_icmp_gt 26 11 dX2_tells_8 (by decide) rfl (fun _ => ?_) (fun q => absurd hc q)
    refine x_iconst 27 (0 : Int32) dX2_tells_26 rfl (by decide) ?_
    have e1 := Option.some.inj hF
    subst e1
    refine x_sub [] [] rfl ?_
    exact hJ
  · refine x_icmp_gt 26 11 dX2_tells_8 (by decide) rfl (fun q => absurd q hc) (fun _ => ?_)
    refine x_iload_n 12 2 dX2_tells_11 rfl rfl ?_
    refine x_aload_n 13 0 dX2_tells_12 rfl rfl ?_
    refine x_iload_n 14 1 dX2_tells_13 rfl rfl ?_
    refine x_bipush 16 (8 : Int32) dX2_tells_14 rfl (by decide) ?_
    obtain ⟨v5, h4, hF⟩ := b1_inv hF
    obtain ⟨fs, hb⟩ : ∃ fs : List Value, True ∧ σ b = some (.inr (2, fs)) := kX2_number h4
    refine x_callV (As := [.int p0, .int (8 : Int32)]) (rest := [.int p1]) 19 0 0 (mX2_number hst b p0 (8 : Int32) σ n v5 h4) qyX2_number wd_436 wd_437 wd_438 hb.2 rfl rfl rfl (by decide) (Nat.le_of_ble_eq_true rfl) (by decide) dX2_tells_16 rfl rfl rfl rfl ?_
    rcases ite_inv hF with ⟨hc, hF⟩ | ⟨hc, hF⟩
    · refine x_icmp_gt 26 22 dX2_tells_19 (by decide) rfl (fun _ => ?_) (fun q => absurd hc q)
      refine x_iconst 27 (0 : Int32) dX2_tells_26 rfl (by decide) ?_
      have e1 := Option.some.inj hF
      subst e1
      refine x_sub [] [] rfl ?_
      exact hJ
    · refine x_icmp_gt 26 22 dX2_tells_19 (by decide) rfl (fun q => absurd q hc) (fun _ => ?_)
      refine x_iconst 23 (1 : Int32) dX2_tells_22 rfl (by decide) ?_
      refine x_goto 27 dX2_tells_23 (by decide) ?_
      have e1 := Option.some.inj hF
      subst e1
      refine x_sub [] [] rfl ?_
      exact hJ
def rmX2_judge : Room := { frames := 1, cells := 0, slots := 0, locals := 21 }
theorem qyX2_judge : qY yX2_judge cX2_judge 3 (none) 2 := ⟨wd_471, wd_18, by decide +kernel, by decide +kernel, by decide +kernel⟩
theorem kX2_judge {b : Nat} {p0 : Int32} {p1 : Int32} {σ : qH} {o : qH} (h : FX2_judge b p0 p1 σ = some o) : ∃ fs : List Value, True ∧ σ b = some (.inr (2, fs)) := by
  unfold FX2_judge at h
  obtain ⟨_, h1, _⟩ := b1_inv h
  obtain ⟨fs, h2⟩ := gC_inv h1
  exact ⟨fs, trivial, h2⟩
set_option maxHeartbeats 4000000 in
set_option maxRecDepth 100000 in
theorem mX2_judge {l : Launch} {G : qG} (hst : l.stackTraces = false) (b : Nat) (p0 : Int32) (p1 : Int32) (σ : qH) (n : Option Nat) (so : qH) (hF : FX2_judge b p0 p1 σ = some so) : qM l G yX2_judge cX2_judge 3 (none) rmX2_judge [.ref b, .int p0, .int p1] σ n (.inl (none, so, n)) := by
  refine q_body (own := RX2) (nm := "judge") (ls := [(0, .ref b), (1, .int p0), (2, .int p1)]) hst (by decide +kernel) rfl rfl (Nat.le_of_ble_eq_true rfl) rfl rfl rfl ?_
  unfold FX2_judge at hF
  obtain ⟨_, hC, hF⟩ := b1_inv hF
  refine x_iload_n 1 2 dX2_judge_0 rfl rfl ?_
  obtain ⟨s1, h34, hF⟩ := b1_inv hF
  have hJ : qX l G RX2 "judge" cX2_judge 3 (none) [] rmX2_judge 0 0 (.inl (none, so, n)) 0 0 s1 n 64 [] [] := by
    cases hF
    exact x_vret rfl rfl (by decide) (by decide) dX2_judge_64
  have hF := h34
  rcases ite_inv hF with ⟨hc, hF⟩ | ⟨hc, hF⟩
  · refine x_if_eq 36 4 dX2_judge_1 (by decide) rfl (fun _ => ?_) (fun q => absurd hc q)
    refine x_aload_n 37 0 dX2_judge_36 rfl rfl ?_
    obtain ⟨r2, h3, hF⟩ := b1_inv hF
    refine x_getR 40 3 inX2 rfl (by decide) wd_57 h3 dX2_judge_37 rfl ?_
    refine x_iload_n 41 1 dX2_judge_40 rfl rfl ?_
    refine x_dup2 42 rfl rfl dX2_judge_41 rfl ?_
    obtain ⟨v4, h5, hF⟩ := b1_inv hF
    refine x_aI 43 h5 dX2_judge_42 rfl ?_
    refine x_iconst 44 (1 : Int32) dX2_judge_43 rfl (by decide) ?_
    refine x_iadd 45 dX2_judge_44 rfl ?_
    obtain ⟨s6, h7, hF⟩ := b1_inv hF
    refine x_sI 46 h7 dX2_judge_45 rfl ?_
    refine x_aload_n 47 0 dX2_judge_46 rfl rfl ?_
    obtain ⟨r8, h9, hF⟩ := b1_inv hF
    refine x_getR 50 1 inX2 rfl (by decide) wd_55 h9 dX2_judge_47 rfl ?_
    refine x_iload_n 51 1 dX2_judge_50 rfl rfl ?_
    refine x_iconst 52 (0 : Int32) dX2_judge_51 rfl (by decide) ?_
    refine x_aload_n 53 0 dX2_judge_52 rfl rfl ?_
    obtain ⟨r10, h11, hF⟩ := b1_inv hF
    refine x_getR 56 1 inX2 rfl (by decide) wd_55 h11 dX2_judge_53 rfl ?_
    refine x_iload_n 57 1 dX2_judge_56 rfl rfl ?_
    obtain ⟨v12, h13, hF⟩ := b1_inv hF
    refine x_aI 58 h13 dX2_judge_57 rfl ?_
    refine x_iconst 59 (1 : Int32) dX2_judge_58 rfl (by decide) ?_
    refine x_isub 60 dX2_judge_59 rfl ?_
    obtain ⟨v15, h14, hF⟩ := b1_inv hF
    refine x_callS (As := [.int (0 : Int32), .int (v12 - (1 : Int32))]) (rest := [.int p0, .ref r8]) 63 0 0 (mJ9_max_7cf53 hst (0 : Int32) (v12 - (1 : Int32)) s6 n v15 h14) qyJ9_max_7cf53 wd_396 wd_397 rfl rfl (by decide) (Nat.le_of_ble_eq_true rfl) (by decide) dX2_judge_60 rfl rfl rfl rfl ?_
    obtain ⟨s16, h17, hF⟩ := b1_inv hF
    refine x_sI 64 h17 dX2_judge_63 rfl ?_
    have e1 := Option.some.inj hF
    subst e1
    refine x_sub [] [] rfl ?_
    exact hJ
  · refine x_if_eq 36 4 dX2_judge_1 (by decide) rfl (fun q => absurd q hc) (fun _ => ?_)
    refine x_aload_n 5 0 dX2_judge_4 rfl rfl ?_
    obtain ⟨r18, h19, hF⟩ := b1_inv hF
    refine x_getR 8 2 inX2 rfl (by decide) wd_56 h19 dX2_judge_5 rfl ?_
    refine x_iload_n 9 1 dX2_judge_8 rfl rfl ?_
    refine x_dup2 10 rfl rfl dX2_judge_9 rfl ?_
    obtain ⟨v20, h21, hF⟩ := b1_inv hF
    refine x_aI 11 h21 dX2_judge_10 rfl ?_
    refine x_iconst 12 (1 : Int32) dX2_judge_11 rfl (by decide) ?_
    refine x_iadd 13 dX2_judge_12 rfl ?_
    obtain ⟨s22, h23, hF⟩ := b1_inv hF
    refine x_sI 14 h23 dX2_judge_13 rfl ?_
    refine x_aload_n 15 0 dX2_judge_14 rfl rfl ?_
    obtain ⟨r24, h25, hF⟩ := b1_inv hF
    refine x_getR 18 1 inX2 rfl (by decide) wd_55 h25 dX2_judge_15 rfl ?_
    refine x_iload_n 19 1 dX2_judge_18 rfl rfl ?_
    refine x_bipush 21 (9 : Int32) dX2_judge_19 rfl (by decide) ?_
    refine x_aload_n 22 0 dX2_judge_21 rfl rfl ?_
    obtain ⟨r26, h27, hF⟩ := b1_inv hF
    refine x_getR 25 1 inX2 rfl (by decide) wd_55 h27 dX2_judge_22 rfl ?_
    refine x_iload_n 26 1 dX2_judge_25 rfl rfl ?_
    obtain ⟨v28, h29, hF⟩ := b1_inv hF
    refine x_aI 27 h29 dX2_judge_26 rfl ?_
    refine x_iconst 28 (1 : Int32) dX2_judge_27 rfl (by decide) ?_
    refine x_iadd 29 dX2_judge_28 rfl ?_
    obtain ⟨v31, h30, hF⟩ := b1_inv hF
    refine x_callS (As := [.int (9 : Int32), .int (v28 + (1 : Int32))]) (rest := [.int p0, .ref r24]) 32 0 0 (mJ9_min_7cf53 hst (9 : Int32) (v28 + (1 : Int32)) s22 n v31 h30) qyJ9_min_7cf53 wd_393 wd_394 rfl rfl (by decide) (Nat.le_of_ble_eq_true rfl) (by decide) dX2_judge_29 rfl rfl rfl rfl ?_
    obtain ⟨s32, h33, hF⟩ := b1_inv hF
    refine x_sI 33 h33 dX2_judge_32 rfl ?_
    refine x_goto 64 dX2_judge_33 (by decide) ?_
    have e1 := Option.some.inj hF
    subst e1
    refine x_sub [] [] rfl ?_
    exact hJ
def rmX2_removeMeasuresOf : Room := { frames := 2, cells := 0, slots := 0, locals := 49 }
theorem qyX2_removeMeasuresOf : qY yX2_removeMeasuresOf cX2_removeMeasuresOf 3 (none) 1 := ⟨wd_475, wd_18, by decide +kernel, by decide +kernel, by decide +kernel⟩
set_option maxHeartbeats 4000000 in
set_option maxRecDepth 100000 in
theorem mX2_removeMeasuresOf_L7 {l : Launch} {G : qG} (hst : l.stackTraces = false) (a0 : Nat) (a1 : Int32) (n : Option Nat) (r : qR) : ∀ (q : Nat) (y2 : Int32) (σ : qH) (so : qH), FX2_removeMeasuresOf_L7 a0 a1 q y2 σ = some so → qX l G RX2 "removeMeasuresOf" cX2_removeMeasuresOf 3 (none) [] rmX2_removeMeasuresOf 0 0 r 0 0 so n 32 [] [] → qX l G RX2 "removeMeasuresOf" cX2_removeMeasuresOf 3 (none) [] rmX2_removeMeasuresOf 0 0 r 0 0 σ n 7 [(0, .ref a0), (1, .int a1), (2, .int y2)] [] := by
  intro q
  induction q with
  | zero => intro y2 σ so hF; rw [FX2_removeMeasuresOf_L7] at hF; cases hF
  | succ q ih =>
    intro y2 σ so hF hJ
    rw [FX2_removeMeasuresOf_L7] at hF
    refine x_iload_n 8 2 dX2_removeMeasuresOf_7 rfl rfl ?_
    rcases ite_inv hF with ⟨hc, hF⟩ | ⟨hc, hF⟩
    · refine x_if_lt 32 11 dX2_removeMeasuresOf_8 (by decide) rfl (fun _ => ?_) (fun q => absurd hc q)
      have e1 := Option.some.inj hF
      subst e1
      refine x_sub [] [] rfl ?_
      exact hJ
    · refine x_if_lt 32 11 dX2_removeMeasuresOf_8 (by decide) rfl (fun q => absurd q hc) (fun _ => ?_)
      refine x_aload_n 12 0 dX2_removeMeasuresOf_11 rfl rfl ?_
      refine x_iload_n 13 2 dX2_removeMeasuresOf_12 rfl rfl ?_
      refine x_iload_n 14 1 dX2_removeMeasuresOf_13 rfl rfl ?_
      obtain ⟨v4, h3, hF⟩ := b1_inv hF
      obtain ⟨fs, hb⟩ : ∃ fs : List Value, True ∧ σ a0 = some (.inr (2, fs)) := kX2_isOf h3
      refine x_callV (As := [.int y2, .int a1]) (rest := []) 17 0 0 (mX2_isOf hst a0 y2 a1 σ n v4 h3) qyX2_isOf wd_460 wd_461 wd_462 hb.2 rfl rfl rfl (by decide) (Nat.le_of_ble_eq_true rfl) (by decide) dX2_removeMeasuresOf_14 rfl rfl rfl rfl ?_
      obtain ⟨s5, h9, hF⟩ := b1_inv hF
      have hJ : qX l G RX2 "removeMeasuresOf" cX2_removeMeasuresOf 3 (none) [] rmX2_removeMeasuresOf 0 0 r 0 0 s5 n 26 [(0, .ref a0), (1, .int a1), (2, .int y2)] [] := by
        refine x_iinc 29 2 2 (y2 + (-1 : Int32)) [(2, .int (y2 + (-1 : Int32))), (0, .ref a0), (1, .int a1)] dX2_removeMeasuresOf_26 rfl rfl rfl (by decide) rfl ?_
        refine x_goto 7 dX2_removeMeasuresOf_29 (by decide) ?_
        refine x_sub [(0, .ref a0), (1, .int a1), (2, .int (y2 + (-1 : Int32)))] [1, 2, 0] rfl ?_
        exact ih _ _ _ hF hJ
      have hF := h9
      rcases ite_inv hF with ⟨hc, hF⟩ | ⟨hc, hF⟩
      · refine x_if_eq 26 20 dX2_removeMeasuresOf_17 (by decide) rfl (fun _ => ?_) (fun q => absurd hc q)
        have e1 := Option.some.inj hF
        subst e1
        exact hJ
      · refine x_if_eq 26 20 dX2_removeMeasuresOf_17 (by decide) rfl (fun q => absurd q hc) (fun _ => ?_)
        refine x_aload_n 21 0 dX2_removeMeasuresOf_20 rfl rfl ?_
        refine x_iload_n 22 2 dX2_removeMeasuresOf_21 rfl rfl ?_
        obtain ⟨v7, s8, h6, hF⟩ := b2_inv hF
        obtain ⟨fs, hb⟩ : ∃ fs : List Value, True ∧ σ a0 = some (.inr (2, fs)) := kX2_removeMeasure h6
        refine x_callV (As := [.int y2]) (rest := []) 25 0 0 (mX2_removeMeasure hst a0 y2 σ n v7 s8 h6) qyX2_removeMeasure wd_410 wd_411 wd_412 hb.2 rfl rfl rfl (by decide) (Nat.le_of_ble_eq_true rfl) (by decide) dX2_removeMeasuresOf_22 rfl rfl rfl rfl ?_
        refine x_pop 26 rfl dX2_removeMeasuresOf_25 rfl ?_
        have e1 := Option.some.inj hF
        subst e1
        exact hJ
theorem kX2_removeMeasuresOf {b : Nat} {p0 : Int32} {σ : qH} {o : qH} (h : FX2_removeMeasuresOf b p0 σ = some o) : ∃ fs : List Value, True ∧ σ b = some (.inr (2, fs)) := by
  unfold FX2_removeMeasuresOf at h
  obtain ⟨_, h1, _⟩ := b1_inv h
  obtain ⟨fs, h2⟩ := gC_inv h1
  exact ⟨fs, trivial, h2⟩
set_option maxHeartbeats 4000000 in
set_option maxRecDepth 100000 in
theorem mX2_removeMeasuresOf {l : Launch} {G : qG} (hst : l.stackTraces = false) (b : Nat) (p0 : Int32) (σ : qH) (n : Option Nat) (so : qH) (hF : FX2_removeMeasuresOf b p0 σ = some so) : qM l G yX2_removeMeasuresOf cX2_removeMeasuresOf 3 (none) rmX2_removeMeasuresOf [.ref b, .int p0] σ n (.inl (none, so, n)) := by
  refine q_body (own := RX2) (nm := "removeMeasuresOf") (ls := [(0, .ref b), (1, .int p0)]) hst (by decide +kernel) rfl rfl (Nat.le_of_ble_eq_true rfl) rfl rfl rfl ?_
  unfold FX2_removeMeasuresOf at hF
  obtain ⟨_, hC, hF⟩ := b1_inv hF
  refine x_aload_n 1 0 dX2_removeMeasuresOf_0 rfl rfl ?_
  obtain ⟨v1, h2, hF⟩ := b1_inv hF
  refine x_getI 4 6 inX2 rfl (by decide) wd_60 h2 dX2_removeMeasuresOf_1 rfl ?_
  refine x_iconst 5 (1 : Int32) dX2_removeMeasuresOf_4 rfl (by decide) ?_
  refine x_isub 6 dX2_removeMeasuresOf_5 rfl ?_
  refine x_istore_n 7 2 [(2, .int (v1 - (1 : Int32))), (0, .ref b), (1, .int p0)] dX2_removeMeasuresOf_6 rfl rfl (by decide) rfl ?_
  obtain ⟨s10, h11, hF⟩ := b1_inv hF
  have hJ : qX l G RX2 "removeMeasuresOf" cX2_removeMeasuresOf 3 (none) [] rmX2_removeMeasuresOf 0 0 (.inl (none, so, n)) 0 0 s10 n 32 [] [] := by
    cases hF
    exact x_vret rfl rfl (by decide) (by decide) dX2_removeMeasuresOf_32
  refine x_sub [(0, .ref b), (1, .int p0), (2, .int (v1 - (1 : Int32)))] [1, 2, 0] rfl ?_
  exact mX2_removeMeasuresOf_L7 hst b p0 n _ qfuel (v1 - (1 : Int32)) σ s10 h11 hJ
def rmX2_surveySteeple : Room := { frames := 3, cells := 0, slots := 0, locals := 71 }
theorem qyX2_surveySteeple : qY yX2_surveySteeple cX2_surveySteeple 6 (some .int) 2 := ⟨wd_459, wd_18, by decide +kernel, by decide +kernel, by decide +kernel⟩
set_option maxHeartbeats 4000000 in
set_option maxRecDepth 100000 in
theorem mX2_surveySteeple_L5 {l : Launch} {G : qG} (hst : l.stackTraces = false) (a0 : Nat) (a1 : Int32) (a2 : Int32) (n : Option Nat) (r : qR) : ∀ (q : Nat) (y3 : Int32) (y4 : Int32) (σ : qH) (o3 : Int32) (so : qH), FX2_surveySteeple_L5 a0 a1 a2 q y3 y4 σ = some (o3, so) → qX l G RX2 "surveySteeple" cX2_surveySteeple 6 (some .int) [] rmX2_surveySteeple 0 0 r 0 0 so n 65 [(0, .ref a0), (1, .int a1), (2, .int a2), (3, .int o3)] [] → qX l G RX2 "surveySteeple" cX2_surveySteeple 6 (some .int) [] rmX2_surveySteeple 0 0 r 0 0 σ n 5 [(0, .ref a0), (1, .int a1), (2, .int a2), (3, .int y3), (4, .int y4)] [] := by
  intro q
  induction q with
  | zero => intro y3 y4 σ o3 so hF; rw [FX2_surveySteeple_L5] at hF; cases hF
  | succ q ih =>
    intro y3 y4 σ o3 so hF hJ
    rw [FX2_surveySteeple_L5] at hF
    refine x_iload 7 4 dX2_surveySteeple_5 rfl rfl ?_
    refine x_aload_n 8 0 dX2_surveySteeple_7 rfl rfl ?_
    obtain ⟨v1, h2, hF⟩ := b1_inv hF
    refine x_getI 11 6 inX2 rfl (by decide) wd_60 h2 dX2_surveySteeple_8 rfl ?_
    rcases ite_inv hF with ⟨hc, hF⟩ | ⟨hc, hF⟩
    · refine x_icmp_ge 65 14 dX2_surveySteeple_11 (by decide) rfl (fun _ => ?_) (fun q => absurd hc q)
      obtain ⟨e1, e2⟩ := so2 hF
      subst e1
      subst e2
      refine x_sub [(0, .ref a0), (1, .int a1), (2, .int a2), (3, .int y3)] [0, 1, 2, 3] rfl ?_
      exact hJ
    · refine x_icmp_ge 65 14 dX2_surveySteeple_11 (by decide) rfl (fun q => absurd q hc) (fun _ => ?_)
      refine x_aload_n 15 0 dX2_surveySteeple_14 rfl rfl ?_
      refine x_iload 17 4 dX2_surveySteeple_15 rfl rfl ?_
      refine x_iload_n 18 1 dX2_surveySteeple_17 rfl rfl ?_
      obtain ⟨v4, h3, hF⟩ := b1_inv hF
      obtain ⟨fs, hb⟩ : ∃ fs : List Value, True ∧ σ a0 = some (.inr (2, fs)) := kX2_isOf h3
      refine x_callV (As := [.int y4, .int a1]) (rest := []) 21 0 0 (mX2_isOf hst a0 y4 a1 σ n v4 h3) qyX2_isOf wd_460 wd_461 wd_462 hb.2 rfl rfl rfl (by decide) (Nat.le_of_ble_eq_true rfl) (by decide) dX2_surveySteeple_18 rfl rfl rfl rfl ?_
      obtain ⟨x5, s6, h15, hF⟩ := b2_inv hF
      have hJ : qX l G RX2 "surveySteeple" cX2_surveySteeple 6 (some .int) [] rmX2_surveySteeple 0 0 r 0 0 s6 n 59 [(0, .ref a0), (1, .int a1), (2, .int a2), (3, .int x5), (4, .int y4)] [] := by
        refine x_iinc 62 4 4 (y4 + (1 : Int32)) [(4, .int (y4 + (1 : Int32))), (0, .ref a0), (1, .int a1), (2, .int a2), (3, .int x5)] dX2_surveySteeple_59 rfl rfl rfl (by decide) rfl ?_
        refine x_goto 5 dX2_surveySteeple_62 (by decide) ?_
        refine x_sub [(0, .ref a0), (1, .int a1), (2, .int a2), (3, .int x5), (4, .int (y4 + (1 : Int32)))] [1, 2, 3, 4, 0] rfl ?_
        exact ih _ _ _ _ _ hF hJ
      have hF := h15
      rcases ite_inv hF with ⟨hc, hF⟩ | ⟨hc, hF⟩
      · refine x_if_eq 59 24 dX2_surveySteeple_21 (by decide) rfl (fun _ => ?_) (fun q => absurd hc q)
        obtain ⟨e1, e2⟩ := so2 hF
        subst e1
        subst e2
        exact hJ
      · refine x_if_eq 59 24 dX2_surveySteeple_21 (by decide) rfl (fun q => absurd q hc) (fun _ => ?_)
        refine x_aload_n 25 0 dX2_surveySteeple_24 rfl rfl ?_
        refine x_iload 27 4 dX2_surveySteeple_25 rfl rfl ?_
        refine x_iload_n 28 2 dX2_surveySteeple_27 rfl rfl ?_
        obtain ⟨v8, h7, hF⟩ := b1_inv hF
        obtain ⟨fs, hb⟩ : ∃ fs : List Value, True ∧ σ a0 = some (.inr (2, fs)) := kX2_tells h7
        refine x_callV (As := [.int y4, .int a2]) (rest := []) 31 0 0 (mX2_tells hst a0 y4 a2 σ n v8 h7) qyX2_tells wd_464 wd_465 wd_466 hb.2 rfl rfl rfl (by decide) (Nat.le_of_ble_eq_true rfl) (by decide) dX2_surveySteeple_28 rfl rfl rfl rfl ?_
        refine x_istore 33 5 [(5, .int v8), (0, .ref a0), (1, .int a1), (2, .int a2), (3, .int y3), (4, .int y4)] dX2_surveySteeple_31 rfl (by decide) rfl ?_
        refine x_aload_n 34 1 dX2_surveySteeple_33 rfl rfl ?_
        refine x_aload_n 35 1 dX2_surveySteeple_34 rfl rfl ?_
        refine x_iload 37 5 dX2_surveySteeple_35 rfl rfl ?_
        refine x_iconst 38 (1 : Int32) dX2_surveySteeple_37 rfl (by decide) ?_
        obtain ⟨v10, h9, hF⟩ := b1_inv hF
        obtain ⟨fs, hb⟩ : ∃ fs : List Value, True ∧ σ a0 = some (.inr (2, fs)) := kX2_number h9
        refine x_callV (As := [.int y4, .int (1 : Int32)]) (rest := [.ref a0]) 41 0 0 (mX2_number hst a0 y4 (1 : Int32) σ n v10 h9) qyX2_number wd_436 wd_437 wd_438 hb.2 rfl rfl rfl (by decide) (Nat.le_of_ble_eq_true rfl) (by decide) dX2_surveySteeple_38 rfl rfl rfl rfl ?_
        refine x_iload 43 0 dX2_surveySteeple_41 rfl rfl ?_
        obtain ⟨s12, h11, hF⟩ := b1_inv hF
        obtain ⟨fs, hb⟩ : ∃ fs : List Value, True ∧ σ a0 = some (.inr (2, fs)) := kX2_judge h11
        refine x_callV (As := [.int v10, .int v8]) (rest := []) 46 0 0 (mX2_judge hst a0 v10 v8 σ n s12 h11) qyX2_judge wd_468 wd_470 wd_7 hb.2 rfl rfl rfl (by decide) (Nat.le_of_ble_eq_true rfl) (by decide) dX2_surveySteeple_43 rfl rfl rfl rfl ?_
        refine x_iload_n 47 4 dX2_surveySteeple_46 rfl rfl ?_
        refine x_iload 49 0 dX2_surveySteeple_47 rfl rfl ?_
        obtain ⟨x13, h14, hF⟩ := b1_inv hF
        have hJ : qX l G RX2 "surveySteeple" cX2_surveySteeple 6 (some .int) [] rmX2_surveySteeple 0 0 r 0 0 s12 n 57 [(0, .ref a0), (1, .int a1), (2, .int a2), (4, .int y4)] [.int x13, .int y3] := by
          refine x_iadd 58 dX2_surveySteeple_57 rfl ?_
          refine x_istore_n 59 3 [(3, .int (y3 + x13)), (0, .ref a0), (1, .int a1), (2, .int a2), (4, .int y4)] dX2_surveySteeple_58 rfl rfl (by decide) rfl ?_
          obtain ⟨e1, e2⟩ := so2 hF
          subst e1
          subst e2
          refine x_sub [(0, .ref a0), (1, .int a1), (2, .int a2), (3, .int (y3 + x13)), (4, .int y4)] [1, 2, 3, 0, 4] rfl ?_
          exact hJ
        have hF := h14
        rcases ite_inv hF with ⟨hc, hF⟩ | ⟨hc, hF⟩
        · refine x_if_eq 56 52 dX2_surveySteeple_49 (by decide) rfl (fun _ => ?_) (fun q => absurd hc q)
          refine x_iconst 57 (0 : Int32) dX2_surveySteeple_56 rfl (by decide) ?_
          have e1 := Option.some.inj hF
          subst e1
          refine x_sub [(0, .ref a0), (1, .int a1), (2, .int a2), (4, .int y4)] [1, 2, 3, 5] rfl ?_
          exact hJ
        · refine x_if_eq 56 52 dX2_surveySteeple_49 (by decide) rfl (fun q => absurd q hc) (fun _ => ?_)
          refine x_iconst 53 (1 : Int32) dX2_surveySteeple_52 rfl (by decide) ?_
          refine x_goto 57 dX2_surveySteeple_53 (by decide) ?_
          have e1 := Option.some.inj hF
          subst e1
          refine x_sub [(0, .ref a0), (1, .int a1), (2, .int a2), (4, .int y4)] [1, 2, 3, 5] rfl ?_
          exact hJ
theorem kX2_surveySteeple {b : Nat} {p0 : Int32} {p1 : Int32} {σ : qH} {o : Int32 × qH} (h : FX2_surveySteeple b p0 p1 σ = some o) : ∃ fs : List Value, True ∧ σ b = some (.inr (2, fs)) := by
  unfold FX2_surveySteeple at h
  obtain ⟨_, h1, _⟩ := b1_inv h
  obtain ⟨fs, h2⟩ := gC_inv h1
  exact ⟨fs, trivial, h2⟩
set_option maxHeartbeats 4000000 in
set_option maxRecDepth 100000 in
theorem mX2_surveySteeple {l : Launch} {G : qG} (hst : l.stackTraces = false) (b : Nat) (p0 : Int32) (p1 : Int32) (σ : qH) (n : Option Nat) (ro : Int32) (so : qH) (hF : FX2_surveySteeple b p0 p1 σ = some (ro, so)) : qM l G yX2_surveySteeple cX2_surveySteeple 6 (some .int) rmX2_surveySteeple [.ref b, .int p0, .int p1] σ n (.inl (some (.int ro), so, n)) := by
  refine q_body (own := RX2) (nm := "surveySteeple") (ls := [(0, .ref b), (1, .int p0), (2, .int p1)]) hst (by decide +kernel) rfl rfl (Nat.le_of_ble_eq_true rfl) rfl rfl rfl ?_
  unfold FX2_surveySteeple at hF
  obtain ⟨_, hC, hF⟩ := b1_inv hF
  refine x_iconst 1 (0 : Int32) dX2_surveySteeple_0 rfl (by decide) ?_
  refine x_istore_n 2 3 [(3, .int (0 : Int32)), (0, .ref b), (1, .int p0), (2, .int p1)] dX2_surveySteeple_1 rfl rfl (by decide) rfl ?_
  refine x_iconst 3 (0 : Int32) dX2_surveySteeple_2 rfl (by decide) ?_
  refine x_istore 5 4 [(4, .int (0 : Int32)), (3, .int (0 : Int32)), (0, .ref b), (1, .int p0), (2, .int p1)] dX2_surveySteeple_3 rfl (by decide) rfl ?_
  obtain ⟨x16, s17, h28, hF⟩ := b2_inv hF
  have hJ : qX l G RX2 "surveySteeple" cX2_surveySteeple 6 (some .int) [] rmX2_surveySteeple 0 0 (.inl (some (.int ro), so, n)) 0 0 s17 n 65 [(0, .ref b), (1, .int p0), (2, .int p1), (3, .int x16)] [] := by
    refine x_aload_n 66 0 dX2_surveySteeple_65 rfl rfl ?_
    refine x_iload_n 67 1 dX2_surveySteeple_66 rfl rfl ?_
    obtain ⟨s19, h18, hF⟩ := b1_inv hF
    obtain ⟨fs, hb⟩ : ∃ fs : List Value, True ∧ s17 b = some (.inr (2, fs)) := kX2_removeMeasuresOf h18
    refine x_callV (As := [.int p0]) (rest := []) 70 0 0 (mX2_removeMeasuresOf hst b p0 s17 n s19 h18) qyX2_removeMeasuresOf wd_472 wd_474 wd_8 hb.2 rfl rfl rfl (by decide) (Nat.le_of_ble_eq_true rfl) (by decide) dX2_surveySteeple_67 rfl rfl rfl rfl ?_
    refine x_aload_n 71 0 dX2_surveySteeple_70 rfl rfl ?_
    obtain ⟨r20, h21, hF⟩ := b1_inv hF
    refine x_getR 74 4 inX2 rfl (by decide) wd_58 h21 dX2_surveySteeple_71 rfl ?_
    refine x_iload_n 75 1 dX2_surveySteeple_74 rfl rfl ?_
    refine x_iload_n 76 2 dX2_surveySteeple_75 rfl rfl ?_
    obtain ⟨s22, h23, hF⟩ := b1_inv hF
    refine x_sI 77 h23 dX2_surveySteeple_76 rfl ?_
    refine x_aload_n 78 0 dX2_surveySteeple_77 rfl rfl ?_
    refine x_dup 79 rfl dX2_surveySteeple_78 rfl ?_
    obtain ⟨v24, h25, hF⟩ := b1_inv hF
    refine x_getI 82 9 inX2 rfl (by decide) wd_63 h25 dX2_surveySteeple_79 rfl ?_
    refine x_iconst 83 (1 : Int32) dX2_surveySteeple_82 rfl (by decide) ?_
    refine x_iadd 84 dX2_surveySteeple_83 rfl ?_
    obtain ⟨s26, h27, hF⟩ := b1_inv hF
    refine x_put 87 9 inX2 tyX2 tyX2_ok nmX2 rfl (by decide) wd_63 rfl (tX2_9) rfl rfl h27 dX2_surveySteeple_84 rfl ?_
    refine x_iload_n 88 3 dX2_surveySteeple_87 rfl rfl ?_
    cases hF
    exact x_iret rfl rfl (by decide) (by decide) dX2_surveySteeple_88
  refine x_sub [(0, .ref b), (1, .int p0), (2, .int p1), (3, .int (0 : Int32)), (4, .int (0 : Int32))] [2, 3, 4, 1, 0] rfl ?_
  exact mX2_surveySteeple_L5 hst b p0 p1 n _ qfuel (0 : Int32) (0 : Int32) σ x16 s17 h28 hJ
def rmX2_trySurvey : Room := { frames := 4, cells := 0, slots := 0, locals := 96 }
theorem qyX2_trySurvey : qY yX2_trySurvey cX2_trySurvey 3 (some .boolean) 2 := ⟨wd_455, wd_18, by decide +kernel, by decide +kernel, by decide +kernel⟩
theorem kX2_trySurvey {b : Nat} {p0 : Int32} {p1 : Int32} {σ : qH} {o : Int32 × qH} (h : FX2_trySurvey b p0 p1 σ = some o) : ∃ fs : List Value, True ∧ σ b = some (.inr (2, fs)) := by
  unfold FX2_trySurvey at h
  obtain ⟨_, h1, _⟩ := b1_inv h
  obtain ⟨fs, h2⟩ := gC_inv h1
  exact ⟨fs, trivial, h2⟩
set_option maxHeartbeats 4000000 in
set_option maxRecDepth 100000 in
theorem mX2_trySurvey {l : Launch} {G : qG} (hst : l.stackTraces = false) (b : Nat) (p0 : Int32) (p1 : Int32) (σ : qH) (n : Option Nat) (ro : Int32) (so : qH) (hF : FX2_trySurvey b p0 p1 σ = some (ro, so)) : qM l G yX2_trySurvey cX2_trySurvey 3 (some .boolean) rmX2_trySurvey [.ref b, .int p0, .int p1] σ n (.inl (some (.int ro), so, n)) := by
  refine q_body (own := RX2) (nm := "trySurvey") (ls := [(0, .ref b), (1, .int p0), (2, .int p1)]) hst (by decide +kernel) rfl rfl (Nat.le_of_ble_eq_true rfl) rfl rfl rfl ?_
  unfold FX2_trySurvey at hF
  obtain ⟨_, hC, hF⟩ := b1_inv hF
  refine x_iload_n 1 1 dX2_trySurvey_0 rfl rfl ?_
  obtain ⟨v2, h1, hF⟩ := b1_inv hF
  refine x_callS (As := [.int p0]) (rest := []) 4 0 0 (mX2_isSteeple hst p0 σ n v2 h1) qyX2_isSteeple wd_361 wd_362 rfl rfl (by decide) (Nat.le_of_ble_eq_true rfl) (by decide) dX2_trySurvey_1 rfl rfl rfl rfl ?_
  rcases ite_inv hF with ⟨hc, hF⟩ | ⟨hc, hF⟩
  · refine x_if_eq 14 7 dX2_trySurvey_4 (by decide) rfl (fun _ => ?_) (fun q => absurd hc q)
    refine x_iconst 15 (0 : Int32) dX2_trySurvey_14 rfl (by decide) ?_
    cases hF
    exact x_zret rfl rfl rfl (by decide) (by decide) dX2_trySurvey_15
  · refine x_if_eq 14 7 dX2_trySurvey_4 (by decide) rfl (fun q => absurd q hc) (fun _ => ?_)
    refine x_iload_n 8 2 dX2_trySurvey_7 rfl rfl ?_
    obtain ⟨v4, h3, hF⟩ := b1_inv hF
    refine x_callS (As := [.int p1]) (rest := []) 11 0 0 (mX2_isHeight hst p1 σ n v4 h3) qyX2_isHeight wd_373 wd_374 rfl rfl (by decide) (Nat.le_of_ble_eq_true rfl) (by decide) dX2_trySurvey_8 rfl rfl rfl rfl ?_
    rcases ite_inv hF with ⟨hc, hF⟩ | ⟨hc, hF⟩
    · refine x_if_ne 16 14 dX2_trySurvey_11 (by decide) rfl (fun q => absurd hc q) (fun _ => ?_)
      refine x_iconst 15 (0 : Int32) dX2_trySurvey_14 rfl (by decide) ?_
      cases hF
      exact x_zret rfl rfl rfl (by decide) (by decide) dX2_trySurvey_15
    · refine x_if_ne 16 14 dX2_trySurvey_11 (by decide) rfl (fun _ => ?_) (fun q => absurd q hc)
      refine x_aload_n 17 0 dX2_trySurvey_16 rfl rfl ?_
      refine x_iload_n 18 1 dX2_trySurvey_17 rfl rfl ?_
      refine x_iload_n 19 2 dX2_trySurvey_18 rfl rfl ?_
      obtain ⟨v6, s7, h5, hF⟩ := b2_inv hF
      obtain ⟨fs, hb⟩ : ∃ fs : List Value, True ∧ σ b = some (.inr (2, fs)) := kX2_surveySteeple h5
      refine x_callV (As := [.int p0, .int p1]) (rest := []) 22 0 0 (mX2_surveySteeple hst b p0 p1 σ n v6 s7 h5) qyX2_surveySteeple wd_456 wd_457 wd_458 hb.2 rfl rfl rfl (by decide) (Nat.le_of_ble_eq_true rfl) (by decide) dX2_trySurvey_19 rfl rfl rfl rfl ?_
      refine x_pop 23 rfl dX2_trySurvey_22 rfl ?_
      refine x_iconst 24 (1 : Int32) dX2_trySurvey_23 rfl (by decide) ?_
      cases hF
      exact x_zret rfl rfl rfl (by decide) (by decide) dX2_trySurvey_24
def rmX2_count : Room := { frames := 0, cells := 0, slots := 0, locals := 0 }
theorem qyX2_count : qY yX2_count cX2_count 1 (some .int) 0 := ⟨wd_486, wd_18, by decide +kernel, by decide +kernel, by decide +kernel⟩
theorem kX2_count {b : Nat} {σ : qH} {o : Int32} (h : FX2_count b σ = some o) : ∃ fs : List Value, True ∧ σ b = some (.inr (2, fs)) := by
  unfold FX2_count at h
  obtain ⟨_, h1, _⟩ := b1_inv h
  obtain ⟨fs, h2⟩ := gC_inv h1
  exact ⟨fs, trivial, h2⟩
set_option maxHeartbeats 4000000 in
set_option maxRecDepth 100000 in
theorem mX2_count {l : Launch} {G : qG} (hst : l.stackTraces = false) (b : Nat) (σ : qH) (n : Option Nat) (ro : Int32) (hF : FX2_count b σ = some ro) : qM l G yX2_count cX2_count 1 (some .int) rmX2_count [.ref b] σ n (.inl (some (.int ro), σ, n)) := by
  refine q_body (own := RX2) (nm := "count") (ls := [(0, .ref b)]) hst (by decide +kernel) rfl rfl (Nat.le_of_ble_eq_true rfl) rfl rfl rfl ?_
  unfold FX2_count at hF
  obtain ⟨_, hC, hF⟩ := b1_inv hF
  refine x_aload_n 1 0 dX2_count_0 rfl rfl ?_
  obtain ⟨v1, h2, hF⟩ := b1_inv hF
  refine x_getI 4 6 inX2 rfl (by decide) wd_60 h2 dX2_count_1 rfl ?_
  cases hF
  exact x_iret rfl rfl (by decide) (by decide) dX2_count_4
def rmX2_came : Room := { frames := 0, cells := 0, slots := 0, locals := 0 }
theorem qyX2_came : qY yX2_came cX2_came 1 (some .int) 0 := ⟨wd_490, wd_18, by decide +kernel, by decide +kernel, by decide +kernel⟩
theorem kX2_came {b : Nat} {σ : qH} {o : Int32} (h : FX2_came b σ = some o) : ∃ fs : List Value, True ∧ σ b = some (.inr (2, fs)) := by
  unfold FX2_came at h
  obtain ⟨_, h1, _⟩ := b1_inv h
  obtain ⟨fs, h2⟩ := gC_inv h1
  exact ⟨fs, trivial, h2⟩
set_option maxHeartbeats 4000000 in
set_option maxRecDepth 100000 in
theorem mX2_came {l : Launch} {G : qG} (hst : l.stackTraces = false) (b : Nat) (σ : qH) (n : Option Nat) (ro : Int32) (hF : FX2_came b σ = some ro) : qM l G yX2_came cX2_came 1 (some .int) rmX2_came [.ref b] σ n (.inl (some (.int ro), σ, n)) := by
  refine q_body (own := RX2) (nm := "came") (ls := [(0, .ref b)]) hst (by decide +kernel) rfl rfl (Nat.le_of_ble_eq_true rfl) rfl rfl rfl ?_
  unfold FX2_came at hF
  obtain ⟨_, hC, hF⟩ := b1_inv hF
  refine x_aload_n 1 0 dX2_came_0 rfl rfl ?_
  obtain ⟨v1, h2, hF⟩ := b1_inv hF
  refine x_getI 4 7 inX2 rfl (by decide) wd_61 h2 dX2_came_1 rfl ?_
  cases hF
  exact x_iret rfl rfl (by decide) (by decide) dX2_came_4
def rmX2_evenings : Room := { frames := 0, cells := 0, slots := 0, locals := 0 }
theorem qyX2_evenings : qY yX2_evenings cX2_evenings 1 (some .int) 0 := ⟨wd_494, wd_18, by decide +kernel, by decide +kernel, by decide +kernel⟩
theorem kX2_evenings {b : Nat} {σ : qH} {o : Int32} (h : FX2_evenings b σ = some o) : ∃ fs : List Value, True ∧ σ b = some (.inr (2, fs)) := by
  unfold FX2_evenings at h
  obtain ⟨_, h1, _⟩ := b1_inv h
  obtain ⟨fs, h2⟩ := gC_inv h1
  exact ⟨fs, trivial, h2⟩
set_option maxHeartbeats 4000000 in
set_option maxRecDepth 100000 in
theorem mX2_evenings {l : Launch} {G : qG} (hst : l.stackTraces = false) (b : Nat) (σ : qH) (n : Option Nat) (ro : Int32) (hF : FX2_evenings b σ = some ro) : qM l G yX2_evenings cX2_evenings 1 (some .int) rmX2_evenings [.ref b] σ n (.inl (some (.int ro), σ, n)) := by
  refine q_body (own := RX2) (nm := "evenings") (ls := [(0, .ref b)]) hst (by decide +kernel) rfl rfl (Nat.le_of_ble_eq_true rfl) rfl rfl rfl ?_
  unfold FX2_evenings at hF
  obtain ⟨_, hC, hF⟩ := b1_inv hF
  refine x_aload_n 1 0 dX2_evenings_0 rfl rfl ?_
  obtain ⟨v1, h2, hF⟩ := b1_inv hF
  refine x_getI 4 8 inX2 rfl (by decide) wd_62 h2 dX2_evenings_1 rfl ?_
  cases hF
  exact x_iret rfl rfl (by decide) (by decide) dX2_evenings_4
def rmX2_surveys : Room := { frames := 0, cells := 0, slots := 0, locals := 0 }
theorem qyX2_surveys : qY yX2_surveys cX2_surveys 1 (some .int) 0 := ⟨wd_498, wd_18, by decide +kernel, by decide +kernel, by decide +kernel⟩
theorem kX2_surveys {b : Nat} {σ : qH} {o : Int32} (h : FX2_surveys b σ = some o) : ∃ fs : List Value, True ∧ σ b = some (.inr (2, fs)) := by
  unfold FX2_surveys at h
  obtain ⟨_, h1, _⟩ := b1_inv h
  obtain ⟨fs, h2⟩ := gC_inv h1
  exact ⟨fs, trivial, h2⟩
set_option maxHeartbeats 4000000 in
set_option maxRecDepth 100000 in
theorem mX2_surveys {l : Launch} {G : qG} (hst : l.stackTraces = false) (b : Nat) (σ : qH) (n : Option Nat) (ro : Int32) (hF : FX2_surveys b σ = some ro) : qM l G yX2_surveys cX2_surveys 1 (some .int) rmX2_surveys [.ref b] σ n (.inl (some (.int ro), σ, n)) := by
  refine q_body (own := RX2) (nm := "surveys") (ls := [(0, .ref b)]) hst (by decide +kernel) rfl rfl (Nat.le_of_ble_eq_true rfl) rfl rfl rfl ?_
  unfold FX2_surveys at hF
  obtain ⟨_, hC, hF⟩ := b1_inv hF
  refine x_aload_n 1 0 dX2_surveys_0 rfl rfl ?_
  obtain ⟨v1, h2, hF⟩ := b1_inv hF
  refine x_getI 4 9 inX2 rfl (by decide) wd_63 h2 dX2_surveys_1 rfl ?_
  cases hF
  exact x_iret rfl rfl (by decide) (by decide) dX2_surveys_4
def rmX2_quarrel : Room := { frames := 2, cells := 0, slots := 0, locals := 46 }
theorem qyX2_quarrel : qY yX2_quarrel cX2_quarrel 3 (some .boolean) 2 := ⟨wd_506, wd_18, by decide +kernel, by decide +kernel, by decide +kernel⟩
theorem kX2_quarrel {b : Nat} {p0 : Int32} {p1 : Int32} {σ : qH} {o : Int32} (h : FX2_quarrel b p0 p1 σ = some o) : ∃ fs : List Value, True ∧ σ b = some (.inr (2, fs)) := by
  unfold FX2_quarrel at h
  obtain ⟨_, h1, _⟩ := b1_inv h
  obtain ⟨fs, h2⟩ := gC_inv h1
  exact ⟨fs, trivial, h2⟩
set_option maxHeartbeats 4000000 in
set_option maxRecDepth 100000 in
theorem mX2_quarrel {l : Launch} {G : qG} (hst : l.stackTraces = false) (b : Nat) (p0 : Int32) (p1 : Int32) (σ : qH) (n : Option Nat) (ro : Int32) (hF : FX2_quarrel b p0 p1 σ = some ro) : qM l G yX2_quarrel cX2_quarrel 3 (some .boolean) rmX2_quarrel [.ref b, .int p0, .int p1] σ n (.inl (some (.int ro), σ, n)) := by
  refine q_body (own := RX2) (nm := "quarrel") (ls := [(0, .ref b), (1, .int p0), (2, .int p1)]) hst (by decide +kernel) rfl rfl (Nat.le_of_ble_eq_true rfl) rfl rfl rfl ?_
  unfold FX2_quarrel at hF
  obtain ⟨_, hC, hF⟩ := b1_inv hF
  refine x_aload_n 1 0 dX2_quarrel_0 rfl rfl ?_
  refine x_iload_n 2 1 dX2_quarrel_1 rfl rfl ?_
  refine x_iconst 3 (1 : Int32) dX2_quarrel_2 rfl (by decide) ?_
  obtain ⟨v2, h1, hF⟩ := b1_inv hF
  obtain ⟨fs, hb⟩ : ∃ fs : List Value, True ∧ σ b = some (.inr (2, fs)) := kX2_number h1
  refine x_callV (As := [.int p0, .int (1 : Int32)]) (rest := []) 6 0 0 (mX2_number hst b p0 (1 : Int32) σ n v2 h1) qyX2_number wd_436 wd_437 wd_438 hb.2 rfl rfl rfl (by decide) (Nat.le_of_ble_eq_true rfl) (by decide) dX2_quarrel_3 rfl rfl rfl rfl ?_
  refine x_aload_n 7 0 dX2_quarrel_6 rfl rfl ?_
  refine x_iload_n 8 2 dX2_quarrel_7 rfl rfl ?_
  refine x_iconst 9 (1 : Int32) dX2_quarrel_8 rfl (by decide) ?_
  obtain ⟨v4, h3, hF⟩ := b1_inv hF
  obtain ⟨fs, hb⟩ : ∃ fs : List Value, True ∧ σ b = some (.inr (2, fs)) := kX2_number h3
  refine x_callV (As := [.int p1, .int (1 : Int32)]) (rest := [.int v2]) 12 0 0 (mX2_number hst b p1 (1 : Int32) σ n v4 h3) qyX2_number wd_436 wd_437 wd_438 hb.2 rfl rfl rfl (by decide) (Nat.le_of_ble_eq_true rfl) (by decide) dX2_quarrel_9 rfl rfl rfl rfl ?_
  obtain ⟨x5, h8, hF⟩ := b1_inv hF
  have hJ : qX l G RX2 "quarrel" cX2_quarrel 3 (some .boolean) [] rmX2_quarrel 0 0 (.inl (some (.int ro), σ, n)) 0 0 σ n 29 [] [.int x5] := by
    obtain ⟨hz, hF⟩ := ite_none hF
    cases hF
    exact x_zret rfl (by rcases hz with h | h <;> rw [h] <;> rfl) rfl (by decide) (by decide) dX2_quarrel_29
  have hF := h8
  rcases ite_inv hF with ⟨hc, hF⟩ | ⟨hc, hF⟩
  · refine x_icmp_eq 28 15 dX2_quarrel_12 (by decide) rfl (fun _ => ?_) (fun q => absurd hc q)
    refine x_iconst 29 (0 : Int32) dX2_quarrel_28 rfl (by decide) ?_
    have e1 := Option.some.inj hF
    subst e1
    refine x_sub [] [] rfl ?_
    exact hJ
  · refine x_icmp_eq 28 15 dX2_quarrel_12 (by decide) rfl (fun q => absurd q hc) (fun _ => ?_)
    refine x_aload_n 16 0 dX2_quarrel_15 rfl rfl ?_
    refine x_iload_n 17 1 dX2_quarrel_16 rfl rfl ?_
    refine x_iload_n 18 2 dX2_quarrel_17 rfl rfl ?_
    obtain ⟨v7, h6, hF⟩ := b1_inv hF
    obtain ⟨fs, hb⟩ : ∃ fs : List Value, True ∧ σ b = some (.inr (2, fs)) := kX2_feetApart h6
    refine x_callV (As := [.int p0, .int p1]) (rest := []) 21 0 0 (mX2_feetApart hst b p0 p1 σ n v7 h6) qyX2_feetApart wd_440 wd_441 wd_442 hb.2 rfl rfl rfl (by decide) (Nat.le_of_ble_eq_true rfl) (by decide) dX2_quarrel_18 rfl rfl rfl rfl ?_
    rcases ite_inv hF with ⟨hc, hF⟩ | ⟨hc, hF⟩
    · refine x_if_le 28 24 dX2_quarrel_21 (by decide) rfl (fun _ => ?_) (fun q => absurd hc q)
      refine x_iconst 29 (0 : Int32) dX2_quarrel_28 rfl (by decide) ?_
      have e1 := Option.some.inj hF
      subst e1
      refine x_sub [] [] rfl ?_
      exact hJ
    · refine x_if_le 28 24 dX2_quarrel_21 (by decide) rfl (fun q => absurd q hc) (fun _ => ?_)
      refine x_iconst 25 (1 : Int32) dX2_quarrel_24 rfl (by decide) ?_
      refine x_goto 29 dX2_quarrel_25 (by decide) ?_
      have e1 := Option.some.inj hF
      subst e1
      refine x_sub [] [] rfl ?_
      exact hJ
def rmX2_pairsThatQuarrel : Room := { frames := 3, cells := 0, slots := 0, locals := 68 }
theorem qyX2_pairsThatQuarrel : qY yX2_pairsThatQuarrel cX2_pairsThatQuarrel 4 (some .int) 0 := ⟨wd_502, wd_18, by decide +kernel, by decide +kernel, by decide +kernel⟩
set_option maxHeartbeats 4000000 in
set_option maxRecDepth 100000 in
theorem mX2_pairsThatQuarrel_L16 {l : Launch} {G : qG} (hst : l.stackTraces = false) (a0 : Nat) (a2 : Int32) (σ : qH) (n : Option Nat) (r : qR) : ∀ (q : Nat) (y1 : Int32) (y3 : Int32) (o1 : Int32), FX2_pairsThatQuarrel_L16 a0 a2 σ q y1 y3 = some o1 → qX l G RX2 "pairsThatQuarrel" cX2_pairsThatQuarrel 4 (some .int) [] rmX2_pairsThatQuarrel 0 0 r 0 0 σ n 47 [(0, .ref a0), (1, .int o1), (2, .int a2)] [] → qX l G RX2 "pairsThatQuarrel" cX2_pairsThatQuarrel 4 (some .int) [] rmX2_pairsThatQuarrel 0 0 r 0 0 σ n 16 [(0, .ref a0), (1, .int y1), (2, .int a2), (3, .int y3)] [] := by
  intro q
  induction q with
  | zero => intro y1 y3 o1 hF; rw [FX2_pairsThatQuarrel_L16] at hF; cases hF
  | succ q ih =>
    intro y1 y3 o1 hF hJ
    rw [FX2_pairsThatQuarrel_L16] at hF
    refine x_iload_n 17 3 dX2_pairsThatQuarrel_16 rfl rfl ?_
    refine x_aload_n 18 0 dX2_pairsThatQuarrel_17 rfl rfl ?_
    obtain ⟨v3, h4, hF⟩ := b1_inv hF
    refine x_getI 21 6 inX2 rfl (by decide) wd_60 h4 dX2_pairsThatQuarrel_18 rfl ?_
    rcases ite_inv hF with ⟨hc, hF⟩ | ⟨hc, hF⟩
    · refine x_icmp_ge 47 24 dX2_pairsThatQuarrel_21 (by decide) rfl (fun _ => ?_) (fun q => absurd hc q)
      have e1 := Option.some.inj hF
      subst e1
      refine x_sub [(0, .ref a0), (1, .int y1), (2, .int a2)] [0, 1, 2] rfl ?_
      exact hJ
    · refine x_icmp_ge 47 24 dX2_pairsThatQuarrel_21 (by decide) rfl (fun q => absurd q hc) (fun _ => ?_)
      refine x_iload_n 25 1 dX2_pairsThatQuarrel_24 rfl rfl ?_
      refine x_aload_n 26 0 dX2_pairsThatQuarrel_25 rfl rfl ?_
      refine x_iload_n 27 2 dX2_pairsThatQuarrel_26 rfl rfl ?_
      refine x_iload_n 28 3 dX2_pairsThatQuarrel_27 rfl rfl ?_
      obtain ⟨v6, h5, hF⟩ := b1_inv hF
      obtain ⟨fs, hb⟩ : ∃ fs : List Value, True ∧ σ a0 = some (.inr (2, fs)) := kX2_quarrel h5
      refine x_callV (As := [.int a2, .int y3]) (rest := [.int y1]) 31 0 0 (mX2_quarrel hst a0 a2 y3 σ n v6 h5) qyX2_quarrel wd_503 wd_505 wd_9 hb.2 rfl rfl rfl (by decide) (Nat.le_of_ble_eq_true rfl) (by decide) dX2_pairsThatQuarrel_28 rfl rfl rfl rfl ?_
      obtain ⟨x7, h8, hF⟩ := b1_inv hF
      have hJ : qX l G RX2 "pairsThatQuarrel" cX2_pairsThatQuarrel 4 (some .int) [] rmX2_pairsThatQuarrel 0 0 r 0 0 σ n 39 [(0, .ref a0), (2, .int a2), (3, .int y3)] [.int x7, .int y1] := by
        refine x_iadd 40 dX2_pairsThatQuarrel_39 rfl ?_
        refine x_istore_n 41 1 [(1, .int (y1 + x7)), (0, .ref a0), (2, .int a2), (3, .int y3)] dX2_pairsThatQuarrel_40 rfl rfl (by decide) rfl ?_
        refine x_iinc 44 3 3 (y3 + (1 : Int32)) [(3, .int (y3 + (1 : Int32))), (1, .int (y1 + x7)), (0, .ref a0), (2, .int a2)] dX2_pairsThatQuarrel_41 rfl rfl rfl (by decide) rfl ?_
        refine x_goto 16 dX2_pairsThatQuarrel_44 (by decide) ?_
        refine x_sub [(0, .ref a0), (1, .int (y1 + x7)), (2, .int a2), (3, .int (y3 + (1 : Int32)))] [2, 1, 3, 0] rfl ?_
        exact ih _ _ _ hF hJ
      have hF := h8
      rcases ite_inv hF with ⟨hc, hF⟩ | ⟨hc, hF⟩
      · refine x_if_eq 38 34 dX2_pairsThatQuarrel_31 (by decide) rfl (fun _ => ?_) (fun q => absurd hc q)
        refine x_iconst 39 (0 : Int32) dX2_pairsThatQuarrel_38 rfl (by decide) ?_
        have e1 := Option.some.inj hF
        subst e1
        refine x_sub [(0, .ref a0), (2, .int a2), (3, .int y3)] [0, 2, 3] rfl ?_
        exact hJ
      · refine x_if_eq 38 34 dX2_pairsThatQuarrel_31 (by decide) rfl (fun q => absurd q hc) (fun _ => ?_)
        refine x_iconst 35 (1 : Int32) dX2_pairsThatQuarrel_34 rfl (by decide) ?_
        refine x_goto 39 dX2_pairsThatQuarrel_35 (by decide) ?_
        have e1 := Option.some.inj hF
        subst e1
        refine x_sub [(0, .ref a0), (2, .int a2), (3, .int y3)] [0, 2, 3] rfl ?_
        exact hJ
set_option maxHeartbeats 4000000 in
set_option maxRecDepth 100000 in
theorem mX2_pairsThatQuarrel_L4 {l : Launch} {G : qG} (hst : l.stackTraces = false) (a0 : Nat) (σ : qH) (n : Option Nat) (r : qR) : ∀ (q : Nat) (y1 : Int32) (y2 : Int32) (o1 : Int32), FX2_pairsThatQuarrel_L4 a0 σ q y1 y2 = some o1 → qX l G RX2 "pairsThatQuarrel" cX2_pairsThatQuarrel 4 (some .int) [] rmX2_pairsThatQuarrel 0 0 r 0 0 σ n 53 [(1, .int o1)] [] → qX l G RX2 "pairsThatQuarrel" cX2_pairsThatQuarrel 4 (some .int) [] rmX2_pairsThatQuarrel 0 0 r 0 0 σ n 4 [(0, .ref a0), (1, .int y1), (2, .int y2)] [] := by
  intro q
  induction q with
  | zero => intro y1 y2 o1 hF; rw [FX2_pairsThatQuarrel_L4] at hF; cases hF
  | succ q ih =>
    intro y1 y2 o1 hF hJ
    rw [FX2_pairsThatQuarrel_L4] at hF
    refine x_iload_n 5 2 dX2_pairsThatQuarrel_4 rfl rfl ?_
    refine x_aload_n 6 0 dX2_pairsThatQuarrel_5 rfl rfl ?_
    obtain ⟨v1, h2, hF⟩ := b1_inv hF
    refine x_getI 9 6 inX2 rfl (by decide) wd_60 h2 dX2_pairsThatQuarrel_6 rfl ?_
    rcases ite_inv hF with ⟨hc, hF⟩ | ⟨hc, hF⟩
    · refine x_icmp_ge 53 12 dX2_pairsThatQuarrel_9 (by decide) rfl (fun _ => ?_) (fun q => absurd hc q)
      have e1 := Option.some.inj hF
      subst e1
      refine x_sub [(1, .int y1)] [1] rfl ?_
      exact hJ
    · refine x_icmp_ge 53 12 dX2_pairsThatQuarrel_9 (by decide) rfl (fun q => absurd q hc) (fun _ => ?_)
      refine x_iload_n 13 2 dX2_pairsThatQuarrel_12 rfl rfl ?_
      refine x_iconst 14 (1 : Int32) dX2_pairsThatQuarrel_13 rfl (by decide) ?_
      refine x_iadd 15 dX2_pairsThatQuarrel_14 rfl ?_
      refine x_istore_n 16 3 [(3, .int (y2 + (1 : Int32))), (0, .ref a0), (1, .int y1), (2, .int y2)] dX2_pairsThatQuarrel_15 rfl rfl (by decide) rfl ?_
      obtain ⟨x9, h10, hF⟩ := b1_inv hF
      have hJ : qX l G RX2 "pairsThatQuarrel" cX2_pairsThatQuarrel 4 (some .int) [] rmX2_pairsThatQuarrel 0 0 r 0 0 σ n 47 [(0, .ref a0), (1, .int x9), (2, .int y2)] [] := by
        refine x_iinc 50 2 2 (y2 + (1 : Int32)) [(2, .int (y2 + (1 : Int32))), (0, .ref a0), (1, .int x9)] dX2_pairsThatQuarrel_47 rfl rfl rfl (by decide) rfl ?_
        refine x_goto 4 dX2_pairsThatQuarrel_50 (by decide) ?_
        refine x_sub [(0, .ref a0), (1, .int x9), (2, .int (y2 + (1 : Int32)))] [1, 2, 0] rfl ?_
        exact ih _ _ _ hF hJ
      refine x_sub [(0, .ref a0), (1, .int y1), (2, .int y2), (3, .int (y2 + (1 : Int32)))] [1, 2, 3, 0] rfl ?_
      exact mX2_pairsThatQuarrel_L16 hst a0 y2 σ n _ qfuel y1 (y2 + (1 : Int32)) x9 h10 hJ
theorem kX2_pairsThatQuarrel {b : Nat} {σ : qH} {o : Int32} (h : FX2_pairsThatQuarrel b σ = some o) : ∃ fs : List Value, True ∧ σ b = some (.inr (2, fs)) := by
  unfold FX2_pairsThatQuarrel at h
  obtain ⟨_, h1, _⟩ := b1_inv h
  obtain ⟨fs, h2⟩ := gC_inv h1
  exact ⟨fs, trivial, h2⟩
set_option maxHeartbeats 4000000 in
set_option maxRecDepth 100000 in
theorem mX2_pairsThatQuarrel {l : Launch} {G : qG} (hst : l.stackTraces = false) (b : Nat) (σ : qH) (n : Option Nat) (ro : Int32) (hF : FX2_pairsThatQuarrel b σ = some ro) : qM l G yX2_pairsThatQuarrel cX2_pairsThatQuarrel 4 (some .int) rmX2_pairsThatQuarrel [.ref b] σ n (.inl (some (.int ro), σ, n)) := by
  refine q_body (own := RX2) (nm := "pairsThatQuarrel") (ls := [(0, .ref b)]) hst (by decide +kernel) rfl rfl (Nat.le_of_ble_eq_true rfl) rfl rfl rfl ?_
  unfold FX2_pairsThatQuarrel at hF
  obtain ⟨_, hC, hF⟩ := b1_inv hF
  refine x_iconst 1 (0 : Int32) dX2_pairsThatQuarrel_0 rfl (by decide) ?_
  refine x_istore_n 2 1 [(1, .int (0 : Int32)), (0, .ref b)] dX2_pairsThatQuarrel_1 rfl rfl (by decide) rfl ?_
  refine x_iconst 3 (0 : Int32) dX2_pairsThatQuarrel_2 rfl (by decide) ?_
  refine x_istore_n 4 2 [(2, .int (0 : Int32)), (1, .int (0 : Int32)), (0, .ref b)] dX2_pairsThatQuarrel_3 rfl rfl (by decide) rfl ?_
  obtain ⟨x11, h12, hF⟩ := b1_inv hF
  have hJ : qX l G RX2 "pairsThatQuarrel" cX2_pairsThatQuarrel 4 (some .int) [] rmX2_pairsThatQuarrel 0 0 (.inl (some (.int ro), σ, n)) 0 0 σ n 53 [(1, .int x11)] [] := by
    refine x_iload_n 54 0 dX2_pairsThatQuarrel_53 rfl rfl ?_
    cases hF
    exact x_iret rfl rfl (by decide) (by decide) dX2_pairsThatQuarrel_54
  refine x_sub [(0, .ref b), (1, .int (0 : Int32)), (2, .int (0 : Int32))] [2, 1, 0] rfl ?_
  exact mX2_pairsThatQuarrel_L4 hst b σ n _ qfuel (0 : Int32) (0 : Int32) x11 h12 hJ
def rmX2_pairsThatMatter : Room := { frames := 3, cells := 0, slots := 0, locals := 68 }
theorem qyX2_pairsThatMatter : qY yX2_pairsThatMatter cX2_pairsThatMatter 4 (some .int) 0 := ⟨wd_510, wd_18, by decide +kernel, by decide +kernel, by decide +kernel⟩
set_option maxHeartbeats 4000000 in
set_option maxRecDepth 100000 in
theorem mX2_pairsThatMatter_L16 {l : Launch} {G : qG} (hst : l.stackTraces = false) (a0 : Nat) (a2 : Int32) (σ : qH) (n : Option Nat) (r : qR) : ∀ (q : Nat) (y1 : Int32) (y3 : Int32) (o1 : Int32), FX2_pairsThatMatter_L16 a0 a2 σ q y1 y3 = some o1 → qX l G RX2 "pairsThatMatter" cX2_pairsThatMatter 4 (some .int) [] rmX2_pairsThatMatter 0 0 r 0 0 σ n 47 [(0, .ref a0), (1, .int o1), (2, .int a2)] [] → qX l G RX2 "pairsThatMatter" cX2_pairsThatMatter 4 (some .int) [] rmX2_pairsThatMatter 0 0 r 0 0 σ n 16 [(0, .ref a0), (1, .int y1), (2, .int a2), (3, .int y3)] [] := by
  intro q
  induction q with
  | zero => intro y1 y3 o1 hF; rw [FX2_pairsThatMatter_L16] at hF; cases hF
  | succ q ih =>
    intro y1 y3 o1 hF hJ
    rw [FX2_pairsThatMatter_L16] at hF
    refine x_iload_n 17 3 dX2_pairsThatMatter_16 rfl rfl ?_
    refine x_aload_n 18 0 dX2_pairsThatMatter_17 rfl rfl ?_
    obtain ⟨v3, h4, hF⟩ := b1_inv hF
    refine x_getI 21 6 inX2 rfl (by decide) wd_60 h4 dX2_pairsThatMatter_18 rfl ?_
    rcases ite_inv hF with ⟨hc, hF⟩ | ⟨hc, hF⟩
    · refine x_icmp_ge 47 24 dX2_pairsThatMatter_21 (by decide) rfl (fun _ => ?_) (fun q => absurd hc q)
      have e1 := Option.some.inj hF
      subst e1
      refine x_sub [(0, .ref a0), (1, .int y1), (2, .int a2)] [0, 1, 2] rfl ?_
      exact hJ
    · refine x_icmp_ge 47 24 dX2_pairsThatMatter_21 (by decide) rfl (fun q => absurd q hc) (fun _ => ?_)
      refine x_iload_n 25 1 dX2_pairsThatMatter_24 rfl rfl ?_
      refine x_aload_n 26 0 dX2_pairsThatMatter_25 rfl rfl ?_
      refine x_iload_n 27 2 dX2_pairsThatMatter_26 rfl rfl ?_
      refine x_iload_n 28 3 dX2_pairsThatMatter_27 rfl rfl ?_
      obtain ⟨v6, h5, hF⟩ := b1_inv hF
      obtain ⟨fs, hb⟩ : ∃ fs : List Value, True ∧ σ a0 = some (.inr (2, fs)) := kX2_matters h5
      refine x_callV (As := [.int a2, .int y3]) (rest := [.int y1]) 31 0 0 (mX2_matters hst a0 a2 y3 σ n v6 h5) qyX2_matters wd_432 wd_434 wd_5 hb.2 rfl rfl rfl (by decide) (Nat.le_of_ble_eq_true rfl) (by decide) dX2_pairsThatMatter_28 rfl rfl rfl rfl ?_
      obtain ⟨x7, h8, hF⟩ := b1_inv hF
      have hJ : qX l G RX2 "pairsThatMatter" cX2_pairsThatMatter 4 (some .int) [] rmX2_pairsThatMatter 0 0 r 0 0 σ n 39 [(0, .ref a0), (2, .int a2), (3, .int y3)] [.int x7, .int y1] := by
        refine x_iadd 40 dX2_pairsThatMatter_39 rfl ?_
        refine x_istore_n 41 1 [(1, .int (y1 + x7)), (0, .ref a0), (2, .int a2), (3, .int y3)] dX2_pairsThatMatter_40 rfl rfl (by decide) rfl ?_
        refine x_iinc 44 3 3 (y3 + (1 : Int32)) [(3, .int (y3 + (1 : Int32))), (1, .int (y1 + x7)), (0, .ref a0), (2, .int a2)] dX2_pairsThatMatter_41 rfl rfl rfl (by decide) rfl ?_
        refine x_goto 16 dX2_pairsThatMatter_44 (by decide) ?_
        refine x_sub [(0, .ref a0), (1, .int (y1 + x7)), (2, .int a2), (3, .int (y3 + (1 : Int32)))] [2, 1, 3, 0] rfl ?_
        exact ih _ _ _ hF hJ
      have hF := h8
      rcases ite_inv hF with ⟨hc, hF⟩ | ⟨hc, hF⟩
      · refine x_if_eq 38 34 dX2_pairsThatMatter_31 (by decide) rfl (fun _ => ?_) (fun q => absurd hc q)
        refine x_iconst 39 (0 : Int32) dX2_pairsThatMatter_38 rfl (by decide) ?_
        have e1 := Option.some.inj hF
        subst e1
        refine x_sub [(0, .ref a0), (2, .int a2), (3, .int y3)] [0, 2, 3] rfl ?_
        exact hJ
      · refine x_if_eq 38 34 dX2_pairsThatMatter_31 (by decide) rfl (fun q => absurd q hc) (fun _ => ?_)
        refine x_iconst 35 (1 : Int32) dX2_pairsThatMatter_34 rfl (by decide) ?_
        refine x_goto 39 dX2_pairsThatMatter_35 (by decide) ?_
        have e1 := Option.some.inj hF
        subst e1
        refine x_sub [(0, .ref a0), (2, .int a2), (3, .int y3)] [0, 2, 3] rfl ?_
        exact hJ
set_option maxHeartbeats 4000000 in
set_option maxRecDepth 100000 in
theorem mX2_pairsThatMatter_L4 {l : Launch} {G : qG} (hst : l.stackTraces = false) (a0 : Nat) (σ : qH) (n : Option Nat) (r : qR) : ∀ (q : Nat) (y1 : Int32) (y2 : Int32) (o1 : Int32), FX2_pairsThatMatter_L4 a0 σ q y1 y2 = some o1 → qX l G RX2 "pairsThatMatter" cX2_pairsThatMatter 4 (some .int) [] rmX2_pairsThatMatter 0 0 r 0 0 σ n 53 [(1, .int o1)] [] → qX l G RX2 "pairsThatMatter" cX2_pairsThatMatter 4 (some .int) [] rmX2_pairsThatMatter 0 0 r 0 0 σ n 4 [(0, .ref a0), (1, .int y1), (2, .int y2)] [] := by
  intro q
  induction q with
  | zero => intro y1 y2 o1 hF; rw [FX2_pairsThatMatter_L4] at hF; cases hF
  | succ q ih =>
    intro y1 y2 o1 hF hJ
    rw [FX2_pairsThatMatter_L4] at hF
    refine x_iload_n 5 2 dX2_pairsThatMatter_4 rfl rfl ?_
    refine x_aload_n 6 0 dX2_pairsThatMatter_5 rfl rfl ?_
    obtain ⟨v1, h2, hF⟩ := b1_inv hF
    refine x_getI 9 6 inX2 rfl (by decide) wd_60 h2 dX2_pairsThatMatter_6 rfl ?_
    rcases ite_inv hF with ⟨hc, hF⟩ | ⟨hc, hF⟩
    · refine x_icmp_ge 53 12 dX2_pairsThatMatter_9 (by decide) rfl (fun _ => ?_) (fun q => absurd hc q)
      have e1 := Option.some.inj hF
      subst e1
      refine x_sub [(1, .int y1)] [1] rfl ?_
      exact hJ
    · refine x_icmp_ge 53 12 dX2_pairsThatMatter_9 (by decide) rfl (fun q => absurd q hc) (fun _ => ?_)
      refine x_iload_n 13 2 dX2_pairsThatMatter_12 rfl rfl ?_
      refine x_iconst 14 (1 : Int32) dX2_pairsThatMatter_13 rfl (by decide) ?_
      refine x_iadd 15 dX2_pairsThatMatter_14 rfl ?_
      refine x_istore_n 16 3 [(3, .int (y2 + (1 : Int32))), (0, .ref a0), (1, .int y1), (2, .int y2)] dX2_pairsThatMatter_15 rfl rfl (by decide) rfl ?_
      obtain ⟨x9, h10, hF⟩ := b1_inv hF
      have hJ : qX l G RX2 "pairsThatMatter" cX2_pairsThatMatter 4 (some .int) [] rmX2_pairsThatMatter 0 0 r 0 0 σ n 47 [(0, .ref a0), (1, .int x9), (2, .int y2)] [] := by
        refine x_iinc 50 2 2 (y2 + (1 : Int32)) [(2, .int (y2 + (1 : Int32))), (0, .ref a0), (1, .int x9)] dX2_pairsThatMatter_47 rfl rfl rfl (by decide) rfl ?_
        refine x_goto 4 dX2_pairsThatMatter_50 (by decide) ?_
        refine x_sub [(0, .ref a0), (1, .int x9), (2, .int (y2 + (1 : Int32)))] [1, 2, 0] rfl ?_
        exact ih _ _ _ hF hJ
      refine x_sub [(0, .ref a0), (1, .int y1), (2, .int y2), (3, .int (y2 + (1 : Int32)))] [1, 2, 3, 0] rfl ?_
      exact mX2_pairsThatMatter_L16 hst a0 y2 σ n _ qfuel y1 (y2 + (1 : Int32)) x9 h10 hJ
theorem kX2_pairsThatMatter {b : Nat} {σ : qH} {o : Int32} (h : FX2_pairsThatMatter b σ = some o) : ∃ fs : List Value, True ∧ σ b = some (.inr (2, fs)) := by
  unfold FX2_pairsThatMatter at h
  obtain ⟨_, h1, _⟩ := b1_inv h
  obtain ⟨fs, h2⟩ := gC_inv h1
  exact ⟨fs, trivial, h2⟩
set_option maxHeartbeats 4000000 in
set_option maxRecDepth 100000 in
theorem mX2_pairsThatMatter {l : Launch} {G : qG} (hst : l.stackTraces = false) (b : Nat) (σ : qH) (n : Option Nat) (ro : Int32) (hF : FX2_pairsThatMatter b σ = some ro) : qM l G yX2_pairsThatMatter cX2_pairsThatMatter 4 (some .int) rmX2_pairsThatMatter [.ref b] σ n (.inl (some (.int ro), σ, n)) := by
  refine q_body (own := RX2) (nm := "pairsThatMatter") (ls := [(0, .ref b)]) hst (by decide +kernel) rfl rfl (Nat.le_of_ble_eq_true rfl) rfl rfl rfl ?_
  unfold FX2_pairsThatMatter at hF
  obtain ⟨_, hC, hF⟩ := b1_inv hF
  refine x_iconst 1 (0 : Int32) dX2_pairsThatMatter_0 rfl (by decide) ?_
  refine x_istore_n 2 1 [(1, .int (0 : Int32)), (0, .ref b)] dX2_pairsThatMatter_1 rfl rfl (by decide) rfl ?_
  refine x_iconst 3 (0 : Int32) dX2_pairsThatMatter_2 rfl (by decide) ?_
  refine x_istore_n 4 2 [(2, .int (0 : Int32)), (1, .int (0 : Int32)), (0, .ref b)] dX2_pairsThatMatter_3 rfl rfl (by decide) rfl ?_
  obtain ⟨x11, h12, hF⟩ := b1_inv hF
  have hJ : qX l G RX2 "pairsThatMatter" cX2_pairsThatMatter 4 (some .int) [] rmX2_pairsThatMatter 0 0 (.inl (some (.int ro), σ, n)) 0 0 σ n 53 [(1, .int x11)] [] := by
    refine x_iload_n 54 0 dX2_pairsThatMatter_53 rfl rfl ?_
    cases hF
    exact x_iret rfl rfl (by decide) (by decide) dX2_pairsThatMatter_54
  refine x_sub [(0, .ref b), (1, .int (0 : Int32)), (2, .int (0 : Int32))] [2, 1, 0] rfl ?_
  exact mX2_pairsThatMatter_L4 hst b σ n _ qfuel (0 : Int32) (0 : Int32) x11 h12 hJ
def rmX2_sum : Room := { frames := 0, cells := 0, slots := 0, locals := 0 }
theorem qyX2_sum : qY yX2_sum cX2_sum 6 (some .int) 1 := ⟨wd_517, wd_18, by decide +kernel, by decide +kernel, by decide +kernel⟩
set_option maxHeartbeats 4000000 in
set_option maxRecDepth 100000 in
theorem mX2_sum_L10 {l : Launch} {G : qG} (hst : l.stackTraces = false) (a2 : Nat) (a3 : Int32) (σ : qH) (n : Option Nat) (r : qR) : ∀ (q : Nat) (y1 : Int32) (y4 : Int32) (o1 : Int32), FX2_sum_L10 a2 a3 σ q y1 y4 = some o1 → qX l G RX2 "sum" cX2_sum 6 (some .int) [] rmX2_sum 0 0 r 0 0 σ n 33 [(1, .int o1)] [] → qX l G RX2 "sum" cX2_sum 6 (some .int) [] rmX2_sum 0 0 r 0 0 σ n 10 [(1, .int y1), (2, .ref a2), (3, .int a3), (4, .int y4)] [] := by
  intro q
  induction q with
  | zero => intro y1 y4 o1 hF; rw [FX2_sum_L10] at hF; cases hF
  | succ q ih =>
    intro y1 y4 o1 hF hJ
    rw [FX2_sum_L10] at hF
    refine x_iload 12 3 dX2_sum_10 rfl rfl ?_
    refine x_iload_n 13 2 dX2_sum_12 rfl rfl ?_
    rcases ite_inv hF with ⟨hc, hF⟩ | ⟨hc, hF⟩
    · refine x_icmp_ge 33 16 dX2_sum_13 (by decide) rfl (fun _ => ?_) (fun q => absurd hc q)
      have e1 := Option.some.inj hF
      subst e1
      refine x_sub [(1, .int y1)] [0] rfl ?_
      exact hJ
    · refine x_icmp_ge 33 16 dX2_sum_13 (by decide) rfl (fun q => absurd q hc) (fun _ => ?_)
      refine x_aload_n 17 1 dX2_sum_16 rfl rfl ?_
      refine x_iload 19 3 dX2_sum_17 rfl rfl ?_
      obtain ⟨v3, h4, hF⟩ := b1_inv hF
      refine x_aI 20 h4 dX2_sum_19 rfl ?_
      refine x_istore 22 5 [(5, .int v3), (1, .int y1), (2, .ref a2), (3, .int a3), (4, .int y4)] dX2_sum_20 rfl (by decide) rfl ?_
      refine x_iload_n 23 1 dX2_sum_22 rfl rfl ?_
      refine x_iload 25 0 dX2_sum_23 rfl rfl ?_
      refine x_iadd 26 dX2_sum_25 rfl ?_
      refine x_istore_n 27 1 [(1, .int (y1 + v3)), (5, .int v3), (2, .ref a2), (3, .int a3), (4, .int y4)] dX2_sum_26 rfl rfl (by decide) rfl ?_
      refine x_iinc 30 4 4 (y4 + (1 : Int32)) [(4, .int (y4 + (1 : Int32))), (1, .int (y1 + v3)), (5, .int v3), (2, .ref a2), (3, .int a3)] dX2_sum_27 rfl rfl rfl (by decide) rfl ?_
      refine x_goto 10 dX2_sum_30 (by decide) ?_
      refine x_sub [(1, .int (y1 + v3)), (2, .ref a2), (3, .int a3), (4, .int (y4 + (1 : Int32)))] [1, 3, 4, 0] rfl ?_
      exact ih _ _ _ hF hJ
set_option maxHeartbeats 4000000 in
set_option maxRecDepth 100000 in
theorem mX2_sum {l : Launch} {G : qG} (hst : l.stackTraces = false) (p0 : Nat) (σ : qH) (n : Option Nat) (ro : Int32) (hF : FX2_sum p0 σ = some ro) : qM l G yX2_sum cX2_sum 6 (some .int) rmX2_sum [.ref p0] σ n (.inl (some (.int ro), σ, n)) := by
  refine q_body (own := RX2) (nm := "sum") (ls := [(0, .ref p0)]) hst (by decide +kernel) rfl rfl (Nat.le_of_ble_eq_true rfl) rfl rfl rfl ?_
  unfold FX2_sum at hF
  refine x_iconst 1 (0 : Int32) dX2_sum_0 rfl (by decide) ?_
  refine x_istore_n 2 1 [(1, .int (0 : Int32)), (0, .ref p0)] dX2_sum_1 rfl rfl (by decide) rfl ?_
  refine x_aload_n 3 1 dX2_sum_2 rfl rfl ?_
  refine x_astore_n 4 2 [(2, .ref p0), (1, .int (0 : Int32)), (0, .ref p0)] dX2_sum_3 rfl rfl (by decide) rfl ?_
  refine x_aload_n 5 0 dX2_sum_4 rfl rfl ?_
  obtain ⟨v1, h2, hF⟩ := b1_inv hF
  refine x_aL 6 h2 dX2_sum_5 rfl ?_
  refine x_istore_n 7 3 [(3, .int v1), (2, .ref p0), (1, .int (0 : Int32)), (0, .ref p0)] dX2_sum_6 rfl rfl (by decide) rfl ?_
  refine x_iconst 8 (0 : Int32) dX2_sum_7 rfl (by decide) ?_
  refine x_istore 10 4 [(4, .int (0 : Int32)), (3, .int v1), (2, .ref p0), (1, .int (0 : Int32)), (0, .ref p0)] dX2_sum_8 rfl (by decide) rfl ?_
  obtain ⟨x5, h6, hF⟩ := b1_inv hF
  have hJ : qX l G RX2 "sum" cX2_sum 6 (some .int) [] rmX2_sum 0 0 (.inl (some (.int ro), σ, n)) 0 0 σ n 33 [(1, .int x5)] [] := by
    refine x_iload_n 34 0 dX2_sum_33 rfl rfl ?_
    cases hF
    exact x_iret rfl rfl (by decide) (by decide) dX2_sum_34
  refine x_sub [(1, .int (0 : Int32)), (2, .ref p0), (3, .int v1), (4, .int (0 : Int32))] [3, 2, 1, 0] rfl ?_
  exact mX2_sum_L10 hst p0 v1 σ n _ qfuel (0 : Int32) (0 : Int32) x5 h6 hJ
def rmX2_trustOfAll : Room := { frames := 1, cells := 0, slots := 0, locals := 25 }
theorem qyX2_trustOfAll : qY yX2_trustOfAll cX2_trustOfAll 1 (some .int) 0 := ⟨wd_514, wd_18, by decide +kernel, by decide +kernel, by decide +kernel⟩
theorem kX2_trustOfAll {b : Nat} {σ : qH} {o : Int32} (h : FX2_trustOfAll b σ = some o) : ∃ fs : List Value, True ∧ σ b = some (.inr (2, fs)) := by
  unfold FX2_trustOfAll at h
  obtain ⟨_, h1, _⟩ := b1_inv h
  obtain ⟨fs, h2⟩ := gC_inv h1
  exact ⟨fs, trivial, h2⟩
set_option maxHeartbeats 4000000 in
set_option maxRecDepth 100000 in
theorem mX2_trustOfAll {l : Launch} {G : qG} (hst : l.stackTraces = false) (b : Nat) (σ : qH) (n : Option Nat) (ro : Int32) (hF : FX2_trustOfAll b σ = some ro) : qM l G yX2_trustOfAll cX2_trustOfAll 1 (some .int) rmX2_trustOfAll [.ref b] σ n (.inl (some (.int ro), σ, n)) := by
  refine q_body (own := RX2) (nm := "trustOfAll") (ls := [(0, .ref b)]) hst (by decide +kernel) rfl rfl (Nat.le_of_ble_eq_true rfl) rfl rfl rfl ?_
  unfold FX2_trustOfAll at hF
  obtain ⟨_, hC, hF⟩ := b1_inv hF
  refine x_aload_n 1 0 dX2_trustOfAll_0 rfl rfl ?_
  obtain ⟨r1, h2, hF⟩ := b1_inv hF
  refine x_getR 4 1 inX2 rfl (by decide) wd_55 h2 dX2_trustOfAll_1 rfl ?_
  obtain ⟨v4, h3, hF⟩ := b1_inv hF
  refine x_callS (As := [.ref r1]) (rest := []) 7 0 0 (mX2_sum hst r1 σ n v4 h3) qyX2_sum wd_515 wd_516 rfl rfl (by decide) (Nat.le_of_ble_eq_true rfl) (by decide) dX2_trustOfAll_4 rfl rfl rfl rfl ?_
  cases hF
  exact x_iret rfl rfl (by decide) (by decide) dX2_trustOfAll_7
def rmX2_lost : Room := { frames := 0, cells := 0, slots := 0, locals := 0 }
theorem qyX2_lost : qY yX2_lost cX2_lost 1 (some .int) 0 := ⟨wd_521, wd_18, by decide +kernel, by decide +kernel, by decide +kernel⟩
theorem kX2_lost {b : Nat} {σ : qH} {o : Int32} (h : FX2_lost b σ = some o) : ∃ fs : List Value, True ∧ σ b = some (.inr (2, fs)) := by
  unfold FX2_lost at h
  obtain ⟨_, h1, _⟩ := b1_inv h
  obtain ⟨fs, h2⟩ := gC_inv h1
  exact ⟨fs, trivial, h2⟩
set_option maxHeartbeats 4000000 in
set_option maxRecDepth 100000 in
theorem mX2_lost {l : Launch} {G : qG} (hst : l.stackTraces = false) (b : Nat) (σ : qH) (n : Option Nat) (ro : Int32) (hF : FX2_lost b σ = some ro) : qM l G yX2_lost cX2_lost 1 (some .int) rmX2_lost [.ref b] σ n (.inl (some (.int ro), σ, n)) := by
  refine q_body (own := RX2) (nm := "lost") (ls := [(0, .ref b)]) hst (by decide +kernel) rfl rfl (Nat.le_of_ble_eq_true rfl) rfl rfl rfl ?_
  unfold FX2_lost at hF
  obtain ⟨_, hC, hF⟩ := b1_inv hF
  refine x_aload_n 1 0 dX2_lost_0 rfl rfl ?_
  obtain ⟨v1, h2, hF⟩ := b1_inv hF
  refine x_getI 4 10 inX2 rfl (by decide) wd_64 h2 dX2_lost_1 rfl ?_
  cases hF
  exact x_iret rfl rfl (by decide) (by decide) dX2_lost_4
def rmX2_rightOfAll : Room := { frames := 1, cells := 0, slots := 0, locals := 25 }
theorem qyX2_rightOfAll : qY yX2_rightOfAll cX2_rightOfAll 1 (some .int) 0 := ⟨wd_525, wd_18, by decide +kernel, by decide +kernel, by decide +kernel⟩
theorem kX2_rightOfAll {b : Nat} {σ : qH} {o : Int32} (h : FX2_rightOfAll b σ = some o) : ∃ fs : List Value, True ∧ σ b = some (.inr (2, fs)) := by
  unfold FX2_rightOfAll at h
  obtain ⟨_, h1, _⟩ := b1_inv h
  obtain ⟨fs, h2⟩ := gC_inv h1
  exact ⟨fs, trivial, h2⟩
set_option maxHeartbeats 4000000 in
set_option maxRecDepth 100000 in
theorem mX2_rightOfAll {l : Launch} {G : qG} (hst : l.stackTraces = false) (b : Nat) (σ : qH) (n : Option Nat) (ro : Int32) (hF : FX2_rightOfAll b σ = some ro) : qM l G yX2_rightOfAll cX2_rightOfAll 1 (some .int) rmX2_rightOfAll [.ref b] σ n (.inl (some (.int ro), σ, n)) := by
  refine q_body (own := RX2) (nm := "rightOfAll") (ls := [(0, .ref b)]) hst (by decide +kernel) rfl rfl (Nat.le_of_ble_eq_true rfl) rfl rfl rfl ?_
  unfold FX2_rightOfAll at hF
  obtain ⟨_, hC, hF⟩ := b1_inv hF
  refine x_aload_n 1 0 dX2_rightOfAll_0 rfl rfl ?_
  obtain ⟨r1, h2, hF⟩ := b1_inv hF
  refine x_getR 4 2 inX2 rfl (by decide) wd_56 h2 dX2_rightOfAll_1 rfl ?_
  obtain ⟨v4, h3, hF⟩ := b1_inv hF
  refine x_callS (As := [.ref r1]) (rest := []) 7 0 0 (mX2_sum hst r1 σ n v4 h3) qyX2_sum wd_515 wd_516 rfl rfl (by decide) (Nat.le_of_ble_eq_true rfl) (by decide) dX2_rightOfAll_4 rfl rfl rfl rfl ?_
  cases hF
  exact x_iret rfl rfl (by decide) (by decide) dX2_rightOfAll_7
def rmX2_wrongOfAll : Room := { frames := 1, cells := 0, slots := 0, locals := 25 }
theorem qyX2_wrongOfAll : qY yX2_wrongOfAll cX2_wrongOfAll 1 (some .int) 0 := ⟨wd_529, wd_18, by decide +kernel, by decide +kernel, by decide +kernel⟩
theorem kX2_wrongOfAll {b : Nat} {σ : qH} {o : Int32} (h : FX2_wrongOfAll b σ = some o) : ∃ fs : List Value, True ∧ σ b = some (.inr (2, fs)) := by
  unfold FX2_wrongOfAll at h
  obtain ⟨_, h1, _⟩ := b1_inv h
  obtain ⟨fs, h2⟩ := gC_inv h1
  exact ⟨fs, trivial, h2⟩
set_option maxHeartbeats 4000000 in
set_option maxRecDepth 100000 in
theorem mX2_wrongOfAll {l : Launch} {G : qG} (hst : l.stackTraces = false) (b : Nat) (σ : qH) (n : Option Nat) (ro : Int32) (hF : FX2_wrongOfAll b σ = some ro) : qM l G yX2_wrongOfAll cX2_wrongOfAll 1 (some .int) rmX2_wrongOfAll [.ref b] σ n (.inl (some (.int ro), σ, n)) := by
  refine q_body (own := RX2) (nm := "wrongOfAll") (ls := [(0, .ref b)]) hst (by decide +kernel) rfl rfl (Nat.le_of_ble_eq_true rfl) rfl rfl rfl ?_
  unfold FX2_wrongOfAll at hF
  obtain ⟨_, hC, hF⟩ := b1_inv hF
  refine x_aload_n 1 0 dX2_wrongOfAll_0 rfl rfl ?_
  obtain ⟨r1, h2, hF⟩ := b1_inv hF
  refine x_getR 4 3 inX2 rfl (by decide) wd_57 h2 dX2_wrongOfAll_1 rfl ?_
  obtain ⟨v4, h3, hF⟩ := b1_inv hF
  refine x_callS (As := [.ref r1]) (rest := []) 7 0 0 (mX2_sum hst r1 σ n v4 h3) qyX2_sum wd_515 wd_516 rfl rfl (by decide) (Nat.le_of_ble_eq_true rfl) (by decide) dX2_wrongOfAll_4 rfl rfl rfl rfl ?_
  cases hF
  exact x_iret rfl rfl (by decide) (by decide) dX2_wrongOfAll_7
def rmX2_quarrelsOfMeasure : Room := { frames := 3, cells := 0, slots := 0, locals := 68 }
theorem qyX2_quarrelsOfMeasure : qY yX2_quarrelsOfMeasure cX2_quarrelsOfMeasure 4 (some .int) 1 := ⟨wd_563, wd_18, by decide +kernel, by decide +kernel, by decide +kernel⟩
set_option maxHeartbeats 4000000 in
set_option maxRecDepth 100000 in
theorem mX2_quarrelsOfMeasure_L4 {l : Launch} {G : qG} (hst : l.stackTraces = false) (a0 : Nat) (a1 : Int32) (σ : qH) (n : Option Nat) (r : qR) : ∀ (q : Nat) (y2 : Int32) (y3 : Int32) (o2 : Int32), FX2_quarrelsOfMeasure_L4 a0 a1 σ q y2 y3 = some o2 → qX l G RX2 "quarrelsOfMeasure" cX2_quarrelsOfMeasure 4 (some .int) [] rmX2_quarrelsOfMeasure 0 0 r 0 0 σ n 30 [(2, .int o2)] [] → qX l G RX2 "quarrelsOfMeasure" cX2_quarrelsOfMeasure 4 (some .int) [] rmX2_quarrelsOfMeasure 0 0 r 0 0 σ n 4 [(0, .ref a0), (1, .int a1), (2, .int y2), (3, .int y3)] [] := by
  intro q
  induction q with
  | zero => intro y2 y3 o2 hF; rw [FX2_quarrelsOfMeasure_L4] at hF; cases hF
  | succ q ih =>
    intro y2 y3 o2 hF hJ
    rw [FX2_quarrelsOfMeasure_L4] at hF
    refine x_iload_n 5 3 dX2_quarrelsOfMeasure_4 rfl rfl ?_
    refine x_aload_n 6 0 dX2_quarrelsOfMeasure_5 rfl rfl ?_
    obtain ⟨v1, h2, hF⟩ := b1_inv hF
    refine x_getI 9 6 inX2 rfl (by decide) wd_60 h2 dX2_quarrelsOfMeasure_6 rfl ?_
    rcases ite_inv hF with ⟨hc, hF⟩ | ⟨hc, hF⟩
    · refine x_icmp_ge 30 12 dX2_quarrelsOfMeasure_9 (by decide) rfl (fun _ => ?_) (fun q => absurd hc q)
      have e1 := Option.some.inj hF
      subst e1
      refine x_sub [(2, .int y2)] [2] rfl ?_
      exact hJ
    · refine x_icmp_ge 30 12 dX2_quarrelsOfMeasure_9 (by decide) rfl (fun q => absurd q hc) (fun _ => ?_)
      refine x_aload_n 13 0 dX2_quarrelsOfMeasure_12 rfl rfl ?_
      refine x_iload_n 14 1 dX2_quarrelsOfMeasure_13 rfl rfl ?_
      refine x_iload_n 15 3 dX2_quarrelsOfMeasure_14 rfl rfl ?_
      obtain ⟨v4, h3, hF⟩ := b1_inv hF
      obtain ⟨fs, hb⟩ : ∃ fs : List Value, True ∧ σ a0 = some (.inr (2, fs)) := kX2_quarrel h3
      refine x_callV (As := [.int a1, .int y3]) (rest := []) 18 0 0 (mX2_quarrel hst a0 a1 y3 σ n v4 h3) qyX2_quarrel wd_503 wd_505 wd_9 hb.2 rfl rfl rfl (by decide) (Nat.le_of_ble_eq_true rfl) (by decide) dX2_quarrelsOfMeasure_15 rfl rfl rfl rfl ?_
      obtain ⟨x5, h6, hF⟩ := b1_inv hF
      have hJ : qX l G RX2 "quarrelsOfMeasure" cX2_quarrelsOfMeasure 4 (some .int) [] rmX2_quarrelsOfMeasure 0 0 r 0 0 σ n 24 [(0, .ref a0), (1, .int a1), (2, .int x5), (3, .int y3)] [] := by
        refine x_iinc 27 3 3 (y3 + (1 : Int32)) [(3, .int (y3 + (1 : Int32))), (0, .ref a0), (1, .int a1), (2, .int x5)] dX2_quarrelsOfMeasure_24 rfl rfl rfl (by decide) rfl ?_
        refine x_goto 4 dX2_quarrelsOfMeasure_27 (by decide) ?_
        refine x_sub [(0, .ref a0), (1, .int a1), (2, .int x5), (3, .int (y3 + (1 : Int32)))] [1, 2, 3, 0] rfl ?_
        exact ih _ _ _ hF hJ
      have hF := h6
      rcases ite_inv hF with ⟨hc, hF⟩ | ⟨hc, hF⟩
      · refine x_if_eq 24 21 dX2_quarrelsOfMeasure_18 (by decide) rfl (fun _ => ?_) (fun q => absurd hc q)
        have e1 := Option.some.inj hF
        subst e1
        exact hJ
      · refine x_if_eq 24 21 dX2_quarrelsOfMeasure_18 (by decide) rfl (fun q => absurd q hc) (fun _ => ?_)
        refine x_iinc 24 2 2 (y2 + (1 : Int32)) [(2, .int (y2 + (1 : Int32))), (0, .ref a0), (1, .int a1), (3, .int y3)] dX2_quarrelsOfMeasure_21 rfl rfl rfl (by decide) rfl ?_
        have e1 := Option.some.inj hF
        subst e1
        refine x_sub [(0, .ref a0), (1, .int a1), (2, .int (y2 + (1 : Int32))), (3, .int y3)] [1, 2, 0, 3] rfl ?_
        exact hJ
theorem kX2_quarrelsOfMeasure {b : Nat} {p0 : Int32} {σ : qH} {o : Int32} (h : FX2_quarrelsOfMeasure b p0 σ = some o) : ∃ fs : List Value, True ∧ σ b = some (.inr (2, fs)) := by
  unfold FX2_quarrelsOfMeasure at h
  obtain ⟨_, h1, _⟩ := b1_inv h
  obtain ⟨fs, h2⟩ := gC_inv h1
  exact ⟨fs, trivial, h2⟩
set_option maxHeartbeats 4000000 in
set_option maxRecDepth 100000 in
theorem mX2_quarrelsOfMeasure {l : Launch} {G : qG} (hst : l.stackTraces = false) (b : Nat) (p0 : Int32) (σ : qH) (n : Option Nat) (ro : Int32) (hF : FX2_quarrelsOfMeasure b p0 σ = some ro) : qM l G yX2_quarrelsOfMeasure cX2_quarrelsOfMeasure 4 (some .int) rmX2_quarrelsOfMeasure [.ref b, .int p0] σ n (.inl (some (.int ro), σ, n)) := by
  refine q_body (own := RX2) (nm := "quarrelsOfMeasure") (ls := [(0, .ref b), (1, .int p0)]) hst (by decide +kernel) rfl rfl (Nat.le_of_ble_eq_true rfl) rfl rfl rfl ?_
  unfold FX2_quarrelsOfMeasure at hF
  obtain ⟨_, hC, hF⟩ := b1_inv hF
  refine x_iconst 1 (0 : Int32) dX2_quarrelsOfMeasure_0 rfl (by decide) ?_
  refine x_istore_n 2 2 [(2, .int (0 : Int32)), (0, .ref b), (1, .int p0)] dX2_quarrelsOfMeasure_1 rfl rfl (by decide) rfl ?_
  refine x_iconst 3 (0 : Int32) dX2_quarrelsOfMeasure_2 rfl (by decide) ?_
  refine x_istore_n 4 3 [(3, .int (0 : Int32)), (2, .int (0 : Int32)), (0, .ref b), (1, .int p0)] dX2_quarrelsOfMeasure_3 rfl rfl (by decide) rfl ?_
  obtain ⟨x7, h8, hF⟩ := b1_inv hF
  have hJ : qX l G RX2 "quarrelsOfMeasure" cX2_quarrelsOfMeasure 4 (some .int) [] rmX2_quarrelsOfMeasure 0 0 (.inl (some (.int ro), σ, n)) 0 0 σ n 30 [(2, .int x7)] [] := by
    refine x_iload_n 31 0 dX2_quarrelsOfMeasure_30 rfl rfl ?_
    cases hF
    exact x_iret rfl rfl (by decide) (by decide) dX2_quarrelsOfMeasure_31
  refine x_sub [(0, .ref b), (1, .int p0), (2, .int (0 : Int32)), (3, .int (0 : Int32))] [2, 3, 1, 0] rfl ?_
  exact mX2_quarrelsOfMeasure_L4 hst b p0 σ n _ qfuel (0 : Int32) (0 : Int32) x7 h8 hJ
def rmX2_trustOf : Room := { frames := 0, cells := 0, slots := 0, locals := 0 }
theorem qyX2_trustOf : qY yX2_trustOf cX2_trustOf 2 (some .int) 1 := ⟨wd_581, wd_18, by decide +kernel, by decide +kernel, by decide +kernel⟩
theorem kX2_trustOf {b : Nat} {p0 : Int32} {σ : qH} {o : Int32} (h : FX2_trustOf b p0 σ = some o) : ∃ fs : List Value, True ∧ σ b = some (.inr (2, fs)) := by
  unfold FX2_trustOf at h
  obtain ⟨_, h1, _⟩ := b1_inv h
  obtain ⟨fs, h2⟩ := gC_inv h1
  exact ⟨fs, trivial, h2⟩
set_option maxHeartbeats 4000000 in
set_option maxRecDepth 100000 in
theorem mX2_trustOf {l : Launch} {G : qG} (hst : l.stackTraces = false) (b : Nat) (p0 : Int32) (σ : qH) (n : Option Nat) (ro : Int32) (hF : FX2_trustOf b p0 σ = some ro) : qM l G yX2_trustOf cX2_trustOf 2 (some .int) rmX2_trustOf [.ref b, .int p0] σ n (.inl (some (.int ro), σ, n)) := by
  refine q_body (own := RX2) (nm := "trustOf") (ls := [(0, .ref b), (1, .int p0)]) hst (by decide +kernel) rfl rfl (Nat.le_of_ble_eq_true rfl) rfl rfl rfl ?_
  unfold FX2_trustOf at hF
  obtain ⟨_, hC, hF⟩ := b1_inv hF
  refine x_aload_n 1 0 dX2_trustOf_0 rfl rfl ?_
  obtain ⟨r1, h2, hF⟩ := b1_inv hF
  refine x_getR 4 1 inX2 rfl (by decide) wd_55 h2 dX2_trustOf_1 rfl ?_
  refine x_iload_n 5 1 dX2_trustOf_4 rfl rfl ?_
  obtain ⟨v3, h4, hF⟩ := b1_inv hF
  refine x_aI 6 h4 dX2_trustOf_5 rfl ?_
  cases hF
  exact x_iret rfl rfl (by decide) (by decide) dX2_trustOf_6
def rmX2_measuresOfTeller : Room := { frames := 1, cells := 0, slots := 0, locals := 22 }
theorem qyX2_measuresOfTeller : qY yX2_measuresOfTeller cX2_measuresOfTeller 4 (some .int) 1 := ⟨wd_585, wd_18, by decide +kernel, by decide +kernel, by decide +kernel⟩
set_option maxHeartbeats 4000000 in
set_option maxRecDepth 100000 in
theorem mX2_measuresOfTeller_L4 {l : Launch} {G : qG} (hst : l.stackTraces = false) (a0 : Nat) (a1 : Int32) (σ : qH) (n : Option Nat) (r : qR) : ∀ (q : Nat) (y2 : Int32) (y3 : Int32) (o2 : Int32), FX2_measuresOfTeller_L4 a0 a1 σ q y2 y3 = some o2 → qX l G RX2 "measuresOfTeller" cX2_measuresOfTeller 4 (some .int) [] rmX2_measuresOfTeller 0 0 r 0 0 σ n 36 [(2, .int o2)] [] → qX l G RX2 "measuresOfTeller" cX2_measuresOfTeller 4 (some .int) [] rmX2_measuresOfTeller 0 0 r 0 0 σ n 4 [(0, .ref a0), (1, .int a1), (2, .int y2), (3, .int y3)] [] := by
  intro q
  induction q with
  | zero => intro y2 y3 o2 hF; rw [FX2_measuresOfTeller_L4] at hF; cases hF
  | succ q ih =>
    intro y2 y3 o2 hF hJ
    rw [FX2_measuresOfTeller_L4] at hF
    refine x_iload_n 5 3 dX2_measuresOfTeller_4 rfl rfl ?_
    refine x_aload_n 6 0 dX2_measuresOfTeller_5 rfl rfl ?_
    obtain ⟨v1, h2, hF⟩ := b1_inv hF
    refine x_getI 9 6 inX2 rfl (by decide) wd_60 h2 dX2_measuresOfTeller_6 rfl ?_
    rcases ite_inv hF with ⟨hc, hF⟩ | ⟨hc, hF⟩
    · refine x_icmp_ge 36 12 dX2_measuresOfTeller_9 (by decide) rfl (fun _ => ?_) (fun q => absurd hc q)
      have e1 := Option.some.inj hF
      subst e1
      refine x_sub [(2, .int y2)] [2] rfl ?_
      exact hJ
    · refine x_icmp_ge 36 12 dX2_measuresOfTeller_9 (by decide) rfl (fun q => absurd q hc) (fun _ => ?_)
      refine x_iload_n 13 2 dX2_measuresOfTeller_12 rfl rfl ?_
      refine x_aload_n 14 0 dX2_measuresOfTeller_13 rfl rfl ?_
      refine x_iload_n 15 3 dX2_measuresOfTeller_14 rfl rfl ?_
      refine x_iconst 16 (1 : Int32) dX2_measuresOfTeller_15 rfl (by decide) ?_
      obtain ⟨v4, h3, hF⟩ := b1_inv hF
      obtain ⟨fs, hb⟩ : ∃ fs : List Value, True ∧ σ a0 = some (.inr (2, fs)) := kX2_number h3
      refine x_callV (As := [.int y3, .int (1 : Int32)]) (rest := [.int y2]) 19 0 0 (mX2_number hst a0 y3 (1 : Int32) σ n v4 h3) qyX2_number wd_436 wd_437 wd_438 hb.2 rfl rfl rfl (by decide) (Nat.le_of_ble_eq_true rfl) (by decide) dX2_measuresOfTeller_16 rfl rfl rfl rfl ?_
      refine x_iload_n 20 1 dX2_measuresOfTeller_19 rfl rfl ?_
      obtain ⟨x5, h6, hF⟩ := b1_inv hF
      have hJ : qX l G RX2 "measuresOfTeller" cX2_measuresOfTeller 4 (some .int) [] rmX2_measuresOfTeller 0 0 r 0 0 σ n 28 [(0, .ref a0), (1, .int a1), (3, .int y3)] [.int x5, .int y2] := by
        refine x_iadd 29 dX2_measuresOfTeller_28 rfl ?_
        refine x_istore_n 30 2 [(2, .int (y2 + x5)), (0, .ref a0), (1, .int a1), (3, .int y3)] dX2_measuresOfTeller_29 rfl rfl (by decide) rfl ?_
        refine x_iinc 33 3 3 (y3 + (1 : Int32)) [(3, .int (y3 + (1 : Int32))), (2, .int (y2 + x5)), (0, .ref a0), (1, .int a1)] dX2_measuresOfTeller_30 rfl rfl rfl (by decide) rfl ?_
        refine x_goto 4 dX2_measuresOfTeller_33 (by decide) ?_
        refine x_sub [(0, .ref a0), (1, .int a1), (2, .int (y2 + x5)), (3, .int (y3 + (1 : Int32)))] [2, 3, 1, 0] rfl ?_
        exact ih _ _ _ hF hJ
      have hF := h6
      rcases ite_inv hF with ⟨hc, hF⟩ | ⟨hc, hF⟩
      · refine x_icmp_ne 27 23 dX2_measuresOfTeller_20 (by decide) rfl (fun q => absurd hc q) (fun _ => ?_)
        refine x_iconst 24 (1 : Int32) dX2_measuresOfTeller_23 rfl (by decide) ?_
        refine x_goto 28 dX2_measuresOfTeller_24 (by decide) ?_
        have e1 := Option.some.inj hF
        subst e1
        refine x_sub [(0, .ref a0), (1, .int a1), (3, .int y3)] [0, 1, 3] rfl ?_
        exact hJ
      · refine x_icmp_ne 27 23 dX2_measuresOfTeller_20 (by decide) rfl (fun _ => ?_) (fun q => absurd q hc)
        refine x_iconst 28 (0 : Int32) dX2_measuresOfTeller_27 rfl (by decide) ?_
        have e1 := Option.some.inj hF
        subst e1
        refine x_sub [(0, .ref a0), (1, .int a1), (3, .int y3)] [0, 1, 3] rfl ?_
        exact hJ
theorem kX2_measuresOfTeller {b : Nat} {p0 : Int32} {σ : qH} {o : Int32} (h : FX2_measuresOfTeller b p0 σ = some o) : ∃ fs : List Value, True ∧ σ b = some (.inr (2, fs)) := by
  unfold FX2_measuresOfTeller at h
  obtain ⟨_, h1, _⟩ := b1_inv h
  obtain ⟨fs, h2⟩ := gC_inv h1
  exact ⟨fs, trivial, h2⟩
set_option maxHeartbeats 4000000 in
set_option maxRecDepth 100000 in
theorem mX2_measuresOfTeller {l : Launch} {G : qG} (hst : l.stackTraces = false) (b : Nat) (p0 : Int32) (σ : qH) (n : Option Nat) (ro : Int32) (hF : FX2_measuresOfTeller b p0 σ = some ro) : qM l G yX2_measuresOfTeller cX2_measuresOfTeller 4 (some .int) rmX2_measuresOfTeller [.ref b, .int p0] σ n (.inl (some (.int ro), σ, n)) := by
  refine q_body (own := RX2) (nm := "measuresOfTeller") (ls := [(0, .ref b), (1, .int p0)]) hst (by decide +kernel) rfl rfl (Nat.le_of_ble_eq_true rfl) rfl rfl rfl ?_
  unfold FX2_measuresOfTeller at hF
  obtain ⟨_, hC, hF⟩ := b1_inv hF
  refine x_iconst 1 (0 : Int32) dX2_measuresOfTeller_0 rfl (by decide) ?_
  refine x_istore_n 2 2 [(2, .int (0 : Int32)), (0, .ref b), (1, .int p0)] dX2_measuresOfTeller_1 rfl rfl (by decide) rfl ?_
  refine x_iconst 3 (0 : Int32) dX2_measuresOfTeller_2 rfl (by decide) ?_
  refine x_istore_n 4 3 [(3, .int (0 : Int32)), (2, .int (0 : Int32)), (0, .ref b), (1, .int p0)] dX2_measuresOfTeller_3 rfl rfl (by decide) rfl ?_
  obtain ⟨x7, h8, hF⟩ := b1_inv hF
  have hJ : qX l G RX2 "measuresOfTeller" cX2_measuresOfTeller 4 (some .int) [] rmX2_measuresOfTeller 0 0 (.inl (some (.int ro), σ, n)) 0 0 σ n 36 [(2, .int x7)] [] := by
    refine x_iload_n 37 0 dX2_measuresOfTeller_36 rfl rfl ?_
    cases hF
    exact x_iret rfl rfl (by decide) (by decide) dX2_measuresOfTeller_37
  refine x_sub [(0, .ref b), (1, .int p0), (2, .int (0 : Int32)), (3, .int (0 : Int32))] [2, 3, 1, 0] rfl ?_
  exact mX2_measuresOfTeller_L4 hst b p0 σ n _ qfuel (0 : Int32) (0 : Int32) x7 h8 hJ
def rmX2_rightOf : Room := { frames := 0, cells := 0, slots := 0, locals := 0 }
theorem qyX2_rightOf : qY yX2_rightOf cX2_rightOf 2 (some .int) 1 := ⟨wd_589, wd_18, by decide +kernel, by decide +kernel, by decide +kernel⟩
theorem kX2_rightOf {b : Nat} {p0 : Int32} {σ : qH} {o : Int32} (h : FX2_rightOf b p0 σ = some o) : ∃ fs : List Value, True ∧ σ b = some (.inr (2, fs)) := by
  unfold FX2_rightOf at h
  obtain ⟨_, h1, _⟩ := b1_inv h
  obtain ⟨fs, h2⟩ := gC_inv h1
  exact ⟨fs, trivial, h2⟩
set_option maxHeartbeats 4000000 in
set_option maxRecDepth 100000 in
theorem mX2_rightOf {l : Launch} {G : qG} (hst : l.stackTraces = false) (b : Nat) (p0 : Int32) (σ : qH) (n : Option Nat) (ro : Int32) (hF : FX2_rightOf b p0 σ = some ro) : qM l G yX2_rightOf cX2_rightOf 2 (some .int) rmX2_rightOf [.ref b, .int p0] σ n (.inl (some (.int ro), σ, n)) := by
  refine q_body (own := RX2) (nm := "rightOf") (ls := [(0, .ref b), (1, .int p0)]) hst (by decide +kernel) rfl rfl (Nat.le_of_ble_eq_true rfl) rfl rfl rfl ?_
  unfold FX2_rightOf at hF
  obtain ⟨_, hC, hF⟩ := b1_inv hF
  refine x_aload_n 1 0 dX2_rightOf_0 rfl rfl ?_
  obtain ⟨r1, h2, hF⟩ := b1_inv hF
  refine x_getR 4 2 inX2 rfl (by decide) wd_56 h2 dX2_rightOf_1 rfl ?_
  refine x_iload_n 5 1 dX2_rightOf_4 rfl rfl ?_
  obtain ⟨v3, h4, hF⟩ := b1_inv hF
  refine x_aI 6 h4 dX2_rightOf_5 rfl ?_
  cases hF
  exact x_iret rfl rfl (by decide) (by decide) dX2_rightOf_6
def rmX2_wrongOf : Room := { frames := 0, cells := 0, slots := 0, locals := 0 }
theorem qyX2_wrongOf : qY yX2_wrongOf cX2_wrongOf 2 (some .int) 1 := ⟨wd_593, wd_18, by decide +kernel, by decide +kernel, by decide +kernel⟩
theorem kX2_wrongOf {b : Nat} {p0 : Int32} {σ : qH} {o : Int32} (h : FX2_wrongOf b p0 σ = some o) : ∃ fs : List Value, True ∧ σ b = some (.inr (2, fs)) := by
  unfold FX2_wrongOf at h
  obtain ⟨_, h1, _⟩ := b1_inv h
  obtain ⟨fs, h2⟩ := gC_inv h1
  exact ⟨fs, trivial, h2⟩
set_option maxHeartbeats 4000000 in
set_option maxRecDepth 100000 in
theorem mX2_wrongOf {l : Launch} {G : qG} (hst : l.stackTraces = false) (b : Nat) (p0 : Int32) (σ : qH) (n : Option Nat) (ro : Int32) (hF : FX2_wrongOf b p0 σ = some ro) : qM l G yX2_wrongOf cX2_wrongOf 2 (some .int) rmX2_wrongOf [.ref b, .int p0] σ n (.inl (some (.int ro), σ, n)) := by
  refine q_body (own := RX2) (nm := "wrongOf") (ls := [(0, .ref b), (1, .int p0)]) hst (by decide +kernel) rfl rfl (Nat.le_of_ble_eq_true rfl) rfl rfl rfl ?_
  unfold FX2_wrongOf at hF
  obtain ⟨_, hC, hF⟩ := b1_inv hF
  refine x_aload_n 1 0 dX2_wrongOf_0 rfl rfl ?_
  obtain ⟨r1, h2, hF⟩ := b1_inv hF
  refine x_getR 4 3 inX2 rfl (by decide) wd_57 h2 dX2_wrongOf_1 rfl ?_
  refine x_iload_n 5 1 dX2_wrongOf_4 rfl rfl ?_
  obtain ⟨v3, h4, hF⟩ := b1_inv hF
  refine x_aI 6 h4 dX2_wrongOf_5 rfl ?_
  cases hF
  exact x_iret rfl rfl (by decide) (by decide) dX2_wrongOf_6
def rmX2_quarrelsOfTeller : Room := { frames := 4, cells := 0, slots := 0, locals := 91 }
theorem qyX2_quarrelsOfTeller : qY yX2_quarrelsOfTeller cX2_quarrelsOfTeller 4 (some .int) 1 := ⟨wd_597, wd_18, by decide +kernel, by decide +kernel, by decide +kernel⟩
set_option maxHeartbeats 4000000 in
set_option maxRecDepth 100000 in
theorem mX2_quarrelsOfTeller_L4 {l : Launch} {G : qG} (hst : l.stackTraces = false) (a0 : Nat) (a1 : Int32) (σ : qH) (n : Option Nat) (r : qR) : ∀ (q : Nat) (y2 : Int32) (y3 : Int32) (o2 : Int32), FX2_quarrelsOfTeller_L4 a0 a1 σ q y2 y3 = some o2 → qX l G RX2 "quarrelsOfTeller" cX2_quarrelsOfTeller 4 (some .int) [] rmX2_quarrelsOfTeller 0 0 r 0 0 σ n 40 [(2, .int o2)] [] → qX l G RX2 "quarrelsOfTeller" cX2_quarrelsOfTeller 4 (some .int) [] rmX2_quarrelsOfTeller 0 0 r 0 0 σ n 4 [(0, .ref a0), (1, .int a1), (2, .int y2), (3, .int y3)] [] := by
  intro q
  induction q with
  | zero => intro y2 y3 o2 hF; rw [FX2_quarrelsOfTeller_L4] at hF; cases hF
  | succ q ih =>
    intro y2 y3 o2 hF hJ
    rw [FX2_quarrelsOfTeller_L4] at hF
    refine x_iload_n 5 3 dX2_quarrelsOfTeller_4 rfl rfl ?_
    refine x_aload_n 6 0 dX2_quarrelsOfTeller_5 rfl rfl ?_
    obtain ⟨v1, h2, hF⟩ := b1_inv hF
    refine x_getI 9 6 inX2 rfl (by decide) wd_60 h2 dX2_quarrelsOfTeller_6 rfl ?_
    rcases ite_inv hF with ⟨hc, hF⟩ | ⟨hc, hF⟩
    · refine x_icmp_ge 40 12 dX2_quarrelsOfTeller_9 (by decide) rfl (fun _ => ?_) (fun q => absurd hc q)
      have e1 := Option.some.inj hF
      subst e1
      refine x_sub [(2, .int y2)] [2] rfl ?_
      exact hJ
    · refine x_icmp_ge 40 12 dX2_quarrelsOfTeller_9 (by decide) rfl (fun q => absurd q hc) (fun _ => ?_)
      refine x_iload_n 13 2 dX2_quarrelsOfTeller_12 rfl rfl ?_
      refine x_aload_n 14 0 dX2_quarrelsOfTeller_13 rfl rfl ?_
      refine x_iload_n 15 3 dX2_quarrelsOfTeller_14 rfl rfl ?_
      refine x_iconst 16 (1 : Int32) dX2_quarrelsOfTeller_15 rfl (by decide) ?_
      obtain ⟨v4, h3, hF⟩ := b1_inv hF
      obtain ⟨fs, hb⟩ : ∃ fs : List Value, True ∧ σ a0 = some (.inr (2, fs)) := kX2_number h3
      refine x_callV (As := [.int y3, .int (1 : Int32)]) (rest := [.int y2]) 19 0 0 (mX2_number hst a0 y3 (1 : Int32) σ n v4 h3) qyX2_number wd_436 wd_437 wd_438 hb.2 rfl rfl rfl (by decide) (Nat.le_of_ble_eq_true rfl) (by decide) dX2_quarrelsOfTeller_16 rfl rfl rfl rfl ?_
      refine x_iload_n 20 1 dX2_quarrelsOfTeller_19 rfl rfl ?_
      obtain ⟨x5, h8, hF⟩ := b1_inv hF
      have hJ : qX l G RX2 "quarrelsOfTeller" cX2_quarrelsOfTeller 4 (some .int) [] rmX2_quarrelsOfTeller 0 0 r 0 0 σ n 32 [(0, .ref a0), (1, .int a1), (3, .int y3)] [.int x5, .int y2] := by
        refine x_iadd 33 dX2_quarrelsOfTeller_32 rfl ?_
        refine x_istore_n 34 2 [(2, .int (y2 + x5)), (0, .ref a0), (1, .int a1), (3, .int y3)] dX2_quarrelsOfTeller_33 rfl rfl (by decide) rfl ?_
        refine x_iinc 37 3 3 (y3 + (1 : Int32)) [(3, .int (y3 + (1 : Int32))), (2, .int (y2 + x5)), (0, .ref a0), (1, .int a1)] dX2_quarrelsOfTeller_34 rfl rfl rfl (by decide) rfl ?_
        refine x_goto 4 dX2_quarrelsOfTeller_37 (by decide) ?_
        refine x_sub [(0, .ref a0), (1, .int a1), (2, .int (y2 + x5)), (3, .int (y3 + (1 : Int32)))] [2, 3, 1, 0] rfl ?_
        exact ih _ _ _ hF hJ
      have hF := h8
      rcases ite_inv hF with ⟨hc, hF⟩ | ⟨hc, hF⟩
      · refine x_icmp_ne 31 23 dX2_quarrelsOfTeller_20 (by decide) rfl (fun q => absurd hc q) (fun _ => ?_)
        refine x_aload_n 24 0 dX2_quarrelsOfTeller_23 rfl rfl ?_
        refine x_iload_n 25 3 dX2_quarrelsOfTeller_24 rfl rfl ?_
        obtain ⟨v7, h6, hF⟩ := b1_inv hF
        obtain ⟨fs, hb⟩ : ∃ fs : List Value, True ∧ σ a0 = some (.inr (2, fs)) := kX2_quarrelsOfMeasure h6
        refine x_callV (As := [.int y3]) (rest := [.int y2]) 28 0 0 (mX2_quarrelsOfMeasure hst a0 y3 σ n v7 h6) qyX2_quarrelsOfMeasure wd_598 wd_561 wd_562 hb.2 rfl rfl rfl (by decide) (Nat.le_of_ble_eq_true rfl) (by decide) dX2_quarrelsOfTeller_25 rfl rfl rfl rfl ?_
        refine x_goto 32 dX2_quarrelsOfTeller_28 (by decide) ?_
        have e1 := Option.some.inj hF
        subst e1
        refine x_sub [(0, .ref a0), (1, .int a1), (3, .int y3)] [0, 1, 3] rfl ?_
        exact hJ
      · refine x_icmp_ne 31 23 dX2_quarrelsOfTeller_20 (by decide) rfl (fun _ => ?_) (fun q => absurd q hc)
        refine x_iconst 32 (0 : Int32) dX2_quarrelsOfTeller_31 rfl (by decide) ?_
        have e1 := Option.some.inj hF
        subst e1
        refine x_sub [(0, .ref a0), (1, .int a1), (3, .int y3)] [0, 1, 3] rfl ?_
        exact hJ
theorem kX2_quarrelsOfTeller {b : Nat} {p0 : Int32} {σ : qH} {o : Int32} (h : FX2_quarrelsOfTeller b p0 σ = some o) : ∃ fs : List Value, True ∧ σ b = some (.inr (2, fs)) := by
  unfold FX2_quarrelsOfTeller at h
  obtain ⟨_, h1, _⟩ := b1_inv h
  obtain ⟨fs, h2⟩ := gC_inv h1
  exact ⟨fs, trivial, h2⟩
set_option maxHeartbeats 4000000 in
set_option maxRecDepth 100000 in
theorem mX2_quarrelsOfTeller {l : Launch} {G : qG} (hst : l.stackTraces = false) (b : Nat) (p0 : Int32) (σ : qH) (n : Option Nat) (ro : Int32) (hF : FX2_quarrelsOfTeller b p0 σ = some ro) : qM l G yX2_quarrelsOfTeller cX2_quarrelsOfTeller 4 (some .int) rmX2_quarrelsOfTeller [.ref b, .int p0] σ n (.inl (some (.int ro), σ, n)) := by
  refine q_body (own := RX2) (nm := "quarrelsOfTeller") (ls := [(0, .ref b), (1, .int p0)]) hst (by decide +kernel) rfl rfl (Nat.le_of_ble_eq_true rfl) rfl rfl rfl ?_
  unfold FX2_quarrelsOfTeller at hF
  obtain ⟨_, hC, hF⟩ := b1_inv hF
  refine x_iconst 1 (0 : Int32) dX2_quarrelsOfTeller_0 rfl (by decide) ?_
  refine x_istore_n 2 2 [(2, .int (0 : Int32)), (0, .ref b), (1, .int p0)] dX2_quarrelsOfTeller_1 rfl rfl (by decide) rfl ?_
  refine x_iconst 3 (0 : Int32) dX2_quarrelsOfTeller_2 rfl (by decide) ?_
  refine x_istore_n 4 3 [(3, .int (0 : Int32)), (2, .int (0 : Int32)), (0, .ref b), (1, .int p0)] dX2_quarrelsOfTeller_3 rfl rfl (by decide) rfl ?_
  obtain ⟨x9, h10, hF⟩ := b1_inv hF
  have hJ : qX l G RX2 "quarrelsOfTeller" cX2_quarrelsOfTeller 4 (some .int) [] rmX2_quarrelsOfTeller 0 0 (.inl (some (.int ro), σ, n)) 0 0 σ n 40 [(2, .int x9)] [] := by
    refine x_iload_n 41 0 dX2_quarrelsOfTeller_40 rfl rfl ?_
    cases hF
    exact x_iret rfl rfl (by decide) (by decide) dX2_quarrelsOfTeller_41
  refine x_sub [(0, .ref b), (1, .int p0), (2, .int (0 : Int32)), (3, .int (0 : Int32))] [2, 3, 1, 0] rfl ?_
  exact mX2_quarrelsOfTeller_L4 hst b p0 σ n _ qfuel (0 : Int32) (0 : Int32) x9 h10 hJ
def rmX2_measuresOfSteeple : Room := { frames := 2, cells := 0, slots := 0, locals := 44 }
theorem qyX2_measuresOfSteeple : qY yX2_measuresOfSteeple cX2_measuresOfSteeple 4 (some .int) 1 := ⟨wd_614, wd_18, by decide +kernel, by decide +kernel, by decide +kernel⟩
set_option maxHeartbeats 4000000 in
set_option maxRecDepth 100000 in
theorem mX2_measuresOfSteeple_L4 {l : Launch} {G : qG} (hst : l.stackTraces = false) (a0 : Nat) (a1 : Int32) (σ : qH) (n : Option Nat) (r : qR) : ∀ (q : Nat) (y2 : Int32) (y3 : Int32) (o2 : Int32), FX2_measuresOfSteeple_L4 a0 a1 σ q y2 y3 = some o2 → qX l G RX2 "measuresOfSteeple" cX2_measuresOfSteeple 4 (some .int) [] rmX2_measuresOfSteeple 0 0 r 0 0 σ n 35 [(2, .int o2)] [] → qX l G RX2 "measuresOfSteeple" cX2_measuresOfSteeple 4 (some .int) [] rmX2_measuresOfSteeple 0 0 r 0 0 σ n 4 [(0, .ref a0), (1, .int a1), (2, .int y2), (3, .int y3)] [] := by
  intro q
  induction q with
  | zero => intro y2 y3 o2 hF; rw [FX2_measuresOfSteeple_L4] at hF; cases hF
  | succ q ih =>
    intro y2 y3 o2 hF hJ
    rw [FX2_measuresOfSteeple_L4] at hF
    refine x_iload_n 5 3 dX2_measuresOfSteeple_4 rfl rfl ?_
    refine x_aload_n 6 0 dX2_measuresOfSteeple_5 rfl rfl ?_
    obtain ⟨v1, h2, hF⟩ := b1_inv hF
    refine x_getI 9 6 inX2 rfl (by decide) wd_60 h2 dX2_measuresOfSteeple_6 rfl ?_
    rcases ite_inv hF with ⟨hc, hF⟩ | ⟨hc, hF⟩
    · refine x_icmp_ge 35 12 dX2_measuresOfSteeple_9 (by decide) rfl (fun _ => ?_) (fun q => absurd hc q)
      have e1 := Option.some.inj hF
      subst e1
      refine x_sub [(2, .int y2)] [2] rfl ?_
      exact hJ
    · refine x_icmp_ge 35 12 dX2_measuresOfSteeple_9 (by decide) rfl (fun q => absurd q hc) (fun _ => ?_)
      refine x_iload_n 13 2 dX2_measuresOfSteeple_12 rfl rfl ?_
      refine x_aload_n 14 0 dX2_measuresOfSteeple_13 rfl rfl ?_
      refine x_iload_n 15 3 dX2_measuresOfSteeple_14 rfl rfl ?_
      refine x_iload_n 16 1 dX2_measuresOfSteeple_15 rfl rfl ?_
      obtain ⟨v4, h3, hF⟩ := b1_inv hF
      obtain ⟨fs, hb⟩ : ∃ fs : List Value, True ∧ σ a0 = some (.inr (2, fs)) := kX2_isOf h3
      refine x_callV (As := [.int y3, .int a1]) (rest := [.int y2]) 19 0 0 (mX2_isOf hst a0 y3 a1 σ n v4 h3) qyX2_isOf wd_460 wd_461 wd_462 hb.2 rfl rfl rfl (by decide) (Nat.le_of_ble_eq_true rfl) (by decide) dX2_measuresOfSteeple_16 rfl rfl rfl rfl ?_
      obtain ⟨x5, h6, hF⟩ := b1_inv hF
      have hJ : qX l G RX2 "measuresOfSteeple" cX2_measuresOfSteeple 4 (some .int) [] rmX2_measuresOfSteeple 0 0 r 0 0 σ n 27 [(0, .ref a0), (1, .int a1), (3, .int y3)] [.int x5, .int y2] := by
        refine x_iadd 28 dX2_measuresOfSteeple_27 rfl ?_
        refine x_istore_n 29 2 [(2, .int (y2 + x5)), (0, .ref a0), (1, .int a1), (3, .int y3)] dX2_measuresOfSteeple_28 rfl rfl (by decide) rfl ?_
        refine x_iinc 32 3 3 (y3 + (1 : Int32)) [(3, .int (y3 + (1 : Int32))), (2, .int (y2 + x5)), (0, .ref a0), (1, .int a1)] dX2_measuresOfSteeple_29 rfl rfl rfl (by decide) rfl ?_
        refine x_goto 4 dX2_measuresOfSteeple_32 (by decide) ?_
        refine x_sub [(0, .ref a0), (1, .int a1), (2, .int (y2 + x5)), (3, .int (y3 + (1 : Int32)))] [2, 3, 1, 0] rfl ?_
        exact ih _ _ _ hF hJ
      have hF := h6
      rcases ite_inv hF with ⟨hc, hF⟩ | ⟨hc, hF⟩
      · refine x_if_eq 26 22 dX2_measuresOfSteeple_19 (by decide) rfl (fun _ => ?_) (fun q => absurd hc q)
        refine x_iconst 27 (0 : Int32) dX2_measuresOfSteeple_26 rfl (by decide) ?_
        have e1 := Option.some.inj hF
        subst e1
        refine x_sub [(0, .ref a0), (1, .int a1), (3, .int y3)] [0, 1, 3] rfl ?_
        exact hJ
      · refine x_if_eq 26 22 dX2_measuresOfSteeple_19 (by decide) rfl (fun q => absurd q hc) (fun _ => ?_)
        refine x_iconst 23 (1 : Int32) dX2_measuresOfSteeple_22 rfl (by decide) ?_
        refine x_goto 27 dX2_measuresOfSteeple_23 (by decide) ?_
        have e1 := Option.some.inj hF
        subst e1
        refine x_sub [(0, .ref a0), (1, .int a1), (3, .int y3)] [0, 1, 3] rfl ?_
        exact hJ
theorem kX2_measuresOfSteeple {b : Nat} {p0 : Int32} {σ : qH} {o : Int32} (h : FX2_measuresOfSteeple b p0 σ = some o) : ∃ fs : List Value, True ∧ σ b = some (.inr (2, fs)) := by
  unfold FX2_measuresOfSteeple at h
  obtain ⟨_, h1, _⟩ := b1_inv h
  obtain ⟨fs, h2⟩ := gC_inv h1
  exact ⟨fs, trivial, h2⟩
set_option maxHeartbeats 4000000 in
set_option maxRecDepth 100000 in
theorem mX2_measuresOfSteeple {l : Launch} {G : qG} (hst : l.stackTraces = false) (b : Nat) (p0 : Int32) (σ : qH) (n : Option Nat) (ro : Int32) (hF : FX2_measuresOfSteeple b p0 σ = some ro) : qM l G yX2_measuresOfSteeple cX2_measuresOfSteeple 4 (some .int) rmX2_measuresOfSteeple [.ref b, .int p0] σ n (.inl (some (.int ro), σ, n)) := by
  refine q_body (own := RX2) (nm := "measuresOfSteeple") (ls := [(0, .ref b), (1, .int p0)]) hst (by decide +kernel) rfl rfl (Nat.le_of_ble_eq_true rfl) rfl rfl rfl ?_
  unfold FX2_measuresOfSteeple at hF
  obtain ⟨_, hC, hF⟩ := b1_inv hF
  refine x_iconst 1 (0 : Int32) dX2_measuresOfSteeple_0 rfl (by decide) ?_
  refine x_istore_n 2 2 [(2, .int (0 : Int32)), (0, .ref b), (1, .int p0)] dX2_measuresOfSteeple_1 rfl rfl (by decide) rfl ?_
  refine x_iconst 3 (0 : Int32) dX2_measuresOfSteeple_2 rfl (by decide) ?_
  refine x_istore_n 4 3 [(3, .int (0 : Int32)), (2, .int (0 : Int32)), (0, .ref b), (1, .int p0)] dX2_measuresOfSteeple_3 rfl rfl (by decide) rfl ?_
  obtain ⟨x7, h8, hF⟩ := b1_inv hF
  have hJ : qX l G RX2 "measuresOfSteeple" cX2_measuresOfSteeple 4 (some .int) [] rmX2_measuresOfSteeple 0 0 (.inl (some (.int ro), σ, n)) 0 0 σ n 35 [(2, .int x7)] [] := by
    refine x_iload_n 36 0 dX2_measuresOfSteeple_35 rfl rfl ?_
    cases hF
    exact x_iret rfl rfl (by decide) (by decide) dX2_measuresOfSteeple_36
  refine x_sub [(0, .ref b), (1, .int p0), (2, .int (0 : Int32)), (3, .int (0 : Int32))] [2, 3, 1, 0] rfl ?_
  exact mX2_measuresOfSteeple_L4 hst b p0 σ n _ qfuel (0 : Int32) (0 : Int32) x7 h8 hJ
def rmX2_heightSurveyed : Room := { frames := 0, cells := 0, slots := 0, locals := 0 }
theorem qyX2_heightSurveyed : qY yX2_heightSurveyed cX2_heightSurveyed 2 (some .int) 1 := ⟨wd_618, wd_18, by decide +kernel, by decide +kernel, by decide +kernel⟩
theorem kX2_heightSurveyed {b : Nat} {p0 : Int32} {σ : qH} {o : Int32} (h : FX2_heightSurveyed b p0 σ = some o) : ∃ fs : List Value, True ∧ σ b = some (.inr (2, fs)) := by
  unfold FX2_heightSurveyed at h
  obtain ⟨_, h1, _⟩ := b1_inv h
  obtain ⟨fs, h2⟩ := gC_inv h1
  exact ⟨fs, trivial, h2⟩
set_option maxHeartbeats 4000000 in
set_option maxRecDepth 100000 in
theorem mX2_heightSurveyed {l : Launch} {G : qG} (hst : l.stackTraces = false) (b : Nat) (p0 : Int32) (σ : qH) (n : Option Nat) (ro : Int32) (hF : FX2_heightSurveyed b p0 σ = some ro) : qM l G yX2_heightSurveyed cX2_heightSurveyed 2 (some .int) rmX2_heightSurveyed [.ref b, .int p0] σ n (.inl (some (.int ro), σ, n)) := by
  refine q_body (own := RX2) (nm := "heightSurveyed") (ls := [(0, .ref b), (1, .int p0)]) hst (by decide +kernel) rfl rfl (Nat.le_of_ble_eq_true rfl) rfl rfl rfl ?_
  unfold FX2_heightSurveyed at hF
  obtain ⟨_, hC, hF⟩ := b1_inv hF
  refine x_aload_n 1 0 dX2_heightSurveyed_0 rfl rfl ?_
  obtain ⟨r1, h2, hF⟩ := b1_inv hF
  refine x_getR 4 4 inX2 rfl (by decide) wd_58 h2 dX2_heightSurveyed_1 rfl ?_
  refine x_iload_n 5 1 dX2_heightSurveyed_4 rfl rfl ?_
  obtain ⟨v3, h4, hF⟩ := b1_inv hF
  refine x_aI 6 h4 dX2_heightSurveyed_5 rfl ?_
  cases hF
  exact x_iret rfl rfl (by decide) (by decide) dX2_heightSurveyed_6
def rmX2_weightOfSteeple : Room := { frames := 2, cells := 0, slots := 0, locals := 44 }
theorem qyX2_weightOfSteeple : qY yX2_weightOfSteeple cX2_weightOfSteeple 4 (some .int) 1 := ⟨wd_622, wd_18, by decide +kernel, by decide +kernel, by decide +kernel⟩
set_option maxHeartbeats 4000000 in
set_option maxRecDepth 100000 in
theorem mX2_weightOfSteeple_L4 {l : Launch} {G : qG} (hst : l.stackTraces = false) (a0 : Nat) (a1 : Int32) (σ : qH) (n : Option Nat) (r : qR) : ∀ (q : Nat) (y2 : Int32) (y3 : Int32) (o2 : Int32), FX2_weightOfSteeple_L4 a0 a1 σ q y2 y3 = some o2 → qX l G RX2 "weightOfSteeple" cX2_weightOfSteeple 4 (some .int) [] rmX2_weightOfSteeple 0 0 r 0 0 σ n 39 [(2, .int o2)] [] → qX l G RX2 "weightOfSteeple" cX2_weightOfSteeple 4 (some .int) [] rmX2_weightOfSteeple 0 0 r 0 0 σ n 4 [(0, .ref a0), (1, .int a1), (2, .int y2), (3, .int y3)] [] := by
  intro q
  induction q with
  | zero => intro y2 y3 o2 hF; rw [FX2_weightOfSteeple_L4] at hF; cases hF
  | succ q ih =>
    intro y2 y3 o2 hF hJ
    rw [FX2_weightOfSteeple_L4] at hF
    refine x_iload_n 5 3 dX2_weightOfSteeple_4 rfl rfl ?_
    refine x_aload_n 6 0 dX2_weightOfSteeple_5 rfl rfl ?_
    obtain ⟨v1, h2, hF⟩ := b1_inv hF
    refine x_getI 9 6 inX2 rfl (by decide) wd_60 h2 dX2_weightOfSteeple_6 rfl ?_
    rcases ite_inv hF with ⟨hc, hF⟩ | ⟨hc, hF⟩
    · refine x_icmp_ge 39 12 dX2_weightOfSteeple_9 (by decide) rfl (fun _ => ?_) (fun q => absurd hc q)
      have e1 := Option.some.inj hF
      subst e1
      refine x_sub [(2, .int y2)] [2] rfl ?_
      exact hJ
    · refine x_icmp_ge 39 12 dX2_weightOfSteeple_9 (by decide) rfl (fun q => absurd q hc) (fun _ => ?_)
      refine x_iload_n 13 2 dX2_weightOfSteeple_12 rfl rfl ?_
      refine x_aload_n 14 0 dX2_weightOfSteeple_13 rfl rfl ?_
      refine x_iload_n 15 3 dX2_weightOfSteeple_14 rfl rfl ?_
      refine x_iload_n 16 1 dX2_weightOfSteeple_15 rfl rfl ?_
      obtain ⟨v4, h3, hF⟩ := b1_inv hF
      obtain ⟨fs, hb⟩ : ∃ fs : List Value, True ∧ σ a0 = some (.inr (2, fs)) := kX2_isOf h3
      refine x_callV (As := [.int y3, .int a1]) (rest := [.int y2]) 19 0 0 (mX2_isOf hst a0 y3 a1 σ n v4 h3) qyX2_isOf wd_460 wd_461 wd_462 hb.2 rfl rfl rfl (by decide) (Nat.le_of_ble_eq_true rfl) (by decide) dX2_weightOfSteeple_16 rfl rfl rfl rfl ?_
      obtain ⟨x5, h8, hF⟩ := b1_inv hF
      have hJ : qX l G RX2 "weightOfSteeple" cX2_weightOfSteeple 4 (some .int) [] rmX2_weightOfSteeple 0 0 r 0 0 σ n 31 [(0, .ref a0), (1, .int a1), (3, .int y3)] [.int x5, .int y2] := by
        refine x_iadd 32 dX2_weightOfSteeple_31 rfl ?_
        refine x_istore_n 33 2 [(2, .int (y2 + x5)), (0, .ref a0), (1, .int a1), (3, .int y3)] dX2_weightOfSteeple_32 rfl rfl (by decide) rfl ?_
        refine x_iinc 36 3 3 (y3 + (1 : Int32)) [(3, .int (y3 + (1 : Int32))), (2, .int (y2 + x5)), (0, .ref a0), (1, .int a1)] dX2_weightOfSteeple_33 rfl rfl rfl (by decide) rfl ?_
        refine x_goto 4 dX2_weightOfSteeple_36 (by decide) ?_
        refine x_sub [(0, .ref a0), (1, .int a1), (2, .int (y2 + x5)), (3, .int (y3 + (1 : Int32)))] [2, 3, 1, 0] rfl ?_
        exact ih _ _ _ hF hJ
      have hF := h8
      rcases ite_inv hF with ⟨hc, hF⟩ | ⟨hc, hF⟩
      · refine x_if_eq 30 22 dX2_weightOfSteeple_19 (by decide) rfl (fun _ => ?_) (fun q => absurd hc q)
        refine x_iconst 31 (0 : Int32) dX2_weightOfSteeple_30 rfl (by decide) ?_
        have e1 := Option.some.inj hF
        subst e1
        refine x_sub [(0, .ref a0), (1, .int a1), (3, .int y3)] [0, 1, 3] rfl ?_
        exact hJ
      · refine x_if_eq 30 22 dX2_weightOfSteeple_19 (by decide) rfl (fun q => absurd q hc) (fun _ => ?_)
        refine x_aload_n 23 0 dX2_weightOfSteeple_22 rfl rfl ?_
        refine x_iload_n 24 3 dX2_weightOfSteeple_23 rfl rfl ?_
        obtain ⟨v7, h6, hF⟩ := b1_inv hF
        obtain ⟨fs, hb⟩ : ∃ fs : List Value, True ∧ σ a0 = some (.inr (2, fs)) := kX2_weight h6
        refine x_callV (As := [.int y3]) (rest := [.int y2]) 27 0 0 (mX2_weight hst a0 y3 σ n v7 h6) qyX2_weight wd_448 wd_449 wd_450 hb.2 rfl rfl rfl (by decide) (Nat.le_of_ble_eq_true rfl) (by decide) dX2_weightOfSteeple_24 rfl rfl rfl rfl ?_
        refine x_goto 31 dX2_weightOfSteeple_27 (by decide) ?_
        have e1 := Option.some.inj hF
        subst e1
        refine x_sub [(0, .ref a0), (1, .int a1), (3, .int y3)] [0, 1, 3] rfl ?_
        exact hJ
theorem kX2_weightOfSteeple {b : Nat} {p0 : Int32} {σ : qH} {o : Int32} (h : FX2_weightOfSteeple b p0 σ = some o) : ∃ fs : List Value, True ∧ σ b = some (.inr (2, fs)) := by
  unfold FX2_weightOfSteeple at h
  obtain ⟨_, h1, _⟩ := b1_inv h
  obtain ⟨fs, h2⟩ := gC_inv h1
  exact ⟨fs, trivial, h2⟩
set_option maxHeartbeats 4000000 in
set_option maxRecDepth 100000 in
theorem mX2_weightOfSteeple {l : Launch} {G : qG} (hst : l.stackTraces = false) (b : Nat) (p0 : Int32) (σ : qH) (n : Option Nat) (ro : Int32) (hF : FX2_weightOfSteeple b p0 σ = some ro) : qM l G yX2_weightOfSteeple cX2_weightOfSteeple 4 (some .int) rmX2_weightOfSteeple [.ref b, .int p0] σ n (.inl (some (.int ro), σ, n)) := by
  refine q_body (own := RX2) (nm := "weightOfSteeple") (ls := [(0, .ref b), (1, .int p0)]) hst (by decide +kernel) rfl rfl (Nat.le_of_ble_eq_true rfl) rfl rfl rfl ?_
  unfold FX2_weightOfSteeple at hF
  obtain ⟨_, hC, hF⟩ := b1_inv hF
  refine x_iconst 1 (0 : Int32) dX2_weightOfSteeple_0 rfl (by decide) ?_
  refine x_istore_n 2 2 [(2, .int (0 : Int32)), (0, .ref b), (1, .int p0)] dX2_weightOfSteeple_1 rfl rfl (by decide) rfl ?_
  refine x_iconst 3 (0 : Int32) dX2_weightOfSteeple_2 rfl (by decide) ?_
  refine x_istore_n 4 3 [(3, .int (0 : Int32)), (2, .int (0 : Int32)), (0, .ref b), (1, .int p0)] dX2_weightOfSteeple_3 rfl rfl (by decide) rfl ?_
  obtain ⟨x9, h10, hF⟩ := b1_inv hF
  have hJ : qX l G RX2 "weightOfSteeple" cX2_weightOfSteeple 4 (some .int) [] rmX2_weightOfSteeple 0 0 (.inl (some (.int ro), σ, n)) 0 0 σ n 39 [(2, .int x9)] [] := by
    refine x_iload_n 40 0 dX2_weightOfSteeple_39 rfl rfl ?_
    cases hF
    exact x_iret rfl rfl (by decide) (by decide) dX2_weightOfSteeple_40
  refine x_sub [(0, .ref b), (1, .int p0), (2, .int (0 : Int32)), (3, .int (0 : Int32))] [2, 3, 1, 0] rfl ?_
  exact mX2_weightOfSteeple_L4 hst b p0 σ n _ qfuel (0 : Int32) (0 : Int32) x9 h10 hJ
def rmX2_voteOf : Room := { frames := 2, cells := 0, slots := 0, locals := 44 }
theorem qyX2_voteOf : qY yX2_voteOf cX2_voteOf 6 (some .int) 3 := ⟨wd_634, wd_18, by decide +kernel, by decide +kernel, by decide +kernel⟩
set_option maxHeartbeats 4000000 in
set_option maxRecDepth 100000 in
theorem mX2_voteOf_L6 {l : Launch} {G : qG} (hst : l.stackTraces = false) (a0 : Nat) (a1 : Int32) (a2 : Int32) (a3 : Int32) (σ : qH) (n : Option Nat) (r : qR) : ∀ (q : Nat) (y4 : Int32) (y5 : Int32) (o4 : Int32), FX2_voteOf_L6 a0 a1 a2 a3 σ q y4 y5 = some o4 → qX l G RX2 "voteOf" cX2_voteOf 6 (some .int) [] rmX2_voteOf 0 0 r 0 0 σ n 62 [(4, .int o4)] [] → qX l G RX2 "voteOf" cX2_voteOf 6 (some .int) [] rmX2_voteOf 0 0 r 0 0 σ n 6 [(0, .ref a0), (1, .int a1), (2, .int a2), (3, .int a3), (4, .int y4), (5, .int y5)] [] := by
  intro q
  induction q with
  | zero => intro y4 y5 o4 hF; rw [FX2_voteOf_L6] at hF; cases hF
  | succ q ih =>
    intro y4 y5 o4 hF hJ
    rw [FX2_voteOf_L6] at hF
    refine x_iload 8 5 dX2_voteOf_6 rfl rfl ?_
    refine x_aload_n 9 0 dX2_voteOf_8 rfl rfl ?_
    obtain ⟨v1, h2, hF⟩ := b1_inv hF
    refine x_getI 12 6 inX2 rfl (by decide) wd_60 h2 dX2_voteOf_9 rfl ?_
    rcases ite_inv hF with ⟨hc, hF⟩ | ⟨hc, hF⟩
    · refine x_icmp_ge 62 15 dX2_voteOf_12 (by decide) rfl (fun _ => ?_) (fun q => absurd hc q)
      have e1 := Option.some.inj hF
      subst e1
      refine x_sub [(4, .int y4)] [4] rfl ?_
      exact hJ
    · refine x_icmp_ge 62 15 dX2_voteOf_12 (by decide) rfl (fun q => absurd q hc) (fun _ => ?_)
      refine x_iload 17 4 dX2_voteOf_15 rfl rfl ?_
      refine x_iload 19 5 dX2_voteOf_17 rfl rfl ?_
      refine x_iload_n 20 3 dX2_voteOf_19 rfl rfl ?_
      obtain ⟨x3, h10, hF⟩ := b1_inv hF
      have hJ : qX l G RX2 "voteOf" cX2_voteOf 6 (some .int) [] rmX2_voteOf 0 0 r 0 0 σ n 53 [(0, .ref a0), (1, .int a1), (2, .int a2), (3, .int a3), (5, .int y5)] [.int x3, .int y4] := by
        refine x_iadd 54 dX2_voteOf_53 rfl ?_
        refine x_istore 56 4 [(4, .int (y4 + x3)), (0, .ref a0), (1, .int a1), (2, .int a2), (3, .int a3), (5, .int y5)] dX2_voteOf_54 rfl (by decide) rfl ?_
        refine x_iinc 59 5 5 (y5 + (1 : Int32)) [(5, .int (y5 + (1 : Int32))), (4, .int (y4 + x3)), (0, .ref a0), (1, .int a1), (2, .int a2), (3, .int a3)] dX2_voteOf_56 rfl rfl rfl (by decide) rfl ?_
        refine x_goto 6 dX2_voteOf_59 (by decide) ?_
        refine x_sub [(0, .ref a0), (1, .int a1), (2, .int a2), (3, .int a3), (4, .int (y4 + x3)), (5, .int (y5 + (1 : Int32)))] [2, 3, 4, 5, 1, 0] rfl ?_
        exact ih _ _ _ hF hJ
      have hF := h10
      rcases ite_inv hF with ⟨hc, hF⟩ | ⟨hc, hF⟩
      · refine x_icmp_eq 52 23 dX2_voteOf_20 (by decide) rfl (fun _ => ?_) (fun q => absurd hc q)
        refine x_iconst 53 (0 : Int32) dX2_voteOf_52 rfl (by decide) ?_
        have e1 := Option.some.inj hF
        subst e1
        refine x_sub [(0, .ref a0), (1, .int a1), (2, .int a2), (3, .int a3), (5, .int y5)] [0, 1, 2, 3, 5] rfl ?_
        exact hJ
      · refine x_icmp_eq 52 23 dX2_voteOf_20 (by decide) rfl (fun q => absurd q hc) (fun _ => ?_)
        refine x_aload_n 24 0 dX2_voteOf_23 rfl rfl ?_
        refine x_iload 26 5 dX2_voteOf_24 rfl rfl ?_
        refine x_iload_n 27 1 dX2_voteOf_26 rfl rfl ?_
        obtain ⟨v5, h4, hF⟩ := b1_inv hF
        obtain ⟨fs, hb⟩ : ∃ fs : List Value, True ∧ σ a0 = some (.inr (2, fs)) := kX2_isOf h4
        refine x_callV (As := [.int y5, .int a1]) (rest := [.int y4]) 30 0 0 (mX2_isOf hst a0 y5 a1 σ n v5 h4) qyX2_isOf wd_460 wd_461 wd_462 hb.2 rfl rfl rfl (by decide) (Nat.le_of_ble_eq_true rfl) (by decide) dX2_voteOf_27 rfl rfl rfl rfl ?_
        rcases ite_inv hF with ⟨hc, hF⟩ | ⟨hc, hF⟩
        · refine x_if_eq 52 33 dX2_voteOf_30 (by decide) rfl (fun _ => ?_) (fun q => absurd hc q)
          refine x_iconst 53 (0 : Int32) dX2_voteOf_52 rfl (by decide) ?_
          have e1 := Option.some.inj hF
          subst e1
          refine x_sub [(0, .ref a0), (1, .int a1), (2, .int a2), (3, .int a3), (5, .int y5)] [0, 1, 2, 3, 5] rfl ?_
          exact hJ
        · refine x_if_eq 52 33 dX2_voteOf_30 (by decide) rfl (fun q => absurd q hc) (fun _ => ?_)
          refine x_aload_n 34 0 dX2_voteOf_33 rfl rfl ?_
          refine x_iload 36 5 dX2_voteOf_34 rfl rfl ?_
          refine x_iload_n 37 2 dX2_voteOf_36 rfl rfl ?_
          obtain ⟨v7, h6, hF⟩ := b1_inv hF
          obtain ⟨fs, hb⟩ : ∃ fs : List Value, True ∧ σ a0 = some (.inr (2, fs)) := kX2_tells h6
          refine x_callV (As := [.int y5, .int a2]) (rest := [.int y4]) 40 0 0 (mX2_tells hst a0 y5 a2 σ n v7 h6) qyX2_tells wd_464 wd_465 wd_466 hb.2 rfl rfl rfl (by decide) (Nat.le_of_ble_eq_true rfl) (by decide) dX2_voteOf_37 rfl rfl rfl rfl ?_
          rcases ite_inv hF with ⟨hc, hF⟩ | ⟨hc, hF⟩
          · refine x_if_eq 52 43 dX2_voteOf_40 (by decide) rfl (fun _ => ?_) (fun q => absurd hc q)
            refine x_iconst 53 (0 : Int32) dX2_voteOf_52 rfl (by decide) ?_
            have e1 := Option.some.inj hF
            subst e1
            refine x_sub [(0, .ref a0), (1, .int a1), (2, .int a2), (3, .int a3), (5, .int y5)] [0, 1, 2, 3, 5] rfl ?_
            exact hJ
          · refine x_if_eq 52 43 dX2_voteOf_40 (by decide) rfl (fun q => absurd q hc) (fun _ => ?_)
            refine x_aload_n 44 0 dX2_voteOf_43 rfl rfl ?_
            refine x_iload 46 5 dX2_voteOf_44 rfl rfl ?_
            obtain ⟨v9, h8, hF⟩ := b1_inv hF
            obtain ⟨fs, hb⟩ : ∃ fs : List Value, True ∧ σ a0 = some (.inr (2, fs)) := kX2_weight h8
            refine x_callV (As := [.int y5]) (rest := [.int y4]) 49 0 0 (mX2_weight hst a0 y5 σ n v9 h8) qyX2_weight wd_448 wd_449 wd_450 hb.2 rfl rfl rfl (by decide) (Nat.le_of_ble_eq_true rfl) (by decide) dX2_voteOf_46 rfl rfl rfl rfl ?_
            refine x_goto 53 dX2_voteOf_49 (by decide) ?_
            have e1 := Option.some.inj hF
            subst e1
            refine x_sub [(0, .ref a0), (1, .int a1), (2, .int a2), (3, .int a3), (5, .int y5)] [0, 1, 2, 3, 5] rfl ?_
            exact hJ
theorem kX2_voteOf {b : Nat} {p0 : Int32} {p1 : Int32} {p2 : Int32} {σ : qH} {o : Int32} (h : FX2_voteOf b p0 p1 p2 σ = some o) : ∃ fs : List Value, True ∧ σ b = some (.inr (2, fs)) := by
  unfold FX2_voteOf at h
  obtain ⟨_, h1, _⟩ := b1_inv h
  obtain ⟨fs, h2⟩ := gC_inv h1
  exact ⟨fs, trivial, h2⟩
set_option maxHeartbeats 4000000 in
set_option maxRecDepth 100000 in
theorem mX2_voteOf {l : Launch} {G : qG} (hst : l.stackTraces = false) (b : Nat) (p0 : Int32) (p1 : Int32) (p2 : Int32) (σ : qH) (n : Option Nat) (ro : Int32) (hF : FX2_voteOf b p0 p1 p2 σ = some ro) : qM l G yX2_voteOf cX2_voteOf 6 (some .int) rmX2_voteOf [.ref b, .int p0, .int p1, .int p2] σ n (.inl (some (.int ro), σ, n)) := by
  refine q_body (own := RX2) (nm := "voteOf") (ls := [(0, .ref b), (1, .int p0), (2, .int p1), (3, .int p2)]) hst (by decide +kernel) rfl rfl (Nat.le_of_ble_eq_true rfl) rfl rfl rfl ?_
  unfold FX2_voteOf at hF
  obtain ⟨_, hC, hF⟩ := b1_inv hF
  refine x_iconst 1 (0 : Int32) dX2_voteOf_0 rfl (by decide) ?_
  refine x_istore 3 4 [(4, .int (0 : Int32)), (0, .ref b), (1, .int p0), (2, .int p1), (3, .int p2)] dX2_voteOf_1 rfl (by decide) rfl ?_
  refine x_iconst 4 (0 : Int32) dX2_voteOf_3 rfl (by decide) ?_
  refine x_istore 6 5 [(5, .int (0 : Int32)), (4, .int (0 : Int32)), (0, .ref b), (1, .int p0), (2, .int p1), (3, .int p2)] dX2_voteOf_4 rfl (by decide) rfl ?_
  obtain ⟨x11, h12, hF⟩ := b1_inv hF
  have hJ : qX l G RX2 "voteOf" cX2_voteOf 6 (some .int) [] rmX2_voteOf 0 0 (.inl (some (.int ro), σ, n)) 0 0 σ n 62 [(4, .int x11)] [] := by
    refine x_iload 64 0 dX2_voteOf_62 rfl rfl ?_
    cases hF
    exact x_iret rfl rfl (by decide) (by decide) dX2_voteOf_64
  refine x_sub [(0, .ref b), (1, .int p0), (2, .int p1), (3, .int p2), (4, .int (0 : Int32)), (5, .int (0 : Int32))] [2, 3, 4, 5, 1, 0] rfl ?_
  exact mX2_voteOf_L6 hst b p0 p1 p2 σ n _ qfuel (0 : Int32) (0 : Int32) x11 h12 hJ
def rmX2_isSetting : Room := { frames := 0, cells := 0, slots := 0, locals := 0 }
theorem qyX2_isSetting : qY yX2_isSetting cX2_isSetting 1 (some .boolean) 1 := ⟨wd_677, wd_18, by decide +kernel, by decide +kernel, by decide +kernel⟩
set_option maxHeartbeats 4000000 in
set_option maxRecDepth 100000 in
theorem mX2_isSetting {l : Launch} {G : qG} (hst : l.stackTraces = false) (p0 : Int32) (σ : qH) (n : Option Nat) (ro : Int32) (hF : FX2_isSetting p0 σ = some ro) : qM l G yX2_isSetting cX2_isSetting 1 (some .boolean) rmX2_isSetting [.int p0] σ n (.inl (some (.int ro), σ, n)) := by
  refine q_body (own := RX2) (nm := "isSetting") (ls := [(0, .int p0)]) hst (by decide +kernel) rfl rfl (Nat.le_of_ble_eq_true rfl) rfl rfl rfl ?_
  unfold FX2_isSetting at hF
  refine x_iconst 1 (0 : Int32) dX2_isSetting_0 rfl (by decide) ?_
  refine x_iload_n 2 0 dX2_isSetting_1 rfl rfl ?_
  obtain ⟨x1, h2, hF⟩ := b1_inv hF
  have hJ : qX l G RX2 "isSetting" cX2_isSetting 1 (some .boolean) [] rmX2_isSetting 0 0 (.inl (some (.int ro), σ, n)) 0 0 σ n 15 [] [.int x1] := by
    obtain ⟨hz, hF⟩ := ite_none hF
    cases hF
    exact x_zret rfl (by rcases hz with h | h <;> rw [h] <;> rfl) rfl (by decide) (by decide) dX2_isSetting_15
  have hF := h2
  rcases ite_inv hF with ⟨hc, hF⟩ | ⟨hc, hF⟩
  · refine x_icmp_gt 14 5 dX2_isSetting_2 (by decide) rfl (fun _ => ?_) (fun q => absurd hc q)
    refine x_iconst 15 (0 : Int32) dX2_isSetting_14 rfl (by decide) ?_
    have e1 := Option.some.inj hF
    subst e1
    refine x_sub [] [] rfl ?_
    exact hJ
  · refine x_icmp_gt 14 5 dX2_isSetting_2 (by decide) rfl (fun q => absurd q hc) (fun _ => ?_)
    refine x_iload_n 6 0 dX2_isSetting_5 rfl rfl ?_
    refine x_iconst 7 (2 : Int32) dX2_isSetting_6 rfl (by decide) ?_
    rcases ite_inv hF with ⟨hc, hF⟩ | ⟨hc, hF⟩
    · refine x_icmp_ge 14 10 dX2_isSetting_7 (by decide) rfl (fun _ => ?_) (fun q => absurd hc q)
      refine x_iconst 15 (0 : Int32) dX2_isSetting_14 rfl (by decide) ?_
      have e1 := Option.some.inj hF
      subst e1
      refine x_sub [] [] rfl ?_
      exact hJ
    · refine x_icmp_ge 14 10 dX2_isSetting_7 (by decide) rfl (fun q => absurd q hc) (fun _ => ?_)
      refine x_iconst 11 (1 : Int32) dX2_isSetting_10 rfl (by decide) ?_
      refine x_goto 15 dX2_isSetting_11 (by decide) ?_
      have e1 := Option.some.inj hF
      subst e1
      refine x_sub [] [] rfl ?_
      exact hJ
def rmX2_settingOf : Room := { frames := 0, cells := 0, slots := 0, locals := 0 }
theorem qyX2_settingOf : qY yX2_settingOf cX2_settingOf 2 (some .int) 1 := ⟨wd_681, wd_18, by decide +kernel, by decide +kernel, by decide +kernel⟩
theorem kX2_settingOf {b : Nat} {p0 : Int32} {σ : qH} {o : Int32} (h : FX2_settingOf b p0 σ = some o) : ∃ fs : List Value, True ∧ σ b = some (.inr (2, fs)) := by
  unfold FX2_settingOf at h
  obtain ⟨_, h1, _⟩ := b1_inv h
  obtain ⟨fs, h2⟩ := gC_inv h1
  exact ⟨fs, trivial, h2⟩
set_option maxHeartbeats 4000000 in
set_option maxRecDepth 100000 in
theorem mX2_settingOf {l : Launch} {G : qG} (hst : l.stackTraces = false) (b : Nat) (p0 : Int32) (σ : qH) (n : Option Nat) (ro : Int32) (hF : FX2_settingOf b p0 σ = some ro) : qM l G yX2_settingOf cX2_settingOf 2 (some .int) rmX2_settingOf [.ref b, .int p0] σ n (.inl (some (.int ro), σ, n)) := by
  refine q_body (own := RX2) (nm := "settingOf") (ls := [(0, .ref b), (1, .int p0)]) hst (by decide +kernel) rfl rfl (Nat.le_of_ble_eq_true rfl) rfl rfl rfl ?_
  unfold FX2_settingOf at hF
  obtain ⟨_, hC, hF⟩ := b1_inv hF
  refine x_aload_n 1 0 dX2_settingOf_0 rfl rfl ?_
  obtain ⟨r1, h2, hF⟩ := b1_inv hF
  refine x_getR 4 5 inX2 rfl (by decide) wd_59 h2 dX2_settingOf_1 rfl ?_
  refine x_iload_n 5 1 dX2_settingOf_4 rfl rfl ?_
  obtain ⟨v3, h4, hF⟩ := b1_inv hF
  refine x_aI 6 h4 dX2_settingOf_5 rfl ?_
  cases hF
  exact x_iret rfl rfl (by decide) (by decide) dX2_settingOf_6
def rmX2_takeFrom : Room := { frames := 1, cells := 0, slots := 0, locals := 27 }
theorem qyX2_takeFrom : qY yX2_takeFrom cX2_takeFrom 2 (none) 1 := ⟨wd_696, wd_18, by decide +kernel, by decide +kernel, by decide +kernel⟩
theorem kX2_takeFrom {b : Nat} {p0 : Nat} {σ : qH} {o : qH} (h : FX2_takeFrom b p0 σ = some o) : ∃ fs : List Value, True ∧ σ b = some (.inr (2, fs)) := by
  unfold FX2_takeFrom at h
  obtain ⟨_, h1, _⟩ := b1_inv h
  obtain ⟨fs, h2⟩ := gC_inv h1
  exact ⟨fs, trivial, h2⟩
set_option maxHeartbeats 4000000 in
set_option maxRecDepth 100000 in
theorem mX2_takeFrom {l : Launch} {G : qG} (hst : l.stackTraces = false) (b : Nat) (p0 : Nat) (σ : qH) (n : Option Nat) (so : qH) (hF : FX2_takeFrom b p0 σ = some so) : qM l G yX2_takeFrom cX2_takeFrom 2 (none) rmX2_takeFrom [.ref b, .ref p0] σ n (.inl (none, so, n)) := by
  refine q_body (own := RX2) (nm := "takeFrom") (ls := [(0, .ref b), (1, .ref p0)]) hst (by decide +kernel) rfl rfl (Nat.le_of_ble_eq_true rfl) rfl rfl rfl ?_
  unfold FX2_takeFrom at hF
  obtain ⟨_, hC, hF⟩ := b1_inv hF
  refine x_aload_n 1 1 dX2_takeFrom_0 rfl rfl ?_
  obtain ⟨r1, h2, hF⟩ := b1_inv hF
  refine x_getR 4 0 inX2 rfl (by decide) wd_54 h2 dX2_takeFrom_1 rfl ?_
  refine x_iconst 5 (0 : Int32) dX2_takeFrom_4 rfl (by decide) ?_
  refine x_aload_n 6 0 dX2_takeFrom_5 rfl rfl ?_
  obtain ⟨r3, h4, hF⟩ := b1_inv hF
  refine x_getR 9 0 inX2 rfl (by decide) wd_54 h4 dX2_takeFrom_6 rfl ?_
  refine x_iconst 10 (0 : Int32) dX2_takeFrom_9 rfl (by decide) ?_
  refine x_aload_n 11 0 dX2_takeFrom_10 rfl rfl ?_
  obtain ⟨r5, h6, hF⟩ := b1_inv hF
  refine x_getR 14 0 inX2 rfl (by decide) wd_54 h6 dX2_takeFrom_11 rfl ?_
  obtain ⟨v7, h8, hF⟩ := b1_inv hF
  refine x_aL 15 h8 dX2_takeFrom_14 rfl ?_
  obtain ⟨s9, h10, hF⟩ := b1_inv hF
  refine x_copy 18 rfl wd_414 wd_416 wd_415 wd_29 h10 (by decide) (Nat.le_of_ble_eq_true rfl) dX2_takeFrom_15 rfl ?_
  refine x_aload_n 19 1 dX2_takeFrom_18 rfl rfl ?_
  obtain ⟨r11, h12, hF⟩ := b1_inv hF
  refine x_getR 22 1 inX2 rfl (by decide) wd_55 h12 dX2_takeFrom_19 rfl ?_
  refine x_iconst 23 (0 : Int32) dX2_takeFrom_22 rfl (by decide) ?_
  refine x_aload_n 24 0 dX2_takeFrom_23 rfl rfl ?_
  obtain ⟨r13, h14, hF⟩ := b1_inv hF
  refine x_getR 27 1 inX2 rfl (by decide) wd_55 h14 dX2_takeFrom_24 rfl ?_
  refine x_iconst 28 (0 : Int32) dX2_takeFrom_27 rfl (by decide) ?_
  refine x_aload_n 29 0 dX2_takeFrom_28 rfl rfl ?_
  obtain ⟨r15, h16, hF⟩ := b1_inv hF
  refine x_getR 32 1 inX2 rfl (by decide) wd_55 h16 dX2_takeFrom_29 rfl ?_
  obtain ⟨v17, h18, hF⟩ := b1_inv hF
  refine x_aL 33 h18 dX2_takeFrom_32 rfl ?_
  obtain ⟨s19, h20, hF⟩ := b1_inv hF
  refine x_copy 36 rfl wd_414 wd_416 wd_415 wd_29 h20 (by decide) (Nat.le_of_ble_eq_true rfl) dX2_takeFrom_33 rfl ?_
  refine x_aload_n 37 1 dX2_takeFrom_36 rfl rfl ?_
  obtain ⟨r21, h22, hF⟩ := b1_inv hF
  refine x_getR 40 2 inX2 rfl (by decide) wd_56 h22 dX2_takeFrom_37 rfl ?_
  refine x_iconst 41 (0 : Int32) dX2_takeFrom_40 rfl (by decide) ?_
  refine x_aload_n 42 0 dX2_takeFrom_41 rfl rfl ?_
  obtain ⟨r23, h24, hF⟩ := b1_inv hF
  refine x_getR 45 2 inX2 rfl (by decide) wd_56 h24 dX2_takeFrom_42 rfl ?_
  refine x_iconst 46 (0 : Int32) dX2_takeFrom_45 rfl (by decide) ?_
  refine x_aload_n 47 0 dX2_takeFrom_46 rfl rfl ?_
  obtain ⟨r25, h26, hF⟩ := b1_inv hF
  refine x_getR 50 2 inX2 rfl (by decide) wd_56 h26 dX2_takeFrom_47 rfl ?_
  obtain ⟨v27, h28, hF⟩ := b1_inv hF
  refine x_aL 51 h28 dX2_takeFrom_50 rfl ?_
  obtain ⟨s29, h30, hF⟩ := b1_inv hF
  refine x_copy 54 rfl wd_414 wd_416 wd_415 wd_29 h30 (by decide) (Nat.le_of_ble_eq_true rfl) dX2_takeFrom_51 rfl ?_
  refine x_aload_n 55 1 dX2_takeFrom_54 rfl rfl ?_
  obtain ⟨r31, h32, hF⟩ := b1_inv hF
  refine x_getR 58 3 inX2 rfl (by decide) wd_57 h32 dX2_takeFrom_55 rfl ?_
  refine x_iconst 59 (0 : Int32) dX2_takeFrom_58 rfl (by decide) ?_
  refine x_aload_n 60 0 dX2_takeFrom_59 rfl rfl ?_
  obtain ⟨r33, h34, hF⟩ := b1_inv hF
  refine x_getR 63 3 inX2 rfl (by decide) wd_57 h34 dX2_takeFrom_60 rfl ?_
  refine x_iconst 64 (0 : Int32) dX2_takeFrom_63 rfl (by decide) ?_
  refine x_aload_n 65 0 dX2_takeFrom_64 rfl rfl ?_
  obtain ⟨r35, h36, hF⟩ := b1_inv hF
  refine x_getR 68 3 inX2 rfl (by decide) wd_57 h36 dX2_takeFrom_65 rfl ?_
  obtain ⟨v37, h38, hF⟩ := b1_inv hF
  refine x_aL 69 h38 dX2_takeFrom_68 rfl ?_
  obtain ⟨s39, h40, hF⟩ := b1_inv hF
  refine x_copy 72 rfl wd_414 wd_416 wd_415 wd_29 h40 (by decide) (Nat.le_of_ble_eq_true rfl) dX2_takeFrom_69 rfl ?_
  refine x_aload_n 73 1 dX2_takeFrom_72 rfl rfl ?_
  obtain ⟨r41, h42, hF⟩ := b1_inv hF
  refine x_getR 76 4 inX2 rfl (by decide) wd_58 h42 dX2_takeFrom_73 rfl ?_
  refine x_iconst 77 (0 : Int32) dX2_takeFrom_76 rfl (by decide) ?_
  refine x_aload_n 78 0 dX2_takeFrom_77 rfl rfl ?_
  obtain ⟨r43, h44, hF⟩ := b1_inv hF
  refine x_getR 81 4 inX2 rfl (by decide) wd_58 h44 dX2_takeFrom_78 rfl ?_
  refine x_iconst 82 (0 : Int32) dX2_takeFrom_81 rfl (by decide) ?_
  refine x_aload_n 83 0 dX2_takeFrom_82 rfl rfl ?_
  obtain ⟨r45, h46, hF⟩ := b1_inv hF
  refine x_getR 86 4 inX2 rfl (by decide) wd_58 h46 dX2_takeFrom_83 rfl ?_
  obtain ⟨v47, h48, hF⟩ := b1_inv hF
  refine x_aL 87 h48 dX2_takeFrom_86 rfl ?_
  obtain ⟨s49, h50, hF⟩ := b1_inv hF
  refine x_copy 90 rfl wd_414 wd_416 wd_415 wd_29 h50 (by decide) (Nat.le_of_ble_eq_true rfl) dX2_takeFrom_87 rfl ?_
  refine x_aload_n 91 1 dX2_takeFrom_90 rfl rfl ?_
  obtain ⟨r51, h52, hF⟩ := b1_inv hF
  refine x_getR 94 5 inX2 rfl (by decide) wd_59 h52 dX2_takeFrom_91 rfl ?_
  refine x_iconst 95 (0 : Int32) dX2_takeFrom_94 rfl (by decide) ?_
  refine x_aload_n 96 0 dX2_takeFrom_95 rfl rfl ?_
  obtain ⟨r53, h54, hF⟩ := b1_inv hF
  refine x_getR 99 5 inX2 rfl (by decide) wd_59 h54 dX2_takeFrom_96 rfl ?_
  refine x_iconst 100 (0 : Int32) dX2_takeFrom_99 rfl (by decide) ?_
  refine x_aload_n 101 0 dX2_takeFrom_100 rfl rfl ?_
  obtain ⟨r55, h56, hF⟩ := b1_inv hF
  refine x_getR 104 5 inX2 rfl (by decide) wd_59 h56 dX2_takeFrom_101 rfl ?_
  obtain ⟨v57, h58, hF⟩ := b1_inv hF
  refine x_aL 105 h58 dX2_takeFrom_104 rfl ?_
  obtain ⟨s59, h60, hF⟩ := b1_inv hF
  refine x_copy 108 rfl wd_414 wd_416 wd_415 wd_29 h60 (by decide) (Nat.le_of_ble_eq_true rfl) dX2_takeFrom_105 rfl ?_
  refine x_aload_n 109 0 dX2_takeFrom_108 rfl rfl ?_
  refine x_aload_n 110 1 dX2_takeFrom_109 rfl rfl ?_
  obtain ⟨v61, h62, hF⟩ := b1_inv hF
  refine x_getI 113 6 inX2 rfl (by decide) wd_60 h62 dX2_takeFrom_110 rfl ?_
  obtain ⟨s63, h64, hF⟩ := b1_inv hF
  refine x_put 116 6 inX2 tyX2 tyX2_ok nmX2 rfl (by decide) wd_60 rfl (tX2_6) rfl rfl h64 dX2_takeFrom_113 rfl ?_
  refine x_aload_n 117 0 dX2_takeFrom_116 rfl rfl ?_
  refine x_aload_n 118 1 dX2_takeFrom_117 rfl rfl ?_
  obtain ⟨v65, h66, hF⟩ := b1_inv hF
  refine x_getI 121 7 inX2 rfl (by decide) wd_61 h66 dX2_takeFrom_118 rfl ?_
  obtain ⟨s67, h68, hF⟩ := b1_inv hF
  refine x_put 124 7 inX2 tyX2 tyX2_ok nmX2 rfl (by decide) wd_61 rfl (tX2_7) rfl rfl h68 dX2_takeFrom_121 rfl ?_
  refine x_aload_n 125 0 dX2_takeFrom_124 rfl rfl ?_
  refine x_aload_n 126 1 dX2_takeFrom_125 rfl rfl ?_
  obtain ⟨v69, h70, hF⟩ := b1_inv hF
  refine x_getI 129 8 inX2 rfl (by decide) wd_62 h70 dX2_takeFrom_126 rfl ?_
  obtain ⟨s71, h72, hF⟩ := b1_inv hF
  refine x_put 132 8 inX2 tyX2 tyX2_ok nmX2 rfl (by decide) wd_62 rfl (tX2_8) rfl rfl h72 dX2_takeFrom_129 rfl ?_
  refine x_aload_n 133 0 dX2_takeFrom_132 rfl rfl ?_
  refine x_aload_n 134 1 dX2_takeFrom_133 rfl rfl ?_
  obtain ⟨v73, h74, hF⟩ := b1_inv hF
  refine x_getI 137 9 inX2 rfl (by decide) wd_63 h74 dX2_takeFrom_134 rfl ?_
  obtain ⟨s75, h76, hF⟩ := b1_inv hF
  refine x_put 140 9 inX2 tyX2 tyX2_ok nmX2 rfl (by decide) wd_63 rfl (tX2_9) rfl rfl h76 dX2_takeFrom_137 rfl ?_
  refine x_aload_n 141 0 dX2_takeFrom_140 rfl rfl ?_
  refine x_aload_n 142 1 dX2_takeFrom_141 rfl rfl ?_
  obtain ⟨v77, h78, hF⟩ := b1_inv hF
  refine x_getI 145 10 inX2 rfl (by decide) wd_64 h78 dX2_takeFrom_142 rfl ?_
  obtain ⟨s79, h80, hF⟩ := b1_inv hF
  refine x_put 148 10 inX2 tyX2 tyX2_ok nmX2 rfl (by decide) wd_64 rfl (tX2_10) rfl rfl h80 dX2_takeFrom_145 rfl ?_
  cases hF
  exact x_vret rfl rfl (by decide) (by decide) dX2_takeFrom_148
def rmX2_fitsSetting : Room := { frames := 1, cells := 0, slots := 0, locals := 20 }
theorem qyX2_fitsSetting : qY yX2_fitsSetting cX2_fitsSetting 2 (some .boolean) 2 := ⟨wd_725, wd_18, by decide +kernel, by decide +kernel, by decide +kernel⟩
set_option maxHeartbeats 4000000 in
set_option maxRecDepth 100000 in
theorem mX2_fitsSetting {l : Launch} {G : qG} (hst : l.stackTraces = false) (p0 : Int32) (p1 : Int32) (σ : qH) (n : Option Nat) (ro : Int32) (hF : FX2_fitsSetting p0 p1 σ = some ro) : qM l G yX2_fitsSetting cX2_fitsSetting 2 (some .boolean) rmX2_fitsSetting [.int p0, .int p1] σ n (.inl (some (.int ro), σ, n)) := by
  refine q_body (own := RX2) (nm := "fitsSetting") (ls := [(0, .int p0), (1, .int p1)]) hst (by decide +kernel) rfl rfl (Nat.le_of_ble_eq_true rfl) rfl rfl rfl ?_
  unfold FX2_fitsSetting at hF
  refine x_iload_n 1 0 dX2_fitsSetting_0 rfl rfl ?_
  obtain ⟨v2, h1, hF⟩ := b1_inv hF
  refine x_callS (As := [.int p0]) (rest := []) 4 0 0 (mX2_isSetting hst p0 σ n v2 h1) qyX2_isSetting wd_726 wd_676 rfl rfl (by decide) (Nat.le_of_ble_eq_true rfl) (by decide) dX2_fitsSetting_1 rfl rfl rfl rfl ?_
  obtain ⟨x3, h6, hF⟩ := b1_inv hF
  have hJ : qX l G RX2 "fitsSetting" cX2_fitsSetting 2 (some .boolean) [] rmX2_fitsSetting 0 0 (.inl (some (.int ro), σ, n)) 0 0 σ n 31 [] [.int x3] := by
    obtain ⟨hz, hF⟩ := ite_none hF
    cases hF
    exact x_zret rfl (by rcases hz with h | h <;> rw [h] <;> rfl) rfl (by decide) (by decide) dX2_fitsSetting_31
  have hF := h6
  rcases ite_inv hF with ⟨hc, hF⟩ | ⟨hc, hF⟩
  · refine x_if_eq 30 7 dX2_fitsSetting_4 (by decide) rfl (fun _ => ?_) (fun q => absurd hc q)
    refine x_iconst 31 (0 : Int32) dX2_fitsSetting_30 rfl (by decide) ?_
    have e1 := Option.some.inj hF
    subst e1
    refine x_sub [] [] rfl ?_
    exact hJ
  · refine x_if_eq 30 7 dX2_fitsSetting_4 (by decide) rfl (fun q => absurd q hc) (fun _ => ?_)
    refine x_iconst 8 (0 : Int32) dX2_fitsSetting_7 rfl (by decide) ?_
    refine x_iload_n 9 1 dX2_fitsSetting_8 rfl rfl ?_
    rcases ite_inv hF with ⟨hc, hF⟩ | ⟨hc, hF⟩
    · refine x_icmp_gt 30 12 dX2_fitsSetting_9 (by decide) rfl (fun _ => ?_) (fun q => absurd hc q)
      refine x_iconst 31 (0 : Int32) dX2_fitsSetting_30 rfl (by decide) ?_
      have e1 := Option.some.inj hF
      subst e1
      refine x_sub [] [] rfl ?_
      exact hJ
    · refine x_icmp_gt 30 12 dX2_fitsSetting_9 (by decide) rfl (fun q => absurd q hc) (fun _ => ?_)
      refine x_iload_n 13 1 dX2_fitsSetting_12 rfl rfl ?_
      refine x_iload_n 14 0 dX2_fitsSetting_13 rfl rfl ?_
      obtain ⟨x4, h5, hF⟩ := b1_inv hF
      have hJ : qX l G RX2 "fitsSetting" cX2_fitsSetting 2 (some .boolean) [] rmX2_fitsSetting 0 0 (.inl (some (.int ro), σ, n)) 0 0 σ n 23 [] [.int x4, .int p1] := by
        rcases ite_inv hF with ⟨hc, hF⟩ | ⟨hc, hF⟩
        · refine x_icmp_gt 30 26 dX2_fitsSetting_23 (by decide) rfl (fun _ => ?_) (fun q => absurd hc q)
          refine x_iconst 31 (0 : Int32) dX2_fitsSetting_30 rfl (by decide) ?_
          have e1 := Option.some.inj hF
          subst e1
          exact hJ
        · refine x_icmp_gt 30 26 dX2_fitsSetting_23 (by decide) rfl (fun q => absurd q hc) (fun _ => ?_)
          refine x_iconst 27 (1 : Int32) dX2_fitsSetting_26 rfl (by decide) ?_
          refine x_goto 31 dX2_fitsSetting_27 (by decide) ?_
          have e1 := Option.some.inj hF
          subst e1
          exact hJ
      have hF := h5
      rcases ite_inv hF with ⟨hc, hF⟩ | ⟨hc, hF⟩
      · refine x_if_ne 21 17 dX2_fitsSetting_14 (by decide) rfl (fun q => absurd hc q) (fun _ => ?_)
        refine x_iconst 18 (5 : Int32) dX2_fitsSetting_17 rfl (by decide) ?_
        refine x_goto 23 dX2_fitsSetting_18 (by decide) ?_
        have e1 := Option.some.inj hF
        subst e1
        refine x_sub [] [] rfl ?_
        exact hJ
      · refine x_if_ne 21 17 dX2_fitsSetting_14 (by decide) rfl (fun _ => ?_) (fun q => absurd q hc)
        refine x_bipush 23 (50 : Int32) dX2_fitsSetting_21 rfl (by decide) ?_
        have e1 := Option.some.inj hF
        subst e1
        refine x_sub [] [] rfl ?_
        exact hJ
def rmX2_changeSetting : Room := { frames := 0, cells := 0, slots := 0, locals := 0 }
theorem qyX2_changeSetting : qY yX2_changeSetting cX2_changeSetting 4 (some .int) 2 := ⟨wd_730, wd_18, by decide +kernel, by decide +kernel, by decide +kernel⟩
theorem kX2_changeSetting {b : Nat} {p0 : Int32} {p1 : Int32} {σ : qH} {o : Int32 × qH} (h : FX2_changeSetting b p0 p1 σ = some o) : ∃ fs : List Value, True ∧ σ b = some (.inr (2, fs)) := by
  unfold FX2_changeSetting at h
  obtain ⟨_, h1, _⟩ := b1_inv h
  obtain ⟨fs, h2⟩ := gC_inv h1
  exact ⟨fs, trivial, h2⟩
set_option maxHeartbeats 4000000 in
set_option maxRecDepth 100000 in
theorem mX2_changeSetting {l : Launch} {G : qG} (hst : l.stackTraces = false) (b : Nat) (p0 : Int32) (p1 : Int32) (σ : qH) (n : Option Nat) (ro : Int32) (so : qH) (hF : FX2_changeSetting b p0 p1 σ = some (ro, so)) : qM l G yX2_changeSetting cX2_changeSetting 4 (some .int) rmX2_changeSetting [.ref b, .int p0, .int p1] σ n (.inl (some (.int ro), so, n)) := by
  refine q_body (own := RX2) (nm := "changeSetting") (ls := [(0, .ref b), (1, .int p0), (2, .int p1)]) hst (by decide +kernel) rfl rfl (Nat.le_of_ble_eq_true rfl) rfl rfl rfl ?_
  unfold FX2_changeSetting at hF
  obtain ⟨_, hC, hF⟩ := b1_inv hF
  refine x_aload_n 1 0 dX2_changeSetting_0 rfl rfl ?_
  obtain ⟨r1, h2, hF⟩ := b1_inv hF
  refine x_getR 4 5 inX2 rfl (by decide) wd_59 h2 dX2_changeSetting_1 rfl ?_
  refine x_iload_n 5 1 dX2_changeSetting_4 rfl rfl ?_
  obtain ⟨v3, h4, hF⟩ := b1_inv hF
  refine x_aI 6 h4 dX2_changeSetting_5 rfl ?_
  refine x_istore_n 7 3 [(3, .int v3), (0, .ref b), (1, .int p0), (2, .int p1)] dX2_changeSetting_6 rfl rfl (by decide) rfl ?_
  refine x_aload_n 8 1 dX2_changeSetting_7 rfl rfl ?_
  obtain ⟨r5, h6, hF⟩ := b1_inv hF
  refine x_getR 11 5 inX2 rfl (by decide) wd_59 h6 dX2_changeSetting_8 rfl ?_
  refine x_iload_n 12 2 dX2_changeSetting_11 rfl rfl ?_
  refine x_iload_n 13 3 dX2_changeSetting_12 rfl rfl ?_
  obtain ⟨s7, h8, hF⟩ := b1_inv hF
  refine x_sI 14 h8 dX2_changeSetting_13 rfl ?_
  refine x_iload_n 15 0 dX2_changeSetting_14 rfl rfl ?_
  cases hF
  exact x_iret rfl rfl (by decide) (by decide) dX2_changeSetting_15
def rmX2_feetFrom : Room := { frames := 1, cells := 0, slots := 0, locals := 22 }
theorem qyX2_feetFrom : qY yX2_feetFrom cX2_feetFrom 3 (some .int) 2 := ⟨wd_777, wd_18, by decide +kernel, by decide +kernel, by decide +kernel⟩
theorem kX2_feetFrom {b : Nat} {p0 : Int32} {p1 : Int32} {σ : qH} {o : Int32} (h : FX2_feetFrom b p0 p1 σ = some o) : ∃ fs : List Value, True ∧ σ b = some (.inr (2, fs)) := by
  unfold FX2_feetFrom at h
  obtain ⟨_, h1, _⟩ := b1_inv h
  obtain ⟨fs, h2⟩ := gC_inv h1
  exact ⟨fs, trivial, h2⟩
set_option maxHeartbeats 4000000 in
set_option maxRecDepth 100000 in
theorem mX2_feetFrom {l : Launch} {G : qG} (hst : l.stackTraces = false) (b : Nat) (p0 : Int32) (p1 : Int32) (σ : qH) (n : Option Nat) (ro : Int32) (hF : FX2_feetFrom b p0 p1 σ = some ro) : qM l G yX2_feetFrom cX2_feetFrom 3 (some .int) rmX2_feetFrom [.ref b, .int p0, .int p1] σ n (.inl (some (.int ro), σ, n)) := by
  refine q_body (own := RX2) (nm := "feetFrom") (ls := [(0, .ref b), (1, .int p0), (2, .int p1)]) hst (by decide +kernel) rfl rfl (Nat.le_of_ble_eq_true rfl) rfl rfl rfl ?_
  unfold FX2_feetFrom at hF
  obtain ⟨_, hC, hF⟩ := b1_inv hF
  refine x_iconst 1 (0 : Int32) dX2_feetFrom_0 rfl (by decide) ?_
  refine x_aload_n 2 0 dX2_feetFrom_1 rfl rfl ?_
  refine x_iload_n 3 1 dX2_feetFrom_2 rfl rfl ?_
  refine x_bipush 5 (7 : Int32) dX2_feetFrom_3 rfl (by decide) ?_
  obtain ⟨v2, h1, hF⟩ := b1_inv hF
  obtain ⟨fs, hb⟩ : ∃ fs : List Value, True ∧ σ b = some (.inr (2, fs)) := kX2_number h1
  refine x_callV (As := [.int p0, .int (7 : Int32)]) (rest := [.int (0 : Int32)]) 8 0 0 (mX2_number hst b p0 (7 : Int32) σ n v2 h1) qyX2_number wd_436 wd_437 wd_438 hb.2 rfl rfl rfl (by decide) (Nat.le_of_ble_eq_true rfl) (by decide) dX2_feetFrom_5 rfl rfl rfl rfl ?_
  refine x_iload_n 9 2 dX2_feetFrom_8 rfl rfl ?_
  refine x_isub 10 dX2_feetFrom_9 rfl ?_
  refine x_iload_n 11 2 dX2_feetFrom_10 rfl rfl ?_
  refine x_aload_n 12 0 dX2_feetFrom_11 rfl rfl ?_
  refine x_iload_n 13 1 dX2_feetFrom_12 rfl rfl ?_
  refine x_bipush 15 (8 : Int32) dX2_feetFrom_13 rfl (by decide) ?_
  obtain ⟨v4, h3, hF⟩ := b1_inv hF
  obtain ⟨fs, hb⟩ : ∃ fs : List Value, True ∧ σ b = some (.inr (2, fs)) := kX2_number h3
  refine x_callV (As := [.int p0, .int (8 : Int32)]) (rest := [.int p1, .int (v2 - p1), .int (0 : Int32)]) 18 0 0 (mX2_number hst b p0 (8 : Int32) σ n v4 h3) qyX2_number wd_436 wd_437 wd_438 hb.2 rfl rfl rfl (by decide) (Nat.le_of_ble_eq_true rfl) (by decide) dX2_feetFrom_15 rfl rfl rfl rfl ?_
  refine x_isub 19 dX2_feetFrom_18 rfl ?_
  obtain ⟨v6, h5, hF⟩ := b1_inv hF
  refine x_callS (As := [.int (v2 - p1), .int (p1 - v4)]) (rest := [.int (0 : Int32)]) 22 0 0 (mJ9_max_7cf53 hst (v2 - p1) (p1 - v4) σ n v6 h5) qyJ9_max_7cf53 wd_396 wd_397 rfl rfl (by decide) (Nat.le_of_ble_eq_true rfl) (by decide) dX2_feetFrom_19 rfl rfl rfl rfl ?_
  obtain ⟨v8, h7, hF⟩ := b1_inv hF
  refine x_callS (As := [.int (0 : Int32), .int v6]) (rest := []) 25 0 0 (mJ9_max_7cf53 hst (0 : Int32) v6 σ n v8 h7) qyJ9_max_7cf53 wd_396 wd_397 rfl rfl (by decide) (Nat.le_of_ble_eq_true rfl) (by decide) dX2_feetFrom_22 rfl rfl rfl rfl ?_
  cases hF
  exact x_iret rfl rfl (by decide) (by decide) dX2_feetFrom_25
def rmX2_isLouder : Room := { frames := 2, cells := 0, slots := 0, locals := 44 }
theorem qyX2_isLouder : qY yX2_isLouder cX2_isLouder 5 (some .boolean) 3 := ⟨wd_773, wd_18, by decide +kernel, by decide +kernel, by decide +kernel⟩
theorem kX2_isLouder {b : Nat} {p0 : Int32} {p1 : Int32} {p2 : Int32} {σ : qH} {o : Int32} (h : FX2_isLouder b p0 p1 p2 σ = some o) : ∃ fs : List Value, True ∧ σ b = some (.inr (2, fs)) := by
  unfold FX2_isLouder at h
  obtain ⟨_, h1, _⟩ := b1_inv h
  obtain ⟨fs, h2⟩ := gC_inv h1
  exact ⟨fs, trivial, h2⟩
set_option maxHeartbeats 4000000 in
set_option maxRecDepth 100000 in
theorem mX2_isLouder {l : Launch} {G : qG} (hst : l.stackTraces = false) (b : Nat) (p0 : Int32) (p1 : Int32) (p2 : Int32) (σ : qH) (n : Option Nat) (ro : Int32) (hF : FX2_isLouder b p0 p1 p2 σ = some ro) : qM l G yX2_isLouder cX2_isLouder 5 (some .boolean) rmX2_isLouder [.ref b, .int p0, .int p1, .int p2] σ n (.inl (some (.int ro), σ, n)) := by
  refine q_body (own := RX2) (nm := "isLouder") (ls := [(0, .ref b), (1, .int p0), (2, .int p1), (3, .int p2)]) hst (by decide +kernel) rfl rfl (Nat.le_of_ble_eq_true rfl) rfl rfl rfl ?_
  unfold FX2_isLouder at hF
  obtain ⟨_, hC, hF⟩ := b1_inv hF
  refine x_aload_n 1 0 dX2_isLouder_0 rfl rfl ?_
  refine x_iload_n 2 1 dX2_isLouder_1 rfl rfl ?_
  obtain ⟨v2, h1, hF⟩ := b1_inv hF
  obtain ⟨fs, hb⟩ : ∃ fs : List Value, True ∧ σ b = some (.inr (2, fs)) := kX2_weight h1
  refine x_callV (As := [.int p0]) (rest := []) 5 0 0 (mX2_weight hst b p0 σ n v2 h1) qyX2_weight wd_448 wd_449 wd_450 hb.2 rfl rfl rfl (by decide) (Nat.le_of_ble_eq_true rfl) (by decide) dX2_isLouder_2 rfl rfl rfl rfl ?_
  refine x_aload_n 6 0 dX2_isLouder_5 rfl rfl ?_
  refine x_iload_n 7 2 dX2_isLouder_6 rfl rfl ?_
  obtain ⟨v4, h3, hF⟩ := b1_inv hF
  obtain ⟨fs, hb⟩ : ∃ fs : List Value, True ∧ σ b = some (.inr (2, fs)) := kX2_weight h3
  refine x_callV (As := [.int p1]) (rest := [.int v2]) 10 0 0 (mX2_weight hst b p1 σ n v4 h3) qyX2_weight wd_448 wd_449 wd_450 hb.2 rfl rfl rfl (by decide) (Nat.le_of_ble_eq_true rfl) (by decide) dX2_isLouder_7 rfl rfl rfl rfl ?_
  refine x_isub 11 dX2_isLouder_10 rfl ?_
  refine x_istore 13 4 [(4, .int (v2 - v4)), (0, .ref b), (1, .int p0), (2, .int p1), (3, .int p2)] dX2_isLouder_11 rfl (by decide) rfl ?_
  refine x_iload 15 0 dX2_isLouder_13 rfl rfl ?_
  obtain ⟨x5, h10, hF⟩ := b1_inv hF
  have hJ : qX l G RX2 "isLouder" cX2_isLouder 5 (some .boolean) [] rmX2_isLouder 0 0 (.inl (some (.int ro), σ, n)) 0 0 σ n 51 [] [.int x5] := by
    obtain ⟨hz, hF⟩ := ite_none hF
    cases hF
    exact x_zret rfl (by rcases hz with h | h <;> rw [h] <;> rfl) rfl (by decide) (by decide) dX2_isLouder_51
  have hF := h10
  rcases ite_inv hF with ⟨hc, hF⟩ | ⟨hc, hF⟩
  · refine x_if_eq 31 18 dX2_isLouder_15 (by decide) rfl (fun _ => ?_) (fun q => absurd hc q)
    refine x_aload_n 32 1 dX2_isLouder_31 rfl rfl ?_
    refine x_iload_n 33 2 dX2_isLouder_32 rfl rfl ?_
    refine x_iload_n 34 4 dX2_isLouder_33 rfl rfl ?_
    obtain ⟨v7, h6, hF⟩ := b1_inv hF
    obtain ⟨fs, hb⟩ : ∃ fs : List Value, True ∧ σ b = some (.inr (2, fs)) := kX2_feetFrom h6
    refine x_callV (As := [.int p0, .int p2]) (rest := []) 37 0 0 (mX2_feetFrom hst b p0 p2 σ n v7 h6) qyX2_feetFrom wd_774 wd_776 wd_14 hb.2 rfl rfl rfl (by decide) (Nat.le_of_ble_eq_true rfl) (by decide) dX2_isLouder_34 rfl rfl rfl rfl ?_
    refine x_aload_n 38 1 dX2_isLouder_37 rfl rfl ?_
    refine x_iload_n 39 3 dX2_isLouder_38 rfl rfl ?_
    refine x_iload_n 40 4 dX2_isLouder_39 rfl rfl ?_
    obtain ⟨v9, h8, hF⟩ := b1_inv hF
    obtain ⟨fs, hb⟩ : ∃ fs : List Value, True ∧ σ b = some (.inr (2, fs)) := kX2_feetFrom h8
    refine x_callV (As := [.int p1, .int p2]) (rest := [.int v7]) 43 0 0 (mX2_feetFrom hst b p1 p2 σ n v9 h8) qyX2_feetFrom wd_774 wd_776 wd_14 hb.2 rfl rfl rfl (by decide) (Nat.le_of_ble_eq_true rfl) (by decide) dX2_isLouder_40 rfl rfl rfl rfl ?_
    rcases ite_inv hF with ⟨hc, hF⟩ | ⟨hc, hF⟩
    · refine x_icmp_le 50 46 dX2_isLouder_43 (by decide) rfl (fun _ => ?_) (fun q => absurd hc q)
      refine x_iconst 51 (0 : Int32) dX2_isLouder_50 rfl (by decide) ?_
      have e1 := Option.some.inj hF
      subst e1
      refine x_sub [] [] rfl ?_
      exact hJ
    · refine x_icmp_le 50 46 dX2_isLouder_43 (by decide) rfl (fun q => absurd q hc) (fun _ => ?_)
      refine x_iconst 47 (1 : Int32) dX2_isLouder_46 rfl (by decide) ?_
      refine x_goto 51 dX2_isLouder_47 (by decide) ?_
      have e1 := Option.some.inj hF
      subst e1
      refine x_sub [] [] rfl ?_
      exact hJ
  · refine x_if_eq 31 18 dX2_isLouder_15 (by decide) rfl (fun q => absurd q hc) (fun _ => ?_)
    refine x_iload 20 0 dX2_isLouder_18 rfl rfl ?_
    rcases ite_inv hF with ⟨hc, hF⟩ | ⟨hc, hF⟩
    · refine x_if_le 27 23 dX2_isLouder_20 (by decide) rfl (fun _ => ?_) (fun q => absurd hc q)
      refine x_iconst 28 (0 : Int32) dX2_isLouder_27 rfl (by decide) ?_
      refine x_goto 51 dX2_isLouder_28 (by decide) ?_
      have e1 := Option.some.inj hF
      subst e1
      refine x_sub [] [] rfl ?_
      exact hJ
    · refine x_if_le 27 23 dX2_isLouder_20 (by decide) rfl (fun q => absurd q hc) (fun _ => ?_)
      refine x_iconst 24 (1 : Int32) dX2_isLouder_23 rfl (by decide) ?_
      refine x_goto 51 dX2_isLouder_24 (by decide) ?_
      have e1 := Option.some.inj hF
      subst e1
      refine x_sub [] [] rfl ?_
      exact hJ
def rmX2_loudestAgainst : Room := { frames := 3, cells := 0, slots := 0, locals := 68 }
theorem qyX2_loudestAgainst : qY yX2_loudestAgainst cX2_loudestAgainst 5 (some .int) 2 := ⟨wd_769, wd_18, by decide +kernel, by decide +kernel, by decide +kernel⟩
set_option maxHeartbeats 4000000 in
set_option maxRecDepth 100000 in
theorem mX2_loudestAgainst_L5 {l : Launch} {G : qG} (hst : l.stackTraces = false) (a0 : Nat) (a1 : Int32) (a2 : Int32) (σ : qH) (n : Option Nat) (r : qR) : ∀ (q : Nat) (y3 : Int32) (y4 : Int32) (o3 : Int32), FX2_loudestAgainst_L5 a0 a1 a2 σ q y3 y4 = some o3 → qX l G RX2 "loudestAgainst" cX2_loudestAgainst 5 (some .int) [] rmX2_loudestAgainst 0 0 r 0 0 σ n 59 [(3, .int o3)] [] → qX l G RX2 "loudestAgainst" cX2_loudestAgainst 5 (some .int) [] rmX2_loudestAgainst 0 0 r 0 0 σ n 5 [(0, .ref a0), (1, .int a1), (2, .int a2), (3, .int y3), (4, .int y4)] [] := by
  intro q
  induction q with
  | zero => intro y3 y4 o3 hF; rw [FX2_loudestAgainst_L5] at hF; cases hF
  | succ q ih =>
    intro y3 y4 o3 hF hJ
    rw [FX2_loudestAgainst_L5] at hF
    refine x_iload 7 4 dX2_loudestAgainst_5 rfl rfl ?_
    refine x_aload_n 8 0 dX2_loudestAgainst_7 rfl rfl ?_
    obtain ⟨v1, h2, hF⟩ := b1_inv hF
    refine x_getI 11 6 inX2 rfl (by decide) wd_60 h2 dX2_loudestAgainst_8 rfl ?_
    rcases ite_inv hF with ⟨hc, hF⟩ | ⟨hc, hF⟩
    · refine x_icmp_ge 59 14 dX2_loudestAgainst_11 (by decide) rfl (fun _ => ?_) (fun q => absurd hc q)
      have e1 := Option.some.inj hF
      subst e1
      refine x_sub [(3, .int y3)] [3] rfl ?_
      exact hJ
    · refine x_icmp_ge 59 14 dX2_loudestAgainst_11 (by decide) rfl (fun q => absurd q hc) (fun _ => ?_)
      refine x_aload_n 15 0 dX2_loudestAgainst_14 rfl rfl ?_
      refine x_iload 17 4 dX2_loudestAgainst_15 rfl rfl ?_
      refine x_iload_n 18 1 dX2_loudestAgainst_17 rfl rfl ?_
      obtain ⟨v4, h3, hF⟩ := b1_inv hF
      obtain ⟨fs, hb⟩ : ∃ fs : List Value, True ∧ σ a0 = some (.inr (2, fs)) := kX2_isOf h3
      refine x_callV (As := [.int y4, .int a1]) (rest := []) 21 0 0 (mX2_isOf hst a0 y4 a1 σ n v4 h3) qyX2_isOf wd_460 wd_461 wd_462 hb.2 rfl rfl rfl (by decide) (Nat.le_of_ble_eq_true rfl) (by decide) dX2_loudestAgainst_18 rfl rfl rfl rfl ?_
      obtain ⟨x5, h10, hF⟩ := b1_inv hF
      have hJ : qX l G RX2 "loudestAgainst" cX2_loudestAgainst 5 (some .int) [] rmX2_loudestAgainst 0 0 r 0 0 σ n 53 [(0, .ref a0), (1, .int a1), (2, .int a2), (3, .int x5), (4, .int y4)] [] := by
        refine x_iinc 56 4 4 (y4 + (1 : Int32)) [(4, .int (y4 + (1 : Int32))), (0, .ref a0), (1, .int a1), (2, .int a2), (3, .int x5)] dX2_loudestAgainst_53 rfl rfl rfl (by decide) rfl ?_
        refine x_goto 5 dX2_loudestAgainst_56 (by decide) ?_
        refine x_sub [(0, .ref a0), (1, .int a1), (2, .int a2), (3, .int x5), (4, .int (y4 + (1 : Int32)))] [1, 2, 3, 4, 0] rfl ?_
        exact ih _ _ _ hF hJ
      have hF := h10
      rcases ite_inv hF with ⟨hc, hF⟩ | ⟨hc, hF⟩
      · refine x_if_eq 53 24 dX2_loudestAgainst_21 (by decide) rfl (fun _ => ?_) (fun q => absurd hc q)
        have e1 := Option.some.inj hF
        subst e1
        exact hJ
      · refine x_if_eq 53 24 dX2_loudestAgainst_21 (by decide) rfl (fun q => absurd q hc) (fun _ => ?_)
        refine x_aload_n 25 0 dX2_loudestAgainst_24 rfl rfl ?_
        refine x_iload 27 4 dX2_loudestAgainst_25 rfl rfl ?_
        refine x_iload_n 28 2 dX2_loudestAgainst_27 rfl rfl ?_
        obtain ⟨v7, h6, hF⟩ := b1_inv hF
        obtain ⟨fs, hb⟩ : ∃ fs : List Value, True ∧ σ a0 = some (.inr (2, fs)) := kX2_tells h6
        refine x_callV (As := [.int y4, .int a2]) (rest := []) 31 0 0 (mX2_tells hst a0 y4 a2 σ n v7 h6) qyX2_tells wd_464 wd_465 wd_466 hb.2 rfl rfl rfl (by decide) (Nat.le_of_ble_eq_true rfl) (by decide) dX2_loudestAgainst_28 rfl rfl rfl rfl ?_
        rcases ite_inv hF with ⟨hc, hF⟩ | ⟨hc, hF⟩
        · refine x_if_ne 53 34 dX2_loudestAgainst_31 (by decide) rfl (fun q => absurd hc q) (fun _ => ?_)
          refine x_iload_n 35 3 dX2_loudestAgainst_34 rfl rfl ?_
          refine x_iconst 36 (-1 : Int32) dX2_loudestAgainst_35 rfl (by decide) ?_
          rcases ite_inv hF with ⟨hc, hF⟩ | ⟨hc, hF⟩
          · refine x_icmp_eq 50 39 dX2_loudestAgainst_36 (by decide) rfl (fun _ => ?_) (fun q => absurd hc q)
            refine x_iload 52 4 dX2_loudestAgainst_50 rfl rfl ?_
            refine x_istore_n 53 3 [(3, .int y4), (0, .ref a0), (1, .int a1), (2, .int a2), (4, .int y4)] dX2_loudestAgainst_52 rfl rfl (by decide) rfl ?_
            have e1 := Option.some.inj hF
            subst e1
            refine x_sub [(0, .ref a0), (1, .int a1), (2, .int a2), (3, .int y4), (4, .int y4)] [1, 2, 3, 0, 4] rfl ?_
            exact hJ
          · refine x_icmp_eq 50 39 dX2_loudestAgainst_36 (by decide) rfl (fun q => absurd q hc) (fun _ => ?_)
            refine x_aload_n 40 0 dX2_loudestAgainst_39 rfl rfl ?_
            refine x_iload 42 4 dX2_loudestAgainst_40 rfl rfl ?_
            refine x_iload_n 43 3 dX2_loudestAgainst_42 rfl rfl ?_
            refine x_iload_n 44 2 dX2_loudestAgainst_43 rfl rfl ?_
            obtain ⟨v9, h8, hF⟩ := b1_inv hF
            obtain ⟨fs, hb⟩ : ∃ fs : List Value, True ∧ σ a0 = some (.inr (2, fs)) := kX2_isLouder h8
            refine x_callV (As := [.int y4, .int y3, .int a2]) (rest := []) 47 0 0 (mX2_isLouder hst a0 y4 y3 a2 σ n v9 h8) qyX2_isLouder wd_770 wd_772 wd_13 hb.2 rfl rfl rfl (by decide) (Nat.le_of_ble_eq_true rfl) (by decide) dX2_loudestAgainst_44 rfl rfl rfl rfl ?_
            rcases ite_inv hF with ⟨hc, hF⟩ | ⟨hc, hF⟩
            · refine x_if_eq 53 50 dX2_loudestAgainst_47 (by decide) rfl (fun _ => ?_) (fun q => absurd hc q)
              have e1 := Option.some.inj hF
              subst e1
              exact hJ
            · refine x_if_eq 53 50 dX2_loudestAgainst_47 (by decide) rfl (fun q => absurd q hc) (fun _ => ?_)
              refine x_iload 52 4 dX2_loudestAgainst_50 rfl rfl ?_
              refine x_istore_n 53 3 [(3, .int y4), (0, .ref a0), (1, .int a1), (2, .int a2), (4, .int y4)] dX2_loudestAgainst_52 rfl rfl (by decide) rfl ?_
              have e1 := Option.some.inj hF
              subst e1
              refine x_sub [(0, .ref a0), (1, .int a1), (2, .int a2), (3, .int y4), (4, .int y4)] [1, 2, 3, 0, 4] rfl ?_
              exact hJ
        · refine x_if_ne 53 34 dX2_loudestAgainst_31 (by decide) rfl (fun _ => ?_) (fun q => absurd q hc)
          have e1 := Option.some.inj hF
          subst e1
          exact hJ
theorem kX2_loudestAgainst {b : Nat} {p0 : Int32} {p1 : Int32} {σ : qH} {o : Int32} (h : FX2_loudestAgainst b p0 p1 σ = some o) : ∃ fs : List Value, True ∧ σ b = some (.inr (2, fs)) := by
  unfold FX2_loudestAgainst at h
  obtain ⟨_, h1, _⟩ := b1_inv h
  obtain ⟨fs, h2⟩ := gC_inv h1
  exact ⟨fs, trivial, h2⟩
set_option maxHeartbeats 4000000 in
set_option maxRecDepth 100000 in
theorem mX2_loudestAgainst {l : Launch} {G : qG} (hst : l.stackTraces = false) (b : Nat) (p0 : Int32) (p1 : Int32) (σ : qH) (n : Option Nat) (ro : Int32) (hF : FX2_loudestAgainst b p0 p1 σ = some ro) : qM l G yX2_loudestAgainst cX2_loudestAgainst 5 (some .int) rmX2_loudestAgainst [.ref b, .int p0, .int p1] σ n (.inl (some (.int ro), σ, n)) := by
  refine q_body (own := RX2) (nm := "loudestAgainst") (ls := [(0, .ref b), (1, .int p0), (2, .int p1)]) hst (by decide +kernel) rfl rfl (Nat.le_of_ble_eq_true rfl) rfl rfl rfl ?_
  unfold FX2_loudestAgainst at hF
  obtain ⟨_, hC, hF⟩ := b1_inv hF
  refine x_iconst 1 (-1 : Int32) dX2_loudestAgainst_0 rfl (by decide) ?_
  refine x_istore_n 2 3 [(3, .int (-1 : Int32)), (0, .ref b), (1, .int p0), (2, .int p1)] dX2_loudestAgainst_1 rfl rfl (by decide) rfl ?_
  refine x_iconst 3 (0 : Int32) dX2_loudestAgainst_2 rfl (by decide) ?_
  refine x_istore 5 4 [(4, .int (0 : Int32)), (3, .int (-1 : Int32)), (0, .ref b), (1, .int p0), (2, .int p1)] dX2_loudestAgainst_3 rfl (by decide) rfl ?_
  obtain ⟨x11, h12, hF⟩ := b1_inv hF
  have hJ : qX l G RX2 "loudestAgainst" cX2_loudestAgainst 5 (some .int) [] rmX2_loudestAgainst 0 0 (.inl (some (.int ro), σ, n)) 0 0 σ n 59 [(3, .int x11)] [] := by
    refine x_iload_n 60 0 dX2_loudestAgainst_59 rfl rfl ?_
    cases hF
    exact x_iret rfl rfl (by decide) (by decide) dX2_loudestAgainst_60
  refine x_sub [(0, .ref b), (1, .int p0), (2, .int p1), (3, .int (-1 : Int32)), (4, .int (0 : Int32))] [2, 3, 4, 1, 0] rfl ?_
  exact mX2_loudestAgainst_L5 hst b p0 p1 σ n _ qfuel (-1 : Int32) (0 : Int32) x11 h12 hJ
def rmX2_tellsHeight : Room := { frames := 2, cells := 0, slots := 0, locals := 44 }
theorem qyX2_tellsHeight : qY yX2_tellsHeight cX2_tellsHeight 5 (some .boolean) 3 := ⟨wd_796, wd_18, by decide +kernel, by decide +kernel, by decide +kernel⟩
set_option maxHeartbeats 4000000 in
set_option maxRecDepth 100000 in
theorem mX2_tellsHeight_L3 {l : Launch} {G : qG} (hst : l.stackTraces = false) (a0 : Nat) (a1 : Int32) (a2 : Int32) (a3 : Int32) (σ : qH) (n : Option Nat) (rf : Int32 → qR) (hrf : ∀ v : Int32, rf v = .inl (some (.int v), σ, n)) : ∀ (q : Nat) (y4 : Int32) (o : Int32), FX2_tellsHeight_L3 a0 a1 a2 a3 σ q y4 = some o → qX l G RX2 "tellsHeight" cX2_tellsHeight 5 (some .boolean) [] rmX2_tellsHeight 0 0 (rf o) 0 0 σ n 3 [(0, .ref a0), (1, .int a1), (2, .int a2), (3, .int a3), (4, .int y4)] [] := by
  intro q
  induction q with
  | zero => intro y4 o hF; rw [FX2_tellsHeight_L3] at hF; cases hF
  | succ q ih =>
    intro y4 o hF
    rw [FX2_tellsHeight_L3] at hF
    refine x_iload 5 4 dX2_tellsHeight_3 rfl rfl ?_
    refine x_aload_n 6 0 dX2_tellsHeight_5 rfl rfl ?_
    obtain ⟨v1, h2, hF⟩ := b1_inv hF
    refine x_getI 9 6 inX2 rfl (by decide) wd_60 h2 dX2_tellsHeight_6 rfl ?_
    rcases ite_inv hF with ⟨hc, hF⟩ | ⟨hc, hF⟩
    · refine x_icmp_ge 51 12 dX2_tellsHeight_9 (by decide) rfl (fun _ => ?_) (fun q => absurd hc q)
      refine x_iconst 52 (0 : Int32) dX2_tellsHeight_51 rfl (by decide) ?_
      cases hF
      exact x_zret rfl rfl (hrf _) (by decide) (by decide) dX2_tellsHeight_52
    · refine x_icmp_ge 51 12 dX2_tellsHeight_9 (by decide) rfl (fun q => absurd q hc) (fun _ => ?_)
      refine x_aload_n 13 0 dX2_tellsHeight_12 rfl rfl ?_
      refine x_iload 15 4 dX2_tellsHeight_13 rfl rfl ?_
      refine x_iload_n 16 2 dX2_tellsHeight_15 rfl rfl ?_
      obtain ⟨v4, h3, hF⟩ := b1_inv hF
      obtain ⟨fs, hb⟩ : ∃ fs : List Value, True ∧ σ a0 = some (.inr (2, fs)) := kX2_isOf h3
      refine x_callV (As := [.int y4, .int a2]) (rest := []) 19 0 0 (mX2_isOf hst a0 y4 a2 σ n v4 h3) qyX2_isOf wd_460 wd_461 wd_462 hb.2 rfl rfl rfl (by decide) (Nat.le_of_ble_eq_true rfl) (by decide) dX2_tellsHeight_16 rfl rfl rfl rfl ?_
      rcases ite_inv hF with ⟨hc, hF⟩ | ⟨hc, hF⟩
      · refine x_if_eq 45 22 dX2_tellsHeight_19 (by decide) rfl (fun _ => ?_) (fun q => absurd hc q)
        refine x_iinc 48 4 4 (y4 + (1 : Int32)) [(4, .int (y4 + (1 : Int32))), (0, .ref a0), (1, .int a1), (2, .int a2), (3, .int a3)] dX2_tellsHeight_45 rfl rfl rfl (by decide) rfl ?_
        refine x_goto 3 dX2_tellsHeight_48 (by decide) ?_
        refine x_sub [(0, .ref a0), (1, .int a1), (2, .int a2), (3, .int a3), (4, .int (y4 + (1 : Int32)))] [1, 2, 3, 4, 0] rfl ?_
        exact ih _ _ hF
      · refine x_if_eq 45 22 dX2_tellsHeight_19 (by decide) rfl (fun q => absurd q hc) (fun _ => ?_)
        refine x_aload_n 23 0 dX2_tellsHeight_22 rfl rfl ?_
        refine x_iload 25 4 dX2_tellsHeight_23 rfl rfl ?_
        refine x_iconst 26 (1 : Int32) dX2_tellsHeight_25 rfl (by decide) ?_
        obtain ⟨v6, h5, hF⟩ := b1_inv hF
        obtain ⟨fs, hb⟩ : ∃ fs : List Value, True ∧ σ a0 = some (.inr (2, fs)) := kX2_number h5
        refine x_callV (As := [.int y4, .int (1 : Int32)]) (rest := []) 29 0 0 (mX2_number hst a0 y4 (1 : Int32) σ n v6 h5) qyX2_number wd_436 wd_437 wd_438 hb.2 rfl rfl rfl (by decide) (Nat.le_of_ble_eq_true rfl) (by decide) dX2_tellsHeight_26 rfl rfl rfl rfl ?_
        refine x_iload_n 30 1 dX2_tellsHeight_29 rfl rfl ?_
        rcases ite_inv hF with ⟨hc, hF⟩ | ⟨hc, hF⟩
        · refine x_icmp_ne 45 33 dX2_tellsHeight_30 (by decide) rfl (fun q => absurd hc q) (fun _ => ?_)
          refine x_aload_n 34 0 dX2_tellsHeight_33 rfl rfl ?_
          refine x_iload 36 4 dX2_tellsHeight_34 rfl rfl ?_
          refine x_iload_n 37 3 dX2_tellsHeight_36 rfl rfl ?_
          obtain ⟨v8, h7, hF⟩ := b1_inv hF
          obtain ⟨fs, hb⟩ : ∃ fs : List Value, True ∧ σ a0 = some (.inr (2, fs)) := kX2_tells h7
          refine x_callV (As := [.int y4, .int a3]) (rest := []) 40 0 0 (mX2_tells hst a0 y4 a3 σ n v8 h7) qyX2_tells wd_464 wd_465 wd_466 hb.2 rfl rfl rfl (by decide) (Nat.le_of_ble_eq_true rfl) (by decide) dX2_tellsHeight_37 rfl rfl rfl rfl ?_
          rcases ite_inv hF with ⟨hc, hF⟩ | ⟨hc, hF⟩
          · refine x_if_eq 45 43 dX2_tellsHeight_40 (by decide) rfl (fun _ => ?_) (fun q => absurd hc q)
            refine x_iinc 48 4 4 (y4 + (1 : Int32)) [(4, .int (y4 + (1 : Int32))), (0, .ref a0), (1, .int a1), (2, .int a2), (3, .int a3)] dX2_tellsHeight_45 rfl rfl rfl (by decide) rfl ?_
            refine x_goto 3 dX2_tellsHeight_48 (by decide) ?_
            refine x_sub [(0, .ref a0), (1, .int a1), (2, .int a2), (3, .int a3), (4, .int (y4 + (1 : Int32)))] [1, 2, 3, 4, 0] rfl ?_
            exact ih _ _ hF
          · refine x_if_eq 45 43 dX2_tellsHeight_40 (by decide) rfl (fun q => absurd q hc) (fun _ => ?_)
            refine x_iconst 44 (1 : Int32) dX2_tellsHeight_43 rfl (by decide) ?_
            cases hF
            exact x_zret rfl rfl (hrf _) (by decide) (by decide) dX2_tellsHeight_44
        · refine x_icmp_ne 45 33 dX2_tellsHeight_30 (by decide) rfl (fun _ => ?_) (fun q => absurd q hc)
          refine x_iinc 48 4 4 (y4 + (1 : Int32)) [(4, .int (y4 + (1 : Int32))), (0, .ref a0), (1, .int a1), (2, .int a2), (3, .int a3)] dX2_tellsHeight_45 rfl rfl rfl (by decide) rfl ?_
          refine x_goto 3 dX2_tellsHeight_48 (by decide) ?_
          refine x_sub [(0, .ref a0), (1, .int a1), (2, .int a2), (3, .int a3), (4, .int (y4 + (1 : Int32)))] [1, 2, 3, 4, 0] rfl ?_
          exact ih _ _ hF
theorem kX2_tellsHeight {b : Nat} {p0 : Int32} {p1 : Int32} {p2 : Int32} {σ : qH} {o : Int32} (h : FX2_tellsHeight b p0 p1 p2 σ = some o) : ∃ fs : List Value, True ∧ σ b = some (.inr (2, fs)) := by
  unfold FX2_tellsHeight at h
  obtain ⟨_, h1, _⟩ := b1_inv h
  obtain ⟨fs, h2⟩ := gC_inv h1
  exact ⟨fs, trivial, h2⟩
set_option maxHeartbeats 4000000 in
set_option maxRecDepth 100000 in
theorem mX2_tellsHeight {l : Launch} {G : qG} (hst : l.stackTraces = false) (b : Nat) (p0 : Int32) (p1 : Int32) (p2 : Int32) (σ : qH) (n : Option Nat) (ro : Int32) (hF : FX2_tellsHeight b p0 p1 p2 σ = some ro) : qM l G yX2_tellsHeight cX2_tellsHeight 5 (some .boolean) rmX2_tellsHeight [.ref b, .int p0, .int p1, .int p2] σ n (.inl (some (.int ro), σ, n)) := by
  refine q_body (own := RX2) (nm := "tellsHeight") (ls := [(0, .ref b), (1, .int p0), (2, .int p1), (3, .int p2)]) hst (by decide +kernel) rfl rfl (Nat.le_of_ble_eq_true rfl) rfl rfl rfl ?_
  unfold FX2_tellsHeight at hF
  obtain ⟨_, hC, hF⟩ := b1_inv hF
  refine x_iconst 1 (0 : Int32) dX2_tellsHeight_0 rfl (by decide) ?_
  refine x_istore 3 4 [(4, .int (0 : Int32)), (0, .ref b), (1, .int p0), (2, .int p1), (3, .int p2)] dX2_tellsHeight_1 rfl (by decide) rfl ?_
  refine x_sub [(0, .ref b), (1, .int p0), (2, .int p1), (3, .int p2), (4, .int (0 : Int32))] [1, 2, 3, 4, 0] rfl ?_
  exact mX2_tellsHeight_L3 hst b p0 p1 p2 σ n (fun v : Int32 => .inl (some (.int v), σ, n)) (fun _ => rfl) qfuel (0 : Int32) _ hF
def rmX2_isTruer : Room := { frames := 0, cells := 0, slots := 0, locals := 0 }
theorem qyX2_isTruer : qY yX2_isTruer cX2_isTruer 6 (some .boolean) 2 := ⟨wd_907, wd_18, by decide +kernel, by decide +kernel, by decide +kernel⟩
theorem kX2_isTruer {b : Nat} {p0 : Int32} {p1 : Int32} {σ : qH} {o : Int32} (h : FX2_isTruer b p0 p1 σ = some o) : ∃ fs : List Value, True ∧ σ b = some (.inr (2, fs)) := by
  unfold FX2_isTruer at h
  obtain ⟨_, h1, _⟩ := b1_inv h
  obtain ⟨fs, h2⟩ := gC_inv h1
  exact ⟨fs, trivial, h2⟩
set_option maxHeartbeats 4000000 in
set_option maxRecDepth 100000 in
theorem mX2_isTruer {l : Launch} {G : qG} (hst : l.stackTraces = false) (b : Nat) (p0 : Int32) (p1 : Int32) (σ : qH) (n : Option Nat) (ro : Int32) (hF : FX2_isTruer b p0 p1 σ = some ro) : qM l G yX2_isTruer cX2_isTruer 6 (some .boolean) rmX2_isTruer [.ref b, .int p0, .int p1] σ n (.inl (some (.int ro), σ, n)) := by
  refine q_body (own := RX2) (nm := "isTruer") (ls := [(0, .ref b), (1, .int p0), (2, .int p1)]) hst (by decide +kernel) rfl rfl (Nat.le_of_ble_eq_true rfl) rfl rfl rfl ?_
  unfold FX2_isTruer at hF
  obtain ⟨_, hC, hF⟩ := b1_inv hF
  refine x_aload_n 1 0 dX2_isTruer_0 rfl rfl ?_
  obtain ⟨r1, h2, hF⟩ := b1_inv hF
  refine x_getR 4 2 inX2 rfl (by decide) wd_56 h2 dX2_isTruer_1 rfl ?_
  refine x_iload_n 5 1 dX2_isTruer_4 rfl rfl ?_
  obtain ⟨v3, h4, hF⟩ := b1_inv hF
  refine x_aI 6 h4 dX2_isTruer_5 rfl ?_
  refine x_aload_n 7 0 dX2_isTruer_6 rfl rfl ?_
  obtain ⟨r5, h6, hF⟩ := b1_inv hF
  refine x_getR 10 3 inX2 rfl (by decide) wd_57 h6 dX2_isTruer_7 rfl ?_
  refine x_iload_n 11 1 dX2_isTruer_10 rfl rfl ?_
  obtain ⟨v7, h8, hF⟩ := b1_inv hF
  refine x_aI 12 h8 dX2_isTruer_11 rfl ?_
  refine x_iadd 13 dX2_isTruer_12 rfl ?_
  refine x_istore_n 14 3 [(3, .int (v3 + v7)), (0, .ref b), (1, .int p0), (2, .int p1)] dX2_isTruer_13 rfl rfl (by decide) rfl ?_
  refine x_aload_n 15 1 dX2_isTruer_14 rfl rfl ?_
  obtain ⟨r9, h10, hF⟩ := b1_inv hF
  refine x_getR 18 2 inX2 rfl (by decide) wd_56 h10 dX2_isTruer_15 rfl ?_
  refine x_iload_n 19 3 dX2_isTruer_18 rfl rfl ?_
  obtain ⟨v11, h12, hF⟩ := b1_inv hF
  refine x_aI 20 h12 dX2_isTruer_19 rfl ?_
  refine x_aload_n 21 1 dX2_isTruer_20 rfl rfl ?_
  obtain ⟨r13, h14, hF⟩ := b1_inv hF
  refine x_getR 24 3 inX2 rfl (by decide) wd_57 h14 dX2_isTruer_21 rfl ?_
  refine x_iload_n 25 3 dX2_isTruer_24 rfl rfl ?_
  obtain ⟨v15, h16, hF⟩ := b1_inv hF
  refine x_aI 26 h16 dX2_isTruer_25 rfl ?_
  refine x_iadd 27 dX2_isTruer_26 rfl ?_
  refine x_istore 29 4 [(4, .int (v11 + v15)), (3, .int (v3 + v7)), (0, .ref b), (1, .int p0), (2, .int p1)] dX2_isTruer_27 rfl (by decide) rfl ?_
  refine x_aload_n 30 2 dX2_isTruer_29 rfl rfl ?_
  obtain ⟨r17, h18, hF⟩ := b1_inv hF
  refine x_getR 33 2 inX2 rfl (by decide) wd_56 h18 dX2_isTruer_30 rfl ?_
  refine x_iload_n 34 3 dX2_isTruer_33 rfl rfl ?_
  obtain ⟨v19, h20, hF⟩ := b1_inv hF
  refine x_aI 35 h20 dX2_isTruer_34 rfl ?_
  refine x_iload 37 0 dX2_isTruer_35 rfl rfl ?_
  refine x_imul 38 dX2_isTruer_37 rfl ?_
  refine x_aload_n 39 2 dX2_isTruer_38 rfl rfl ?_
  obtain ⟨r21, h22, hF⟩ := b1_inv hF
  refine x_getR 42 2 inX2 rfl (by decide) wd_56 h22 dX2_isTruer_39 rfl ?_
  refine x_iload_n 43 4 dX2_isTruer_42 rfl rfl ?_
  obtain ⟨v23, h24, hF⟩ := b1_inv hF
  refine x_aI 44 h24 dX2_isTruer_43 rfl ?_
  refine x_iload_n 45 1 dX2_isTruer_44 rfl rfl ?_
  refine x_imul 46 dX2_isTruer_45 rfl ?_
  refine x_isub 47 dX2_isTruer_46 rfl ?_
  refine x_istore 49 5 [(5, .int ((v19 * (v11 + v15)) - (v23 * (v3 + v7)))), (4, .int (v11 + v15)), (3, .int (v3 + v7)), (0, .ref b), (1, .int p0), (2, .int p1)] dX2_isTruer_47 rfl (by decide) rfl ?_
  refine x_iload 51 0 dX2_isTruer_49 rfl rfl ?_
  obtain ⟨x25, h26, hF⟩ := b1_inv hF
  have hJ : qX l G RX2 "isTruer" cX2_isTruer 6 (some .boolean) [] rmX2_isTruer 0 0 (.inl (some (.int ro), σ, n)) 0 0 σ n 78 [] [.int x25] := by
    obtain ⟨hz, hF⟩ := ite_none hF
    cases hF
    exact x_zret rfl (by rcases hz with h | h <;> rw [h] <;> rfl) rfl (by decide) (by decide) dX2_isTruer_78
  have hF := h26
  rcases ite_inv hF with ⟨hc, hF⟩ | ⟨hc, hF⟩
  · refine x_if_eq 67 54 dX2_isTruer_51 (by decide) rfl (fun _ => ?_) (fun q => absurd hc q)
    refine x_iload_n 68 2 dX2_isTruer_67 rfl rfl ?_
    refine x_iload 70 1 dX2_isTruer_68 rfl rfl ?_
    rcases ite_inv hF with ⟨hc, hF⟩ | ⟨hc, hF⟩
    · refine x_icmp_le 77 73 dX2_isTruer_70 (by decide) rfl (fun _ => ?_) (fun q => absurd hc q)
      refine x_iconst 78 (0 : Int32) dX2_isTruer_77 rfl (by decide) ?_
      have e1 := Option.some.inj hF
      subst e1
      refine x_sub [] [] rfl ?_
      exact hJ
    · refine x_icmp_le 77 73 dX2_isTruer_70 (by decide) rfl (fun q => absurd q hc) (fun _ => ?_)
      refine x_iconst 74 (1 : Int32) dX2_isTruer_73 rfl (by decide) ?_
      refine x_goto 78 dX2_isTruer_74 (by decide) ?_
      have e1 := Option.some.inj hF
      subst e1
      refine x_sub [] [] rfl ?_
      exact hJ
  · refine x_if_eq 67 54 dX2_isTruer_51 (by decide) rfl (fun q => absurd q hc) (fun _ => ?_)
    refine x_iload 56 0 dX2_isTruer_54 rfl rfl ?_
    rcases ite_inv hF with ⟨hc, hF⟩ | ⟨hc, hF⟩
    · refine x_if_le 63 59 dX2_isTruer_56 (by decide) rfl (fun _ => ?_) (fun q => absurd hc q)
      refine x_iconst 64 (0 : Int32) dX2_isTruer_63 rfl (by decide) ?_
      refine x_goto 78 dX2_isTruer_64 (by decide) ?_
      have e1 := Option.some.inj hF
      subst e1
      refine x_sub [] [] rfl ?_
      exact hJ
    · refine x_if_le 63 59 dX2_isTruer_56 (by decide) rfl (fun q => absurd q hc) (fun _ => ?_)
      refine x_iconst 60 (1 : Int32) dX2_isTruer_59 rfl (by decide) ?_
      refine x_goto 78 dX2_isTruer_60 (by decide) ?_
      have e1 := Option.some.inj hF
      subst e1
      refine x_sub [] [] rfl ?_
      exact hJ
def rmX2_tellerMostlyRight : Room := { frames := 1, cells := 0, slots := 0, locals := 25 }
theorem qyX2_tellerMostlyRight : qY yX2_tellerMostlyRight cX2_tellerMostlyRight 3 (some .int) 0 := ⟨wd_903, wd_18, by decide +kernel, by decide +kernel, by decide +kernel⟩
set_option maxHeartbeats 4000000 in
set_option maxRecDepth 100000 in
theorem mX2_tellerMostlyRight_L4 {l : Launch} {G : qG} (hst : l.stackTraces = false) (a0 : Nat) (σ : qH) (n : Option Nat) (r : qR) : ∀ (q : Nat) (y1 : Int32) (y2 : Int32) (o1 : Int32), FX2_tellerMostlyRight_L4 a0 σ q y1 y2 = some o1 → qX l G RX2 "tellerMostlyRight" cX2_tellerMostlyRight 3 (some .int) [] rmX2_tellerMostlyRight 0 0 r 0 0 σ n 48 [(1, .int o1)] [] → qX l G RX2 "tellerMostlyRight" cX2_tellerMostlyRight 3 (some .int) [] rmX2_tellerMostlyRight 0 0 r 0 0 σ n 4 [(0, .ref a0), (1, .int y1), (2, .int y2)] [] := by
  intro q
  induction q with
  | zero => intro y1 y2 o1 hF; rw [FX2_tellerMostlyRight_L4] at hF; cases hF
  | succ q ih =>
    intro y1 y2 o1 hF hJ
    rw [FX2_tellerMostlyRight_L4] at hF
    refine x_iload_n 5 2 dX2_tellerMostlyRight_4 rfl rfl ?_
    refine x_bipush 7 (6 : Int32) dX2_tellerMostlyRight_5 rfl (by decide) ?_
    rcases ite_inv hF with ⟨hc, hF⟩ | ⟨hc, hF⟩
    · refine x_icmp_ge 48 10 dX2_tellerMostlyRight_7 (by decide) rfl (fun _ => ?_) (fun q => absurd hc q)
      have e1 := Option.some.inj hF
      subst e1
      refine x_sub [(1, .int y1)] [1] rfl ?_
      exact hJ
    · refine x_icmp_ge 48 10 dX2_tellerMostlyRight_7 (by decide) rfl (fun q => absurd q hc) (fun _ => ?_)
      refine x_aload_n 11 0 dX2_tellerMostlyRight_10 rfl rfl ?_
      obtain ⟨r1, h2, hF⟩ := b1_inv hF
      refine x_getR 14 2 inX2 rfl (by decide) wd_56 h2 dX2_tellerMostlyRight_11 rfl ?_
      refine x_iload_n 15 2 dX2_tellerMostlyRight_14 rfl rfl ?_
      obtain ⟨v3, h4, hF⟩ := b1_inv hF
      refine x_aI 16 h4 dX2_tellerMostlyRight_15 rfl ?_
      refine x_aload_n 17 0 dX2_tellerMostlyRight_16 rfl rfl ?_
      obtain ⟨r5, h6, hF⟩ := b1_inv hF
      refine x_getR 20 3 inX2 rfl (by decide) wd_57 h6 dX2_tellerMostlyRight_17 rfl ?_
      refine x_iload_n 21 2 dX2_tellerMostlyRight_20 rfl rfl ?_
      obtain ⟨v7, h8, hF⟩ := b1_inv hF
      refine x_aI 22 h8 dX2_tellerMostlyRight_21 rfl ?_
      refine x_iadd 23 dX2_tellerMostlyRight_22 rfl ?_
      obtain ⟨x9, h12, hF⟩ := b1_inv hF
      have hJ : qX l G RX2 "tellerMostlyRight" cX2_tellerMostlyRight 3 (some .int) [] rmX2_tellerMostlyRight 0 0 r 0 0 σ n 42 [(0, .ref a0), (1, .int x9), (2, .int y2)] [] := by
        refine x_iinc 45 2 2 (y2 + (1 : Int32)) [(2, .int (y2 + (1 : Int32))), (0, .ref a0), (1, .int x9)] dX2_tellerMostlyRight_42 rfl rfl rfl (by decide) rfl ?_
        refine x_goto 4 dX2_tellerMostlyRight_45 (by decide) ?_
        refine x_sub [(0, .ref a0), (1, .int x9), (2, .int (y2 + (1 : Int32)))] [1, 2, 0] rfl ?_
        exact ih _ _ _ hF hJ
      have hF := h12
      rcases ite_inv hF with ⟨hc, hF⟩ | ⟨hc, hF⟩
      · refine x_if_le 42 26 dX2_tellerMostlyRight_23 (by decide) rfl (fun _ => ?_) (fun q => absurd hc q)
        have e1 := Option.some.inj hF
        subst e1
        exact hJ
      · refine x_if_le 42 26 dX2_tellerMostlyRight_23 (by decide) rfl (fun q => absurd q hc) (fun _ => ?_)
        refine x_iload_n 27 1 dX2_tellerMostlyRight_26 rfl rfl ?_
        refine x_iconst 28 (-1 : Int32) dX2_tellerMostlyRight_27 rfl (by decide) ?_
        rcases ite_inv hF with ⟨hc, hF⟩ | ⟨hc, hF⟩
        · refine x_icmp_eq 40 31 dX2_tellerMostlyRight_28 (by decide) rfl (fun _ => ?_) (fun q => absurd hc q)
          refine x_iload_n 41 2 dX2_tellerMostlyRight_40 rfl rfl ?_
          refine x_istore_n 42 1 [(1, .int y2), (0, .ref a0), (2, .int y2)] dX2_tellerMostlyRight_41 rfl rfl (by decide) rfl ?_
          have e1 := Option.some.inj hF
          subst e1
          refine x_sub [(0, .ref a0), (1, .int y2), (2, .int y2)] [1, 0, 2] rfl ?_
          exact hJ
        · refine x_icmp_eq 40 31 dX2_tellerMostlyRight_28 (by decide) rfl (fun q => absurd q hc) (fun _ => ?_)
          refine x_aload_n 32 0 dX2_tellerMostlyRight_31 rfl rfl ?_
          refine x_iload_n 33 2 dX2_tellerMostlyRight_32 rfl rfl ?_
          refine x_iload_n 34 1 dX2_tellerMostlyRight_33 rfl rfl ?_
          obtain ⟨v11, h10, hF⟩ := b1_inv hF
          obtain ⟨fs, hb⟩ : ∃ fs : List Value, True ∧ σ a0 = some (.inr (2, fs)) := kX2_isTruer h10
          refine x_callV (As := [.int y2, .int y1]) (rest := []) 37 0 0 (mX2_isTruer hst a0 y2 y1 σ n v11 h10) qyX2_isTruer wd_904 wd_906 wd_15 hb.2 rfl rfl rfl (by decide) (Nat.le_of_ble_eq_true rfl) (by decide) dX2_tellerMostlyRight_34 rfl rfl rfl rfl ?_
          rcases ite_inv hF with ⟨hc, hF⟩ | ⟨hc, hF⟩
          · refine x_if_eq 42 40 dX2_tellerMostlyRight_37 (by decide) rfl (fun _ => ?_) (fun q => absurd hc q)
            have e1 := Option.some.inj hF
            subst e1
            exact hJ
          · refine x_if_eq 42 40 dX2_tellerMostlyRight_37 (by decide) rfl (fun q => absurd q hc) (fun _ => ?_)
            refine x_iload_n 41 2 dX2_tellerMostlyRight_40 rfl rfl ?_
            refine x_istore_n 42 1 [(1, .int y2), (0, .ref a0), (2, .int y2)] dX2_tellerMostlyRight_41 rfl rfl (by decide) rfl ?_
            have e1 := Option.some.inj hF
            subst e1
            refine x_sub [(0, .ref a0), (1, .int y2), (2, .int y2)] [1, 0, 2] rfl ?_
            exact hJ
theorem kX2_tellerMostlyRight {b : Nat} {σ : qH} {o : Int32} (h : FX2_tellerMostlyRight b σ = some o) : ∃ fs : List Value, True ∧ σ b = some (.inr (2, fs)) := by
  unfold FX2_tellerMostlyRight at h
  obtain ⟨_, h1, _⟩ := b1_inv h
  obtain ⟨fs, h2⟩ := gC_inv h1
  exact ⟨fs, trivial, h2⟩
set_option maxHeartbeats 4000000 in
set_option maxRecDepth 100000 in
theorem mX2_tellerMostlyRight {l : Launch} {G : qG} (hst : l.stackTraces = false) (b : Nat) (σ : qH) (n : Option Nat) (ro : Int32) (hF : FX2_tellerMostlyRight b σ = some ro) : qM l G yX2_tellerMostlyRight cX2_tellerMostlyRight 3 (some .int) rmX2_tellerMostlyRight [.ref b] σ n (.inl (some (.int ro), σ, n)) := by
  refine q_body (own := RX2) (nm := "tellerMostlyRight") (ls := [(0, .ref b)]) hst (by decide +kernel) rfl rfl (Nat.le_of_ble_eq_true rfl) rfl rfl rfl ?_
  unfold FX2_tellerMostlyRight at hF
  obtain ⟨_, hC, hF⟩ := b1_inv hF
  refine x_iconst 1 (-1 : Int32) dX2_tellerMostlyRight_0 rfl (by decide) ?_
  refine x_istore_n 2 1 [(1, .int (-1 : Int32)), (0, .ref b)] dX2_tellerMostlyRight_1 rfl rfl (by decide) rfl ?_
  refine x_iconst 3 (0 : Int32) dX2_tellerMostlyRight_2 rfl (by decide) ?_
  refine x_istore_n 4 2 [(2, .int (0 : Int32)), (1, .int (-1 : Int32)), (0, .ref b)] dX2_tellerMostlyRight_3 rfl rfl (by decide) rfl ?_
  obtain ⟨x13, h14, hF⟩ := b1_inv hF
  have hJ : qX l G RX2 "tellerMostlyRight" cX2_tellerMostlyRight 3 (some .int) [] rmX2_tellerMostlyRight 0 0 (.inl (some (.int ro), σ, n)) 0 0 σ n 48 [(1, .int x13)] [] := by
    refine x_iload_n 49 0 dX2_tellerMostlyRight_48 rfl rfl ?_
    cases hF
    exact x_iret rfl rfl (by decide) (by decide) dX2_tellerMostlyRight_49
  refine x_sub [(0, .ref b), (1, .int (-1 : Int32)), (2, .int (0 : Int32))] [2, 1, 0] rfl ?_
  exact mX2_tellerMostlyRight_L4 hst b σ n _ qfuel (-1 : Int32) (0 : Int32) x13 h14 hJ
