def rmX2_init : Room := { frames := 2, cells := 6, slots := 167, locals := 43 }
theorem qyX2_init : qY yX2_init cX2_init 1 (none) 0 := ⟨wd_45, wd_18, by decide +kernel, by decide +kernel, by decide +kernel⟩
set_option maxHeartbeats 4000000 in
set_option maxRecDepth 100000 in
theorem mX2_init {l : Launch} {G : qG} (hst : l.stackTraces = false) (b : Nat) (σ : qH) (n0 : Nat) (so : qH) (hF : FX2_init b σ n0 = some so) : qM l G yX2_init cX2_init 1 (none) rmX2_init [.ref b] σ (some n0) (.inl (none, so, some (n0 + 6))) := by
  refine q_body (own := RX2) (nm := "<init>") (ls := [(0, .ref b)]) hst (by decide +kernel) rfl rfl (Nat.le_of_ble_eq_true rfl) rfl rfl rfl ?_
  unfold FX2_init at hF
  refine x_aload_n 1 0 dX2_init_0 rfl rfl ?_
  refine x_objInit 4 wd_46 wd_39 wd_objcode (by decide) (Nat.le_of_ble_eq_true rfl) dX2_init_1 rfl ?_
  refine x_aload_n 5 0 dX2_init_4 rfl rfl ?_
  refine x_sipush 8 (144 : Int32) dX2_init_5 rfl (by decide) ?_
  obtain ⟨s1, h2, hF⟩ := b1_inv hF
  refine x_newIE 10 n0 (n0 + 1) 1 144 wd_88 (by decide) (by decide) (by decide) (by decide) (by decide) dX2_init_8 rfl rfl rfl rfl rfl h2 ?_
  obtain ⟨s3, h4, hF⟩ := b1_inv hF
  refine x_putF 13 0 inX2 tyX2 tyX2_ok nmX2 rfl (by decide) wd_54 rfl rfl rfl (tX2_0) rfl rfl h4 dX2_init_10 rfl ?_
  refine x_aload_n 14 0 dX2_init_13 rfl rfl ?_
  refine x_bipush 16 (6 : Int32) dX2_init_14 rfl (by decide) ?_
  obtain ⟨s5, h6, hF⟩ := b1_inv hF
  refine x_newIE 18 (n0 + 1) (n0 + 2) 2 150 wd_88 (by decide) (by decide) (by decide) (by decide) (by decide) dX2_init_16 rfl rfl rfl rfl rfl h6 ?_
  obtain ⟨s7, h8, hF⟩ := b1_inv hF
  refine x_putF 21 1 inX2 tyX2 tyX2_ok nmX2 rfl (by decide) wd_55 rfl rfl rfl (tX2_1) rfl rfl h8 dX2_init_18 rfl ?_
  refine x_aload_n 22 0 dX2_init_21 rfl rfl ?_
  refine x_bipush 24 (6 : Int32) dX2_init_22 rfl (by decide) ?_
  obtain ⟨s9, h10, hF⟩ := b1_inv hF
  refine x_newIE 26 (n0 + 2) (n0 + 3) 3 156 wd_88 (by decide) (by decide) (by decide) (by decide) (by decide) dX2_init_24 rfl rfl rfl rfl rfl h10 ?_
  obtain ⟨s11, h12, hF⟩ := b1_inv hF
  refine x_putF 29 2 inX2 tyX2 tyX2_ok nmX2 rfl (by decide) wd_56 rfl rfl rfl (tX2_2) rfl rfl h12 dX2_init_26 rfl ?_
  refine x_aload_n 30 0 dX2_init_29 rfl rfl ?_
  refine x_bipush 32 (6 : Int32) dX2_init_30 rfl (by decide) ?_
  obtain ⟨s13, h14, hF⟩ := b1_inv hF
  refine x_newIE 34 (n0 + 3) (n0 + 4) 4 162 wd_88 (by decide) (by decide) (by decide) (by decide) (by decide) dX2_init_32 rfl rfl rfl rfl rfl h14 ?_
  obtain ⟨s15, h16, hF⟩ := b1_inv hF
  refine x_putF 37 3 inX2 tyX2 tyX2_ok nmX2 rfl (by decide) wd_57 rfl rfl rfl (tX2_3) rfl rfl h16 dX2_init_34 rfl ?_
  refine x_aload_n 38 0 dX2_init_37 rfl rfl ?_
  refine x_iconst 39 (3 : Int32) dX2_init_38 rfl (by decide) ?_
  obtain ⟨s17, h18, hF⟩ := b1_inv hF
  refine x_newIE 41 (n0 + 4) (n0 + 5) 5 165 wd_88 (by decide) (by decide) (by decide) (by decide) (by decide) dX2_init_39 rfl rfl rfl rfl rfl h18 ?_
  obtain ⟨s19, h20, hF⟩ := b1_inv hF
  refine x_putF 44 4 inX2 tyX2 tyX2_ok nmX2 rfl (by decide) wd_58 rfl rfl rfl (tX2_4) rfl rfl h20 dX2_init_41 rfl ?_
  refine x_aload_n 45 0 dX2_init_44 rfl rfl ?_
  refine x_iconst 46 (2 : Int32) dX2_init_45 rfl (by decide) ?_
  obtain ⟨s21, h22, hF⟩ := b1_inv hF
  refine x_newIE 48 (n0 + 5) (n0 + 6) 6 167 wd_88 (by decide) (by decide) (by decide) (by decide) (by decide) dX2_init_46 rfl rfl rfl rfl rfl h22 ?_
  obtain ⟨s23, h24, hF⟩ := b1_inv hF
  refine x_putF 51 5 inX2 tyX2 tyX2_ok nmX2 rfl (by decide) wd_59 rfl rfl rfl (tX2_5) rfl rfl h24 dX2_init_48 rfl ?_
  refine x_aload_n 52 0 dX2_init_51 rfl rfl ?_
  obtain ⟨s26, h25, hF⟩ := b1_inv hF
  obtain ⟨fs, hb⟩ : ∃ fs : List Value, True ∧ s23 b = some (.inr (2, fs)) := kX2_makeNew h25
  refine x_callV (As := []) (rest := []) 55 6 167 (mX2_makeNew hst b s23 (some (n0 + 6)) s26 h25) qyX2_makeNew wd_47 wd_48 wd_49 hb.2 rfl rfl rfl (by decide) (Nat.le_of_ble_eq_true rfl) (by decide) dX2_init_52 rfl rfl rfl rfl ?_
  cases hF
  exact x_vret rfl rfl (by decide) (by decide) dX2_init_55
def rmX0_init : Room := { frames := 1, cells := 1, slots := 1001, locals := 20 }
theorem qyX0_init : qY yX0_init cX0_init 1 (none) 0 := ⟨wd_135, wd_22, by decide +kernel, by decide +kernel, by decide +kernel⟩
set_option maxHeartbeats 4000000 in
set_option maxRecDepth 100000 in
theorem mX0_init {l : Launch} {G : qG} (hst : l.stackTraces = false) (b : Nat) (σ : qH) (n0 : Nat) (so : qH) (hF : FX0_init b σ n0 = some so) : qM l G yX0_init cX0_init 1 (none) rmX0_init [.ref b] σ (some n0) (.inl (none, so, some (n0 + 1))) := by
  refine q_body (own := RX0) (nm := "<init>") (ls := [(0, .ref b)]) hst (by decide +kernel) rfl rfl (Nat.le_of_ble_eq_true rfl) rfl rfl rfl ?_
  unfold FX0_init at hF
  refine x_aload_n 1 0 dX0_init_0 rfl rfl ?_
  refine x_objInit 4 wd_136 wd_39 wd_objcode (by decide) (Nat.le_of_ble_eq_true rfl) dX0_init_1 rfl ?_
  refine x_aload_n 5 0 dX0_init_4 rfl rfl ?_
  refine x_sipush 8 (1001 : Int32) dX0_init_5 rfl (by decide) ?_
  obtain ⟨s1, h2, hF⟩ := b1_inv hF
  refine x_newIE 10 n0 (n0 + 1) 1 1001 wd_88 (by decide) (by decide) (by decide) (by decide) (by decide) dX0_init_8 rfl rfl rfl rfl rfl h2 ?_
  obtain ⟨s3, h4, hF⟩ := b1_inv hF
  refine x_putF 13 0 inX0 tyX0 tyX0_ok nmX0 rfl (by decide) wd_137 rfl rfl rfl (tX0_0) rfl rfl h4 dX0_init_10 rfl ?_
  cases hF
  exact x_vret rfl rfl (by decide) (by decide) dX0_init_13
def rmX5_init : Room := { frames := 1, cells := 2, slots := 126, locals := 20 }
theorem qyX5_init : qY yX5_init cX5_init 1 (none) 0 := ⟨wd_113, wd_21, by decide +kernel, by decide +kernel, by decide +kernel⟩
set_option maxHeartbeats 4000000 in
set_option maxRecDepth 100000 in
theorem mX5_init {l : Launch} {G : qG} (hst : l.stackTraces = false) (b : Nat) (σ : qH) (n0 : Nat) (so : qH) (hF : FX5_init b σ n0 = some so) : qM l G yX5_init cX5_init 1 (none) rmX5_init [.ref b] σ (some n0) (.inl (none, so, some (n0 + 2))) := by
  refine q_body (own := RX5) (nm := "<init>") (ls := [(0, .ref b)]) hst (by decide +kernel) rfl rfl (Nat.le_of_ble_eq_true rfl) rfl rfl rfl ?_
  unfold FX5_init at hF
  refine x_aload_n 1 0 dX5_init_0 rfl rfl ?_
  refine x_objInit 4 wd_114 wd_39 wd_objcode (by decide) (Nat.le_of_ble_eq_true rfl) dX5_init_1 rfl ?_
  refine x_aload_n 5 0 dX5_init_4 rfl rfl ?_
  refine x_bipush 7 (120 : Int32) dX5_init_5 rfl (by decide) ?_
  obtain ⟨s1, h2, hF⟩ := b1_inv hF
  refine x_newIE 9 n0 (n0 + 1) 1 120 wd_88 (by decide) (by decide) (by decide) (by decide) (by decide) dX5_init_7 rfl rfl rfl rfl rfl h2 ?_
  obtain ⟨s3, h4, hF⟩ := b1_inv hF
  refine x_putF 12 0 inX5 tyX5 tyX5_ok nmX5 rfl (by decide) wd_115 rfl rfl rfl (tX5_0) rfl rfl h4 dX5_init_9 rfl ?_
  refine x_aload_n 13 0 dX5_init_12 rfl rfl ?_
  refine x_bipush 15 (6 : Int32) dX5_init_13 rfl (by decide) ?_
  obtain ⟨s5, h6, hF⟩ := b1_inv hF
  refine x_newIE 17 (n0 + 1) (n0 + 2) 2 126 wd_88 (by decide) (by decide) (by decide) (by decide) (by decide) dX5_init_15 rfl rfl rfl rfl rfl h6 ?_
  obtain ⟨s7, h8, hF⟩ := b1_inv hF
  refine x_putF 20 4 inX5 tyX5 tyX5_ok nmX5 rfl (by decide) wd_119 rfl rfl rfl (tX5_4) rfl rfl h8 dX5_init_17 rfl ?_
  cases hF
  exact x_vret rfl rfl (by decide) (by decide) dX5_init_20
def rmX1_init : Room := { frames := 3, cells := 99, slots := 2506, locals := 63 }
theorem qyX1_init : qY yX1_init cX1_init 2 (none) 0 := ⟨wd_94, wd_20, by decide +kernel, by decide +kernel, by decide +kernel⟩
set_option maxHeartbeats 4000000 in
set_option maxRecDepth 100000 in
theorem mX1_init {l : Launch} {G : qG} (hst : l.stackTraces = false) (b : Nat) (σ : qH) (n0 : Nat) (so : qH) (hF : FX1_init b σ n0 = some so) : qM l G yX1_init cX1_init 2 (none) rmX1_init [.ref b] σ (some n0) (.inl (none, so, some (n0 + 99))) := by
  refine q_body (own := RX1) (nm := "<init>") (ls := [(0, .ref b)]) hst (by decide +kernel) rfl rfl (Nat.le_of_ble_eq_true rfl) rfl rfl rfl ?_
  unfold FX1_init at hF
  refine x_aload_n 1 0 dX1_init_0 rfl rfl ?_
  refine x_objInit 4 wd_95 wd_39 wd_objcode (by decide) (Nat.le_of_ble_eq_true rfl) dX1_init_1 rfl ?_
  refine x_aload_n 5 0 dX1_init_4 rfl rfl ?_
  refine x_bipush 7 (14 : Int32) dX1_init_5 rfl (by decide) ?_
  obtain ⟨s1, h2, hF⟩ := b1_inv hF
  refine x_newQE 10 n0 (n0 + 1) 1 14 wd_96 (by decide) (by decide) (by decide) (by decide) (by decide) dX1_init_7 rfl rfl rfl rfl rfl h2 ?_
  obtain ⟨s3, h4, hF⟩ := b1_inv hF
  refine x_putF 13 0 inX1 tyX1 tyX1_ok nmX1 rfl (by decide) wd_98 rfl rfl rfl (tX1_0) rfl rfl h4 dX1_init_10 rfl ?_
  refine x_iconst 14 (0 : Int32) dX1_init_13 rfl (by decide) ?_
  refine x_istore_n 15 1 [(1, .int (0 : Int32)), (0, .ref b)] dX1_init_14 rfl rfl (by decide) rfl ?_
  refine x_iload_n 16 0 dX1_init_15 rfl rfl ?_
  refine x_aload_n 17 1 dX1_init_16 rfl rfl ?_
  obtain ⟨r5, h6, hF⟩ := b1_inv hF
  refine x_getR 20 0 inX1 rfl (by decide) wd_98 h6 dX1_init_17 rfl ?_
  obtain ⟨v7, h8, hF⟩ := b1_inv hF
  refine x_aL 21 h8 dX1_init_20 rfl ?_
  rcases ite_inv hF with ⟨hc, hF⟩ | ⟨hc, hF⟩
  · refine x_icmp_ge 43 24 dX1_init_21 (by decide) rfl (fun _ => ?_) (fun q => absurd hc q)
    cases hF
  · refine x_icmp_ge 43 24 dX1_init_21 (by decide) rfl (fun q => absurd q hc) (fun _ => ?_)
    refine x_aload_n 25 1 dX1_init_24 rfl rfl ?_
    obtain ⟨r9, h10, hF⟩ := b1_inv hF
    refine x_getR 28 0 inX1 rfl (by decide) wd_98 h10 dX1_init_25 rfl ?_
    refine x_iload_n 29 0 dX1_init_28 rfl rfl ?_
    obtain ⟨s11, h12, hF⟩ := b1_inv hF
    refine x_newE 32 (n0 + 1) (n0 + 2) 2 25 inX2 tyX2 tyX2_ok wd_96 wd_42 wd_18 rfl dfX2 (by decide) (by decide) dX1_init_29 rfl rfl rfl rfl rfl h12 ?_
    refine x_dup 33 rfl dX1_init_32 rfl ?_
    obtain ⟨s13, h14, hF⟩ := b1_inv hF
    refine x_callI (As := []) (rest := [.ref (n0 + 1), .int (0 : Int32), .ref r9]) (n' := (some (n0 + 8))) 36 8 192 (mX2_init hst (n0 + 1) s11 (n0 + 2) s13 h14) qyX2_init rfl wd_97 wd_44 rfl rfl (by decide) (Nat.le_of_ble_eq_true rfl) (by decide) dX1_init_33 rfl rfl rfl ?_
    obtain ⟨s15, h16, hF⟩ := b1_inv hF
    refine x_sQ 37 h16 dX1_init_36 rfl ?_
    refine x_iinc 40 1 0 (1 : Int32) [(1, .int (1 : Int32)), (0, .ref b)] dX1_init_37 rfl rfl (by decide) (by decide) rfl ?_
    refine x_goto 15 dX1_init_40 (by decide) ?_
    refine x_iload_n 16 0 dX1_init_15 rfl rfl ?_
    refine x_aload_n 17 1 dX1_init_16 rfl rfl ?_
    obtain ⟨r17, h18, hF⟩ := b1_inv hF
    refine x_getR 20 0 inX1 rfl (by decide) wd_98 h18 dX1_init_17 rfl ?_
    obtain ⟨v19, h20, hF⟩ := b1_inv hF
    refine x_aL 21 h20 dX1_init_20 rfl ?_
    rcases ite_inv hF with ⟨hc, hF⟩ | ⟨hc, hF⟩
    · refine x_icmp_ge 43 24 dX1_init_21 (by decide) rfl (fun _ => ?_) (fun q => absurd hc q)
      cases hF
    · refine x_icmp_ge 43 24 dX1_init_21 (by decide) rfl (fun q => absurd q hc) (fun _ => ?_)
      refine x_aload_n 25 1 dX1_init_24 rfl rfl ?_
      obtain ⟨r21, h22, hF⟩ := b1_inv hF
      refine x_getR 28 0 inX1 rfl (by decide) wd_98 h22 dX1_init_25 rfl ?_
      refine x_iload_n 29 0 dX1_init_28 rfl rfl ?_
      obtain ⟨s23, h24, hF⟩ := b1_inv hF
      refine x_newE 32 (n0 + 8) (n0 + 9) 9 203 inX2 tyX2 tyX2_ok wd_96 wd_42 wd_18 rfl dfX2 (by decide) (by decide) dX1_init_29 rfl rfl rfl rfl rfl h24 ?_
      refine x_dup 33 rfl dX1_init_32 rfl ?_
      obtain ⟨s25, h26, hF⟩ := b1_inv hF
      refine x_callI (As := []) (rest := [.ref (n0 + 8), .int (1 : Int32), .ref r21]) (n' := (some (n0 + 15))) 36 15 370 (mX2_init hst (n0 + 8) s23 (n0 + 9) s25 h26) qyX2_init rfl wd_97 wd_44 rfl rfl (by decide) (Nat.le_of_ble_eq_true rfl) (by decide) dX1_init_33 rfl rfl rfl ?_
      obtain ⟨s27, h28, hF⟩ := b1_inv hF
      refine x_sQ 37 h28 dX1_init_36 rfl ?_
      refine x_iinc 40 1 0 (2 : Int32) [(1, .int (2 : Int32)), (0, .ref b)] dX1_init_37 rfl rfl (by decide) (by decide) rfl ?_
      refine x_goto 15 dX1_init_40 (by decide) ?_
      refine x_iload_n 16 0 dX1_init_15 rfl rfl ?_
      refine x_aload_n 17 1 dX1_init_16 rfl rfl ?_
      obtain ⟨r29, h30, hF⟩ := b1_inv hF
      refine x_getR 20 0 inX1 rfl (by decide) wd_98 h30 dX1_init_17 rfl ?_
      obtain ⟨v31, h32, hF⟩ := b1_inv hF
      refine x_aL 21 h32 dX1_init_20 rfl ?_
      rcases ite_inv hF with ⟨hc, hF⟩ | ⟨hc, hF⟩
      · refine x_icmp_ge 43 24 dX1_init_21 (by decide) rfl (fun _ => ?_) (fun q => absurd hc q)
        cases hF
      · refine x_icmp_ge 43 24 dX1_init_21 (by decide) rfl (fun q => absurd q hc) (fun _ => ?_)
        refine x_aload_n 25 1 dX1_init_24 rfl rfl ?_
        obtain ⟨r33, h34, hF⟩ := b1_inv hF
        refine x_getR 28 0 inX1 rfl (by decide) wd_98 h34 dX1_init_25 rfl ?_
        refine x_iload_n 29 0 dX1_init_28 rfl rfl ?_
        obtain ⟨s35, h36, hF⟩ := b1_inv hF
        refine x_newE 32 (n0 + 15) (n0 + 16) 16 381 inX2 tyX2 tyX2_ok wd_96 wd_42 wd_18 rfl dfX2 (by decide) (by decide) dX1_init_29 rfl rfl rfl rfl rfl h36 ?_
        refine x_dup 33 rfl dX1_init_32 rfl ?_
        obtain ⟨s37, h38, hF⟩ := b1_inv hF
        refine x_callI (As := []) (rest := [.ref (n0 + 15), .int (2 : Int32), .ref r33]) (n' := (some (n0 + 22))) 36 22 548 (mX2_init hst (n0 + 15) s35 (n0 + 16) s37 h38) qyX2_init rfl wd_97 wd_44 rfl rfl (by decide) (Nat.le_of_ble_eq_true rfl) (by decide) dX1_init_33 rfl rfl rfl ?_
        obtain ⟨s39, h40, hF⟩ := b1_inv hF
        refine x_sQ 37 h40 dX1_init_36 rfl ?_
        refine x_iinc 40 1 0 (3 : Int32) [(1, .int (3 : Int32)), (0, .ref b)] dX1_init_37 rfl rfl (by decide) (by decide) rfl ?_
        refine x_goto 15 dX1_init_40 (by decide) ?_
        refine x_iload_n 16 0 dX1_init_15 rfl rfl ?_
        refine x_aload_n 17 1 dX1_init_16 rfl rfl ?_
        obtain ⟨r41, h42, hF⟩ := b1_inv hF
        refine x_getR 20 0 inX1 rfl (by decide) wd_98 h42 dX1_init_17 rfl ?_
        obtain ⟨v43, h44, hF⟩ := b1_inv hF
        refine x_aL 21 h44 dX1_init_20 rfl ?_
        rcases ite_inv hF with ⟨hc, hF⟩ | ⟨hc, hF⟩
        · refine x_icmp_ge 43 24 dX1_init_21 (by decide) rfl (fun _ => ?_) (fun q => absurd hc q)
          cases hF
        · refine x_icmp_ge 43 24 dX1_init_21 (by decide) rfl (fun q => absurd q hc) (fun _ => ?_)
          refine x_aload_n 25 1 dX1_init_24 rfl rfl ?_
          obtain ⟨r45, h46, hF⟩ := b1_inv hF
          refine x_getR 28 0 inX1 rfl (by decide) wd_98 h46 dX1_init_25 rfl ?_
          refine x_iload_n 29 0 dX1_init_28 rfl rfl ?_
          obtain ⟨s47, h48, hF⟩ := b1_inv hF
          refine x_newE 32 (n0 + 22) (n0 + 23) 23 559 inX2 tyX2 tyX2_ok wd_96 wd_42 wd_18 rfl dfX2 (by decide) (by decide) dX1_init_29 rfl rfl rfl rfl rfl h48 ?_
          refine x_dup 33 rfl dX1_init_32 rfl ?_
          obtain ⟨s49, h50, hF⟩ := b1_inv hF
          refine x_callI (As := []) (rest := [.ref (n0 + 22), .int (3 : Int32), .ref r45]) (n' := (some (n0 + 29))) 36 29 726 (mX2_init hst (n0 + 22) s47 (n0 + 23) s49 h50) qyX2_init rfl wd_97 wd_44 rfl rfl (by decide) (Nat.le_of_ble_eq_true rfl) (by decide) dX1_init_33 rfl rfl rfl ?_
          obtain ⟨s51, h52, hF⟩ := b1_inv hF
          refine x_sQ 37 h52 dX1_init_36 rfl ?_
          refine x_iinc 40 1 0 (4 : Int32) [(1, .int (4 : Int32)), (0, .ref b)] dX1_init_37 rfl rfl (by decide) (by decide) rfl ?_
          refine x_goto 15 dX1_init_40 (by decide) ?_
          refine x_iload_n 16 0 dX1_init_15 rfl rfl ?_
          refine x_aload_n 17 1 dX1_init_16 rfl rfl ?_
          obtain ⟨r53, h54, hF⟩ := b1_inv hF
          refine x_getR 20 0 inX1 rfl (by decide) wd_98 h54 dX1_init_17 rfl ?_
          obtain ⟨v55, h56, hF⟩ := b1_inv hF
          refine x_aL 21 h56 dX1_init_20 rfl ?_
          rcases ite_inv hF with ⟨hc, hF⟩ | ⟨hc, hF⟩
          · refine x_icmp_ge 43 24 dX1_init_21 (by decide) rfl (fun _ => ?_) (fun q => absurd hc q)
            cases hF
          · refine x_icmp_ge 43 24 dX1_init_21 (by decide) rfl (fun q => absurd q hc) (fun _ => ?_)
            refine x_aload_n 25 1 dX1_init_24 rfl rfl ?_
            obtain ⟨r57, h58, hF⟩ := b1_inv hF
            refine x_getR 28 0 inX1 rfl (by decide) wd_98 h58 dX1_init_25 rfl ?_
            refine x_iload_n 29 0 dX1_init_28 rfl rfl ?_
            obtain ⟨s59, h60, hF⟩ := b1_inv hF
            refine x_newE 32 (n0 + 29) (n0 + 30) 30 737 inX2 tyX2 tyX2_ok wd_96 wd_42 wd_18 rfl dfX2 (by decide) (by decide) dX1_init_29 rfl rfl rfl rfl rfl h60 ?_
            refine x_dup 33 rfl dX1_init_32 rfl ?_
            obtain ⟨s61, h62, hF⟩ := b1_inv hF
            refine x_callI (As := []) (rest := [.ref (n0 + 29), .int (4 : Int32), .ref r57]) (n' := (some (n0 + 36))) 36 36 904 (mX2_init hst (n0 + 29) s59 (n0 + 30) s61 h62) qyX2_init rfl wd_97 wd_44 rfl rfl (by decide) (Nat.le_of_ble_eq_true rfl) (by decide) dX1_init_33 rfl rfl rfl ?_
            obtain ⟨s63, h64, hF⟩ := b1_inv hF
            refine x_sQ 37 h64 dX1_init_36 rfl ?_
            refine x_iinc 40 1 0 (5 : Int32) [(1, .int (5 : Int32)), (0, .ref b)] dX1_init_37 rfl rfl (by decide) (by decide) rfl ?_
            refine x_goto 15 dX1_init_40 (by decide) ?_
            refine x_iload_n 16 0 dX1_init_15 rfl rfl ?_
            refine x_aload_n 17 1 dX1_init_16 rfl rfl ?_
            obtain ⟨r65, h66, hF⟩ := b1_inv hF
            refine x_getR 20 0 inX1 rfl (by decide) wd_98 h66 dX1_init_17 rfl ?_
            obtain ⟨v67, h68, hF⟩ := b1_inv hF
            refine x_aL 21 h68 dX1_init_20 rfl ?_
            rcases ite_inv hF with ⟨hc, hF⟩ | ⟨hc, hF⟩
            · refine x_icmp_ge 43 24 dX1_init_21 (by decide) rfl (fun _ => ?_) (fun q => absurd hc q)
              cases hF
            · refine x_icmp_ge 43 24 dX1_init_21 (by decide) rfl (fun q => absurd q hc) (fun _ => ?_)
              refine x_aload_n 25 1 dX1_init_24 rfl rfl ?_
              obtain ⟨r69, h70, hF⟩ := b1_inv hF
              refine x_getR 28 0 inX1 rfl (by decide) wd_98 h70 dX1_init_25 rfl ?_
              refine x_iload_n 29 0 dX1_init_28 rfl rfl ?_
              obtain ⟨s71, h72, hF⟩ := b1_inv hF
              refine x_newE 32 (n0 + 36) (n0 + 37) 37 915 inX2 tyX2 tyX2_ok wd_96 wd_42 wd_18 rfl dfX2 (by decide) (by decide) dX1_init_29 rfl rfl rfl rfl rfl h72 ?_
              refine x_dup 33 rfl dX1_init_32 rfl ?_
              obtain ⟨s73, h74, hF⟩ := b1_inv hF
              refine x_callI (As := []) (rest := [.ref (n0 + 36), .int (5 : Int32), .ref r69]) (n' := (some (n0 + 43))) 36 43 1082 (mX2_init hst (n0 + 36) s71 (n0 + 37) s73 h74) qyX2_init rfl wd_97 wd_44 rfl rfl (by decide) (Nat.le_of_ble_eq_true rfl) (by decide) dX1_init_33 rfl rfl rfl ?_
              obtain ⟨s75, h76, hF⟩ := b1_inv hF
              refine x_sQ 37 h76 dX1_init_36 rfl ?_
              refine x_iinc 40 1 0 (6 : Int32) [(1, .int (6 : Int32)), (0, .ref b)] dX1_init_37 rfl rfl (by decide) (by decide) rfl ?_
              refine x_goto 15 dX1_init_40 (by decide) ?_
              refine x_iload_n 16 0 dX1_init_15 rfl rfl ?_
              refine x_aload_n 17 1 dX1_init_16 rfl rfl ?_
              obtain ⟨r77, h78, hF⟩ := b1_inv hF
              refine x_getR 20 0 inX1 rfl (by decide) wd_98 h78 dX1_init_17 rfl ?_
              obtain ⟨v79, h80, hF⟩ := b1_inv hF
              refine x_aL 21 h80 dX1_init_20 rfl ?_
              rcases ite_inv hF with ⟨hc, hF⟩ | ⟨hc, hF⟩
              · refine x_icmp_ge 43 24 dX1_init_21 (by decide) rfl (fun _ => ?_) (fun q => absurd hc q)
                cases hF
              · refine x_icmp_ge 43 24 dX1_init_21 (by decide) rfl (fun q => absurd q hc) (fun _ => ?_)
                refine x_aload_n 25 1 dX1_init_24 rfl rfl ?_
                obtain ⟨r81, h82, hF⟩ := b1_inv hF
                refine x_getR 28 0 inX1 rfl (by decide) wd_98 h82 dX1_init_25 rfl ?_
                refine x_iload_n 29 0 dX1_init_28 rfl rfl ?_
                obtain ⟨s83, h84, hF⟩ := b1_inv hF
                refine x_newE 32 (n0 + 43) (n0 + 44) 44 1093 inX2 tyX2 tyX2_ok wd_96 wd_42 wd_18 rfl dfX2 (by decide) (by decide) dX1_init_29 rfl rfl rfl rfl rfl h84 ?_
                refine x_dup 33 rfl dX1_init_32 rfl ?_
                obtain ⟨s85, h86, hF⟩ := b1_inv hF
                refine x_callI (As := []) (rest := [.ref (n0 + 43), .int (6 : Int32), .ref r81]) (n' := (some (n0 + 50))) 36 50 1260 (mX2_init hst (n0 + 43) s83 (n0 + 44) s85 h86) qyX2_init rfl wd_97 wd_44 rfl rfl (by decide) (Nat.le_of_ble_eq_true rfl) (by decide) dX1_init_33 rfl rfl rfl ?_
                obtain ⟨s87, h88, hF⟩ := b1_inv hF
                refine x_sQ 37 h88 dX1_init_36 rfl ?_
                refine x_iinc 40 1 0 (7 : Int32) [(1, .int (7 : Int32)), (0, .ref b)] dX1_init_37 rfl rfl (by decide) (by decide) rfl ?_
                refine x_goto 15 dX1_init_40 (by decide) ?_
                refine x_iload_n 16 0 dX1_init_15 rfl rfl ?_
                refine x_aload_n 17 1 dX1_init_16 rfl rfl ?_
                obtain ⟨r89, h90, hF⟩ := b1_inv hF
                refine x_getR 20 0 inX1 rfl (by decide) wd_98 h90 dX1_init_17 rfl ?_
                obtain ⟨v91, h92, hF⟩ := b1_inv hF
                refine x_aL 21 h92 dX1_init_20 rfl ?_
                rcases ite_inv hF with ⟨hc, hF⟩ | ⟨hc, hF⟩
                · refine x_icmp_ge 43 24 dX1_init_21 (by decide) rfl (fun _ => ?_) (fun q => absurd hc q)
                  cases hF
                · refine x_icmp_ge 43 24 dX1_init_21 (by decide) rfl (fun q => absurd q hc) (fun _ => ?_)
                  refine x_aload_n 25 1 dX1_init_24 rfl rfl ?_
                  obtain ⟨r93, h94, hF⟩ := b1_inv hF
                  refine x_getR 28 0 inX1 rfl (by decide) wd_98 h94 dX1_init_25 rfl ?_
                  refine x_iload_n 29 0 dX1_init_28 rfl rfl ?_
                  obtain ⟨s95, h96, hF⟩ := b1_inv hF
                  refine x_newE 32 (n0 + 50) (n0 + 51) 51 1271 inX2 tyX2 tyX2_ok wd_96 wd_42 wd_18 rfl dfX2 (by decide) (by decide) dX1_init_29 rfl rfl rfl rfl rfl h96 ?_
                  refine x_dup 33 rfl dX1_init_32 rfl ?_
                  obtain ⟨s97, h98, hF⟩ := b1_inv hF
                  refine x_callI (As := []) (rest := [.ref (n0 + 50), .int (7 : Int32), .ref r93]) (n' := (some (n0 + 57))) 36 57 1438 (mX2_init hst (n0 + 50) s95 (n0 + 51) s97 h98) qyX2_init rfl wd_97 wd_44 rfl rfl (by decide) (Nat.le_of_ble_eq_true rfl) (by decide) dX1_init_33 rfl rfl rfl ?_
                  obtain ⟨s99, h100, hF⟩ := b1_inv hF
                  refine x_sQ 37 h100 dX1_init_36 rfl ?_
                  refine x_iinc 40 1 0 (8 : Int32) [(1, .int (8 : Int32)), (0, .ref b)] dX1_init_37 rfl rfl (by decide) (by decide) rfl ?_
                  refine x_goto 15 dX1_init_40 (by decide) ?_
                  refine x_iload_n 16 0 dX1_init_15 rfl rfl ?_
                  refine x_aload_n 17 1 dX1_init_16 rfl rfl ?_
                  obtain ⟨r101, h102, hF⟩ := b1_inv hF
                  refine x_getR 20 0 inX1 rfl (by decide) wd_98 h102 dX1_init_17 rfl ?_
                  obtain ⟨v103, h104, hF⟩ := b1_inv hF
                  refine x_aL 21 h104 dX1_init_20 rfl ?_
                  rcases ite_inv hF with ⟨hc, hF⟩ | ⟨hc, hF⟩
                  · refine x_icmp_ge 43 24 dX1_init_21 (by decide) rfl (fun _ => ?_) (fun q => absurd hc q)
                    cases hF
                  · refine x_icmp_ge 43 24 dX1_init_21 (by decide) rfl (fun q => absurd q hc) (fun _ => ?_)
                    refine x_aload_n 25 1 dX1_init_24 rfl rfl ?_
                    obtain ⟨r105, h106, hF⟩ := b1_inv hF
                    refine x_getR 28 0 inX1 rfl (by decide) wd_98 h106 dX1_init_25 rfl ?_
                    refine x_iload_n 29 0 dX1_init_28 rfl rfl ?_
                    obtain ⟨s107, h108, hF⟩ := b1_inv hF
                    refine x_newE 32 (n0 + 57) (n0 + 58) 58 1449 inX2 tyX2 tyX2_ok wd_96 wd_42 wd_18 rfl dfX2 (by decide) (by decide) dX1_init_29 rfl rfl rfl rfl rfl h108 ?_
                    refine x_dup 33 rfl dX1_init_32 rfl ?_
                    obtain ⟨s109, h110, hF⟩ := b1_inv hF
                    refine x_callI (As := []) (rest := [.ref (n0 + 57), .int (8 : Int32), .ref r105]) (n' := (some (n0 + 64))) 36 64 1616 (mX2_init hst (n0 + 57) s107 (n0 + 58) s109 h110) qyX2_init rfl wd_97 wd_44 rfl rfl (by decide) (Nat.le_of_ble_eq_true rfl) (by decide) dX1_init_33 rfl rfl rfl ?_
                    obtain ⟨s111, h112, hF⟩ := b1_inv hF
                    refine x_sQ 37 h112 dX1_init_36 rfl ?_
                    refine x_iinc 40 1 0 (9 : Int32) [(1, .int (9 : Int32)), (0, .ref b)] dX1_init_37 rfl rfl (by decide) (by decide) rfl ?_
                    refine x_goto 15 dX1_init_40 (by decide) ?_
                    refine x_iload_n 16 0 dX1_init_15 rfl rfl ?_
                    refine x_aload_n 17 1 dX1_init_16 rfl rfl ?_
                    obtain ⟨r113, h114, hF⟩ := b1_inv hF
                    refine x_getR 20 0 inX1 rfl (by decide) wd_98 h114 dX1_init_17 rfl ?_
                    obtain ⟨v115, h116, hF⟩ := b1_inv hF
                    refine x_aL 21 h116 dX1_init_20 rfl ?_
                    rcases ite_inv hF with ⟨hc, hF⟩ | ⟨hc, hF⟩
                    · refine x_icmp_ge 43 24 dX1_init_21 (by decide) rfl (fun _ => ?_) (fun q => absurd hc q)
                      cases hF
                    · refine x_icmp_ge 43 24 dX1_init_21 (by decide) rfl (fun q => absurd q hc) (fun _ => ?_)
                      refine x_aload_n 25 1 dX1_init_24 rfl rfl ?_
                      obtain ⟨r117, h118, hF⟩ := b1_inv hF
                      refine x_getR 28 0 inX1 rfl (by decide) wd_98 h118 dX1_init_25 rfl ?_
                      refine x_iload_n 29 0 dX1_init_28 rfl rfl ?_
                      obtain ⟨s119, h120, hF⟩ := b1_inv hF
                      refine x_newE 32 (n0 + 64) (n0 + 65) 65 1627 inX2 tyX2 tyX2_ok wd_96 wd_42 wd_18 rfl dfX2 (by decide) (by decide) dX1_init_29 rfl rfl rfl rfl rfl h120 ?_
                      refine x_dup 33 rfl dX1_init_32 rfl ?_
                      obtain ⟨s121, h122, hF⟩ := b1_inv hF
                      refine x_callI (As := []) (rest := [.ref (n0 + 64), .int (9 : Int32), .ref r117]) (n' := (some (n0 + 71))) 36 71 1794 (mX2_init hst (n0 + 64) s119 (n0 + 65) s121 h122) qyX2_init rfl wd_97 wd_44 rfl rfl (by decide) (Nat.le_of_ble_eq_true rfl) (by decide) dX1_init_33 rfl rfl rfl ?_
                      obtain ⟨s123, h124, hF⟩ := b1_inv hF
                      refine x_sQ 37 h124 dX1_init_36 rfl ?_
                      refine x_iinc 40 1 0 (10 : Int32) [(1, .int (10 : Int32)), (0, .ref b)] dX1_init_37 rfl rfl (by decide) (by decide) rfl ?_
                      refine x_goto 15 dX1_init_40 (by decide) ?_
                      refine x_iload_n 16 0 dX1_init_15 rfl rfl ?_
                      refine x_aload_n 17 1 dX1_init_16 rfl rfl ?_
                      obtain ⟨r125, h126, hF⟩ := b1_inv hF
                      refine x_getR 20 0 inX1 rfl (by decide) wd_98 h126 dX1_init_17 rfl ?_
                      obtain ⟨v127, h128, hF⟩ := b1_inv hF
                      refine x_aL 21 h128 dX1_init_20 rfl ?_
                      rcases ite_inv hF with ⟨hc, hF⟩ | ⟨hc, hF⟩
                      · refine x_icmp_ge 43 24 dX1_init_21 (by decide) rfl (fun _ => ?_) (fun q => absurd hc q)
                        cases hF
                      · refine x_icmp_ge 43 24 dX1_init_21 (by decide) rfl (fun q => absurd q hc) (fun _ => ?_)
                        refine x_aload_n 25 1 dX1_init_24 rfl rfl ?_
                        obtain ⟨r129, h130, hF⟩ := b1_inv hF
                        refine x_getR 28 0 inX1 rfl (by decide) wd_98 h130 dX1_init_25 rfl ?_
                        refine x_iload_n 29 0 dX1_init_28 rfl rfl ?_
                        obtain ⟨s131, h132, hF⟩ := b1_inv hF
                        refine x_newE 32 (n0 + 71) (n0 + 72) 72 1805 inX2 tyX2 tyX2_ok wd_96 wd_42 wd_18 rfl dfX2 (by decide) (by decide) dX1_init_29 rfl rfl rfl rfl rfl h132 ?_
                        refine x_dup 33 rfl dX1_init_32 rfl ?_
                        obtain ⟨s133, h134, hF⟩ := b1_inv hF
                        refine x_callI (As := []) (rest := [.ref (n0 + 71), .int (10 : Int32), .ref r129]) (n' := (some (n0 + 78))) 36 78 1972 (mX2_init hst (n0 + 71) s131 (n0 + 72) s133 h134) qyX2_init rfl wd_97 wd_44 rfl rfl (by decide) (Nat.le_of_ble_eq_true rfl) (by decide) dX1_init_33 rfl rfl rfl ?_
                        obtain ⟨s135, h136, hF⟩ := b1_inv hF
                        refine x_sQ 37 h136 dX1_init_36 rfl ?_
                        refine x_iinc 40 1 0 (11 : Int32) [(1, .int (11 : Int32)), (0, .ref b)] dX1_init_37 rfl rfl (by decide) (by decide) rfl ?_
                        refine x_goto 15 dX1_init_40 (by decide) ?_
                        refine x_iload_n 16 0 dX1_init_15 rfl rfl ?_
                        refine x_aload_n 17 1 dX1_init_16 rfl rfl ?_
                        obtain ⟨r137, h138, hF⟩ := b1_inv hF
                        refine x_getR 20 0 inX1 rfl (by decide) wd_98 h138 dX1_init_17 rfl ?_
                        obtain ⟨v139, h140, hF⟩ := b1_inv hF
                        refine x_aL 21 h140 dX1_init_20 rfl ?_
                        rcases ite_inv hF with ⟨hc, hF⟩ | ⟨hc, hF⟩
                        · refine x_icmp_ge 43 24 dX1_init_21 (by decide) rfl (fun _ => ?_) (fun q => absurd hc q)
                          cases hF
                        · refine x_icmp_ge 43 24 dX1_init_21 (by decide) rfl (fun q => absurd q hc) (fun _ => ?_)
                          refine x_aload_n 25 1 dX1_init_24 rfl rfl ?_
                          obtain ⟨r141, h142, hF⟩ := b1_inv hF
                          refine x_getR 28 0 inX1 rfl (by decide) wd_98 h142 dX1_init_25 rfl ?_
                          refine x_iload_n 29 0 dX1_init_28 rfl rfl ?_
                          obtain ⟨s143, h144, hF⟩ := b1_inv hF
                          refine x_newE 32 (n0 + 78) (n0 + 79) 79 1983 inX2 tyX2 tyX2_ok wd_96 wd_42 wd_18 rfl dfX2 (by decide) (by decide) dX1_init_29 rfl rfl rfl rfl rfl h144 ?_
                          refine x_dup 33 rfl dX1_init_32 rfl ?_
                          obtain ⟨s145, h146, hF⟩ := b1_inv hF
                          refine x_callI (As := []) (rest := [.ref (n0 + 78), .int (11 : Int32), .ref r141]) (n' := (some (n0 + 85))) 36 85 2150 (mX2_init hst (n0 + 78) s143 (n0 + 79) s145 h146) qyX2_init rfl wd_97 wd_44 rfl rfl (by decide) (Nat.le_of_ble_eq_true rfl) (by decide) dX1_init_33 rfl rfl rfl ?_
                          obtain ⟨s147, h148, hF⟩ := b1_inv hF
                          refine x_sQ 37 h148 dX1_init_36 rfl ?_
                          refine x_iinc 40 1 0 (12 : Int32) [(1, .int (12 : Int32)), (0, .ref b)] dX1_init_37 rfl rfl (by decide) (by decide) rfl ?_
                          refine x_goto 15 dX1_init_40 (by decide) ?_
                          refine x_iload_n 16 0 dX1_init_15 rfl rfl ?_
                          refine x_aload_n 17 1 dX1_init_16 rfl rfl ?_
                          obtain ⟨r149, h150, hF⟩ := b1_inv hF
                          refine x_getR 20 0 inX1 rfl (by decide) wd_98 h150 dX1_init_17 rfl ?_
                          obtain ⟨v151, h152, hF⟩ := b1_inv hF
                          refine x_aL 21 h152 dX1_init_20 rfl ?_
                          rcases ite_inv hF with ⟨hc, hF⟩ | ⟨hc, hF⟩
                          · refine x_icmp_ge 43 24 dX1_init_21 (by decide) rfl (fun _ => ?_) (fun q => absurd hc q)
                            cases hF
                          · refine x_icmp_ge 43 24 dX1_init_21 (by decide) rfl (fun q => absurd q hc) (fun _ => ?_)
                            refine x_aload_n 25 1 dX1_init_24 rfl rfl ?_
                            obtain ⟨r153, h154, hF⟩ := b1_inv hF
                            refine x_getR 28 0 inX1 rfl (by decide) wd_98 h154 dX1_init_25 rfl ?_
                            refine x_iload_n 29 0 dX1_init_28 rfl rfl ?_
                            obtain ⟨s155, h156, hF⟩ := b1_inv hF
                            refine x_newE 32 (n0 + 85) (n0 + 86) 86 2161 inX2 tyX2 tyX2_ok wd_96 wd_42 wd_18 rfl dfX2 (by decide) (by decide) dX1_init_29 rfl rfl rfl rfl rfl h156 ?_
                            refine x_dup 33 rfl dX1_init_32 rfl ?_
                            obtain ⟨s157, h158, hF⟩ := b1_inv hF
                            refine x_callI (As := []) (rest := [.ref (n0 + 85), .int (12 : Int32), .ref r153]) (n' := (some (n0 + 92))) 36 92 2328 (mX2_init hst (n0 + 85) s155 (n0 + 86) s157 h158) qyX2_init rfl wd_97 wd_44 rfl rfl (by decide) (Nat.le_of_ble_eq_true rfl) (by decide) dX1_init_33 rfl rfl rfl ?_
                            obtain ⟨s159, h160, hF⟩ := b1_inv hF
                            refine x_sQ 37 h160 dX1_init_36 rfl ?_
                            refine x_iinc 40 1 0 (13 : Int32) [(1, .int (13 : Int32)), (0, .ref b)] dX1_init_37 rfl rfl (by decide) (by decide) rfl ?_
                            refine x_goto 15 dX1_init_40 (by decide) ?_
                            refine x_iload_n 16 0 dX1_init_15 rfl rfl ?_
                            refine x_aload_n 17 1 dX1_init_16 rfl rfl ?_
                            obtain ⟨r161, h162, hF⟩ := b1_inv hF
                            refine x_getR 20 0 inX1 rfl (by decide) wd_98 h162 dX1_init_17 rfl ?_
                            obtain ⟨v163, h164, hF⟩ := b1_inv hF
                            refine x_aL 21 h164 dX1_init_20 rfl ?_
                            rcases ite_inv hF with ⟨hc, hF⟩ | ⟨hc, hF⟩
                            · refine x_icmp_ge 43 24 dX1_init_21 (by decide) rfl (fun _ => ?_) (fun q => absurd hc q)
                              cases hF
                            · refine x_icmp_ge 43 24 dX1_init_21 (by decide) rfl (fun q => absurd q hc) (fun _ => ?_)
                              refine x_aload_n 25 1 dX1_init_24 rfl rfl ?_
                              obtain ⟨r165, h166, hF⟩ := b1_inv hF
                              refine x_getR 28 0 inX1 rfl (by decide) wd_98 h166 dX1_init_25 rfl ?_
                              refine x_iload_n 29 0 dX1_init_28 rfl rfl ?_
                              obtain ⟨s167, h168, hF⟩ := b1_inv hF
                              refine x_newE 32 (n0 + 92) (n0 + 93) 93 2339 inX2 tyX2 tyX2_ok wd_96 wd_42 wd_18 rfl dfX2 (by decide) (by decide) dX1_init_29 rfl rfl rfl rfl rfl h168 ?_
                              refine x_dup 33 rfl dX1_init_32 rfl ?_
                              obtain ⟨s169, h170, hF⟩ := b1_inv hF
                              refine x_callI (As := []) (rest := [.ref (n0 + 92), .int (13 : Int32), .ref r165]) (n' := (some (n0 + 99))) 36 99 2506 (mX2_init hst (n0 + 92) s167 (n0 + 93) s169 h170) qyX2_init rfl wd_97 wd_44 rfl rfl (by decide) (Nat.le_of_ble_eq_true rfl) (by decide) dX1_init_33 rfl rfl rfl ?_
                              obtain ⟨s171, h172, hF⟩ := b1_inv hF
                              refine x_sQ 37 h172 dX1_init_36 rfl ?_
                              refine x_iinc 40 1 0 (14 : Int32) [(1, .int (14 : Int32)), (0, .ref b)] dX1_init_37 rfl rfl (by decide) (by decide) rfl ?_
                              refine x_goto 15 dX1_init_40 (by decide) ?_
                              refine x_iload_n 16 0 dX1_init_15 rfl rfl ?_
                              refine x_aload_n 17 1 dX1_init_16 rfl rfl ?_
                              obtain ⟨r173, h174, hF⟩ := b1_inv hF
                              refine x_getR 20 0 inX1 rfl (by decide) wd_98 h174 dX1_init_17 rfl ?_
                              obtain ⟨v175, h176, hF⟩ := b1_inv hF
                              refine x_aL 21 h176 dX1_init_20 rfl ?_
                              rcases ite_inv hF with ⟨hc, hF⟩ | ⟨hc, hF⟩
                              · refine x_icmp_ge 43 24 dX1_init_21 (by decide) rfl (fun _ => ?_) (fun q => absurd hc q)
                                cases hF
                                exact x_vret rfl rfl (by decide) (by decide) dX1_init_43
                              · refine x_icmp_ge 43 24 dX1_init_21 (by decide) rfl (fun q => absurd q hc) (fun _ => ?_)
                                cases hF
def rmX6_init : Room := { frames := 4, cells := 135, slots := 4361, locals := 84 }
theorem qyX6_init : qY yX6_init cX6_init 2 (none) 0 := ⟨wd_37, wd_17, by decide +kernel, by decide +kernel, by decide +kernel⟩
set_option maxHeartbeats 4000000 in
set_option maxRecDepth 100000 in
theorem mX6_init {l : Launch} {G : qG} (hst : l.stackTraces = false) (b : Nat) (σ : qH) (n0 : Nat) (so : qH) (hF : FX6_init b σ n0 = some so) : qM l G yX6_init cX6_init 2 (none) rmX6_init [.ref b] σ (some n0) (.inl (none, so, some (n0 + 135))) := by
  refine q_body (own := RX6) (nm := "<init>") (ls := [(0, .ref b)]) hst (by decide +kernel) rfl rfl (Nat.le_of_ble_eq_true rfl) rfl rfl rfl ?_
  unfold FX6_init at hF
  refine x_aload_n 1 0 dX6_init_0 rfl rfl ?_
  refine x_objInit 4 wd_38 wd_39 wd_objcode (by decide) (Nat.le_of_ble_eq_true rfl) dX6_init_1 rfl ?_
  refine x_aload_n 5 0 dX6_init_4 rfl rfl ?_
  obtain ⟨s1, h2, hF⟩ := b1_inv hF
  refine x_newE 8 n0 (n0 + 1) 1 11 inX2 tyX2 tyX2_ok wd_41 wd_42 wd_18 rfl dfX2 (by decide) (by decide) dX6_init_5 rfl rfl rfl rfl rfl h2 ?_
  refine x_dup 9 rfl dX6_init_8 rfl ?_
  obtain ⟨s3, h4, hF⟩ := b1_inv hF
  refine x_callI (As := []) (rest := [.ref n0, .ref b]) (n' := (some (n0 + 7))) 12 7 178 (mX2_init hst n0 s1 (n0 + 1) s3 h4) qyX2_init rfl wd_43 wd_44 rfl rfl (by decide) (Nat.le_of_ble_eq_true rfl) (by decide) dX6_init_9 rfl rfl rfl ?_
  obtain ⟨s5, h6, hF⟩ := b1_inv hF
  refine x_putF 15 0 inX6 tyX6 tyX6_ok nmX6 rfl (by decide) wd_150 rfl rfl rfl (tX6_0) rfl rfl h6 dX6_init_12 rfl ?_
  refine x_aload_n 16 0 dX6_init_15 rfl rfl ?_
  obtain ⟨s7, h8, hF⟩ := b1_inv hF
  refine x_newE 19 (n0 + 7) (n0 + 8) 8 189 inX2 tyX2 tyX2_ok wd_41 wd_42 wd_18 rfl dfX2 (by decide) (by decide) dX6_init_16 rfl rfl rfl rfl rfl h8 ?_
  refine x_dup 20 rfl dX6_init_19 rfl ?_
  obtain ⟨s9, h10, hF⟩ := b1_inv hF
  refine x_callI (As := []) (rest := [.ref (n0 + 7), .ref b]) (n' := (some (n0 + 14))) 23 14 356 (mX2_init hst (n0 + 7) s7 (n0 + 8) s9 h10) qyX2_init rfl wd_43 wd_44 rfl rfl (by decide) (Nat.le_of_ble_eq_true rfl) (by decide) dX6_init_20 rfl rfl rfl ?_
  obtain ⟨s11, h12, hF⟩ := b1_inv hF
  refine x_putF 26 1 inX6 tyX6 tyX6_ok nmX6 rfl (by decide) wd_151 rfl rfl rfl (tX6_1) rfl rfl h12 dX6_init_23 rfl ?_
  refine x_aload_n 27 0 dX6_init_26 rfl rfl ?_
  refine x_iconst 28 (2 : Int32) dX6_init_27 rfl (by decide) ?_
  obtain ⟨s13, h14, hF⟩ := b1_inv hF
  refine x_newQE 31 (n0 + 14) (n0 + 15) 15 358 wd_41 (by decide) (by decide) (by decide) (by decide) (by decide) dX6_init_28 rfl rfl rfl rfl rfl h14 ?_
  obtain ⟨s15, h16, hF⟩ := b1_inv hF
  refine x_putF 34 2 inX6 tyX6 tyX6_ok nmX6 rfl (by decide) wd_152 rfl rfl rfl (tX6_2) rfl rfl h16 dX6_init_31 rfl ?_
  refine x_aload_n 35 0 dX6_init_34 rfl rfl ?_
  refine x_iconst 36 (2 : Int32) dX6_init_35 rfl (by decide) ?_
  obtain ⟨s17, h18, hF⟩ := b1_inv hF
  refine x_newZE 38 (n0 + 15) (n0 + 16) 16 360 wd_108 (by decide) (by decide) (by decide) (by decide) (by decide) dX6_init_36 rfl rfl rfl rfl rfl h18 ?_
  obtain ⟨s19, h20, hF⟩ := b1_inv hF
  refine x_putF 41 3 inX6 tyX6 tyX6_ok nmX6 rfl (by decide) wd_153 rfl rfl rfl (tX6_3) rfl rfl h20 dX6_init_38 rfl ?_
  refine x_aload_n 42 0 dX6_init_41 rfl rfl ?_
  obtain ⟨s21, h22, hF⟩ := b1_inv hF
  refine x_newE 45 (n0 + 16) (n0 + 17) 17 363 inX1 tyX1 tyX1_ok wd_90 wd_91 wd_20 rfl dfX1 (by decide) (by decide) dX6_init_42 rfl rfl rfl rfl rfl h22 ?_
  refine x_dup 46 rfl dX6_init_45 rfl ?_
  obtain ⟨s23, h24, hF⟩ := b1_inv hF
  refine x_callI (As := []) (rest := [.ref (n0 + 16), .ref b]) (n' := (some (n0 + 116))) 49 116 2869 (mX1_init hst (n0 + 16) s21 (n0 + 17) s23 h24) qyX1_init rfl wd_92 wd_93 rfl rfl (by decide) (Nat.le_of_ble_eq_true rfl) (by decide) dX6_init_46 rfl rfl rfl ?_
  obtain ⟨s25, h26, hF⟩ := b1_inv hF
  refine x_putF 52 4 inX6 tyX6 tyX6_ok nmX6 rfl (by decide) wd_154 rfl rfl rfl (tX6_4) rfl rfl h26 dX6_init_49 rfl ?_
  refine x_aload_n 53 0 dX6_init_52 rfl rfl ?_
  obtain ⟨s27, h28, hF⟩ := b1_inv hF
  refine x_newE 56 (n0 + 116) (n0 + 117) 117 2874 inX5 tyX5 tyX5_ok wd_109 wd_110 wd_21 rfl dfX5 (by decide) (by decide) dX6_init_53 rfl rfl rfl rfl rfl h28 ?_
  refine x_dup 57 rfl dX6_init_56 rfl ?_
  obtain ⟨s29, h30, hF⟩ := b1_inv hF
  refine x_callIN (host := RX6) (As := []) (rest := [.ref (n0 + 116), .ref b]) (n' := (some (n0 + 119))) 60 119 3000 (mX5_init hst (n0 + 116) s27 (n0 + 117) s29 h30) qyX5_init rfl (by decide) wd_112 rfl rfl (by decide) (Nat.le_of_ble_eq_true rfl) (by decide) dX6_init_57 rfl rfl rfl ?_
  obtain ⟨s31, h32, hF⟩ := b1_inv hF
  refine x_putF 63 5 inX6 tyX6 tyX6_ok nmX6 rfl (by decide) wd_155 rfl rfl rfl (tX6_5) rfl rfl h32 dX6_init_60 rfl ?_
  refine x_aload_n 64 0 dX6_init_63 rfl rfl ?_
  obtain ⟨s33, h34, hF⟩ := b1_inv hF
  refine x_newE 67 (n0 + 119) (n0 + 120) 120 3004 inX0 tyX0 tyX0_ok wd_131 wd_132 wd_22 rfl dfX0 (by decide) (by decide) dX6_init_64 rfl rfl rfl rfl rfl h34 ?_
  refine x_dup 68 rfl dX6_init_67 rfl ?_
  obtain ⟨s35, h36, hF⟩ := b1_inv hF
  refine x_callIN (host := RX6) (As := []) (rest := [.ref (n0 + 119), .ref b]) (n' := (some (n0 + 121))) 71 121 4005 (mX0_init hst (n0 + 119) s33 (n0 + 120) s35 h36) qyX0_init rfl (by decide) wd_134 rfl rfl (by decide) (Nat.le_of_ble_eq_true rfl) (by decide) dX6_init_68 rfl rfl rfl ?_
  obtain ⟨s37, h38, hF⟩ := b1_inv hF
  refine x_putF 74 6 inX6 tyX6 tyX6_ok nmX6 rfl (by decide) wd_156 rfl rfl rfl (tX6_6) rfl rfl h38 dX6_init_71 rfl ?_
  refine x_iconst 75 (0 : Int32) dX6_init_74 rfl (by decide) ?_
  refine x_istore_n 76 1 [(1, .int (0 : Int32)), (0, .ref b)] dX6_init_75 rfl rfl (by decide) rfl ?_
  refine x_iload_n 77 0 dX6_init_76 rfl rfl ?_
  refine x_aload_n 78 1 dX6_init_77 rfl rfl ?_
  obtain ⟨r39, h40, hF⟩ := b1_inv hF
  refine x_getR 81 2 inX6 rfl (by decide) wd_152 h40 dX6_init_78 rfl ?_
  obtain ⟨v41, h42, hF⟩ := b1_inv hF
  refine x_aL 82 h42 dX6_init_81 rfl ?_
  rcases ite_inv hF with ⟨hc, hF⟩ | ⟨hc, hF⟩
  · refine x_icmp_ge 104 85 dX6_init_82 (by decide) rfl (fun _ => ?_) (fun q => absurd hc q)
    cases hF
  · refine x_icmp_ge 104 85 dX6_init_82 (by decide) rfl (fun q => absurd q hc) (fun _ => ?_)
    refine x_aload_n 86 1 dX6_init_85 rfl rfl ?_
    obtain ⟨r43, h44, hF⟩ := b1_inv hF
    refine x_getR 89 2 inX6 rfl (by decide) wd_152 h44 dX6_init_86 rfl ?_
    refine x_iload_n 90 0 dX6_init_89 rfl rfl ?_
    obtain ⟨s45, h46, hF⟩ := b1_inv hF
    refine x_newE 93 (n0 + 121) (n0 + 122) 122 4016 inX2 tyX2 tyX2_ok wd_41 wd_42 wd_18 rfl dfX2 (by decide) (by decide) dX6_init_90 rfl rfl rfl rfl rfl h46 ?_
    refine x_dup 94 rfl dX6_init_93 rfl ?_
    obtain ⟨s47, h48, hF⟩ := b1_inv hF
    refine x_callI (As := []) (rest := [.ref (n0 + 121), .int (0 : Int32), .ref r43]) (n' := (some (n0 + 128))) 97 128 4183 (mX2_init hst (n0 + 121) s45 (n0 + 122) s47 h48) qyX2_init rfl wd_43 wd_44 rfl rfl (by decide) (Nat.le_of_ble_eq_true rfl) (by decide) dX6_init_94 rfl rfl rfl ?_
    obtain ⟨s49, h50, hF⟩ := b1_inv hF
    refine x_sQ 98 h50 dX6_init_97 rfl ?_
    refine x_iinc 101 1 0 (1 : Int32) [(1, .int (1 : Int32)), (0, .ref b)] dX6_init_98 rfl rfl (by decide) (by decide) rfl ?_
    refine x_goto 76 dX6_init_101 (by decide) ?_
    refine x_iload_n 77 0 dX6_init_76 rfl rfl ?_
    refine x_aload_n 78 1 dX6_init_77 rfl rfl ?_
    obtain ⟨r51, h52, hF⟩ := b1_inv hF
    refine x_getR 81 2 inX6 rfl (by decide) wd_152 h52 dX6_init_78 rfl ?_
    obtain ⟨v53, h54, hF⟩ := b1_inv hF
    refine x_aL 82 h54 dX6_init_81 rfl ?_
    rcases ite_inv hF with ⟨hc, hF⟩ | ⟨hc, hF⟩
    · refine x_icmp_ge 104 85 dX6_init_82 (by decide) rfl (fun _ => ?_) (fun q => absurd hc q)
      cases hF
    · refine x_icmp_ge 104 85 dX6_init_82 (by decide) rfl (fun q => absurd q hc) (fun _ => ?_)
      refine x_aload_n 86 1 dX6_init_85 rfl rfl ?_
      obtain ⟨r55, h56, hF⟩ := b1_inv hF
      refine x_getR 89 2 inX6 rfl (by decide) wd_152 h56 dX6_init_86 rfl ?_
      refine x_iload_n 90 0 dX6_init_89 rfl rfl ?_
      obtain ⟨s57, h58, hF⟩ := b1_inv hF
      refine x_newE 93 (n0 + 128) (n0 + 129) 129 4194 inX2 tyX2 tyX2_ok wd_41 wd_42 wd_18 rfl dfX2 (by decide) (by decide) dX6_init_90 rfl rfl rfl rfl rfl h58 ?_
      refine x_dup 94 rfl dX6_init_93 rfl ?_
      obtain ⟨s59, h60, hF⟩ := b1_inv hF
      refine x_callI (As := []) (rest := [.ref (n0 + 128), .int (1 : Int32), .ref r55]) (n' := (some (n0 + 135))) 97 135 4361 (mX2_init hst (n0 + 128) s57 (n0 + 129) s59 h60) qyX2_init rfl wd_43 wd_44 rfl rfl (by decide) (Nat.le_of_ble_eq_true rfl) (by decide) dX6_init_94 rfl rfl rfl ?_
      obtain ⟨s61, h62, hF⟩ := b1_inv hF
      refine x_sQ 98 h62 dX6_init_97 rfl ?_
      refine x_iinc 101 1 0 (2 : Int32) [(1, .int (2 : Int32)), (0, .ref b)] dX6_init_98 rfl rfl (by decide) (by decide) rfl ?_
      refine x_goto 76 dX6_init_101 (by decide) ?_
      refine x_iload_n 77 0 dX6_init_76 rfl rfl ?_
      refine x_aload_n 78 1 dX6_init_77 rfl rfl ?_
      obtain ⟨r63, h64, hF⟩ := b1_inv hF
      refine x_getR 81 2 inX6 rfl (by decide) wd_152 h64 dX6_init_78 rfl ?_
      obtain ⟨v65, h66, hF⟩ := b1_inv hF
      refine x_aL 82 h66 dX6_init_81 rfl ?_
      rcases ite_inv hF with ⟨hc, hF⟩ | ⟨hc, hF⟩
      · refine x_icmp_ge 104 85 dX6_init_82 (by decide) rfl (fun _ => ?_) (fun q => absurd hc q)
        cases hF
        exact x_vret rfl rfl (by decide) (by decide) dX6_init_104
      · refine x_icmp_ge 104 85 dX6_init_82 (by decide) rfl (fun q => absurd q hc) (fun _ => ?_)
        cases hF
