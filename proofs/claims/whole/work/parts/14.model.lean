def rmX7_thrown : Room := { frames := 0, cells := 0, slots := 0, locals := 0 }
theorem qyX7_thrown : qY yX7_thrown cX7_thrown 1 (some .int) 0 := ⟨wd_962, wd_32, by decide +kernel, by decide +kernel, by decide +kernel⟩
theorem kX7_thrown {b : Nat} {σ : qH} {o : Int32} (h : FX7_thrown b σ = some o) : ∃ fs : List Value, True ∧ σ b = some (.inr (5, fs)) := by
  unfold FX7_thrown at h
  obtain ⟨_, h1, _⟩ := b1_inv h
  obtain ⟨fs, h2⟩ := gC_inv h1
  exact ⟨fs, trivial, h2⟩
set_option maxHeartbeats 4000000 in
set_option maxRecDepth 100000 in
theorem mX7_thrown {l : Launch} {G : qG} (hst : l.stackTraces = false) (b : Nat) (σ : qH) (n : Option Nat) (ro : Int32) (hF : FX7_thrown b σ = some ro) : qM l G yX7_thrown cX7_thrown 1 (some .int) rmX7_thrown [.ref b] σ n (.inl (some (.int ro), σ, n)) := by
  refine q_body (own := RX7) (nm := "thrown") (ls := [(0, .ref b)]) hst (by decide +kernel) rfl rfl (Nat.le_of_ble_eq_true rfl) rfl rfl rfl ?_
  unfold FX7_thrown at hF
  obtain ⟨_, hC, hF⟩ := b1_inv hF
  refine x_aload_n 1 0 dX7_thrown_0 rfl rfl ?_
  obtain ⟨v1, h2, hF⟩ := b1_inv hF
  refine x_getI 4 0 inX7 rfl (by decide) wd_925 h2 dX7_thrown_1 rfl ?_
  cases hF
  exact x_iret rfl rfl (by decide) (by decide) dX7_thrown_4
def rmX7_refused : Room := { frames := 0, cells := 0, slots := 0, locals := 0 }
theorem qyX7_refused : qY yX7_refused cX7_refused 2 (some .boolean) 1 := ⟨wd_974, wd_32, by decide +kernel, by decide +kernel, by decide +kernel⟩
theorem kX7_refused {b : Nat} {p0 : Int32} {σ : qH} {o : Int32 × qH} (h : FX7_refused b p0 σ = some o) : ∃ fs : List Value, True ∧ σ b = some (.inr (5, fs)) := by
  unfold FX7_refused at h
  obtain ⟨_, h1, _⟩ := b1_inv h
  obtain ⟨fs, h2⟩ := gC_inv h1
  exact ⟨fs, trivial, h2⟩
set_option maxHeartbeats 4000000 in
set_option maxRecDepth 100000 in
theorem mX7_refused {l : Launch} {G : qG} (hst : l.stackTraces = false) (b : Nat) (p0 : Int32) (σ : qH) (n : Option Nat) (ro : Int32) (so : qH) (hF : FX7_refused b p0 σ = some (ro, so)) : qM l G yX7_refused cX7_refused 2 (some .boolean) rmX7_refused [.ref b, .int p0] σ n (.inl (some (.int ro), so, n)) := by
  refine q_body (own := RX7) (nm := "refused") (ls := [(0, .ref b), (1, .int p0)]) hst (by decide +kernel) rfl rfl (Nat.le_of_ble_eq_true rfl) rfl rfl rfl ?_
  unfold FX7_refused at hF
  obtain ⟨_, hC, hF⟩ := b1_inv hF
  refine x_aload_n 1 0 dX7_refused_0 rfl rfl ?_
  refine x_iload_n 2 1 dX7_refused_1 rfl rfl ?_
  obtain ⟨s1, h2, hF⟩ := b1_inv hF
  refine x_put 5 0 inX7 tyX7 tyX7_ok nmX7 rfl (by decide) wd_925 rfl (tX7_0) rfl rfl h2 dX7_refused_2 rfl ?_
  refine x_iload_n 6 1 dX7_refused_5 rfl rfl ?_
  obtain ⟨x3, h4, hF⟩ := b1_inv hF
  have hJ : qX l G RX7 "refused" cX7_refused 2 (some .boolean) [] rmX7_refused 0 0 (.inl (some (.int ro), so, n)) 0 0 s1 n 14 [] [.int x3] := by
    obtain ⟨hz, hF⟩ := ite_none hF
    cases hF
    exact x_zret rfl (by rcases hz with h | h <;> rw [h] <;> rfl) rfl (by decide) (by decide) dX7_refused_14
  have hF := h4
  rcases ite_inv hF with ⟨hc, hF⟩ | ⟨hc, hF⟩
  · refine x_if_le 13 9 dX7_refused_6 (by decide) rfl (fun _ => ?_) (fun q => absurd hc q)
    refine x_iconst 14 (0 : Int32) dX7_refused_13 rfl (by decide) ?_
    have e1 := Option.some.inj hF
    subst e1
    refine x_sub [] [] rfl ?_
    exact hJ
  · refine x_if_le 13 9 dX7_refused_6 (by decide) rfl (fun q => absurd q hc) (fun _ => ?_)
    refine x_iconst 10 (1 : Int32) dX7_refused_9 rfl (by decide) ?_
    refine x_goto 14 dX7_refused_10 (by decide) ?_
    have e1 := Option.some.inj hF
    subst e1
    refine x_sub [] [] rfl ?_
    exact hJ
def rmX7_in : Room := { frames := 0, cells := 0, slots := 0, locals := 0 }
theorem qyX7_in : qY yX7_in cX7_in 6 (some .boolean) 3 := ⟨wd_970, wd_32, by decide +kernel, by decide +kernel, by decide +kernel⟩
set_option maxHeartbeats 4000000 in
set_option maxRecDepth 100000 in
theorem mX7_in {l : Launch} {G : qG} (hst : l.stackTraces = false) (p0 : Int64) (p1 : Int64) (p2 : Int64) (σ : qH) (n : Option Nat) (ro : Int32) (hF : FX7_in p0 p1 p2 σ = some ro) : qM l G yX7_in cX7_in 6 (some .boolean) rmX7_in [.long p0, .long p1, .long p2] σ n (.inl (some (.int ro), σ, n)) := by
  refine q_body (own := RX7) (nm := "in") (ls := [(0, .long p0), (2, .long p1), (4, .long p2)]) hst (by decide +kernel) rfl rfl (Nat.le_of_ble_eq_true rfl) rfl rfl rfl ?_
  unfold FX7_in at hF
  refine x_lload_n 1 0 dX7_in_0 rfl rfl ?_
  refine x_lload_n 2 1 dX7_in_1 rfl rfl ?_
  refine x_lcmp 3 dX7_in_2 rfl ?_
  obtain ⟨x1, h2, hF⟩ := b1_inv hF
  have hJ : qX l G RX7 "in" cX7_in 6 (some .boolean) [] rmX7_in 0 0 (.inl (some (.int ro), σ, n)) 0 0 σ n 18 [] [.int x1] := by
    obtain ⟨hz, hF⟩ := ite_none hF
    cases hF
    exact x_zret rfl (by rcases hz with h | h <;> rw [h] <;> rfl) rfl (by decide) (by decide) dX7_in_18
  have hF := h2
  rcases ite_inv hF with ⟨hc, hF⟩ | ⟨hc, hF⟩
  · refine x_if_lt 17 6 dX7_in_3 (by decide) rfl (fun _ => ?_) (fun q => absurd hc q)
    refine x_iconst 18 (0 : Int32) dX7_in_17 rfl (by decide) ?_
    have e1 := Option.some.inj hF
    subst e1
    refine x_sub [] [] rfl ?_
    exact hJ
  · refine x_if_lt 17 6 dX7_in_3 (by decide) rfl (fun q => absurd q hc) (fun _ => ?_)
    refine x_lload_n 7 0 dX7_in_6 rfl rfl ?_
    refine x_lload 9 2 dX7_in_7 rfl rfl ?_
    refine x_lcmp 10 dX7_in_9 rfl ?_
    rcases ite_inv hF with ⟨hc, hF⟩ | ⟨hc, hF⟩
    · refine x_if_gt 17 13 dX7_in_10 (by decide) rfl (fun _ => ?_) (fun q => absurd hc q)
      refine x_iconst 18 (0 : Int32) dX7_in_17 rfl (by decide) ?_
      have e1 := Option.some.inj hF
      subst e1
      refine x_sub [] [] rfl ?_
      exact hJ
    · refine x_if_gt 17 13 dX7_in_10 (by decide) rfl (fun q => absurd q hc) (fun _ => ?_)
      refine x_iconst 14 (1 : Int32) dX7_in_13 rfl (by decide) ?_
      refine x_goto 18 dX7_in_14 (by decide) ?_
      have e1 := Option.some.inj hF
      subst e1
      refine x_sub [] [] rfl ?_
      exact hJ
def rmX7_copyState : Room := { frames := 0, cells := 0, slots := 0, locals := 0 }
theorem qyX7_copyState : qY yX7_copyState cX7_copyState 5 (none) 4 := ⟨wd_1063, wd_32, by decide +kernel, by decide +kernel, by decide +kernel⟩
set_option maxHeartbeats 4000000 in
set_option maxRecDepth 100000 in
theorem mX7_copyState_L3 {l : Launch} {G : qG} (hst : l.stackTraces = false) (a0 : Nat) (a1 : Int32) (a2 : Nat) (a3 : Int32) (n : Option Nat) (r : qR) : ∀ (q : Nat) (y4 : Int32) (σ : qH) (so : qH), FX7_copyState_L3 a0 a1 a2 a3 q y4 σ = some so → qX l G RX7 "copyState" cX7_copyState 5 (none) [] rmX7_copyState 0 0 r 0 0 so n 29 [] [] → qX l G RX7 "copyState" cX7_copyState 5 (none) [] rmX7_copyState 0 0 r 0 0 σ n 3 [(0, .ref a0), (1, .int a1), (2, .ref a2), (3, .int a3), (4, .int y4)] [] := by
  intro q
  induction q with
  | zero => intro y4 σ so hF; rw [FX7_copyState_L3] at hF; cases hF
  | succ q ih =>
    intro y4 σ so hF hJ
    rw [FX7_copyState_L3] at hF
    refine x_iload 5 4 dX7_copyState_3 rfl rfl ?_
    refine x_sipush 8 (142 : Int32) dX7_copyState_5 rfl (by decide) ?_
    rcases ite_inv hF with ⟨hc, hF⟩ | ⟨hc, hF⟩
    · refine x_icmp_ge 29 11 dX7_copyState_8 (by decide) rfl (fun _ => ?_) (fun q => absurd hc q)
      have e1 := Option.some.inj hF
      subst e1
      refine x_sub [] [] rfl ?_
      exact hJ
    · refine x_icmp_ge 29 11 dX7_copyState_8 (by decide) rfl (fun q => absurd q hc) (fun _ => ?_)
      refine x_aload_n 12 2 dX7_copyState_11 rfl rfl ?_
      refine x_iload_n 13 3 dX7_copyState_12 rfl rfl ?_
      refine x_iload 15 4 dX7_copyState_13 rfl rfl ?_
      refine x_iadd 16 dX7_copyState_15 rfl ?_
      refine x_aload_n 17 0 dX7_copyState_16 rfl rfl ?_
      refine x_iload_n 18 1 dX7_copyState_17 rfl rfl ?_
      refine x_iload 20 4 dX7_copyState_18 rfl rfl ?_
      refine x_iadd 21 dX7_copyState_20 rfl ?_
      obtain ⟨v1, h2, hF⟩ := b1_inv hF
      refine x_aI 22 h2 dX7_copyState_21 rfl ?_
      obtain ⟨s3, h4, hF⟩ := b1_inv hF
      refine x_sI 23 h4 dX7_copyState_22 rfl ?_
      refine x_iinc 26 4 4 (y4 + (1 : Int32)) [(4, .int (y4 + (1 : Int32))), (0, .ref a0), (1, .int a1), (2, .ref a2), (3, .int a3)] dX7_copyState_23 rfl rfl rfl (by decide) rfl ?_
      refine x_goto 3 dX7_copyState_26 (by decide) ?_
      refine x_sub [(0, .ref a0), (1, .int a1), (2, .ref a2), (3, .int a3), (4, .int (y4 + (1 : Int32)))] [1, 2, 3, 4, 0] rfl ?_
      exact ih _ _ _ hF hJ
set_option maxHeartbeats 4000000 in
set_option maxRecDepth 100000 in
theorem mX7_copyState {l : Launch} {G : qG} (hst : l.stackTraces = false) (p0 : Nat) (p1 : Int32) (p2 : Nat) (p3 : Int32) (σ : qH) (n : Option Nat) (so : qH) (hF : FX7_copyState p0 p1 p2 p3 σ = some so) : qM l G yX7_copyState cX7_copyState 5 (none) rmX7_copyState [.ref p0, .int p1, .ref p2, .int p3] σ n (.inl (none, so, n)) := by
  refine q_body (own := RX7) (nm := "copyState") (ls := [(0, .ref p0), (1, .int p1), (2, .ref p2), (3, .int p3)]) hst (by decide +kernel) rfl rfl (Nat.le_of_ble_eq_true rfl) rfl rfl rfl ?_
  unfold FX7_copyState at hF
  refine x_iconst 1 (0 : Int32) dX7_copyState_0 rfl (by decide) ?_
  refine x_istore 3 4 [(4, .int (0 : Int32)), (0, .ref p0), (1, .int p1), (2, .ref p2), (3, .int p3)] dX7_copyState_1 rfl (by decide) rfl ?_
  obtain ⟨s5, h6, hF⟩ := b1_inv hF
  have hJ : qX l G RX7 "copyState" cX7_copyState 5 (none) [] rmX7_copyState 0 0 (.inl (none, so, n)) 0 0 s5 n 29 [] [] := by
    cases hF
    exact x_vret rfl rfl (by decide) (by decide) dX7_copyState_29
  refine x_sub [(0, .ref p0), (1, .int p1), (2, .ref p2), (3, .int p3), (4, .int (0 : Int32))] [1, 2, 3, 4, 0] rfl ?_
  exact mX7_copyState_L3 hst p0 p1 p2 p3 n _ qfuel (0 : Int32) σ s5 h6 hJ
def rmX7_clear : Room := { frames := 0, cells := 0, slots := 0, locals := 0 }
theorem qyX7_clear : qY yX7_clear cX7_clear 2 (none) 1 := ⟨wd_924, wd_32, by decide +kernel, by decide +kernel, by decide +kernel⟩
set_option maxHeartbeats 4000000 in
set_option maxRecDepth 100000 in
theorem mX7_clear_L2 {l : Launch} {G : qG} (hst : l.stackTraces = false) (a0 : Nat) (n : Option Nat) (r : qR) : ∀ (q : Nat) (y1 : Int32) (σ : qH) (so : qH), FX7_clear_L2 a0 q y1 σ = some so → qX l G RX7 "clear" cX7_clear 2 (none) [] rmX7_clear 0 0 r 0 0 so n 51 [(0, .ref a0)] [] → qX l G RX7 "clear" cX7_clear 2 (none) [] rmX7_clear 0 0 r 0 0 σ n 2 [(0, .ref a0), (1, .int y1)] [] := by
  intro q
  induction q with
  | zero => intro y1 σ so hF; rw [FX7_clear_L2] at hF; cases hF
  | succ q ih =>
    intro y1 σ so hF hJ
    rw [FX7_clear_L2] at hF
    refine x_iload_n 3 1 dX7_clear_2 rfl rfl ?_
    refine x_sipush 6 (142 : Int32) dX7_clear_3 rfl (by decide) ?_
    rcases ite_inv hF with ⟨hc, hF⟩ | ⟨hc, hF⟩
    · refine x_icmp_ge 51 9 dX7_clear_6 (by decide) rfl (fun _ => ?_) (fun q => absurd hc q)
      have e1 := Option.some.inj hF
      subst e1
      refine x_sub [(0, .ref a0)] [0] rfl ?_
      exact hJ
    · refine x_icmp_ge 51 9 dX7_clear_6 (by decide) rfl (fun q => absurd q hc) (fun _ => ?_)
      refine x_aload_n 10 0 dX7_clear_9 rfl rfl ?_
      refine x_iload_n 11 1 dX7_clear_10 rfl rfl ?_
      refine x_iload_n 12 1 dX7_clear_11 rfl rfl ?_
      refine x_bipush 14 (9 : Int32) dX7_clear_12 rfl (by decide) ?_
      obtain ⟨x1, h4, hF⟩ := b1_inv hF
      have hJ : qX l G RX7 "clear" cX7_clear 2 (none) [] rmX7_clear 0 0 r 0 0 σ n 44 [(0, .ref a0), (1, .int y1)] [.int x1, .int y1, .ref a0] := by
        obtain ⟨s2, h3, hF⟩ := b1_inv hF
        refine x_sI 45 h3 dX7_clear_44 rfl ?_
        refine x_iinc 48 1 1 (y1 + (1 : Int32)) [(1, .int (y1 + (1 : Int32))), (0, .ref a0)] dX7_clear_45 rfl rfl rfl (by decide) rfl ?_
        refine x_goto 2 dX7_clear_48 (by decide) ?_
        refine x_sub [(0, .ref a0), (1, .int (y1 + (1 : Int32)))] [1, 0] rfl ?_
        exact ih _ _ _ hF hJ
      have hF := h4
      rcases ite_inv hF with ⟨hc, hF⟩ | ⟨hc, hF⟩
      · refine x_icmp_lt 27 17 dX7_clear_14 (by decide) rfl (fun _ => ?_) (fun q => absurd hc q)
        refine x_iload_n 28 1 dX7_clear_27 rfl rfl ?_
        refine x_bipush 30 (27 : Int32) dX7_clear_28 rfl (by decide) ?_
        rcases ite_inv hF with ⟨hc, hF⟩ | ⟨hc, hF⟩
        · refine x_icmp_lt 43 33 dX7_clear_30 (by decide) rfl (fun _ => ?_) (fun q => absurd hc q)
          refine x_iconst 44 (0 : Int32) dX7_clear_43 rfl (by decide) ?_
          have e1 := Option.some.inj hF
          subst e1
          exact hJ
        · refine x_icmp_lt 43 33 dX7_clear_30 (by decide) rfl (fun q => absurd q hc) (fun _ => ?_)
          refine x_iload_n 34 1 dX7_clear_33 rfl rfl ?_
          refine x_bipush 36 (30 : Int32) dX7_clear_34 rfl (by decide) ?_
          rcases ite_inv hF with ⟨hc, hF⟩ | ⟨hc, hF⟩
          · refine x_icmp_ge 43 39 dX7_clear_36 (by decide) rfl (fun _ => ?_) (fun q => absurd hc q)
            refine x_iconst 44 (0 : Int32) dX7_clear_43 rfl (by decide) ?_
            have e1 := Option.some.inj hF
            subst e1
            exact hJ
          · refine x_icmp_ge 43 39 dX7_clear_36 (by decide) rfl (fun q => absurd q hc) (fun _ => ?_)
            refine x_iconst 40 (-1 : Int32) dX7_clear_39 rfl (by decide) ?_
            refine x_goto 44 dX7_clear_40 (by decide) ?_
            have e1 := Option.some.inj hF
            subst e1
            exact hJ
      · refine x_icmp_lt 27 17 dX7_clear_14 (by decide) rfl (fun q => absurd q hc) (fun _ => ?_)
        refine x_iload_n 18 1 dX7_clear_17 rfl rfl ?_
        refine x_bipush 20 (15 : Int32) dX7_clear_18 rfl (by decide) ?_
        rcases ite_inv hF with ⟨hc, hF⟩ | ⟨hc, hF⟩
        · refine x_icmp_ge 27 23 dX7_clear_20 (by decide) rfl (fun _ => ?_) (fun q => absurd hc q)
          refine x_iload_n 28 1 dX7_clear_27 rfl rfl ?_
          refine x_bipush 30 (27 : Int32) dX7_clear_28 rfl (by decide) ?_
          rcases ite_inv hF with ⟨hc, hF⟩ | ⟨hc, hF⟩
          · refine x_icmp_lt 43 33 dX7_clear_30 (by decide) rfl (fun _ => ?_) (fun q => absurd hc q)
            refine x_iconst 44 (0 : Int32) dX7_clear_43 rfl (by decide) ?_
            have e1 := Option.some.inj hF
            subst e1
            exact hJ
          · refine x_icmp_lt 43 33 dX7_clear_30 (by decide) rfl (fun q => absurd q hc) (fun _ => ?_)
            refine x_iload_n 34 1 dX7_clear_33 rfl rfl ?_
            refine x_bipush 36 (30 : Int32) dX7_clear_34 rfl (by decide) ?_
            rcases ite_inv hF with ⟨hc, hF⟩ | ⟨hc, hF⟩
            · refine x_icmp_ge 43 39 dX7_clear_36 (by decide) rfl (fun _ => ?_) (fun q => absurd hc q)
              refine x_iconst 44 (0 : Int32) dX7_clear_43 rfl (by decide) ?_
              have e1 := Option.some.inj hF
              subst e1
              exact hJ
            · refine x_icmp_ge 43 39 dX7_clear_36 (by decide) rfl (fun q => absurd q hc) (fun _ => ?_)
              refine x_iconst 40 (-1 : Int32) dX7_clear_39 rfl (by decide) ?_
              refine x_goto 44 dX7_clear_40 (by decide) ?_
              have e1 := Option.some.inj hF
              subst e1
              exact hJ
        · refine x_icmp_ge 27 23 dX7_clear_20 (by decide) rfl (fun q => absurd q hc) (fun _ => ?_)
          refine x_iconst 24 (5 : Int32) dX7_clear_23 rfl (by decide) ?_
          refine x_goto 44 dX7_clear_24 (by decide) ?_
          have e1 := Option.some.inj hF
          subst e1
          exact hJ
set_option maxHeartbeats 4000000 in
set_option maxRecDepth 100000 in
theorem mX7_clear {l : Launch} {G : qG} (hst : l.stackTraces = false) (p0 : Nat) (σ : qH) (n : Option Nat) (so : qH) (hF : FX7_clear p0 σ = some so) : qM l G yX7_clear cX7_clear 2 (none) rmX7_clear [.ref p0] σ n (.inl (none, so, n)) := by
  refine q_body (own := RX7) (nm := "clear") (ls := [(0, .ref p0)]) hst (by decide +kernel) rfl rfl (Nat.le_of_ble_eq_true rfl) rfl rfl rfl ?_
  unfold FX7_clear at hF
  refine x_iconst 1 (0 : Int32) dX7_clear_0 rfl (by decide) ?_
  refine x_istore_n 2 1 [(1, .int (0 : Int32)), (0, .ref p0)] dX7_clear_1 rfl rfl (by decide) rfl ?_
  obtain ⟨s5, h10, hF⟩ := b1_inv hF
  have hJ : qX l G RX7 "clear" cX7_clear 2 (none) [] rmX7_clear 0 0 (.inl (none, so, n)) 0 0 s5 n 51 [(0, .ref p0)] [] := by
    refine x_aload_n 52 0 dX7_clear_51 rfl rfl ?_
    refine x_bipush 54 (7 : Int32) dX7_clear_52 rfl (by decide) ?_
    refine x_iconst 55 (1 : Int32) dX7_clear_54 rfl (by decide) ?_
    obtain ⟨s6, h7, hF⟩ := b1_inv hF
    refine x_sI 56 h7 dX7_clear_55 rfl ?_
    refine x_aload_n 57 0 dX7_clear_56 rfl rfl ?_
    refine x_bipush 59 (8 : Int32) dX7_clear_57 rfl (by decide) ?_
    refine x_iconst 60 (5 : Int32) dX7_clear_59 rfl (by decide) ?_
    obtain ⟨s8, h9, hF⟩ := b1_inv hF
    refine x_sI 61 h9 dX7_clear_60 rfl ?_
    cases hF
    exact x_vret rfl rfl (by decide) (by decide) dX7_clear_61
  refine x_sub [(0, .ref p0), (1, .int (0 : Int32))] [1, 0] rfl ?_
  exact mX7_clear_L2 hst p0 n _ qfuel (0 : Int32) σ s5 h10 hJ
def rmX7_of : Room := { frames := 0, cells := 0, slots := 0, locals := 0 }
theorem qyX7_of : qY yX7_of cX7_of 3 (some .int) 3 := ⟨wd_1032, wd_32, by decide +kernel, by decide +kernel, by decide +kernel⟩
set_option maxHeartbeats 4000000 in
set_option maxRecDepth 100000 in
theorem mX7_of {l : Launch} {G : qG} (hst : l.stackTraces = false) (p0 : Nat) (p1 : Int32) (p2 : Int32) (σ : qH) (n : Option Nat) (ro : Int32) (hF : FX7_of p0 p1 p2 σ = some ro) : qM l G yX7_of cX7_of 3 (some .int) rmX7_of [.ref p0, .int p1, .int p2] σ n (.inl (some (.int ro), σ, n)) := by
  refine q_body (own := RX7) (nm := "of") (ls := [(0, .ref p0), (1, .int p1), (2, .int p2)]) hst (by decide +kernel) rfl rfl (Nat.le_of_ble_eq_true rfl) rfl rfl rfl ?_
  unfold FX7_of at hF
  refine x_aload_n 1 0 dX7_of_0 rfl rfl ?_
  refine x_bipush 3 (30 : Int32) dX7_of_1 rfl (by decide) ?_
  refine x_bipush 5 (7 : Int32) dX7_of_3 rfl (by decide) ?_
  refine x_iload_n 6 1 dX7_of_5 rfl rfl ?_
  refine x_imul 7 dX7_of_6 rfl ?_
  refine x_iadd 8 dX7_of_7 rfl ?_
  refine x_iload_n 9 2 dX7_of_8 rfl rfl ?_
  refine x_iadd 10 dX7_of_9 rfl ?_
  obtain ⟨v1, h2, hF⟩ := b1_inv hF
  refine x_aI 11 h2 dX7_of_10 rfl ?_
  cases hF
  exact x_iret rfl rfl (by decide) (by decide) dX7_of_11
def rmX7_isMeasure : Room := { frames := 1, cells := 0, slots := 0, locals := 25 }
theorem qyX7_isMeasure : qY yX7_isMeasure cX7_isMeasure 2 (some .boolean) 2 := ⟨wd_1017, wd_32, by decide +kernel, by decide +kernel, by decide +kernel⟩
set_option maxHeartbeats 4000000 in
set_option maxRecDepth 100000 in
theorem mX7_isMeasure {l : Launch} {G : qG} (hst : l.stackTraces = false) (p0 : Nat) (p1 : Int32) (σ : qH) (n : Option Nat) (ro : Int32) (hF : FX7_isMeasure p0 p1 σ = some ro) : qM l G yX7_isMeasure cX7_isMeasure 2 (some .boolean) rmX7_isMeasure [.ref p0, .int p1] σ n (.inl (some (.int ro), σ, n)) := by
  refine q_body (own := RX7) (nm := "isMeasure") (ls := [(0, .ref p0), (1, .int p1)]) hst (by decide +kernel) rfl rfl (Nat.le_of_ble_eq_true rfl) rfl rfl rfl ?_
  unfold FX7_isMeasure at hF
  refine x_iload_n 1 1 dX7_isMeasure_0 rfl rfl ?_
  refine x_i2l 2 dX7_isMeasure_1 rfl ?_
  refine x_lconst 3 (0 : Int64) dX7_isMeasure_2 rfl (by decide) ?_
  refine x_aload_n 4 0 dX7_isMeasure_3 rfl rfl ?_
  refine x_iconst 5 (0 : Int32) dX7_isMeasure_4 rfl (by decide) ?_
  obtain ⟨v1, h2, hF⟩ := b1_inv hF
  refine x_aI 6 h2 dX7_isMeasure_5 rfl ?_
  refine x_iconst 7 (1 : Int32) dX7_isMeasure_6 rfl (by decide) ?_
  refine x_isub 8 dX7_isMeasure_7 rfl ?_
  refine x_i2l 9 dX7_isMeasure_8 rfl ?_
  obtain ⟨v4, h3, hF⟩ := b1_inv hF
  refine x_callS (As := [.long (p1).toInt64, .long (0 : Int64), .long ((v1 - (1 : Int32))).toInt64]) (rest := []) 12 0 0 (mX7_in hst (p1).toInt64 (0 : Int64) ((v1 - (1 : Int32))).toInt64 σ n v4 h3) qyX7_in wd_968 wd_969 rfl rfl (by decide) (Nat.le_of_ble_eq_true rfl) (by decide) dX7_isMeasure_9 rfl rfl rfl rfl ?_
  obtain ⟨hz, hF⟩ := ite_none hF
  cases hF
  exact x_zret rfl (by rcases hz with h | h <;> rw [h] <;> rfl) rfl (by decide) (by decide) dX7_isMeasure_12
def rmX7_isSteeple : Room := { frames := 1, cells := 0, slots := 0, locals := 25 }
theorem qyX7_isSteeple : qY yX7_isSteeple cX7_isSteeple 1 (some .boolean) 1 := ⟨wd_1097, wd_32, by decide +kernel, by decide +kernel, by decide +kernel⟩
set_option maxHeartbeats 4000000 in
set_option maxRecDepth 100000 in
theorem mX7_isSteeple {l : Launch} {G : qG} (hst : l.stackTraces = false) (p0 : Int32) (σ : qH) (n : Option Nat) (ro : Int32) (hF : FX7_isSteeple p0 σ = some ro) : qM l G yX7_isSteeple cX7_isSteeple 1 (some .boolean) rmX7_isSteeple [.int p0] σ n (.inl (some (.int ro), σ, n)) := by
  refine q_body (own := RX7) (nm := "isSteeple") (ls := [(0, .int p0)]) hst (by decide +kernel) rfl rfl (Nat.le_of_ble_eq_true rfl) rfl rfl rfl ?_
  unfold FX7_isSteeple at hF
  refine x_iload_n 1 0 dX7_isSteeple_0 rfl rfl ?_
  refine x_i2l 2 dX7_isSteeple_1 rfl ?_
  refine x_lconst 3 (0 : Int64) dX7_isSteeple_2 rfl (by decide) ?_
  refine x_ldc2 6 (2 : Int64) wd_1098 dX7_isSteeple_3 rfl ?_
  obtain ⟨v2, h1, hF⟩ := b1_inv hF
  refine x_callS (As := [.long (p0).toInt64, .long (0 : Int64), .long (2 : Int64)]) (rest := []) 9 0 0 (mX7_in hst (p0).toInt64 (0 : Int64) (2 : Int64) σ n v2 h1) qyX7_in wd_968 wd_969 rfl rfl (by decide) (Nat.le_of_ble_eq_true rfl) (by decide) dX7_isSteeple_6 rfl rfl rfl rfl ?_
  obtain ⟨hz, hF⟩ := ite_none hF
  cases hF
  exact x_zret rfl (by rcases hz with h | h <;> rw [h] <;> rfl) rfl (by decide) (by decide) dX7_isSteeple_9
def rmX7_isTeller : Room := { frames := 1, cells := 0, slots := 0, locals := 25 }
theorem qyX7_isTeller : qY yX7_isTeller cX7_isTeller 1 (some .boolean) 1 := ⟨wd_1088, wd_32, by decide +kernel, by decide +kernel, by decide +kernel⟩
set_option maxHeartbeats 4000000 in
set_option maxRecDepth 100000 in
theorem mX7_isTeller {l : Launch} {G : qG} (hst : l.stackTraces = false) (p0 : Int32) (σ : qH) (n : Option Nat) (ro : Int32) (hF : FX7_isTeller p0 σ = some ro) : qM l G yX7_isTeller cX7_isTeller 1 (some .boolean) rmX7_isTeller [.int p0] σ n (.inl (some (.int ro), σ, n)) := by
  refine q_body (own := RX7) (nm := "isTeller") (ls := [(0, .int p0)]) hst (by decide +kernel) rfl rfl (Nat.le_of_ble_eq_true rfl) rfl rfl rfl ?_
  unfold FX7_isTeller at hF
  refine x_iload_n 1 0 dX7_isTeller_0 rfl rfl ?_
  refine x_i2l 2 dX7_isTeller_1 rfl ?_
  refine x_lconst 3 (0 : Int64) dX7_isTeller_2 rfl (by decide) ?_
  refine x_ldc2 6 (5 : Int64) wd_1089 dX7_isTeller_3 rfl ?_
  obtain ⟨v2, h1, hF⟩ := b1_inv hF
  refine x_callS (As := [.long (p0).toInt64, .long (0 : Int64), .long (5 : Int64)]) (rest := []) 9 0 0 (mX7_in hst (p0).toInt64 (0 : Int64) (5 : Int64) σ n v2 h1) qyX7_in wd_968 wd_969 rfl rfl (by decide) (Nat.le_of_ble_eq_true rfl) (by decide) dX7_isTeller_6 rfl rfl rfl rfl ?_
  obtain ⟨hz, hF⟩ := ite_none hF
  cases hF
  exact x_zret rfl (by rcases hz with h | h <;> rw [h] <;> rfl) rfl (by decide) (by decide) dX7_isTeller_9
def rmX7_isSetting : Room := { frames := 1, cells := 0, slots := 0, locals := 25 }
theorem qyX7_isSetting : qY yX7_isSetting cX7_isSetting 2 (some .boolean) 2 := ⟨wd_1150, wd_32, by decide +kernel, by decide +kernel, by decide +kernel⟩
set_option maxHeartbeats 4000000 in
set_option maxRecDepth 100000 in
theorem mX7_isSetting {l : Launch} {G : qG} (hst : l.stackTraces = false) (p0 : Int32) (p1 : Int32) (σ : qH) (n : Option Nat) (ro : Int32) (hF : FX7_isSetting p0 p1 σ = some ro) : qM l G yX7_isSetting cX7_isSetting 2 (some .boolean) rmX7_isSetting [.int p0, .int p1] σ n (.inl (some (.int ro), σ, n)) := by
  refine q_body (own := RX7) (nm := "isSetting") (ls := [(0, .int p0), (1, .int p1)]) hst (by decide +kernel) rfl rfl (Nat.le_of_ble_eq_true rfl) rfl rfl rfl ?_
  unfold FX7_isSetting at hF
  refine x_iload_n 1 0 dX7_isSetting_0 rfl rfl ?_
  obtain ⟨x1, h8, hF⟩ := b1_inv hF
  have hJ : qX l G RX7 "isSetting" cX7_isSetting 2 (some .boolean) [] rmX7_isSetting 0 0 (.inl (some (.int ro), σ, n)) 0 0 σ n 38 [] [.int x1] := by
    obtain ⟨hz, hF⟩ := ite_none hF
    cases hF
    exact x_zret rfl (by rcases hz with h | h <;> rw [h] <;> rfl) rfl (by decide) (by decide) dX7_isSetting_38
  have hF := h8
  rcases ite_inv hF with ⟨hc, hF⟩ | ⟨hc, hF⟩
  · refine x_if_ne 16 4 dX7_isSetting_1 (by decide) rfl (fun q => absurd hc q) (fun _ => ?_)
    refine x_iload_n 5 1 dX7_isSetting_4 rfl rfl ?_
    refine x_i2l 6 dX7_isSetting_5 rfl ?_
    refine x_lconst 7 (0 : Int64) dX7_isSetting_6 rfl (by decide) ?_
    refine x_ldc2 10 (5 : Int64) wd_1089 dX7_isSetting_7 rfl ?_
    obtain ⟨v3, h2, hF⟩ := b1_inv hF
    refine x_callS (As := [.long (p1).toInt64, .long (0 : Int64), .long (5 : Int64)]) (rest := []) 13 0 0 (mX7_in hst (p1).toInt64 (0 : Int64) (5 : Int64) σ n v3 h2) qyX7_in wd_968 wd_969 rfl rfl (by decide) (Nat.le_of_ble_eq_true rfl) (by decide) dX7_isSetting_10 rfl rfl rfl rfl ?_
    rcases ite_inv hF with ⟨hc, hF⟩ | ⟨hc, hF⟩
    · refine x_if_ne 33 16 dX7_isSetting_13 (by decide) rfl (fun q => absurd hc q) (fun _ => ?_)
      refine x_iload_n 17 0 dX7_isSetting_16 rfl rfl ?_
      refine x_iconst 18 (1 : Int32) dX7_isSetting_17 rfl (by decide) ?_
      rcases ite_inv hF with ⟨hc, hF⟩ | ⟨hc, hF⟩
      · refine x_icmp_ne 37 21 dX7_isSetting_18 (by decide) rfl (fun q => absurd hc q) (fun _ => ?_)
        refine x_iload_n 22 1 dX7_isSetting_21 rfl rfl ?_
        refine x_i2l 23 dX7_isSetting_22 rfl ?_
        refine x_lconst 24 (0 : Int64) dX7_isSetting_23 rfl (by decide) ?_
        refine x_ldc2 27 (50 : Int64) wd_1151 dX7_isSetting_24 rfl ?_
        obtain ⟨v5, h4, hF⟩ := b1_inv hF
        refine x_callS (As := [.long (p1).toInt64, .long (0 : Int64), .long (50 : Int64)]) (rest := []) 30 0 0 (mX7_in hst (p1).toInt64 (0 : Int64) (50 : Int64) σ n v5 h4) qyX7_in wd_968 wd_969 rfl rfl (by decide) (Nat.le_of_ble_eq_true rfl) (by decide) dX7_isSetting_27 rfl rfl rfl rfl ?_
        rcases ite_inv hF with ⟨hc, hF⟩ | ⟨hc, hF⟩
        · refine x_if_eq 37 33 dX7_isSetting_30 (by decide) rfl (fun _ => ?_) (fun q => absurd hc q)
          refine x_iconst 38 (0 : Int32) dX7_isSetting_37 rfl (by decide) ?_
          have e1 := Option.some.inj hF
          subst e1
          refine x_sub [] [] rfl ?_
          exact hJ
        · refine x_if_eq 37 33 dX7_isSetting_30 (by decide) rfl (fun q => absurd q hc) (fun _ => ?_)
          refine x_iconst 34 (1 : Int32) dX7_isSetting_33 rfl (by decide) ?_
          refine x_goto 38 dX7_isSetting_34 (by decide) ?_
          have e1 := Option.some.inj hF
          subst e1
          refine x_sub [] [] rfl ?_
          exact hJ
      · refine x_icmp_ne 37 21 dX7_isSetting_18 (by decide) rfl (fun _ => ?_) (fun q => absurd q hc)
        refine x_iconst 38 (0 : Int32) dX7_isSetting_37 rfl (by decide) ?_
        have e1 := Option.some.inj hF
        subst e1
        refine x_sub [] [] rfl ?_
        exact hJ
    · refine x_if_ne 33 16 dX7_isSetting_13 (by decide) rfl (fun _ => ?_) (fun q => absurd q hc)
      refine x_iconst 34 (1 : Int32) dX7_isSetting_33 rfl (by decide) ?_
      refine x_goto 38 dX7_isSetting_34 (by decide) ?_
      have e1 := Option.some.inj hF
      subst e1
      refine x_sub [] [] rfl ?_
      exact hJ
  · refine x_if_ne 16 4 dX7_isSetting_1 (by decide) rfl (fun _ => ?_) (fun q => absurd q hc)
    refine x_iload_n 17 0 dX7_isSetting_16 rfl rfl ?_
    refine x_iconst 18 (1 : Int32) dX7_isSetting_17 rfl (by decide) ?_
    rcases ite_inv hF with ⟨hc, hF⟩ | ⟨hc, hF⟩
    · refine x_icmp_ne 37 21 dX7_isSetting_18 (by decide) rfl (fun q => absurd hc q) (fun _ => ?_)
      refine x_iload_n 22 1 dX7_isSetting_21 rfl rfl ?_
      refine x_i2l 23 dX7_isSetting_22 rfl ?_
      refine x_lconst 24 (0 : Int64) dX7_isSetting_23 rfl (by decide) ?_
      refine x_ldc2 27 (50 : Int64) wd_1151 dX7_isSetting_24 rfl ?_
      obtain ⟨v7, h6, hF⟩ := b1_inv hF
      refine x_callS (As := [.long (p1).toInt64, .long (0 : Int64), .long (50 : Int64)]) (rest := []) 30 0 0 (mX7_in hst (p1).toInt64 (0 : Int64) (50 : Int64) σ n v7 h6) qyX7_in wd_968 wd_969 rfl rfl (by decide) (Nat.le_of_ble_eq_true rfl) (by decide) dX7_isSetting_27 rfl rfl rfl rfl ?_
      rcases ite_inv hF with ⟨hc, hF⟩ | ⟨hc, hF⟩
      · refine x_if_eq 37 33 dX7_isSetting_30 (by decide) rfl (fun _ => ?_) (fun q => absurd hc q)
        refine x_iconst 38 (0 : Int32) dX7_isSetting_37 rfl (by decide) ?_
        have e1 := Option.some.inj hF
        subst e1
        refine x_sub [] [] rfl ?_
        exact hJ
      · refine x_if_eq 37 33 dX7_isSetting_30 (by decide) rfl (fun q => absurd q hc) (fun _ => ?_)
        refine x_iconst 34 (1 : Int32) dX7_isSetting_33 rfl (by decide) ?_
        refine x_goto 38 dX7_isSetting_34 (by decide) ?_
        have e1 := Option.some.inj hF
        subst e1
        refine x_sub [] [] rfl ?_
        exact hJ
    · refine x_icmp_ne 37 21 dX7_isSetting_18 (by decide) rfl (fun _ => ?_) (fun q => absurd q hc)
      refine x_iconst 38 (0 : Int32) dX7_isSetting_37 rfl (by decide) ?_
      have e1 := Option.some.inj hF
      subst e1
      refine x_sub [] [] rfl ?_
      exact hJ
def rmX7_areFine : Room := { frames := 1, cells := 0, slots := 0, locals := 25 }
theorem qyX7_areFine : qY yX7_areFine cX7_areFine 5 (some .boolean) 5 := ⟨wd_1002, wd_32, by decide +kernel, by decide +kernel, by decide +kernel⟩
set_option maxHeartbeats 4000000 in
set_option maxRecDepth 100000 in
theorem mX7_areFine {l : Launch} {G : qG} (hst : l.stackTraces = false) (p0 : Int32) (p1 : Int32) (p2 : Int32) (p3 : Int32) (p4 : Int32) (σ : qH) (n : Option Nat) (ro : Int32) (hF : FX7_areFine p0 p1 p2 p3 p4 σ = some ro) : qM l G yX7_areFine cX7_areFine 5 (some .boolean) rmX7_areFine [.int p0, .int p1, .int p2, .int p3, .int p4] σ n (.inl (some (.int ro), σ, n)) := by
  refine q_body (own := RX7) (nm := "areFine") (ls := [(0, .int p0), (1, .int p1), (2, .int p2), (3, .int p3), (4, .int p4)]) hst (by decide +kernel) rfl rfl (Nat.le_of_ble_eq_true rfl) rfl rfl rfl ?_
  unfold FX7_areFine at hF
  refine x_iload_n 1 0 dX7_areFine_0 rfl rfl ?_
  rcases ite_inv hF with ⟨h11, hF⟩ | ⟨h11, hF⟩
  · have hK : qX l G RX7 "areFine" cX7_areFine 5 (some .boolean) [] rmX7_areFine 0 0 (.inl (some (.int ro), σ, n)) 0 0 σ n 28 [(0, .int p0), (1, .int p1), (2, .int p2), (3, .int p3), (4, .int p4)] [] := by
      refine x_iload_n 29 1 dX7_areFine_28 rfl rfl ?_
      refine x_i2l 30 dX7_areFine_29 rfl ?_
      refine x_lconst 31 (1 : Int64) dX7_areFine_30 rfl (by decide) ?_
      refine x_ldc2 34 (20 : Int64) wd_1003 dX7_areFine_31 rfl ?_
      obtain ⟨v2, h1, hF⟩ := b1_inv hF
      refine x_callS (As := [.long (p1).toInt64, .long (1 : Int64), .long (20 : Int64)]) (rest := []) 37 0 0 (mX7_in hst (p1).toInt64 (1 : Int64) (20 : Int64) σ n v2 h1) qyX7_in wd_968 wd_969 rfl rfl (by decide) (Nat.le_of_ble_eq_true rfl) (by decide) dX7_areFine_34 rfl rfl rfl rfl ?_
      obtain ⟨x3, h10, hF⟩ := b1_inv hF
      have hJ : qX l G RX7 "areFine" cX7_areFine 5 (some .boolean) [] rmX7_areFine 0 0 (.inl (some (.int ro), σ, n)) 0 0 σ n 82 [] [.int x3] := by
        obtain ⟨hz, hF⟩ := ite_none hF
        cases hF
        exact x_zret rfl (by rcases hz with h | h <;> rw [h] <;> rfl) rfl (by decide) (by decide) dX7_areFine_82
      have hF := h10
      rcases ite_inv hF with ⟨hc, hF⟩ | ⟨hc, hF⟩
      · refine x_if_eq 81 40 dX7_areFine_37 (by decide) rfl (fun _ => ?_) (fun q => absurd hc q)
        refine x_iconst 82 (0 : Int32) dX7_areFine_81 rfl (by decide) ?_
        have e1 := Option.some.inj hF
        subst e1
        refine x_sub [] [] rfl ?_
        exact hJ
      · refine x_if_eq 81 40 dX7_areFine_37 (by decide) rfl (fun q => absurd q hc) (fun _ => ?_)
        refine x_iload_n 41 2 dX7_areFine_40 rfl rfl ?_
        refine x_i2l 42 dX7_areFine_41 rfl ?_
        refine x_lconst 43 (1 : Int64) dX7_areFine_42 rfl (by decide) ?_
        refine x_ldc2 46 (40 : Int64) wd_1004 dX7_areFine_43 rfl ?_
        obtain ⟨v5, h4, hF⟩ := b1_inv hF
        refine x_callS (As := [.long (p2).toInt64, .long (1 : Int64), .long (40 : Int64)]) (rest := []) 49 0 0 (mX7_in hst (p2).toInt64 (1 : Int64) (40 : Int64) σ n v5 h4) qyX7_in wd_968 wd_969 rfl rfl (by decide) (Nat.le_of_ble_eq_true rfl) (by decide) dX7_areFine_46 rfl rfl rfl rfl ?_
        rcases ite_inv hF with ⟨hc, hF⟩ | ⟨hc, hF⟩
        · refine x_if_eq 81 52 dX7_areFine_49 (by decide) rfl (fun _ => ?_) (fun q => absurd hc q)
          refine x_iconst 82 (0 : Int32) dX7_areFine_81 rfl (by decide) ?_
          have e1 := Option.some.inj hF
          subst e1
          refine x_sub [] [] rfl ?_
          exact hJ
        · refine x_if_eq 81 52 dX7_areFine_49 (by decide) rfl (fun q => absurd q hc) (fun _ => ?_)
          refine x_iload_n 53 3 dX7_areFine_52 rfl rfl ?_
          refine x_i2l 54 dX7_areFine_53 rfl ?_
          refine x_lconst 55 (1 : Int64) dX7_areFine_54 rfl (by decide) ?_
          refine x_ldc2 58 (400 : Int64) wd_1005 dX7_areFine_55 rfl ?_
          obtain ⟨v7, h6, hF⟩ := b1_inv hF
          refine x_callS (As := [.long (p3).toInt64, .long (1 : Int64), .long (400 : Int64)]) (rest := []) 61 0 0 (mX7_in hst (p3).toInt64 (1 : Int64) (400 : Int64) σ n v7 h6) qyX7_in wd_968 wd_969 rfl rfl (by decide) (Nat.le_of_ble_eq_true rfl) (by decide) dX7_areFine_58 rfl rfl rfl rfl ?_
          rcases ite_inv hF with ⟨hc, hF⟩ | ⟨hc, hF⟩
          · refine x_if_eq 81 64 dX7_areFine_61 (by decide) rfl (fun _ => ?_) (fun q => absurd hc q)
            refine x_iconst 82 (0 : Int32) dX7_areFine_81 rfl (by decide) ?_
            have e1 := Option.some.inj hF
            subst e1
            refine x_sub [] [] rfl ?_
            exact hJ
          · refine x_if_eq 81 64 dX7_areFine_61 (by decide) rfl (fun q => absurd q hc) (fun _ => ?_)
            refine x_iload 66 4 dX7_areFine_64 rfl rfl ?_
            refine x_i2l 67 dX7_areFine_66 rfl ?_
            refine x_lconst 68 (0 : Int64) dX7_areFine_67 rfl (by decide) ?_
            refine x_ldc2 71 (20 : Int64) wd_1003 dX7_areFine_68 rfl ?_
            obtain ⟨v9, h8, hF⟩ := b1_inv hF
            refine x_callS (As := [.long (p4).toInt64, .long (0 : Int64), .long (20 : Int64)]) (rest := []) 74 0 0 (mX7_in hst (p4).toInt64 (0 : Int64) (20 : Int64) σ n v9 h8) qyX7_in wd_968 wd_969 rfl rfl (by decide) (Nat.le_of_ble_eq_true rfl) (by decide) dX7_areFine_71 rfl rfl rfl rfl ?_
            rcases ite_inv hF with ⟨hc, hF⟩ | ⟨hc, hF⟩
            · refine x_if_eq 81 77 dX7_areFine_74 (by decide) rfl (fun _ => ?_) (fun q => absurd hc q)
              refine x_iconst 82 (0 : Int32) dX7_areFine_81 rfl (by decide) ?_
              have e1 := Option.some.inj hF
              subst e1
              refine x_sub [] [] rfl ?_
              exact hJ
            · refine x_if_eq 81 77 dX7_areFine_74 (by decide) rfl (fun q => absurd q hc) (fun _ => ?_)
              refine x_iconst 78 (1 : Int32) dX7_areFine_77 rfl (by decide) ?_
              refine x_goto 82 dX7_areFine_78 (by decide) ?_
              have e1 := Option.some.inj hF
              subst e1
              refine x_sub [] [] rfl ?_
              exact hJ
    · exact x_tableIn (27) 28 dX7_areFine_1 (by rw [h11]; decide) (by rw [h11]; decide) (by rw [h11]; decide) (by decide) hK
  rcases ite_inv hF with ⟨h22, hF⟩ | ⟨h22, hF⟩
  · have hK : qX l G RX7 "areFine" cX7_areFine 5 (some .boolean) [] rmX7_areFine 0 0 (.inl (some (.int ro), σ, n)) 0 0 σ n 83 [(0, .int p0), (1, .int p1), (2, .int p2), (3, .int p3), (4, .int p4)] [] := by
      refine x_iload_n 84 1 dX7_areFine_83 rfl rfl ?_
      refine x_i2l 85 dX7_areFine_84 rfl ?_
      refine x_lconst 86 (1 : Int64) dX7_areFine_85 rfl (by decide) ?_
      refine x_ldc2 89 (9 : Int64) wd_999 dX7_areFine_86 rfl ?_
      obtain ⟨v13, h12, hF⟩ := b1_inv hF
      refine x_callS (As := [.long (p1).toInt64, .long (1 : Int64), .long (9 : Int64)]) (rest := []) 92 0 0 (mX7_in hst (p1).toInt64 (1 : Int64) (9 : Int64) σ n v13 h12) qyX7_in wd_968 wd_969 rfl rfl (by decide) (Nat.le_of_ble_eq_true rfl) (by decide) dX7_areFine_89 rfl rfl rfl rfl ?_
      obtain ⟨x14, h21, hF⟩ := b1_inv hF
      have hJ : qX l G RX7 "areFine" cX7_areFine 5 (some .boolean) [] rmX7_areFine 0 0 (.inl (some (.int ro), σ, n)) 0 0 σ n 137 [] [.int x14] := by
        obtain ⟨hz, hF⟩ := ite_none hF
        cases hF
        exact x_zret rfl (by rcases hz with h | h <;> rw [h] <;> rfl) rfl (by decide) (by decide) dX7_areFine_137
      have hF := h21
      rcases ite_inv hF with ⟨hc, hF⟩ | ⟨hc, hF⟩
      · refine x_if_eq 136 95 dX7_areFine_92 (by decide) rfl (fun _ => ?_) (fun q => absurd hc q)
        refine x_iconst 137 (0 : Int32) dX7_areFine_136 rfl (by decide) ?_
        have e1 := Option.some.inj hF
        subst e1
        refine x_sub [] [] rfl ?_
        exact hJ
      · refine x_if_eq 136 95 dX7_areFine_92 (by decide) rfl (fun q => absurd q hc) (fun _ => ?_)
        refine x_iload_n 96 2 dX7_areFine_95 rfl rfl ?_
        refine x_i2l 97 dX7_areFine_96 rfl ?_
        refine x_lconst 98 (1 : Int64) dX7_areFine_97 rfl (by decide) ?_
        refine x_ldc2 101 (60 : Int64) wd_1006 dX7_areFine_98 rfl ?_
        obtain ⟨v16, h15, hF⟩ := b1_inv hF
        refine x_callS (As := [.long (p2).toInt64, .long (1 : Int64), .long (60 : Int64)]) (rest := []) 104 0 0 (mX7_in hst (p2).toInt64 (1 : Int64) (60 : Int64) σ n v16 h15) qyX7_in wd_968 wd_969 rfl rfl (by decide) (Nat.le_of_ble_eq_true rfl) (by decide) dX7_areFine_101 rfl rfl rfl rfl ?_
        rcases ite_inv hF with ⟨hc, hF⟩ | ⟨hc, hF⟩
        · refine x_if_eq 136 107 dX7_areFine_104 (by decide) rfl (fun _ => ?_) (fun q => absurd hc q)
          refine x_iconst 137 (0 : Int32) dX7_areFine_136 rfl (by decide) ?_
          have e1 := Option.some.inj hF
          subst e1
          refine x_sub [] [] rfl ?_
          exact hJ
        · refine x_if_eq 136 107 dX7_areFine_104 (by decide) rfl (fun q => absurd q hc) (fun _ => ?_)
          refine x_iload_n 108 3 dX7_areFine_107 rfl rfl ?_
          refine x_i2l 109 dX7_areFine_108 rfl ?_
          refine x_lconst 110 (1 : Int64) dX7_areFine_109 rfl (by decide) ?_
          refine x_ldc2 113 (400 : Int64) wd_1005 dX7_areFine_110 rfl ?_
          obtain ⟨v18, h17, hF⟩ := b1_inv hF
          refine x_callS (As := [.long (p3).toInt64, .long (1 : Int64), .long (400 : Int64)]) (rest := []) 116 0 0 (mX7_in hst (p3).toInt64 (1 : Int64) (400 : Int64) σ n v18 h17) qyX7_in wd_968 wd_969 rfl rfl (by decide) (Nat.le_of_ble_eq_true rfl) (by decide) dX7_areFine_113 rfl rfl rfl rfl ?_
          rcases ite_inv hF with ⟨hc, hF⟩ | ⟨hc, hF⟩
          · refine x_if_eq 136 119 dX7_areFine_116 (by decide) rfl (fun _ => ?_) (fun q => absurd hc q)
            refine x_iconst 137 (0 : Int32) dX7_areFine_136 rfl (by decide) ?_
            have e1 := Option.some.inj hF
            subst e1
            refine x_sub [] [] rfl ?_
            exact hJ
          · refine x_if_eq 136 119 dX7_areFine_116 (by decide) rfl (fun q => absurd q hc) (fun _ => ?_)
            refine x_iload 121 4 dX7_areFine_119 rfl rfl ?_
            refine x_i2l 122 dX7_areFine_121 rfl ?_
            refine x_lconst 123 (0 : Int64) dX7_areFine_122 rfl (by decide) ?_
            refine x_ldc2 126 (20 : Int64) wd_1003 dX7_areFine_123 rfl ?_
            obtain ⟨v20, h19, hF⟩ := b1_inv hF
            refine x_callS (As := [.long (p4).toInt64, .long (0 : Int64), .long (20 : Int64)]) (rest := []) 129 0 0 (mX7_in hst (p4).toInt64 (0 : Int64) (20 : Int64) σ n v20 h19) qyX7_in wd_968 wd_969 rfl rfl (by decide) (Nat.le_of_ble_eq_true rfl) (by decide) dX7_areFine_126 rfl rfl rfl rfl ?_
            rcases ite_inv hF with ⟨hc, hF⟩ | ⟨hc, hF⟩
            · refine x_if_eq 136 132 dX7_areFine_129 (by decide) rfl (fun _ => ?_) (fun q => absurd hc q)
              refine x_iconst 137 (0 : Int32) dX7_areFine_136 rfl (by decide) ?_
              have e1 := Option.some.inj hF
              subst e1
              refine x_sub [] [] rfl ?_
              exact hJ
            · refine x_if_eq 136 132 dX7_areFine_129 (by decide) rfl (fun q => absurd q hc) (fun _ => ?_)
              refine x_iconst 133 (1 : Int32) dX7_areFine_132 rfl (by decide) ?_
              refine x_goto 137 dX7_areFine_133 (by decide) ?_
              have e1 := Option.some.inj hF
              subst e1
              refine x_sub [] [] rfl ?_
              exact hJ
    · exact x_tableIn (82) 83 dX7_areFine_1 (by rw [h22]; decide) (by rw [h22]; decide) (by rw [h22]; decide) (by decide) hK
  rcases ite_inv hF with ⟨h29, hF⟩ | ⟨h29, hF⟩
  · have hK : qX l G RX7 "areFine" cX7_areFine 5 (some .boolean) [] rmX7_areFine 0 0 (.inl (some (.int ro), σ, n)) 0 0 σ n 138 [(0, .int p0), (1, .int p1), (2, .int p2), (3, .int p3), (4, .int p4)] [] := by
      refine x_iload_n 139 1 dX7_areFine_138 rfl rfl ?_
      refine x_i2l 140 dX7_areFine_139 rfl ?_
      refine x_lconst 141 (1 : Int64) dX7_areFine_140 rfl (by decide) ?_
      refine x_ldc2 144 (999 : Int64) wd_1007 dX7_areFine_141 rfl ?_
      obtain ⟨v24, h23, hF⟩ := b1_inv hF
      refine x_callS (As := [.long (p1).toInt64, .long (1 : Int64), .long (999 : Int64)]) (rest := []) 147 0 0 (mX7_in hst (p1).toInt64 (1 : Int64) (999 : Int64) σ n v24 h23) qyX7_in wd_968 wd_969 rfl rfl (by decide) (Nat.le_of_ble_eq_true rfl) (by decide) dX7_areFine_144 rfl rfl rfl rfl ?_
      obtain ⟨x25, h28, hF⟩ := b1_inv hF
      have hJ : qX l G RX7 "areFine" cX7_areFine 5 (some .boolean) [] rmX7_areFine 0 0 (.inl (some (.int ro), σ, n)) 0 0 σ n 177 [] [.int x25] := by
        obtain ⟨hz, hF⟩ := ite_none hF
        cases hF
        exact x_zret rfl (by rcases hz with h | h <;> rw [h] <;> rfl) rfl (by decide) (by decide) dX7_areFine_177
      have hF := h28
      rcases ite_inv hF with ⟨hc, hF⟩ | ⟨hc, hF⟩
      · refine x_if_eq 176 150 dX7_areFine_147 (by decide) rfl (fun _ => ?_) (fun q => absurd hc q)
        refine x_iconst 177 (0 : Int32) dX7_areFine_176 rfl (by decide) ?_
        have e1 := Option.some.inj hF
        subst e1
        refine x_sub [] [] rfl ?_
        exact hJ
      · refine x_if_eq 176 150 dX7_areFine_147 (by decide) rfl (fun q => absurd q hc) (fun _ => ?_)
        refine x_iload_n 151 2 dX7_areFine_150 rfl rfl ?_
        refine x_i2l 152 dX7_areFine_151 rfl ?_
        refine x_iload_n 153 1 dX7_areFine_152 rfl rfl ?_
        refine x_i2l 154 dX7_areFine_153 rfl ?_
        refine x_ldc2 157 (999 : Int64) wd_1007 dX7_areFine_154 rfl ?_
        obtain ⟨v27, h26, hF⟩ := b1_inv hF
        refine x_callS (As := [.long (p2).toInt64, .long (p1).toInt64, .long (999 : Int64)]) (rest := []) 160 0 0 (mX7_in hst (p2).toInt64 (p1).toInt64 (999 : Int64) σ n v27 h26) qyX7_in wd_968 wd_969 rfl rfl (by decide) (Nat.le_of_ble_eq_true rfl) (by decide) dX7_areFine_157 rfl rfl rfl rfl ?_
        rcases ite_inv hF with ⟨hc, hF⟩ | ⟨hc, hF⟩
        · refine x_if_eq 176 163 dX7_areFine_160 (by decide) rfl (fun _ => ?_) (fun q => absurd hc q)
          refine x_iconst 177 (0 : Int32) dX7_areFine_176 rfl (by decide) ?_
          have e1 := Option.some.inj hF
          subst e1
          refine x_sub [] [] rfl ?_
          exact hJ
        · refine x_if_eq 176 163 dX7_areFine_160 (by decide) rfl (fun q => absurd q hc) (fun _ => ?_)
          refine x_iload_n 164 3 dX7_areFine_163 rfl rfl ?_
          rcases ite_inv hF with ⟨hc, hF⟩ | ⟨hc, hF⟩
          · refine x_if_ne 176 167 dX7_areFine_164 (by decide) rfl (fun q => absurd hc q) (fun _ => ?_)
            refine x_iload 169 4 dX7_areFine_167 rfl rfl ?_
            rcases ite_inv hF with ⟨hc, hF⟩ | ⟨hc, hF⟩
            · refine x_if_ne 176 172 dX7_areFine_169 (by decide) rfl (fun q => absurd hc q) (fun _ => ?_)
              refine x_iconst 173 (1 : Int32) dX7_areFine_172 rfl (by decide) ?_
              refine x_goto 177 dX7_areFine_173 (by decide) ?_
              have e1 := Option.some.inj hF
              subst e1
              refine x_sub [] [] rfl ?_
              exact hJ
            · refine x_if_ne 176 172 dX7_areFine_169 (by decide) rfl (fun _ => ?_) (fun q => absurd q hc)
              refine x_iconst 177 (0 : Int32) dX7_areFine_176 rfl (by decide) ?_
              have e1 := Option.some.inj hF
              subst e1
              refine x_sub [] [] rfl ?_
              exact hJ
          · refine x_if_ne 176 167 dX7_areFine_164 (by decide) rfl (fun _ => ?_) (fun q => absurd q hc)
            refine x_iconst 177 (0 : Int32) dX7_areFine_176 rfl (by decide) ?_
            have e1 := Option.some.inj hF
            subst e1
            refine x_sub [] [] rfl ?_
            exact hJ
    · exact x_tableIn (137) 138 dX7_areFine_1 (by rw [h29]; decide) (by rw [h29]; decide) (by rw [h29]; decide) (by decide) hK
  have hK : qX l G RX7 "areFine" cX7_areFine 5 (some .boolean) [] rmX7_areFine 0 0 (.inl (some (.int ro), σ, n)) 0 0 σ n 178 [(0, .int p0), (1, .int p1), (2, .int p2), (3, .int p3), (4, .int p4)] [] := by
    refine x_iconst 179 (0 : Int32) dX7_areFine_178 rfl (by decide) ?_
    cases hF
    exact x_zret rfl rfl rfl (by decide) (by decide) dX7_areFine_179
  have h11z := i32_ne (z := 0) h11 (by decide)
  have h22z := i32_ne (z := 1) h22 (by decide)
  have h29z := i32_ne (z := 2) h29 (by decide)
  exact x_tableOut 178 dX7_areFine_1 (by omega) (by decide) hK
def rmX7_bounded : Room := { frames := 0, cells := 0, slots := 0, locals := 0 }
theorem qyX7_bounded : qY yX7_bounded cX7_bounded 1 (some .int) 1 := ⟨wd_1044, wd_32, by decide +kernel, by decide +kernel, by decide +kernel⟩
set_option maxHeartbeats 4000000 in
set_option maxRecDepth 100000 in
theorem mX7_bounded {l : Launch} {G : qG} (hst : l.stackTraces = false) (p0 : Int32) (σ : qH) (n : Option Nat) (ro : Int32) (hF : FX7_bounded p0 σ = some ro) : qM l G yX7_bounded cX7_bounded 1 (some .int) rmX7_bounded [.int p0] σ n (.inl (some (.int ro), σ, n)) := by
  refine q_body (own := RX7) (nm := "bounded") (ls := [(0, .int p0)]) hst (by decide +kernel) rfl rfl (Nat.le_of_ble_eq_true rfl) rfl rfl rfl ?_
  unfold FX7_bounded at hF
  refine x_iload_n 1 0 dX7_bounded_0 rfl rfl ?_
  refine x_iconst 2 (1 : Int32) dX7_bounded_1 rfl (by decide) ?_
  obtain ⟨x1, h2, hF⟩ := b1_inv hF
  have hJ : qX l G RX7 "bounded" cX7_bounded 1 (some .int) [] rmX7_bounded 0 0 (.inl (some (.int ro), σ, n)) 0 0 σ n 23 [] [.int x1] := by
    cases hF
    exact x_iret rfl rfl (by decide) (by decide) dX7_bounded_23
  have hF := h2
  rcases ite_inv hF with ⟨hc, hF⟩ | ⟨hc, hF⟩
  · refine x_icmp_ge 9 5 dX7_bounded_2 (by decide) rfl (fun _ => ?_) (fun q => absurd hc q)
    refine x_iload_n 10 0 dX7_bounded_9 rfl rfl ?_
    refine x_sipush 13 (999 : Int32) dX7_bounded_10 rfl (by decide) ?_
    rcases ite_inv hF with ⟨hc, hF⟩ | ⟨hc, hF⟩
    · refine x_icmp_le 22 16 dX7_bounded_13 (by decide) rfl (fun _ => ?_) (fun q => absurd hc q)
      refine x_iload_n 23 0 dX7_bounded_22 rfl rfl ?_
      have e1 := Option.some.inj hF
      subst e1
      refine x_sub [] [] rfl ?_
      exact hJ
    · refine x_icmp_le 22 16 dX7_bounded_13 (by decide) rfl (fun q => absurd q hc) (fun _ => ?_)
      refine x_sipush 19 (999 : Int32) dX7_bounded_16 rfl (by decide) ?_
      refine x_goto 23 dX7_bounded_19 (by decide) ?_
      have e1 := Option.some.inj hF
      subst e1
      refine x_sub [] [] rfl ?_
      exact hJ
  · refine x_icmp_ge 9 5 dX7_bounded_2 (by decide) rfl (fun q => absurd q hc) (fun _ => ?_)
    refine x_iconst 6 (1 : Int32) dX7_bounded_5 rfl (by decide) ?_
    refine x_goto 23 dX7_bounded_6 (by decide) ?_
    have e1 := Option.some.inj hF
    subst e1
    refine x_sub [] [] rfl ?_
    exact hJ
def rmX7_least : Room := { frames := 1, cells := 0, slots := 0, locals := 22 }
theorem qyX7_least : qY yX7_least cX7_least 4 (some .int) 2 := ⟨wd_1041, wd_32, by decide +kernel, by decide +kernel, by decide +kernel⟩
set_option maxHeartbeats 4000000 in
set_option maxRecDepth 100000 in
theorem mX7_least {l : Launch} {G : qG} (hst : l.stackTraces = false) (p0 : Nat) (p1 : Int32) (σ : qH) (n : Option Nat) (ro : Int32) (hF : FX7_least p0 p1 σ = some ro) : qM l G yX7_least cX7_least 4 (some .int) rmX7_least [.ref p0, .int p1] σ n (.inl (some (.int ro), σ, n)) := by
  refine q_body (own := RX7) (nm := "least") (ls := [(0, .ref p0), (1, .int p1)]) hst (by decide +kernel) rfl rfl (Nat.le_of_ble_eq_true rfl) rfl rfl rfl ?_
  unfold FX7_least at hF
  refine x_aload_n 1 0 dX7_least_0 rfl rfl ?_
  refine x_iload_n 2 1 dX7_least_1 rfl rfl ?_
  refine x_iconst 3 (3 : Int32) dX7_least_2 rfl (by decide) ?_
  obtain ⟨v2, h1, hF⟩ := b1_inv hF
  refine x_callS (As := [.ref p0, .int p1, .int (3 : Int32)]) (rest := []) 6 0 0 (mX7_of hst p0 p1 (3 : Int32) σ n v2 h1) qyX7_of wd_1030 wd_1031 rfl rfl (by decide) (Nat.le_of_ble_eq_true rfl) (by decide) dX7_least_3 rfl rfl rfl rfl ?_
  refine x_istore_n 7 2 [(2, .int v2), (0, .ref p0), (1, .int p1)] dX7_least_6 rfl rfl (by decide) rfl ?_
  refine x_aload_n 8 1 dX7_least_7 rfl rfl ?_
  refine x_iload_n 9 2 dX7_least_8 rfl rfl ?_
  refine x_iconst 10 (5 : Int32) dX7_least_9 rfl (by decide) ?_
  obtain ⟨v4, h3, hF⟩ := b1_inv hF
  refine x_callS (As := [.ref p0, .int p1, .int (5 : Int32)]) (rest := []) 13 0 0 (mX7_of hst p0 p1 (5 : Int32) σ n v4 h3) qyX7_of wd_1030 wd_1031 rfl rfl (by decide) (Nat.le_of_ble_eq_true rfl) (by decide) dX7_least_10 rfl rfl rfl rfl ?_
  refine x_aload_n 14 1 dX7_least_13 rfl rfl ?_
  refine x_iload_n 15 2 dX7_least_14 rfl rfl ?_
  refine x_bipush 17 (6 : Int32) dX7_least_15 rfl (by decide) ?_
  obtain ⟨v6, h5, hF⟩ := b1_inv hF
  refine x_callS (As := [.ref p0, .int p1, .int (6 : Int32)]) (rest := [.int v4]) 20 0 0 (mX7_of hst p0 p1 (6 : Int32) σ n v6 h5) qyX7_of wd_1030 wd_1031 rfl rfl (by decide) (Nat.le_of_ble_eq_true rfl) (by decide) dX7_least_17 rfl rfl rfl rfl ?_
  refine x_isub 21 dX7_least_20 rfl ?_
  refine x_istore_n 22 3 [(3, .int (v4 - v6)), (2, .int v2), (0, .ref p0), (1, .int p1)] dX7_least_21 rfl rfl (by decide) rfl ?_
  refine x_aload_n 23 2 dX7_least_22 rfl rfl ?_
  refine x_iload_n 24 3 dX7_least_23 rfl rfl ?_
  refine x_iconst 25 (2 : Int32) dX7_least_24 rfl (by decide) ?_
  obtain ⟨v8, h7, hF⟩ := b1_inv hF
  refine x_callS (As := [.ref p0, .int p1, .int (2 : Int32)]) (rest := []) 28 0 0 (mX7_of hst p0 p1 (2 : Int32) σ n v8 h7) qyX7_of wd_1030 wd_1031 rfl rfl (by decide) (Nat.le_of_ble_eq_true rfl) (by decide) dX7_least_25 rfl rfl rfl rfl ?_
  refine x_iconst 29 (2 : Int32) dX7_least_28 rfl (by decide) ?_
  obtain ⟨x9, h15, hF⟩ := b1_inv hF
  have hJ : qX l G RX7 "least" cX7_least 4 (some .int) [] rmX7_least 0 0 (.inl (some (.int ro), σ, n)) 0 0 σ n 58 [] [.int x9] := by
    cases hF
    exact x_iret rfl rfl (by decide) (by decide) dX7_least_58
  have hF := h15
  rcases ite_inv hF with ⟨hc, hF⟩ | ⟨hc, hF⟩
  · refine x_icmp_ne 36 32 dX7_least_29 (by decide) rfl (fun q => absurd hc q) (fun _ => ?_)
    refine x_iload_n 33 1 dX7_least_32 rfl rfl ?_
    refine x_goto 58 dX7_least_33 (by decide) ?_
    have e1 := Option.some.inj hF
    subst e1
    refine x_sub [] [] rfl ?_
    exact hJ
  · refine x_icmp_ne 36 32 dX7_least_29 (by decide) rfl (fun _ => ?_) (fun q => absurd q hc)
    refine x_iload_n 37 0 dX7_least_36 rfl rfl ?_
    refine x_iconst 38 (1 : Int32) dX7_least_37 rfl (by decide) ?_
    rcases ite_inv hF with ⟨hc, hF⟩ | ⟨hc, hF⟩
    · refine x_icmp_ge 45 41 dX7_least_38 (by decide) rfl (fun _ => ?_) (fun q => absurd hc q)
      refine x_iload_n 46 1 dX7_least_45 rfl rfl ?_
      refine x_iload_n 47 0 dX7_least_46 rfl rfl ?_
      refine x_imul 48 dX7_least_47 rfl ?_
      refine x_aload_n 49 2 dX7_least_48 rfl rfl ?_
      refine x_iload_n 50 3 dX7_least_49 rfl rfl ?_
      refine x_iconst 51 (4 : Int32) dX7_least_50 rfl (by decide) ?_
      obtain ⟨v11, h10, hF⟩ := b1_inv hF
      refine x_callS (As := [.ref p0, .int p1, .int (4 : Int32)]) (rest := [.int (v2 * (v4 - v6))]) 54 0 0 (mX7_of hst p0 p1 (4 : Int32) σ n v11 h10) qyX7_of wd_1030 wd_1031 rfl rfl (by decide) (Nat.le_of_ble_eq_true rfl) (by decide) dX7_least_51 rfl rfl rfl rfl ?_
      obtain ⟨h12, hF⟩ := ite_else hF
      refine x_idiv 55 h12 dX7_least_54 rfl ?_
      obtain ⟨v14, h13, hF⟩ := b1_inv hF
      refine x_callS (As := [.int ((v2 * (v4 - v6)) / v11)]) (rest := []) 58 0 0 (mX7_bounded hst ((v2 * (v4 - v6)) / v11) σ n v14 h13) qyX7_bounded wd_1042 wd_1043 rfl rfl (by decide) (Nat.le_of_ble_eq_true rfl) (by decide) dX7_least_55 rfl rfl rfl rfl ?_
      have e1 := Option.some.inj hF
      subst e1
      refine x_sub [] [] rfl ?_
      exact hJ
    · refine x_icmp_ge 45 41 dX7_least_38 (by decide) rfl (fun q => absurd q hc) (fun _ => ?_)
      refine x_iconst 42 (1 : Int32) dX7_least_41 rfl (by decide) ?_
      refine x_goto 58 dX7_least_42 (by decide) ?_
      have e1 := Option.some.inj hF
      subst e1
      refine x_sub [] [] rfl ?_
      exact hJ
def rmX7_greatest : Room := { frames := 1, cells := 0, slots := 0, locals := 22 }
theorem qyX7_greatest : qY yX7_greatest cX7_greatest 3 (some .int) 2 := ⟨wd_1047, wd_32, by decide +kernel, by decide +kernel, by decide +kernel⟩
set_option maxHeartbeats 4000000 in
set_option maxRecDepth 100000 in
theorem mX7_greatest {l : Launch} {G : qG} (hst : l.stackTraces = false) (p0 : Nat) (p1 : Int32) (σ : qH) (n : Option Nat) (ro : Int32) (hF : FX7_greatest p0 p1 σ = some ro) : qM l G yX7_greatest cX7_greatest 3 (some .int) rmX7_greatest [.ref p0, .int p1] σ n (.inl (some (.int ro), σ, n)) := by
  refine q_body (own := RX7) (nm := "greatest") (ls := [(0, .ref p0), (1, .int p1)]) hst (by decide +kernel) rfl rfl (Nat.le_of_ble_eq_true rfl) rfl rfl rfl ?_
  unfold FX7_greatest at hF
  refine x_aload_n 1 0 dX7_greatest_0 rfl rfl ?_
  refine x_iload_n 2 1 dX7_greatest_1 rfl rfl ?_
  refine x_iconst 3 (4 : Int32) dX7_greatest_2 rfl (by decide) ?_
  obtain ⟨v2, h1, hF⟩ := b1_inv hF
  refine x_callS (As := [.ref p0, .int p1, .int (4 : Int32)]) (rest := []) 6 0 0 (mX7_of hst p0 p1 (4 : Int32) σ n v2 h1) qyX7_of wd_1030 wd_1031 rfl rfl (by decide) (Nat.le_of_ble_eq_true rfl) (by decide) dX7_greatest_3 rfl rfl rfl rfl ?_
  refine x_istore_n 7 2 [(2, .int v2), (0, .ref p0), (1, .int p1)] dX7_greatest_6 rfl rfl (by decide) rfl ?_
  refine x_aload_n 8 1 dX7_greatest_7 rfl rfl ?_
  refine x_iload_n 9 2 dX7_greatest_8 rfl rfl ?_
  refine x_iconst 10 (2 : Int32) dX7_greatest_9 rfl (by decide) ?_
  obtain ⟨v4, h3, hF⟩ := b1_inv hF
  refine x_callS (As := [.ref p0, .int p1, .int (2 : Int32)]) (rest := []) 13 0 0 (mX7_of hst p0 p1 (2 : Int32) σ n v4 h3) qyX7_of wd_1030 wd_1031 rfl rfl (by decide) (Nat.le_of_ble_eq_true rfl) (by decide) dX7_greatest_10 rfl rfl rfl rfl ?_
  refine x_iconst 14 (2 : Int32) dX7_greatest_13 rfl (by decide) ?_
  obtain ⟨x5, h15, hF⟩ := b1_inv hF
  have hJ : qX l G RX7 "greatest" cX7_greatest 3 (some .int) [] rmX7_greatest 0 0 (.inl (some (.int ro), σ, n)) 0 0 σ n 51 [] [.int x5] := by
    cases hF
    exact x_iret rfl rfl (by decide) (by decide) dX7_greatest_51
  have hF := h15
  rcases ite_inv hF with ⟨hc, hF⟩ | ⟨hc, hF⟩
  · refine x_icmp_ne 21 17 dX7_greatest_14 (by decide) rfl (fun q => absurd hc q) (fun _ => ?_)
    refine x_iload_n 18 0 dX7_greatest_17 rfl rfl ?_
    refine x_goto 51 dX7_greatest_18 (by decide) ?_
    have e1 := Option.some.inj hF
    subst e1
    refine x_sub [] [] rfl ?_
    exact hJ
  · refine x_icmp_ne 21 17 dX7_greatest_14 (by decide) rfl (fun _ => ?_) (fun q => absurd q hc)
    refine x_aload_n 22 1 dX7_greatest_21 rfl rfl ?_
    refine x_iload_n 23 2 dX7_greatest_22 rfl rfl ?_
    refine x_iconst 24 (3 : Int32) dX7_greatest_23 rfl (by decide) ?_
    obtain ⟨v7, h6, hF⟩ := b1_inv hF
    refine x_callS (As := [.ref p0, .int p1, .int (3 : Int32)]) (rest := []) 27 0 0 (mX7_of hst p0 p1 (3 : Int32) σ n v7 h6) qyX7_of wd_1030 wd_1031 rfl rfl (by decide) (Nat.le_of_ble_eq_true rfl) (by decide) dX7_greatest_24 rfl rfl rfl rfl ?_
    refine x_aload_n 28 1 dX7_greatest_27 rfl rfl ?_
    refine x_iload_n 29 2 dX7_greatest_28 rfl rfl ?_
    refine x_iconst 30 (5 : Int32) dX7_greatest_29 rfl (by decide) ?_
    obtain ⟨v9, h8, hF⟩ := b1_inv hF
    refine x_callS (As := [.ref p0, .int p1, .int (5 : Int32)]) (rest := [.int v7]) 33 0 0 (mX7_of hst p0 p1 (5 : Int32) σ n v9 h8) qyX7_of wd_1030 wd_1031 rfl rfl (by decide) (Nat.le_of_ble_eq_true rfl) (by decide) dX7_greatest_30 rfl rfl rfl rfl ?_
    refine x_aload_n 34 1 dX7_greatest_33 rfl rfl ?_
    refine x_iload_n 35 2 dX7_greatest_34 rfl rfl ?_
    refine x_bipush 37 (6 : Int32) dX7_greatest_35 rfl (by decide) ?_
    obtain ⟨v11, h10, hF⟩ := b1_inv hF
    refine x_callS (As := [.ref p0, .int p1, .int (6 : Int32)]) (rest := [.int v9, .int v7]) 40 0 0 (mX7_of hst p0 p1 (6 : Int32) σ n v11 h10) qyX7_of wd_1030 wd_1031 rfl rfl (by decide) (Nat.le_of_ble_eq_true rfl) (by decide) dX7_greatest_37 rfl rfl rfl rfl ?_
    refine x_iadd 41 dX7_greatest_40 rfl ?_
    refine x_imul 42 dX7_greatest_41 rfl ?_
    refine x_iload_n 43 0 dX7_greatest_42 rfl rfl ?_
    refine x_iadd 44 dX7_greatest_43 rfl ?_
    refine x_iconst 45 (1 : Int32) dX7_greatest_44 rfl (by decide) ?_
    refine x_isub 46 dX7_greatest_45 rfl ?_
    refine x_iload_n 47 0 dX7_greatest_46 rfl rfl ?_
    obtain ⟨h12, hF⟩ := ite_else hF
    refine x_idiv 48 h12 dX7_greatest_47 rfl ?_
    obtain ⟨v14, h13, hF⟩ := b1_inv hF
    refine x_callS (As := [.int ((((v7 * (v9 + v11)) + v2) - (1 : Int32)) / v2)]) (rest := []) 51 0 0 (mX7_bounded hst ((((v7 * (v9 + v11)) + v2) - (1 : Int32)) / v2) σ n v14 h13) qyX7_bounded wd_1042 wd_1043 rfl rfl (by decide) (Nat.le_of_ble_eq_true rfl) (by decide) dX7_greatest_48 rfl rfl rfl rfl ?_
    have e1 := Option.some.inj hF
    subst e1
    refine x_sub [] [] rfl ?_
    exact hJ
def rmX7_tells : Room := { frames := 2, cells := 0, slots := 0, locals := 45 }
theorem qyX7_tells : qY yX7_tells cX7_tells 3 (some .boolean) 3 := ⟨wd_1053, wd_32, by decide +kernel, by decide +kernel, by decide +kernel⟩
set_option maxHeartbeats 4000000 in
set_option maxRecDepth 100000 in
theorem mX7_tells {l : Launch} {G : qG} (hst : l.stackTraces = false) (p0 : Nat) (p1 : Int32) (p2 : Int32) (σ : qH) (n : Option Nat) (ro : Int32) (hF : FX7_tells p0 p1 p2 σ = some ro) : qM l G yX7_tells cX7_tells 3 (some .boolean) rmX7_tells [.ref p0, .int p1, .int p2] σ n (.inl (some (.int ro), σ, n)) := by
  refine q_body (own := RX7) (nm := "tells") (ls := [(0, .ref p0), (1, .int p1), (2, .int p2)]) hst (by decide +kernel) rfl rfl (Nat.le_of_ble_eq_true rfl) rfl rfl rfl ?_
  unfold FX7_tells at hF
  refine x_iload_n 1 2 dX7_tells_0 rfl rfl ?_
  refine x_i2l 2 dX7_tells_1 rfl ?_
  refine x_aload_n 3 0 dX7_tells_2 rfl rfl ?_
  refine x_iload_n 4 1 dX7_tells_3 rfl rfl ?_
  obtain ⟨v2, h1, hF⟩ := b1_inv hF
  refine x_callS (As := [.ref p0, .int p1]) (rest := [.long (p2).toInt64]) 7 0 0 (mX7_least hst p0 p1 σ n v2 h1) qyX7_least wd_1039 wd_1040 rfl rfl (by decide) (Nat.le_of_ble_eq_true rfl) (by decide) dX7_tells_4 rfl rfl rfl rfl ?_
  refine x_i2l 8 dX7_tells_7 rfl ?_
  refine x_aload_n 9 0 dX7_tells_8 rfl rfl ?_
  refine x_iload_n 10 1 dX7_tells_9 rfl rfl ?_
  obtain ⟨v4, h3, hF⟩ := b1_inv hF
  refine x_callS (As := [.ref p0, .int p1]) (rest := [.long (v2).toInt64, .long (p2).toInt64]) 13 0 0 (mX7_greatest hst p0 p1 σ n v4 h3) qyX7_greatest wd_1045 wd_1046 rfl rfl (by decide) (Nat.le_of_ble_eq_true rfl) (by decide) dX7_tells_10 rfl rfl rfl rfl ?_
  refine x_i2l 14 dX7_tells_13 rfl ?_
  obtain ⟨v6, h5, hF⟩ := b1_inv hF
  refine x_callS (As := [.long (p2).toInt64, .long (v2).toInt64, .long (v4).toInt64]) (rest := []) 17 0 0 (mX7_in hst (p2).toInt64 (v2).toInt64 (v4).toInt64 σ n v6 h5) qyX7_in wd_968 wd_969 rfl rfl (by decide) (Nat.le_of_ble_eq_true rfl) (by decide) dX7_tells_14 rfl rfl rfl rfl ?_
  obtain ⟨hz, hF⟩ := ite_none hF
  cases hF
  exact x_zret rfl (by rcases hz with h | h <;> rw [h] <;> rfl) rfl (by decide) (by decide) dX7_tells_17
def rmX7_weight : Room := { frames := 1, cells := 0, slots := 0, locals := 22 }
theorem qyX7_weight : qY yX7_weight cX7_weight 2 (some .int) 2 := ⟨wd_1029, wd_32, by decide +kernel, by decide +kernel, by decide +kernel⟩
set_option maxHeartbeats 4000000 in
set_option maxRecDepth 100000 in
theorem mX7_weight {l : Launch} {G : qG} (hst : l.stackTraces = false) (p0 : Nat) (p1 : Int32) (σ : qH) (n : Option Nat) (ro : Int32) (hF : FX7_weight p0 p1 σ = some ro) : qM l G yX7_weight cX7_weight 2 (some .int) rmX7_weight [.ref p0, .int p1] σ n (.inl (some (.int ro), σ, n)) := by
  refine q_body (own := RX7) (nm := "weight") (ls := [(0, .ref p0), (1, .int p1)]) hst (by decide +kernel) rfl rfl (Nat.le_of_ble_eq_true rfl) rfl rfl rfl ?_
  unfold FX7_weight at hF
  refine x_aload_n 1 0 dX7_weight_0 rfl rfl ?_
  refine x_bipush 3 (9 : Int32) dX7_weight_1 rfl (by decide) ?_
  refine x_aload_n 4 0 dX7_weight_3 rfl rfl ?_
  refine x_iload_n 5 1 dX7_weight_4 rfl rfl ?_
  refine x_iconst 6 (1 : Int32) dX7_weight_5 rfl (by decide) ?_
  obtain ⟨v2, h1, hF⟩ := b1_inv hF
  refine x_callS (As := [.ref p0, .int p1, .int (1 : Int32)]) (rest := [.int (9 : Int32), .ref p0]) 9 0 0 (mX7_of hst p0 p1 (1 : Int32) σ n v2 h1) qyX7_of wd_1030 wd_1031 rfl rfl (by decide) (Nat.le_of_ble_eq_true rfl) (by decide) dX7_weight_6 rfl rfl rfl rfl ?_
  refine x_iadd 10 dX7_weight_9 rfl ?_
  obtain ⟨v3, h4, hF⟩ := b1_inv hF
  refine x_aI 11 h4 dX7_weight_10 rfl ?_
  refine x_aload_n 12 0 dX7_weight_11 rfl rfl ?_
  refine x_iload_n 13 1 dX7_weight_12 rfl rfl ?_
  refine x_iconst 14 (2 : Int32) dX7_weight_13 rfl (by decide) ?_
  obtain ⟨v6, h5, hF⟩ := b1_inv hF
  refine x_callS (As := [.ref p0, .int p1, .int (2 : Int32)]) (rest := [.int v3]) 17 0 0 (mX7_of hst p0 p1 (2 : Int32) σ n v6 h5) qyX7_of wd_1030 wd_1031 rfl rfl (by decide) (Nat.le_of_ble_eq_true rfl) (by decide) dX7_weight_14 rfl rfl rfl rfl ?_
  refine x_iconst 18 (2 : Int32) dX7_weight_17 rfl (by decide) ?_
  obtain ⟨x7, h10, hF⟩ := b1_inv hF
  have hJ : qX l G RX7 "weight" cX7_weight 2 (some .int) [] rmX7_weight 0 0 (.inl (some (.int ro), σ, n)) 0 0 σ n 29 [] [.int x7, .int v3] := by
    refine x_iadd 30 dX7_weight_29 rfl ?_
    cases hF
    exact x_iret rfl rfl (by decide) (by decide) dX7_weight_30
  have hF := h10
  rcases ite_inv hF with ⟨hc, hF⟩ | ⟨hc, hF⟩
  · refine x_icmp_ge 28 21 dX7_weight_18 (by decide) rfl (fun _ => ?_) (fun q => absurd hc q)
    refine x_iconst 29 (0 : Int32) dX7_weight_28 rfl (by decide) ?_
    have e1 := Option.some.inj hF
    subst e1
    refine x_sub [] [] rfl ?_
    exact hJ
  · refine x_icmp_ge 28 21 dX7_weight_18 (by decide) rfl (fun q => absurd q hc) (fun _ => ?_)
    refine x_aload_n 22 0 dX7_weight_21 rfl rfl ?_
    refine x_bipush 24 (7 : Int32) dX7_weight_22 rfl (by decide) ?_
    obtain ⟨v8, h9, hF⟩ := b1_inv hF
    refine x_aI 25 h9 dX7_weight_24 rfl ?_
    refine x_goto 29 dX7_weight_25 (by decide) ?_
    have e1 := Option.some.inj hF
    subst e1
    refine x_sub [] [] rfl ?_
    exact hJ
def rmX7_gap : Room := { frames := 2, cells := 0, slots := 0, locals := 45 }
theorem qyX7_gap : qY yX7_gap cX7_gap 6 (some .int) 3 := ⟨wd_1038, wd_32, by decide +kernel, by decide +kernel, by decide +kernel⟩
set_option maxHeartbeats 4000000 in
set_option maxRecDepth 100000 in
theorem mX7_gap {l : Launch} {G : qG} (hst : l.stackTraces = false) (p0 : Nat) (p1 : Int32) (p2 : Int32) (σ : qH) (n : Option Nat) (ro : Int32) (hF : FX7_gap p0 p1 p2 σ = some ro) : qM l G yX7_gap cX7_gap 6 (some .int) rmX7_gap [.ref p0, .int p1, .int p2] σ n (.inl (some (.int ro), σ, n)) := by
  refine q_body (own := RX7) (nm := "gap") (ls := [(0, .ref p0), (1, .int p1), (2, .int p2)]) hst (by decide +kernel) rfl rfl (Nat.le_of_ble_eq_true rfl) rfl rfl rfl ?_
  unfold FX7_gap at hF
  refine x_aload_n 1 0 dX7_gap_0 rfl rfl ?_
  refine x_iload_n 2 1 dX7_gap_1 rfl rfl ?_
  obtain ⟨v2, h1, hF⟩ := b1_inv hF
  refine x_callS (As := [.ref p0, .int p1]) (rest := []) 5 0 0 (mX7_least hst p0 p1 σ n v2 h1) qyX7_least wd_1039 wd_1040 rfl rfl (by decide) (Nat.le_of_ble_eq_true rfl) (by decide) dX7_gap_2 rfl rfl rfl rfl ?_
  refine x_aload_n 6 0 dX7_gap_5 rfl rfl ?_
  refine x_iload_n 7 2 dX7_gap_6 rfl rfl ?_
  obtain ⟨v4, h3, hF⟩ := b1_inv hF
  refine x_callS (As := [.ref p0, .int p2]) (rest := [.int v2]) 10 0 0 (mX7_greatest hst p0 p2 σ n v4 h3) qyX7_greatest wd_1045 wd_1046 rfl rfl (by decide) (Nat.le_of_ble_eq_true rfl) (by decide) dX7_gap_7 rfl rfl rfl rfl ?_
  refine x_isub 11 dX7_gap_10 rfl ?_
  refine x_istore_n 12 3 [(3, .int (v2 - v4)), (0, .ref p0), (1, .int p1), (2, .int p2)] dX7_gap_11 rfl rfl (by decide) rfl ?_
  refine x_aload_n 13 1 dX7_gap_12 rfl rfl ?_
  refine x_iload_n 14 3 dX7_gap_13 rfl rfl ?_
  obtain ⟨v6, h5, hF⟩ := b1_inv hF
  refine x_callS (As := [.ref p0, .int p2]) (rest := []) 17 0 0 (mX7_least hst p0 p2 σ n v6 h5) qyX7_least wd_1039 wd_1040 rfl rfl (by decide) (Nat.le_of_ble_eq_true rfl) (by decide) dX7_gap_14 rfl rfl rfl rfl ?_
  refine x_aload_n 18 1 dX7_gap_17 rfl rfl ?_
  refine x_iload_n 19 2 dX7_gap_18 rfl rfl ?_
  obtain ⟨v8, h7, hF⟩ := b1_inv hF
  refine x_callS (As := [.ref p0, .int p1]) (rest := [.int v6]) 22 0 0 (mX7_greatest hst p0 p1 σ n v8 h7) qyX7_greatest wd_1045 wd_1046 rfl rfl (by decide) (Nat.le_of_ble_eq_true rfl) (by decide) dX7_gap_19 rfl rfl rfl rfl ?_
  refine x_isub 23 dX7_gap_22 rfl ?_
  refine x_istore 25 4 [(4, .int (v6 - v8)), (3, .int (v2 - v4)), (0, .ref p0), (1, .int p1), (2, .int p2)] dX7_gap_23 rfl (by decide) rfl ?_
  refine x_iload_n 26 1 dX7_gap_25 rfl rfl ?_
  refine x_iload 28 0 dX7_gap_26 rfl rfl ?_
  obtain ⟨x9, h12, hF⟩ := b1_inv hF
  have hJ : qX l G RX7 "gap" cX7_gap 6 (some .int) [] rmX7_gap 0 0 (.inl (some (.int ro), σ, n)) 0 0 σ n 37 [] [.int x9] := by
    refine x_istore 39 5 [(5, .int x9)] dX7_gap_37 rfl (by decide) rfl ?_
    refine x_iload 41 0 dX7_gap_39 rfl rfl ?_
    obtain ⟨x10, h11, hF⟩ := b1_inv hF
    have hJ : qX l G RX7 "gap" cX7_gap 6 (some .int) [] rmX7_gap 0 0 (.inl (some (.int ro), σ, n)) 0 0 σ n 50 [] [.int x10] := by
      cases hF
      exact x_iret rfl rfl (by decide) (by decide) dX7_gap_50
    have hF := h11
    rcases ite_inv hF with ⟨hc, hF⟩ | ⟨hc, hF⟩
    · refine x_if_le 49 44 dX7_gap_41 (by decide) rfl (fun _ => ?_) (fun q => absurd hc q)
      refine x_iconst 50 (0 : Int32) dX7_gap_49 rfl (by decide) ?_
      have e1 := Option.some.inj hF
      subst e1
      refine x_sub [] [] rfl ?_
      exact hJ
    · refine x_if_le 49 44 dX7_gap_41 (by decide) rfl (fun q => absurd q hc) (fun _ => ?_)
      refine x_iload 46 0 dX7_gap_44 rfl rfl ?_
      refine x_goto 50 dX7_gap_46 (by decide) ?_
      have e1 := Option.some.inj hF
      subst e1
      refine x_sub [] [] rfl ?_
      exact hJ
  have hF := h12
  rcases ite_inv hF with ⟨hc, hF⟩ | ⟨hc, hF⟩
  · refine x_icmp_le 35 31 dX7_gap_28 (by decide) rfl (fun _ => ?_) (fun q => absurd hc q)
    refine x_iload 37 0 dX7_gap_35 rfl rfl ?_
    have e1 := Option.some.inj hF
    subst e1
    refine x_sub [] [] rfl ?_
    exact hJ
  · refine x_icmp_le 35 31 dX7_gap_28 (by decide) rfl (fun q => absurd q hc) (fun _ => ?_)
    refine x_iload_n 32 1 dX7_gap_31 rfl rfl ?_
    refine x_goto 37 dX7_gap_32 (by decide) ?_
    have e1 := Option.some.inj hF
    subst e1
    refine x_sub [] [] rfl ?_
    exact hJ
def rmX7_quarrel : Room := { frames := 3, cells := 0, slots := 0, locals := 70 }
theorem qyX7_quarrel : qY yX7_quarrel cX7_quarrel 3 (some .boolean) 3 := ⟨wd_1035, wd_32, by decide +kernel, by decide +kernel, by decide +kernel⟩
set_option maxHeartbeats 4000000 in
set_option maxRecDepth 100000 in
theorem mX7_quarrel {l : Launch} {G : qG} (hst : l.stackTraces = false) (p0 : Nat) (p1 : Int32) (p2 : Int32) (σ : qH) (n : Option Nat) (ro : Int32) (hF : FX7_quarrel p0 p1 p2 σ = some ro) : qM l G yX7_quarrel cX7_quarrel 3 (some .boolean) rmX7_quarrel [.ref p0, .int p1, .int p2] σ n (.inl (some (.int ro), σ, n)) := by
  refine q_body (own := RX7) (nm := "quarrel") (ls := [(0, .ref p0), (1, .int p1), (2, .int p2)]) hst (by decide +kernel) rfl rfl (Nat.le_of_ble_eq_true rfl) rfl rfl rfl ?_
  unfold FX7_quarrel at hF
  refine x_aload_n 1 0 dX7_quarrel_0 rfl rfl ?_
  refine x_iload_n 2 1 dX7_quarrel_1 rfl rfl ?_
  refine x_iconst 3 (0 : Int32) dX7_quarrel_2 rfl (by decide) ?_
  obtain ⟨v2, h1, hF⟩ := b1_inv hF
  refine x_callS (As := [.ref p0, .int p1, .int (0 : Int32)]) (rest := []) 6 0 0 (mX7_of hst p0 p1 (0 : Int32) σ n v2 h1) qyX7_of wd_1030 wd_1031 rfl rfl (by decide) (Nat.le_of_ble_eq_true rfl) (by decide) dX7_quarrel_3 rfl rfl rfl rfl ?_
  refine x_aload_n 7 0 dX7_quarrel_6 rfl rfl ?_
  refine x_iload_n 8 2 dX7_quarrel_7 rfl rfl ?_
  refine x_iconst 9 (0 : Int32) dX7_quarrel_8 rfl (by decide) ?_
  obtain ⟨v4, h3, hF⟩ := b1_inv hF
  refine x_callS (As := [.ref p0, .int p2, .int (0 : Int32)]) (rest := [.int v2]) 12 0 0 (mX7_of hst p0 p2 (0 : Int32) σ n v4 h3) qyX7_of wd_1030 wd_1031 rfl rfl (by decide) (Nat.le_of_ble_eq_true rfl) (by decide) dX7_quarrel_9 rfl rfl rfl rfl ?_
  obtain ⟨x5, h12, hF⟩ := b1_inv hF
  have hJ : qX l G RX7 "quarrel" cX7_quarrel 3 (some .boolean) [] rmX7_quarrel 0 0 (.inl (some (.int ro), σ, n)) 0 0 σ n 44 [] [.int x5] := by
    obtain ⟨hz, hF⟩ := ite_none hF
    cases hF
    exact x_zret rfl (by rcases hz with h | h <;> rw [h] <;> rfl) rfl (by decide) (by decide) dX7_quarrel_44
  have hF := h12
  rcases ite_inv hF with ⟨hc, hF⟩ | ⟨hc, hF⟩
  · refine x_icmp_ne 43 15 dX7_quarrel_12 (by decide) rfl (fun q => absurd hc q) (fun _ => ?_)
    refine x_aload_n 16 0 dX7_quarrel_15 rfl rfl ?_
    refine x_iload_n 17 1 dX7_quarrel_16 rfl rfl ?_
    refine x_iconst 18 (1 : Int32) dX7_quarrel_17 rfl (by decide) ?_
    obtain ⟨v7, h6, hF⟩ := b1_inv hF
    refine x_callS (As := [.ref p0, .int p1, .int (1 : Int32)]) (rest := []) 21 0 0 (mX7_of hst p0 p1 (1 : Int32) σ n v7 h6) qyX7_of wd_1030 wd_1031 rfl rfl (by decide) (Nat.le_of_ble_eq_true rfl) (by decide) dX7_quarrel_18 rfl rfl rfl rfl ?_
    refine x_aload_n 22 0 dX7_quarrel_21 rfl rfl ?_
    refine x_iload_n 23 2 dX7_quarrel_22 rfl rfl ?_
    refine x_iconst 24 (1 : Int32) dX7_quarrel_23 rfl (by decide) ?_
    obtain ⟨v9, h8, hF⟩ := b1_inv hF
    refine x_callS (As := [.ref p0, .int p2, .int (1 : Int32)]) (rest := [.int v7]) 27 0 0 (mX7_of hst p0 p2 (1 : Int32) σ n v9 h8) qyX7_of wd_1030 wd_1031 rfl rfl (by decide) (Nat.le_of_ble_eq_true rfl) (by decide) dX7_quarrel_24 rfl rfl rfl rfl ?_
    rcases ite_inv hF with ⟨hc, hF⟩ | ⟨hc, hF⟩
    · refine x_icmp_eq 43 30 dX7_quarrel_27 (by decide) rfl (fun _ => ?_) (fun q => absurd hc q)
      refine x_iconst 44 (0 : Int32) dX7_quarrel_43 rfl (by decide) ?_
      have e1 := Option.some.inj hF
      subst e1
      refine x_sub [] [] rfl ?_
      exact hJ
    · refine x_icmp_eq 43 30 dX7_quarrel_27 (by decide) rfl (fun q => absurd q hc) (fun _ => ?_)
      refine x_aload_n 31 0 dX7_quarrel_30 rfl rfl ?_
      refine x_iload_n 32 1 dX7_quarrel_31 rfl rfl ?_
      refine x_iload_n 33 2 dX7_quarrel_32 rfl rfl ?_
      obtain ⟨v11, h10, hF⟩ := b1_inv hF
      refine x_callS (As := [.ref p0, .int p1, .int p2]) (rest := []) 36 0 0 (mX7_gap hst p0 p1 p2 σ n v11 h10) qyX7_gap wd_1036 wd_1037 rfl rfl (by decide) (Nat.le_of_ble_eq_true rfl) (by decide) dX7_quarrel_33 rfl rfl rfl rfl ?_
      rcases ite_inv hF with ⟨hc, hF⟩ | ⟨hc, hF⟩
      · refine x_if_le 43 39 dX7_quarrel_36 (by decide) rfl (fun _ => ?_) (fun q => absurd hc q)
        refine x_iconst 44 (0 : Int32) dX7_quarrel_43 rfl (by decide) ?_
        have e1 := Option.some.inj hF
        subst e1
        refine x_sub [] [] rfl ?_
        exact hJ
      · refine x_if_le 43 39 dX7_quarrel_36 (by decide) rfl (fun q => absurd q hc) (fun _ => ?_)
        refine x_iconst 40 (1 : Int32) dX7_quarrel_39 rfl (by decide) ?_
        refine x_goto 44 dX7_quarrel_40 (by decide) ?_
        have e1 := Option.some.inj hF
        subst e1
        refine x_sub [] [] rfl ?_
        exact hJ
  · refine x_icmp_ne 43 15 dX7_quarrel_12 (by decide) rfl (fun _ => ?_) (fun q => absurd q hc)
    refine x_iconst 44 (0 : Int32) dX7_quarrel_43 rfl (by decide) ?_
    have e1 := Option.some.inj hF
    subst e1
    refine x_sub [] [] rfl ?_
    exact hJ
def rmX7_quarrelsOf : Room := { frames := 4, cells := 0, slots := 0, locals := 92 }
theorem qyX7_quarrelsOf : qY yX7_quarrelsOf cX7_quarrelsOf 4 (some .int) 2 := ⟨wd_1081, wd_32, by decide +kernel, by decide +kernel, by decide +kernel⟩
set_option maxHeartbeats 4000000 in
set_option maxRecDepth 100000 in
theorem mX7_quarrelsOf_L4 {l : Launch} {G : qG} (hst : l.stackTraces = false) (a0 : Nat) (a1 : Int32) (σ : qH) (n : Option Nat) (r : qR) : ∀ (q : Nat) (y2 : Int32) (y3 : Int32) (o2 : Int32), FX7_quarrelsOf_L4 a0 a1 σ q y2 y3 = some o2 → qX l G RX7 "quarrelsOf" cX7_quarrelsOf 4 (some .int) [] rmX7_quarrelsOf 0 0 r 0 0 σ n 34 [(2, .int o2)] [] → qX l G RX7 "quarrelsOf" cX7_quarrelsOf 4 (some .int) [] rmX7_quarrelsOf 0 0 r 0 0 σ n 4 [(0, .ref a0), (1, .int a1), (2, .int y2), (3, .int y3)] [] := by
  intro q
  induction q with
  | zero => intro y2 y3 o2 hF; rw [FX7_quarrelsOf_L4] at hF; cases hF
  | succ q ih =>
    intro y2 y3 o2 hF hJ
    rw [FX7_quarrelsOf_L4] at hF
    refine x_iload_n 5 3 dX7_quarrelsOf_4 rfl rfl ?_
    refine x_aload_n 6 0 dX7_quarrelsOf_5 rfl rfl ?_
    refine x_iconst 7 (0 : Int32) dX7_quarrelsOf_6 rfl (by decide) ?_
    obtain ⟨v1, h2, hF⟩ := b1_inv hF
    refine x_aI 8 h2 dX7_quarrelsOf_7 rfl ?_
    rcases ite_inv hF with ⟨hc, hF⟩ | ⟨hc, hF⟩
    · refine x_icmp_ge 34 11 dX7_quarrelsOf_8 (by decide) rfl (fun _ => ?_) (fun q => absurd hc q)
      have e1 := Option.some.inj hF
      subst e1
      refine x_sub [(2, .int y2)] [2] rfl ?_
      exact hJ
    · refine x_icmp_ge 34 11 dX7_quarrelsOf_8 (by decide) rfl (fun q => absurd q hc) (fun _ => ?_)
      refine x_iload_n 12 2 dX7_quarrelsOf_11 rfl rfl ?_
      refine x_aload_n 13 0 dX7_quarrelsOf_12 rfl rfl ?_
      refine x_iload_n 14 1 dX7_quarrelsOf_13 rfl rfl ?_
      refine x_iload_n 15 3 dX7_quarrelsOf_14 rfl rfl ?_
      obtain ⟨v4, h3, hF⟩ := b1_inv hF
      refine x_callS (As := [.ref a0, .int a1, .int y3]) (rest := [.int y2]) 18 0 0 (mX7_quarrel hst a0 a1 y3 σ n v4 h3) qyX7_quarrel wd_1033 wd_1034 rfl rfl (by decide) (Nat.le_of_ble_eq_true rfl) (by decide) dX7_quarrelsOf_15 rfl rfl rfl rfl ?_
      obtain ⟨x5, h6, hF⟩ := b1_inv hF
      have hJ : qX l G RX7 "quarrelsOf" cX7_quarrelsOf 4 (some .int) [] rmX7_quarrelsOf 0 0 r 0 0 σ n 26 [(0, .ref a0), (1, .int a1), (3, .int y3)] [.int x5, .int y2] := by
        refine x_iadd 27 dX7_quarrelsOf_26 rfl ?_
        refine x_istore_n 28 2 [(2, .int (y2 + x5)), (0, .ref a0), (1, .int a1), (3, .int y3)] dX7_quarrelsOf_27 rfl rfl (by decide) rfl ?_
        refine x_iinc 31 3 3 (y3 + (1 : Int32)) [(3, .int (y3 + (1 : Int32))), (2, .int (y2 + x5)), (0, .ref a0), (1, .int a1)] dX7_quarrelsOf_28 rfl rfl rfl (by decide) rfl ?_
        refine x_goto 4 dX7_quarrelsOf_31 (by decide) ?_
        refine x_sub [(0, .ref a0), (1, .int a1), (2, .int (y2 + x5)), (3, .int (y3 + (1 : Int32)))] [2, 3, 1, 0] rfl ?_
        exact ih _ _ _ hF hJ
      have hF := h6
      rcases ite_inv hF with ⟨hc, hF⟩ | ⟨hc, hF⟩
      · refine x_if_eq 25 21 dX7_quarrelsOf_18 (by decide) rfl (fun _ => ?_) (fun q => absurd hc q)
        refine x_iconst 26 (0 : Int32) dX7_quarrelsOf_25 rfl (by decide) ?_
        have e1 := Option.some.inj hF
        subst e1
        refine x_sub [(0, .ref a0), (1, .int a1), (3, .int y3)] [0, 1, 3] rfl ?_
        exact hJ
      · refine x_if_eq 25 21 dX7_quarrelsOf_18 (by decide) rfl (fun q => absurd q hc) (fun _ => ?_)
        refine x_iconst 22 (1 : Int32) dX7_quarrelsOf_21 rfl (by decide) ?_
        refine x_goto 26 dX7_quarrelsOf_22 (by decide) ?_
        have e1 := Option.some.inj hF
        subst e1
        refine x_sub [(0, .ref a0), (1, .int a1), (3, .int y3)] [0, 1, 3] rfl ?_
        exact hJ
set_option maxHeartbeats 4000000 in
set_option maxRecDepth 100000 in
theorem mX7_quarrelsOf {l : Launch} {G : qG} (hst : l.stackTraces = false) (p0 : Nat) (p1 : Int32) (σ : qH) (n : Option Nat) (ro : Int32) (hF : FX7_quarrelsOf p0 p1 σ = some ro) : qM l G yX7_quarrelsOf cX7_quarrelsOf 4 (some .int) rmX7_quarrelsOf [.ref p0, .int p1] σ n (.inl (some (.int ro), σ, n)) := by
  refine q_body (own := RX7) (nm := "quarrelsOf") (ls := [(0, .ref p0), (1, .int p1)]) hst (by decide +kernel) rfl rfl (Nat.le_of_ble_eq_true rfl) rfl rfl rfl ?_
  unfold FX7_quarrelsOf at hF
  refine x_iconst 1 (0 : Int32) dX7_quarrelsOf_0 rfl (by decide) ?_
  refine x_istore_n 2 2 [(2, .int (0 : Int32)), (0, .ref p0), (1, .int p1)] dX7_quarrelsOf_1 rfl rfl (by decide) rfl ?_
  refine x_iconst 3 (0 : Int32) dX7_quarrelsOf_2 rfl (by decide) ?_
  refine x_istore_n 4 3 [(3, .int (0 : Int32)), (2, .int (0 : Int32)), (0, .ref p0), (1, .int p1)] dX7_quarrelsOf_3 rfl rfl (by decide) rfl ?_
  obtain ⟨x7, h8, hF⟩ := b1_inv hF
  have hJ : qX l G RX7 "quarrelsOf" cX7_quarrelsOf 4 (some .int) [] rmX7_quarrelsOf 0 0 (.inl (some (.int ro), σ, n)) 0 0 σ n 34 [(2, .int x7)] [] := by
    refine x_iload_n 35 0 dX7_quarrelsOf_34 rfl rfl ?_
    cases hF
    exact x_iret rfl rfl (by decide) (by decide) dX7_quarrelsOf_35
  refine x_sub [(0, .ref p0), (1, .int p1), (2, .int (0 : Int32)), (3, .int (0 : Int32))] [2, 3, 1, 0] rfl ?_
  exact mX7_quarrelsOf_L4 hst p0 p1 σ n _ qfuel (0 : Int32) (0 : Int32) x7 h8 hJ
def rmX7_pairs : Room := { frames := 4, cells := 0, slots := 0, locals := 92 }
theorem qyX7_pairs : qY yX7_pairs cX7_pairs 5 (some .int) 2 := ⟨wd_1070, wd_32, by decide +kernel, by decide +kernel, by decide +kernel⟩
set_option maxHeartbeats 4000000 in
set_option maxRecDepth 100000 in
theorem mX7_pairs_L16 {l : Launch} {G : qG} (hst : l.stackTraces = false) (a0 : Nat) (a1 : Int32) (a3 : Int32) (σ : qH) (n : Option Nat) (r : qR) : ∀ (q : Nat) (y2 : Int32) (y4 : Int32) (o2 : Int32), FX7_pairs_L16 a0 a1 a3 σ q y2 y4 = some o2 → qX l G RX7 "pairs" cX7_pairs 5 (some .int) [] rmX7_pairs 0 0 r 0 0 σ n 59 [(0, .ref a0), (1, .int a1), (2, .int o2), (3, .int a3)] [] → qX l G RX7 "pairs" cX7_pairs 5 (some .int) [] rmX7_pairs 0 0 r 0 0 σ n 16 [(0, .ref a0), (1, .int a1), (2, .int y2), (3, .int a3), (4, .int y4)] [] := by
  intro q
  induction q with
  | zero => intro y2 y4 o2 hF; rw [FX7_pairs_L16] at hF; cases hF
  | succ q ih =>
    intro y2 y4 o2 hF hJ
    rw [FX7_pairs_L16] at hF
    refine x_iload 18 4 dX7_pairs_16 rfl rfl ?_
    refine x_aload_n 19 0 dX7_pairs_18 rfl rfl ?_
    refine x_iconst 20 (0 : Int32) dX7_pairs_19 rfl (by decide) ?_
    obtain ⟨v3, h4, hF⟩ := b1_inv hF
    refine x_aI 21 h4 dX7_pairs_20 rfl ?_
    rcases ite_inv hF with ⟨hc, hF⟩ | ⟨hc, hF⟩
    · refine x_icmp_ge 59 24 dX7_pairs_21 (by decide) rfl (fun _ => ?_) (fun q => absurd hc q)
      have e1 := Option.some.inj hF
      subst e1
      refine x_sub [(0, .ref a0), (1, .int a1), (2, .int y2), (3, .int a3)] [0, 1, 2, 3] rfl ?_
      exact hJ
    · refine x_icmp_ge 59 24 dX7_pairs_21 (by decide) rfl (fun q => absurd q hc) (fun _ => ?_)
      refine x_iload_n 25 2 dX7_pairs_24 rfl rfl ?_
      refine x_aload_n 26 0 dX7_pairs_25 rfl rfl ?_
      refine x_iload_n 27 3 dX7_pairs_26 rfl rfl ?_
      refine x_iload 29 4 dX7_pairs_27 rfl rfl ?_
      obtain ⟨v6, h5, hF⟩ := b1_inv hF
      refine x_callS (As := [.ref a0, .int a3, .int y4]) (rest := [.int y2]) 32 0 0 (mX7_quarrel hst a0 a3 y4 σ n v6 h5) qyX7_quarrel wd_1033 wd_1034 rfl rfl (by decide) (Nat.le_of_ble_eq_true rfl) (by decide) dX7_pairs_29 rfl rfl rfl rfl ?_
      obtain ⟨x7, h10, hF⟩ := b1_inv hF
      have hJ : qX l G RX7 "pairs" cX7_pairs 5 (some .int) [] rmX7_pairs 0 0 r 0 0 σ n 51 [(0, .ref a0), (1, .int a1), (3, .int a3), (4, .int y4)] [.int x7, .int y2] := by
        refine x_iadd 52 dX7_pairs_51 rfl ?_
        refine x_istore_n 53 2 [(2, .int (y2 + x7)), (0, .ref a0), (1, .int a1), (3, .int a3), (4, .int y4)] dX7_pairs_52 rfl rfl (by decide) rfl ?_
        refine x_iinc 56 4 4 (y4 + (1 : Int32)) [(4, .int (y4 + (1 : Int32))), (2, .int (y2 + x7)), (0, .ref a0), (1, .int a1), (3, .int a3)] dX7_pairs_53 rfl rfl rfl (by decide) rfl ?_
        refine x_goto 16 dX7_pairs_56 (by decide) ?_
        refine x_sub [(0, .ref a0), (1, .int a1), (2, .int (y2 + x7)), (3, .int a3), (4, .int (y4 + (1 : Int32)))] [2, 3, 1, 4, 0] rfl ?_
        exact ih _ _ _ hF hJ
      have hF := h10
      rcases ite_inv hF with ⟨hc, hF⟩ | ⟨hc, hF⟩
      · refine x_if_eq 50 35 dX7_pairs_32 (by decide) rfl (fun _ => ?_) (fun q => absurd hc q)
        refine x_iconst 51 (0 : Int32) dX7_pairs_50 rfl (by decide) ?_
        have e1 := Option.some.inj hF
        subst e1
        refine x_sub [(0, .ref a0), (1, .int a1), (3, .int a3), (4, .int y4)] [0, 1, 3, 4] rfl ?_
        exact hJ
      · refine x_if_eq 50 35 dX7_pairs_32 (by decide) rfl (fun q => absurd q hc) (fun _ => ?_)
        refine x_aload_n 36 0 dX7_pairs_35 rfl rfl ?_
        refine x_iload_n 37 3 dX7_pairs_36 rfl rfl ?_
        refine x_iload 39 4 dX7_pairs_37 rfl rfl ?_
        obtain ⟨v9, h8, hF⟩ := b1_inv hF
        refine x_callS (As := [.ref a0, .int a3, .int y4]) (rest := [.int y2]) 42 0 0 (mX7_gap hst a0 a3 y4 σ n v9 h8) qyX7_gap wd_1036 wd_1037 rfl rfl (by decide) (Nat.le_of_ble_eq_true rfl) (by decide) dX7_pairs_39 rfl rfl rfl rfl ?_
        refine x_iload_n 43 1 dX7_pairs_42 rfl rfl ?_
        rcases ite_inv hF with ⟨hc, hF⟩ | ⟨hc, hF⟩
        · refine x_icmp_le 50 46 dX7_pairs_43 (by decide) rfl (fun _ => ?_) (fun q => absurd hc q)
          refine x_iconst 51 (0 : Int32) dX7_pairs_50 rfl (by decide) ?_
          have e1 := Option.some.inj hF
          subst e1
          refine x_sub [(0, .ref a0), (1, .int a1), (3, .int a3), (4, .int y4)] [0, 1, 3, 4] rfl ?_
          exact hJ
        · refine x_icmp_le 50 46 dX7_pairs_43 (by decide) rfl (fun q => absurd q hc) (fun _ => ?_)
          refine x_iconst 47 (1 : Int32) dX7_pairs_46 rfl (by decide) ?_
          refine x_goto 51 dX7_pairs_47 (by decide) ?_
          have e1 := Option.some.inj hF
          subst e1
          refine x_sub [(0, .ref a0), (1, .int a1), (3, .int a3), (4, .int y4)] [0, 1, 3, 4] rfl ?_
          exact hJ
set_option maxHeartbeats 4000000 in
set_option maxRecDepth 100000 in
theorem mX7_pairs_L4 {l : Launch} {G : qG} (hst : l.stackTraces = false) (a0 : Nat) (a1 : Int32) (σ : qH) (n : Option Nat) (r : qR) : ∀ (q : Nat) (y2 : Int32) (y3 : Int32) (o2 : Int32), FX7_pairs_L4 a0 a1 σ q y2 y3 = some o2 → qX l G RX7 "pairs" cX7_pairs 5 (some .int) [] rmX7_pairs 0 0 r 0 0 σ n 65 [(2, .int o2)] [] → qX l G RX7 "pairs" cX7_pairs 5 (some .int) [] rmX7_pairs 0 0 r 0 0 σ n 4 [(0, .ref a0), (1, .int a1), (2, .int y2), (3, .int y3)] [] := by
  intro q
  induction q with
  | zero => intro y2 y3 o2 hF; rw [FX7_pairs_L4] at hF; cases hF
  | succ q ih =>
    intro y2 y3 o2 hF hJ
    rw [FX7_pairs_L4] at hF
    refine x_iload_n 5 3 dX7_pairs_4 rfl rfl ?_
    refine x_aload_n 6 0 dX7_pairs_5 rfl rfl ?_
    refine x_iconst 7 (0 : Int32) dX7_pairs_6 rfl (by decide) ?_
    obtain ⟨v1, h2, hF⟩ := b1_inv hF
    refine x_aI 8 h2 dX7_pairs_7 rfl ?_
    rcases ite_inv hF with ⟨hc, hF⟩ | ⟨hc, hF⟩
    · refine x_icmp_ge 65 11 dX7_pairs_8 (by decide) rfl (fun _ => ?_) (fun q => absurd hc q)
      have e1 := Option.some.inj hF
      subst e1
      refine x_sub [(2, .int y2)] [2] rfl ?_
      exact hJ
    · refine x_icmp_ge 65 11 dX7_pairs_8 (by decide) rfl (fun q => absurd q hc) (fun _ => ?_)
      refine x_iload_n 12 3 dX7_pairs_11 rfl rfl ?_
      refine x_iconst 13 (1 : Int32) dX7_pairs_12 rfl (by decide) ?_
      refine x_iadd 14 dX7_pairs_13 rfl ?_
      refine x_istore 16 4 [(4, .int (y3 + (1 : Int32))), (0, .ref a0), (1, .int a1), (2, .int y2), (3, .int y3)] dX7_pairs_14 rfl (by decide) rfl ?_
      obtain ⟨x11, h12, hF⟩ := b1_inv hF
      have hJ : qX l G RX7 "pairs" cX7_pairs 5 (some .int) [] rmX7_pairs 0 0 r 0 0 σ n 59 [(0, .ref a0), (1, .int a1), (2, .int x11), (3, .int y3)] [] := by
        refine x_iinc 62 3 3 (y3 + (1 : Int32)) [(3, .int (y3 + (1 : Int32))), (0, .ref a0), (1, .int a1), (2, .int x11)] dX7_pairs_59 rfl rfl rfl (by decide) rfl ?_
        refine x_goto 4 dX7_pairs_62 (by decide) ?_
        refine x_sub [(0, .ref a0), (1, .int a1), (2, .int x11), (3, .int (y3 + (1 : Int32)))] [1, 2, 3, 0] rfl ?_
        exact ih _ _ _ hF hJ
      refine x_sub [(0, .ref a0), (1, .int a1), (2, .int y2), (3, .int y3), (4, .int (y3 + (1 : Int32)))] [1, 2, 3, 4, 0] rfl ?_
      exact mX7_pairs_L16 hst a0 a1 y3 σ n _ qfuel y2 (y3 + (1 : Int32)) x11 h12 hJ
set_option maxHeartbeats 4000000 in
set_option maxRecDepth 100000 in
theorem mX7_pairs {l : Launch} {G : qG} (hst : l.stackTraces = false) (p0 : Nat) (p1 : Int32) (σ : qH) (n : Option Nat) (ro : Int32) (hF : FX7_pairs p0 p1 σ = some ro) : qM l G yX7_pairs cX7_pairs 5 (some .int) rmX7_pairs [.ref p0, .int p1] σ n (.inl (some (.int ro), σ, n)) := by
  refine q_body (own := RX7) (nm := "pairs") (ls := [(0, .ref p0), (1, .int p1)]) hst (by decide +kernel) rfl rfl (Nat.le_of_ble_eq_true rfl) rfl rfl rfl ?_
  unfold FX7_pairs at hF
  refine x_iconst 1 (0 : Int32) dX7_pairs_0 rfl (by decide) ?_
  refine x_istore_n 2 2 [(2, .int (0 : Int32)), (0, .ref p0), (1, .int p1)] dX7_pairs_1 rfl rfl (by decide) rfl ?_
  refine x_iconst 3 (0 : Int32) dX7_pairs_2 rfl (by decide) ?_
  refine x_istore_n 4 3 [(3, .int (0 : Int32)), (2, .int (0 : Int32)), (0, .ref p0), (1, .int p1)] dX7_pairs_3 rfl rfl (by decide) rfl ?_
  obtain ⟨x13, h14, hF⟩ := b1_inv hF
  have hJ : qX l G RX7 "pairs" cX7_pairs 5 (some .int) [] rmX7_pairs 0 0 (.inl (some (.int ro), σ, n)) 0 0 σ n 65 [(2, .int x13)] [] := by
    refine x_iload_n 66 0 dX7_pairs_65 rfl rfl ?_
    cases hF
    exact x_iret rfl rfl (by decide) (by decide) dX7_pairs_66
  refine x_sub [(0, .ref p0), (1, .int p1), (2, .int (0 : Int32)), (3, .int (0 : Int32))] [2, 3, 1, 0] rfl ?_
  exact mX7_pairs_L4 hst p0 p1 σ n _ qfuel (0 : Int32) (0 : Int32) x13 h14 hJ
def rmX7_voteOf : Room := { frames := 3, cells := 0, slots := 0, locals := 67 }
theorem qyX7_voteOf : qY yX7_voteOf cX7_voteOf 5 (some .int) 3 := ⟨wd_1105, wd_32, by decide +kernel, by decide +kernel, by decide +kernel⟩
set_option maxHeartbeats 4000000 in
set_option maxRecDepth 100000 in
theorem mX7_voteOf_L5 {l : Launch} {G : qG} (hst : l.stackTraces = false) (a0 : Nat) (a1 : Int32) (a2 : Int32) (σ : qH) (n : Option Nat) (r : qR) : ∀ (q : Nat) (y3 : Int32) (y4 : Int32) (o3 : Int32), FX7_voteOf_L5 a0 a1 a2 σ q y3 y4 = some o3 → qX l G RX7 "voteOf" cX7_voteOf 5 (some .int) [] rmX7_voteOf 0 0 r 0 0 σ n 53 [(3, .int o3)] [] → qX l G RX7 "voteOf" cX7_voteOf 5 (some .int) [] rmX7_voteOf 0 0 r 0 0 σ n 5 [(0, .ref a0), (1, .int a1), (2, .int a2), (3, .int y3), (4, .int y4)] [] := by
  intro q
  induction q with
  | zero => intro y3 y4 o3 hF; rw [FX7_voteOf_L5] at hF; cases hF
  | succ q ih =>
    intro y3 y4 o3 hF hJ
    rw [FX7_voteOf_L5] at hF
    refine x_iload 7 4 dX7_voteOf_5 rfl rfl ?_
    refine x_aload_n 8 0 dX7_voteOf_7 rfl rfl ?_
    refine x_iconst 9 (0 : Int32) dX7_voteOf_8 rfl (by decide) ?_
    obtain ⟨v1, h2, hF⟩ := b1_inv hF
    refine x_aI 10 h2 dX7_voteOf_9 rfl ?_
    rcases ite_inv hF with ⟨hc, hF⟩ | ⟨hc, hF⟩
    · refine x_icmp_ge 53 13 dX7_voteOf_10 (by decide) rfl (fun _ => ?_) (fun q => absurd hc q)
      have e1 := Option.some.inj hF
      subst e1
      refine x_sub [(3, .int y3)] [3] rfl ?_
      exact hJ
    · refine x_icmp_ge 53 13 dX7_voteOf_10 (by decide) rfl (fun q => absurd q hc) (fun _ => ?_)
      refine x_iload_n 14 3 dX7_voteOf_13 rfl rfl ?_
      refine x_aload_n 15 0 dX7_voteOf_14 rfl rfl ?_
      refine x_iload 17 4 dX7_voteOf_15 rfl rfl ?_
      refine x_iconst 18 (0 : Int32) dX7_voteOf_17 rfl (by decide) ?_
      obtain ⟨v4, h3, hF⟩ := b1_inv hF
      refine x_callS (As := [.ref a0, .int y4, .int (0 : Int32)]) (rest := [.int y3]) 21 0 0 (mX7_of hst a0 y4 (0 : Int32) σ n v4 h3) qyX7_of wd_1030 wd_1031 rfl rfl (by decide) (Nat.le_of_ble_eq_true rfl) (by decide) dX7_voteOf_18 rfl rfl rfl rfl ?_
      refine x_iload_n 22 1 dX7_voteOf_21 rfl rfl ?_
      obtain ⟨x5, h10, hF⟩ := b1_inv hF
      have hJ : qX l G RX7 "voteOf" cX7_voteOf 5 (some .int) [] rmX7_voteOf 0 0 r 0 0 σ n 45 [(0, .ref a0), (1, .int a1), (2, .int a2), (4, .int y4)] [.int x5, .int y3] := by
        refine x_iadd 46 dX7_voteOf_45 rfl ?_
        refine x_istore_n 47 3 [(3, .int (y3 + x5)), (0, .ref a0), (1, .int a1), (2, .int a2), (4, .int y4)] dX7_voteOf_46 rfl rfl (by decide) rfl ?_
        refine x_iinc 50 4 4 (y4 + (1 : Int32)) [(4, .int (y4 + (1 : Int32))), (3, .int (y3 + x5)), (0, .ref a0), (1, .int a1), (2, .int a2)] dX7_voteOf_47 rfl rfl rfl (by decide) rfl ?_
        refine x_goto 5 dX7_voteOf_50 (by decide) ?_
        refine x_sub [(0, .ref a0), (1, .int a1), (2, .int a2), (3, .int (y3 + x5)), (4, .int (y4 + (1 : Int32)))] [2, 3, 4, 1, 0] rfl ?_
        exact ih _ _ _ hF hJ
      have hF := h10
      rcases ite_inv hF with ⟨hc, hF⟩ | ⟨hc, hF⟩
      · refine x_icmp_ne 44 25 dX7_voteOf_22 (by decide) rfl (fun q => absurd hc q) (fun _ => ?_)
        refine x_aload_n 26 0 dX7_voteOf_25 rfl rfl ?_
        refine x_iload 28 4 dX7_voteOf_26 rfl rfl ?_
        refine x_iload_n 29 2 dX7_voteOf_28 rfl rfl ?_
        obtain ⟨v7, h6, hF⟩ := b1_inv hF
        refine x_callS (As := [.ref a0, .int y4, .int a2]) (rest := [.int y3]) 32 0 0 (mX7_tells hst a0 y4 a2 σ n v7 h6) qyX7_tells wd_1051 wd_1052 rfl rfl (by decide) (Nat.le_of_ble_eq_true rfl) (by decide) dX7_voteOf_29 rfl rfl rfl rfl ?_
        rcases ite_inv hF with ⟨hc, hF⟩ | ⟨hc, hF⟩
        · refine x_if_eq 44 35 dX7_voteOf_32 (by decide) rfl (fun _ => ?_) (fun q => absurd hc q)
          refine x_iconst 45 (0 : Int32) dX7_voteOf_44 rfl (by decide) ?_
          have e1 := Option.some.inj hF
          subst e1
          refine x_sub [(0, .ref a0), (1, .int a1), (2, .int a2), (4, .int y4)] [0, 1, 2, 4] rfl ?_
          exact hJ
        · refine x_if_eq 44 35 dX7_voteOf_32 (by decide) rfl (fun q => absurd q hc) (fun _ => ?_)
          refine x_aload_n 36 0 dX7_voteOf_35 rfl rfl ?_
          refine x_iload 38 4 dX7_voteOf_36 rfl rfl ?_
          obtain ⟨v9, h8, hF⟩ := b1_inv hF
          refine x_callS (As := [.ref a0, .int y4]) (rest := [.int y3]) 41 0 0 (mX7_weight hst a0 y4 σ n v9 h8) qyX7_weight wd_1027 wd_1028 rfl rfl (by decide) (Nat.le_of_ble_eq_true rfl) (by decide) dX7_voteOf_38 rfl rfl rfl rfl ?_
          refine x_goto 45 dX7_voteOf_41 (by decide) ?_
          have e1 := Option.some.inj hF
          subst e1
          refine x_sub [(0, .ref a0), (1, .int a1), (2, .int a2), (4, .int y4)] [0, 1, 2, 4] rfl ?_
          exact hJ
      · refine x_icmp_ne 44 25 dX7_voteOf_22 (by decide) rfl (fun _ => ?_) (fun q => absurd q hc)
        refine x_iconst 45 (0 : Int32) dX7_voteOf_44 rfl (by decide) ?_
        have e1 := Option.some.inj hF
        subst e1
        refine x_sub [(0, .ref a0), (1, .int a1), (2, .int a2), (4, .int y4)] [0, 1, 2, 4] rfl ?_
        exact hJ
set_option maxHeartbeats 4000000 in
set_option maxRecDepth 100000 in
theorem mX7_voteOf {l : Launch} {G : qG} (hst : l.stackTraces = false) (p0 : Nat) (p1 : Int32) (p2 : Int32) (σ : qH) (n : Option Nat) (ro : Int32) (hF : FX7_voteOf p0 p1 p2 σ = some ro) : qM l G yX7_voteOf cX7_voteOf 5 (some .int) rmX7_voteOf [.ref p0, .int p1, .int p2] σ n (.inl (some (.int ro), σ, n)) := by
  refine q_body (own := RX7) (nm := "voteOf") (ls := [(0, .ref p0), (1, .int p1), (2, .int p2)]) hst (by decide +kernel) rfl rfl (Nat.le_of_ble_eq_true rfl) rfl rfl rfl ?_
  unfold FX7_voteOf at hF
  refine x_iconst 1 (0 : Int32) dX7_voteOf_0 rfl (by decide) ?_
  refine x_istore_n 2 3 [(3, .int (0 : Int32)), (0, .ref p0), (1, .int p1), (2, .int p2)] dX7_voteOf_1 rfl rfl (by decide) rfl ?_
  refine x_iconst 3 (0 : Int32) dX7_voteOf_2 rfl (by decide) ?_
  refine x_istore 5 4 [(4, .int (0 : Int32)), (3, .int (0 : Int32)), (0, .ref p0), (1, .int p1), (2, .int p2)] dX7_voteOf_3 rfl (by decide) rfl ?_
  obtain ⟨x11, h12, hF⟩ := b1_inv hF
  have hJ : qX l G RX7 "voteOf" cX7_voteOf 5 (some .int) [] rmX7_voteOf 0 0 (.inl (some (.int ro), σ, n)) 0 0 σ n 53 [(3, .int x11)] [] := by
    refine x_iload_n 54 0 dX7_voteOf_53 rfl rfl ?_
    cases hF
    exact x_iret rfl rfl (by decide) (by decide) dX7_voteOf_54
  refine x_sub [(0, .ref p0), (1, .int p1), (2, .int p2), (3, .int (0 : Int32)), (4, .int (0 : Int32))] [2, 3, 4, 1, 0] rfl ?_
  exact mX7_voteOf_L5 hst p0 p1 p2 σ n _ qfuel (0 : Int32) (0 : Int32) x11 h12 hJ
def rmX7_lowestBest : Room := { frames := 4, cells := 0, slots := 0, locals := 91 }
theorem qyX7_lowestBest : qY yX7_lowestBest cX7_lowestBest 6 (some .int) 2 := ⟨wd_1115, wd_32, by decide +kernel, by decide +kernel, by decide +kernel⟩
set_option maxHeartbeats 4000000 in
set_option maxRecDepth 100000 in
theorem mX7_lowestBest_L12 {l : Launch} {G : qG} (hst : l.stackTraces = false) (a0 : Nat) (a1 : Int32) (σ : qH) (n : Option Nat) (r : qR) : ∀ (q : Nat) (y2 : Int32) (y3 : Int32) (y4 : Int32) (o2 : Int32), FX7_lowestBest_L12 a0 a1 σ q y2 y3 y4 = some o2 → qX l G RX7 "lowestBest" cX7_lowestBest 6 (some .int) [] rmX7_lowestBest 0 0 r 0 0 σ n 61 [(2, .int o2)] [] → qX l G RX7 "lowestBest" cX7_lowestBest 6 (some .int) [] rmX7_lowestBest 0 0 r 0 0 σ n 12 [(0, .ref a0), (1, .int a1), (2, .int y2), (3, .int y3), (4, .int y4)] [] := by
  intro q
  induction q with
  | zero => intro y2 y3 y4 o2 hF; rw [FX7_lowestBest_L12] at hF; cases hF
  | succ q ih =>
    intro y2 y3 y4 o2 hF hJ
    rw [FX7_lowestBest_L12] at hF
    refine x_iload 14 4 dX7_lowestBest_12 rfl rfl ?_
    refine x_sipush 17 (999 : Int32) dX7_lowestBest_14 rfl (by decide) ?_
    rcases ite_inv hF with ⟨hc, hF⟩ | ⟨hc, hF⟩
    · refine x_icmp_gt 61 20 dX7_lowestBest_17 (by decide) rfl (fun _ => ?_) (fun q => absurd hc q)
      have e1 := Option.some.inj hF
      subst e1
      refine x_sub [(2, .int y2)] [2] rfl ?_
      exact hJ
    · refine x_icmp_gt 61 20 dX7_lowestBest_17 (by decide) rfl (fun q => absurd q hc) (fun _ => ?_)
      refine x_aload_n 21 0 dX7_lowestBest_20 rfl rfl ?_
      refine x_iload_n 22 1 dX7_lowestBest_21 rfl rfl ?_
      refine x_iload 24 4 dX7_lowestBest_22 rfl rfl ?_
      obtain ⟨v4, h3, hF⟩ := b1_inv hF
      refine x_callS (As := [.ref a0, .int a1, .int y4]) (rest := []) 27 0 0 (mX7_voteOf hst a0 a1 y4 σ n v4 h3) qyX7_voteOf wd_1103 wd_1104 rfl rfl (by decide) (Nat.le_of_ble_eq_true rfl) (by decide) dX7_lowestBest_24 rfl rfl rfl rfl ?_
      refine x_istore 29 5 [(5, .int v4), (0, .ref a0), (1, .int a1), (2, .int y2), (3, .int y3), (4, .int y4)] dX7_lowestBest_27 rfl (by decide) rfl ?_
      refine x_iload 31 0 dX7_lowestBest_29 rfl rfl ?_
      refine x_iload_n 32 4 dX7_lowestBest_31 rfl rfl ?_
      obtain ⟨x5, h8, hF⟩ := b1_inv hF
      have hJ : qX l G RX7 "lowestBest" cX7_lowestBest 6 (some .int) [] rmX7_lowestBest 0 0 r 0 0 σ n 41 [(0, .ref a0), (1, .int a1), (3, .int y3), (4, .int y4), (5, .int v4)] [.int x5] := by
        refine x_istore_n 42 2 [(2, .int x5), (0, .ref a0), (1, .int a1), (3, .int y3), (4, .int y4), (5, .int v4)] dX7_lowestBest_41 rfl rfl (by decide) rfl ?_
        refine x_iload 44 5 dX7_lowestBest_42 rfl rfl ?_
        refine x_iload_n 45 3 dX7_lowestBest_44 rfl rfl ?_
        obtain ⟨x6, h7, hF⟩ := b1_inv hF
        have hJ : qX l G RX7 "lowestBest" cX7_lowestBest 6 (some .int) [] rmX7_lowestBest 0 0 r 0 0 σ n 54 [(0, .ref a0), (1, .int a1), (2, .int x5), (4, .int y4)] [.int x6] := by
          refine x_istore_n 55 3 [(3, .int x6), (0, .ref a0), (1, .int a1), (2, .int x5), (4, .int y4)] dX7_lowestBest_54 rfl rfl (by decide) rfl ?_
          refine x_iinc 58 4 4 (y4 + (1 : Int32)) [(4, .int (y4 + (1 : Int32))), (3, .int x6), (0, .ref a0), (1, .int a1), (2, .int x5)] dX7_lowestBest_55 rfl rfl rfl (by decide) rfl ?_
          refine x_goto 12 dX7_lowestBest_58 (by decide) ?_
          refine x_sub [(0, .ref a0), (1, .int a1), (2, .int x5), (3, .int x6), (4, .int (y4 + (1 : Int32)))] [2, 3, 4, 1, 0] rfl ?_
          exact ih _ _ _ _ hF hJ
        have hF := h7
        rcases ite_inv hF with ⟨hc, hF⟩ | ⟨hc, hF⟩
        · refine x_icmp_le 53 48 dX7_lowestBest_45 (by decide) rfl (fun _ => ?_) (fun q => absurd hc q)
          refine x_iload_n 54 3 dX7_lowestBest_53 rfl rfl ?_
          have e1 := Option.some.inj hF
          subst e1
          refine x_sub [(0, .ref a0), (1, .int a1), (2, .int x5), (4, .int y4)] [1, 2, 0, 4] rfl ?_
          exact hJ
        · refine x_icmp_le 53 48 dX7_lowestBest_45 (by decide) rfl (fun q => absurd q hc) (fun _ => ?_)
          refine x_iload 50 5 dX7_lowestBest_48 rfl rfl ?_
          refine x_goto 54 dX7_lowestBest_50 (by decide) ?_
          have e1 := Option.some.inj hF
          subst e1
          refine x_sub [(0, .ref a0), (1, .int a1), (2, .int x5), (4, .int y4)] [1, 2, 0, 4] rfl ?_
          exact hJ
      have hF := h8
      rcases ite_inv hF with ⟨hc, hF⟩ | ⟨hc, hF⟩
      · refine x_icmp_le 40 35 dX7_lowestBest_32 (by decide) rfl (fun _ => ?_) (fun q => absurd hc q)
        refine x_iload_n 41 3 dX7_lowestBest_40 rfl rfl ?_
        have e1 := Option.some.inj hF
        subst e1
        refine x_sub [(0, .ref a0), (1, .int a1), (3, .int y3), (4, .int y4), (5, .int v4)] [1, 2, 4, 5, 0] rfl ?_
        exact hJ
      · refine x_icmp_le 40 35 dX7_lowestBest_32 (by decide) rfl (fun q => absurd q hc) (fun _ => ?_)
        refine x_iload 37 5 dX7_lowestBest_35 rfl rfl ?_
        refine x_goto 41 dX7_lowestBest_37 (by decide) ?_
        have e1 := Option.some.inj hF
        subst e1
        refine x_sub [(0, .ref a0), (1, .int a1), (3, .int y3), (4, .int y4), (5, .int v4)] [1, 2, 4, 5, 0] rfl ?_
        exact hJ
set_option maxHeartbeats 4000000 in
set_option maxRecDepth 100000 in
theorem mX7_lowestBest {l : Launch} {G : qG} (hst : l.stackTraces = false) (p0 : Nat) (p1 : Int32) (σ : qH) (n : Option Nat) (ro : Int32) (hF : FX7_lowestBest p0 p1 σ = some ro) : qM l G yX7_lowestBest cX7_lowestBest 6 (some .int) rmX7_lowestBest [.ref p0, .int p1] σ n (.inl (some (.int ro), σ, n)) := by
  refine q_body (own := RX7) (nm := "lowestBest") (ls := [(0, .ref p0), (1, .int p1)]) hst (by decide +kernel) rfl rfl (Nat.le_of_ble_eq_true rfl) rfl rfl rfl ?_
  unfold FX7_lowestBest at hF
  refine x_iconst 1 (1 : Int32) dX7_lowestBest_0 rfl (by decide) ?_
  refine x_istore_n 2 2 [(2, .int (1 : Int32)), (0, .ref p0), (1, .int p1)] dX7_lowestBest_1 rfl rfl (by decide) rfl ?_
  refine x_aload_n 3 1 dX7_lowestBest_2 rfl rfl ?_
  refine x_iload_n 4 2 dX7_lowestBest_3 rfl rfl ?_
  refine x_iconst 5 (1 : Int32) dX7_lowestBest_4 rfl (by decide) ?_
  obtain ⟨v2, h1, hF⟩ := b1_inv hF
  refine x_callS (As := [.ref p0, .int p1, .int (1 : Int32)]) (rest := []) 8 0 0 (mX7_voteOf hst p0 p1 (1 : Int32) σ n v2 h1) qyX7_voteOf wd_1103 wd_1104 rfl rfl (by decide) (Nat.le_of_ble_eq_true rfl) (by decide) dX7_lowestBest_5 rfl rfl rfl rfl ?_
  refine x_istore_n 9 3 [(3, .int v2), (2, .int (1 : Int32)), (0, .ref p0), (1, .int p1)] dX7_lowestBest_8 rfl rfl (by decide) rfl ?_
  refine x_iconst 10 (2 : Int32) dX7_lowestBest_9 rfl (by decide) ?_
  refine x_istore 12 4 [(4, .int (2 : Int32)), (3, .int v2), (2, .int (1 : Int32)), (0, .ref p0), (1, .int p1)] dX7_lowestBest_10 rfl (by decide) rfl ?_
  obtain ⟨x9, h10, hF⟩ := b1_inv hF
  have hJ : qX l G RX7 "lowestBest" cX7_lowestBest 6 (some .int) [] rmX7_lowestBest 0 0 (.inl (some (.int ro), σ, n)) 0 0 σ n 61 [(2, .int x9)] [] := by
    refine x_iload_n 62 0 dX7_lowestBest_61 rfl rfl ?_
    cases hF
    exact x_iret rfl rfl (by decide) (by decide) dX7_lowestBest_62
  refine x_sub [(0, .ref p0), (1, .int p1), (2, .int (1 : Int32)), (3, .int v2), (4, .int (2 : Int32))] [3, 4, 2, 1, 0] rfl ?_
  exact mX7_lowestBest_L12 hst p0 p1 σ n _ qfuel (1 : Int32) v2 (2 : Int32) x9 h10 hJ
def rmX7_bestOf : Room := { frames := 5, cells := 0, slots := 0, locals := 116 }
theorem qyX7_bestOf : qY yX7_bestOf cX7_bestOf 6 (some .int) 3 := ⟨wd_1112, wd_32, by decide +kernel, by decide +kernel, by decide +kernel⟩
set_option maxHeartbeats 4000000 in
set_option maxRecDepth 100000 in
theorem mX7_bestOf_L17 {l : Launch} {G : qG} (hst : l.stackTraces = false) (a0 : Nat) (a1 : Int32) (a2 : Int32) (a3 : Int32) (a4 : Int32) (σ : qH) (n : Option Nat) (r : qR) : ∀ (q : Nat) (y5 : Int32) (o5 : Int32), FX7_bestOf_L17 a0 a1 a2 a3 a4 σ q y5 = some o5 → qX l G RX7 "bestOf" cX7_bestOf 6 (some .int) [] rmX7_bestOf 0 0 r 0 0 σ n 45 [(2, .int a2), (3, .int a3), (4, .int a4), (5, .int o5)] [] → qX l G RX7 "bestOf" cX7_bestOf 6 (some .int) [] rmX7_bestOf 0 0 r 0 0 σ n 17 [(0, .ref a0), (1, .int a1), (2, .int a2), (3, .int a3), (4, .int a4), (5, .int y5)] [] := by
  intro q
  induction q with
  | zero => intro y5 o5 hF; rw [FX7_bestOf_L17] at hF; cases hF
  | succ q ih =>
    intro y5 o5 hF hJ
    rw [FX7_bestOf_L17] at hF
    refine x_iload 19 5 dX7_bestOf_17 rfl rfl ?_
    refine x_sipush 22 (999 : Int32) dX7_bestOf_19 rfl (by decide) ?_
    rcases ite_inv hF with ⟨hc, hF⟩ | ⟨hc, hF⟩
    · refine x_icmp_ge 45 25 dX7_bestOf_22 (by decide) rfl (fun _ => ?_) (fun q => absurd hc q)
      have e1 := Option.some.inj hF
      subst e1
      refine x_sub [(2, .int a2), (3, .int a3), (4, .int a4), (5, .int y5)] [2, 3, 4, 5] rfl ?_
      exact hJ
    · refine x_icmp_ge 45 25 dX7_bestOf_22 (by decide) rfl (fun q => absurd q hc) (fun _ => ?_)
      refine x_aload_n 26 0 dX7_bestOf_25 rfl rfl ?_
      refine x_iload_n 27 1 dX7_bestOf_26 rfl rfl ?_
      refine x_iload 29 5 dX7_bestOf_27 rfl rfl ?_
      refine x_iconst 30 (1 : Int32) dX7_bestOf_29 rfl (by decide) ?_
      refine x_iadd 31 dX7_bestOf_30 rfl ?_
      obtain ⟨v6, h5, hF⟩ := b1_inv hF
      refine x_callS (As := [.ref a0, .int a1, .int (y5 + (1 : Int32))]) (rest := []) 34 0 0 (mX7_voteOf hst a0 a1 (y5 + (1 : Int32)) σ n v6 h5) qyX7_voteOf wd_1103 wd_1104 rfl rfl (by decide) (Nat.le_of_ble_eq_true rfl) (by decide) dX7_bestOf_31 rfl rfl rfl rfl ?_
      refine x_iload 36 4 dX7_bestOf_34 rfl rfl ?_
      rcases ite_inv hF with ⟨hc, hF⟩ | ⟨hc, hF⟩
      · refine x_icmp_ne 45 39 dX7_bestOf_36 (by decide) rfl (fun q => absurd hc q) (fun _ => ?_)
        refine x_iinc 42 5 5 (y5 + (1 : Int32)) [(5, .int (y5 + (1 : Int32))), (0, .ref a0), (1, .int a1), (2, .int a2), (3, .int a3), (4, .int a4)] dX7_bestOf_39 rfl rfl rfl (by decide) rfl ?_
        refine x_goto 17 dX7_bestOf_42 (by decide) ?_
        refine x_sub [(0, .ref a0), (1, .int a1), (2, .int a2), (3, .int a3), (4, .int a4), (5, .int (y5 + (1 : Int32)))] [1, 2, 3, 4, 5, 0] rfl ?_
        exact ih _ _ hF hJ
      · refine x_icmp_ne 45 39 dX7_bestOf_36 (by decide) rfl (fun _ => ?_) (fun q => absurd q hc)
        have e1 := Option.some.inj hF
        subst e1
        refine x_sub [(2, .int a2), (3, .int a3), (4, .int a4), (5, .int y5)] [2, 3, 4, 5] rfl ?_
        exact hJ
set_option maxHeartbeats 4000000 in
set_option maxRecDepth 100000 in
theorem mX7_bestOf {l : Launch} {G : qG} (hst : l.stackTraces = false) (p0 : Nat) (p1 : Int32) (p2 : Int32) (σ : qH) (n : Option Nat) (ro : Int32) (hF : FX7_bestOf p0 p1 p2 σ = some ro) : qM l G yX7_bestOf cX7_bestOf 6 (some .int) rmX7_bestOf [.ref p0, .int p1, .int p2] σ n (.inl (some (.int ro), σ, n)) := by
  refine q_body (own := RX7) (nm := "bestOf") (ls := [(0, .ref p0), (1, .int p1), (2, .int p2)]) hst (by decide +kernel) rfl rfl (Nat.le_of_ble_eq_true rfl) rfl rfl rfl ?_
  unfold FX7_bestOf at hF
  refine x_aload_n 1 0 dX7_bestOf_0 rfl rfl ?_
  refine x_iload_n 2 1 dX7_bestOf_1 rfl rfl ?_
  obtain ⟨v2, h1, hF⟩ := b1_inv hF
  refine x_callS (As := [.ref p0, .int p1]) (rest := []) 5 0 0 (mX7_lowestBest hst p0 p1 σ n v2 h1) qyX7_lowestBest wd_1113 wd_1114 rfl rfl (by decide) (Nat.le_of_ble_eq_true rfl) (by decide) dX7_bestOf_2 rfl rfl rfl rfl ?_
  refine x_istore_n 6 3 [(3, .int v2), (0, .ref p0), (1, .int p1), (2, .int p2)] dX7_bestOf_5 rfl rfl (by decide) rfl ?_
  refine x_aload_n 7 1 dX7_bestOf_6 rfl rfl ?_
  refine x_iload_n 8 2 dX7_bestOf_7 rfl rfl ?_
  refine x_iload_n 9 0 dX7_bestOf_8 rfl rfl ?_
  obtain ⟨v4, h3, hF⟩ := b1_inv hF
  refine x_callS (As := [.ref p0, .int p1, .int v2]) (rest := []) 12 0 0 (mX7_voteOf hst p0 p1 v2 σ n v4 h3) qyX7_voteOf wd_1103 wd_1104 rfl rfl (by decide) (Nat.le_of_ble_eq_true rfl) (by decide) dX7_bestOf_9 rfl rfl rfl rfl ?_
  refine x_istore 14 4 [(4, .int v4), (3, .int v2), (0, .ref p0), (1, .int p1), (2, .int p2)] dX7_bestOf_12 rfl (by decide) rfl ?_
  refine x_iload_n 15 1 dX7_bestOf_14 rfl rfl ?_
  refine x_istore 17 5 [(5, .int v2), (4, .int v4), (3, .int v2), (0, .ref p0), (1, .int p1), (2, .int p2)] dX7_bestOf_15 rfl (by decide) rfl ?_
  obtain ⟨x7, h10, hF⟩ := b1_inv hF
  have hJ : qX l G RX7 "bestOf" cX7_bestOf 6 (some .int) [] rmX7_bestOf 0 0 (.inl (some (.int ro), σ, n)) 0 0 σ n 45 [(2, .int p2), (3, .int v2), (4, .int v4), (5, .int x7)] [] := by
    refine x_iload_n 46 0 dX7_bestOf_45 rfl rfl ?_
    obtain ⟨x8, h9, hF⟩ := b1_inv hF
    have hJ : qX l G RX7 "bestOf" cX7_bestOf 6 (some .int) [] rmX7_bestOf 0 0 (.inl (some (.int ro), σ, n)) 0 0 σ n 65 [] [.int x8] := by
      cases hF
      exact x_iret rfl rfl (by decide) (by decide) dX7_bestOf_65
    have hF := h9
    rcases ite_inv hF with ⟨hc, hF⟩ | ⟨hc, hF⟩
    · refine x_if_ne 53 49 dX7_bestOf_46 (by decide) rfl (fun q => absurd hc q) (fun _ => ?_)
      refine x_iload_n 50 1 dX7_bestOf_49 rfl rfl ?_
      refine x_goto 65 dX7_bestOf_50 (by decide) ?_
      have e1 := Option.some.inj hF
      subst e1
      refine x_sub [] [] rfl ?_
      exact hJ
    · refine x_if_ne 53 49 dX7_bestOf_46 (by decide) rfl (fun _ => ?_) (fun q => absurd q hc)
      refine x_iload_n 54 0 dX7_bestOf_53 rfl rfl ?_
      refine x_iconst 55 (1 : Int32) dX7_bestOf_54 rfl (by decide) ?_
      rcases ite_inv hF with ⟨hc, hF⟩ | ⟨hc, hF⟩
      · refine x_icmp_ne 63 58 dX7_bestOf_55 (by decide) rfl (fun q => absurd hc q) (fun _ => ?_)
        refine x_iload 60 3 dX7_bestOf_58 rfl rfl ?_
        refine x_goto 65 dX7_bestOf_60 (by decide) ?_
        have e1 := Option.some.inj hF
        subst e1
        refine x_sub [] [] rfl ?_
        exact hJ
      · refine x_icmp_ne 63 58 dX7_bestOf_55 (by decide) rfl (fun _ => ?_) (fun q => absurd q hc)
        refine x_iload 65 2 dX7_bestOf_63 rfl rfl ?_
        have e1 := Option.some.inj hF
        subst e1
        refine x_sub [] [] rfl ?_
        exact hJ
  refine x_sub [(0, .ref p0), (1, .int p1), (2, .int p2), (3, .int v2), (4, .int v4), (5, .int v2)] [3, 4, 5, 2, 1, 0] rfl ?_
  exact mX7_bestOf_L17 hst p0 p1 p2 v2 v4 σ n _ qfuel v2 x7 h10 hJ
def rmX7_measureOn : Room := { frames := 0, cells := 0, slots := 0, locals := 0 }
theorem qyX7_measureOn : qY yX7_measureOn cX7_measureOn 9 (some .int) 8 := ⟨wd_1010, wd_32, by decide +kernel, by decide +kernel, by decide +kernel⟩
set_option maxHeartbeats 4000000 in
set_option maxRecDepth 100000 in
theorem mX7_measureOn {l : Launch} {G : qG} (hst : l.stackTraces = false) (p0 : Nat) (p1 : Int32) (p2 : Int32) (p3 : Int32) (p4 : Int32) (p5 : Int32) (p6 : Int32) (p7 : Int32) (σ : qH) (n : Option Nat) (ro : Int32) (so : qH) (hF : FX7_measureOn p0 p1 p2 p3 p4 p5 p6 p7 σ = some (ro, so)) : qM l G yX7_measureOn cX7_measureOn 9 (some .int) rmX7_measureOn [.ref p0, .int p1, .int p2, .int p3, .int p4, .int p5, .int p6, .int p7] σ n (.inl (some (.int ro), so, n)) := by
  refine q_body (own := RX7) (nm := "measureOn") (ls := [(0, .ref p0), (1, .int p1), (2, .int p2), (3, .int p3), (4, .int p4), (5, .int p5), (6, .int p6), (7, .int p7)]) hst (by decide +kernel) rfl rfl (Nat.le_of_ble_eq_true rfl) rfl rfl rfl ?_
  unfold FX7_measureOn at hF
  refine x_bipush 2 (30 : Int32) dX7_measureOn_0 rfl (by decide) ?_
  refine x_bipush 4 (7 : Int32) dX7_measureOn_2 rfl (by decide) ?_
  refine x_aload_n 5 0 dX7_measureOn_4 rfl rfl ?_
  refine x_iconst 6 (0 : Int32) dX7_measureOn_5 rfl (by decide) ?_
  obtain ⟨v1, h2, hF⟩ := b1_inv hF
  refine x_aI 7 h2 dX7_measureOn_6 rfl ?_
  refine x_imul 8 dX7_measureOn_7 rfl ?_
  refine x_iadd 9 dX7_measureOn_8 rfl ?_
  refine x_istore 11 8 [(8, .int ((30 : Int32) + ((7 : Int32) * v1))), (0, .ref p0), (1, .int p1), (2, .int p2), (3, .int p3), (4, .int p4), (5, .int p5), (6, .int p6), (7, .int p7)] dX7_measureOn_9 rfl (by decide) rfl ?_
  refine x_aload_n 12 1 dX7_measureOn_11 rfl rfl ?_
  refine x_iload 14 0 dX7_measureOn_12 rfl rfl ?_
  refine x_iload_n 15 2 dX7_measureOn_14 rfl rfl ?_
  obtain ⟨s3, h4, hF⟩ := b1_inv hF
  refine x_sI 16 h4 dX7_measureOn_15 rfl ?_
  refine x_aload_n 17 1 dX7_measureOn_16 rfl rfl ?_
  refine x_iload 19 0 dX7_measureOn_17 rfl rfl ?_
  refine x_iconst 20 (1 : Int32) dX7_measureOn_19 rfl (by decide) ?_
  refine x_iadd 21 dX7_measureOn_20 rfl ?_
  refine x_iload_n 22 3 dX7_measureOn_21 rfl rfl ?_
  obtain ⟨s5, h6, hF⟩ := b1_inv hF
  refine x_sI 23 h6 dX7_measureOn_22 rfl ?_
  refine x_aload_n 24 1 dX7_measureOn_23 rfl rfl ?_
  refine x_iload 26 0 dX7_measureOn_24 rfl rfl ?_
  refine x_iconst 27 (2 : Int32) dX7_measureOn_26 rfl (by decide) ?_
  refine x_iadd 28 dX7_measureOn_27 rfl ?_
  refine x_iload_n 29 4 dX7_measureOn_28 rfl rfl ?_
  obtain ⟨s7, h8, hF⟩ := b1_inv hF
  refine x_sI 30 h8 dX7_measureOn_29 rfl ?_
  refine x_aload_n 31 1 dX7_measureOn_30 rfl rfl ?_
  refine x_iload 33 0 dX7_measureOn_31 rfl rfl ?_
  refine x_iconst 34 (3 : Int32) dX7_measureOn_33 rfl (by decide) ?_
  refine x_iadd 35 dX7_measureOn_34 rfl ?_
  refine x_iload 37 5 dX7_measureOn_35 rfl rfl ?_
  obtain ⟨s9, h10, hF⟩ := b1_inv hF
  refine x_sI 38 h10 dX7_measureOn_37 rfl ?_
  refine x_aload_n 39 1 dX7_measureOn_38 rfl rfl ?_
  refine x_iload 41 0 dX7_measureOn_39 rfl rfl ?_
  refine x_iconst 42 (4 : Int32) dX7_measureOn_41 rfl (by decide) ?_
  refine x_iadd 43 dX7_measureOn_42 rfl ?_
  refine x_iload 45 6 dX7_measureOn_43 rfl rfl ?_
  obtain ⟨s11, h12, hF⟩ := b1_inv hF
  refine x_sI 46 h12 dX7_measureOn_45 rfl ?_
  refine x_aload_n 47 1 dX7_measureOn_46 rfl rfl ?_
  refine x_iload 49 0 dX7_measureOn_47 rfl rfl ?_
  refine x_iconst 50 (5 : Int32) dX7_measureOn_49 rfl (by decide) ?_
  refine x_iadd 51 dX7_measureOn_50 rfl ?_
  refine x_iload 53 7 dX7_measureOn_51 rfl rfl ?_
  obtain ⟨s13, h14, hF⟩ := b1_inv hF
  refine x_sI 54 h14 dX7_measureOn_53 rfl ?_
  refine x_aload_n 55 1 dX7_measureOn_54 rfl rfl ?_
  refine x_iload 57 0 dX7_measureOn_55 rfl rfl ?_
  refine x_bipush 59 (6 : Int32) dX7_measureOn_57 rfl (by decide) ?_
  refine x_iadd 60 dX7_measureOn_59 rfl ?_
  refine x_iload 62 8 dX7_measureOn_60 rfl rfl ?_
  obtain ⟨s15, h16, hF⟩ := b1_inv hF
  refine x_sI 63 h16 dX7_measureOn_62 rfl ?_
  refine x_aload_n 64 1 dX7_measureOn_63 rfl rfl ?_
  refine x_iconst 65 (0 : Int32) dX7_measureOn_64 rfl (by decide) ?_
  refine x_dup2 66 rfl rfl dX7_measureOn_65 rfl ?_
  obtain ⟨v17, h18, hF⟩ := b1_inv hF
  refine x_aI 67 h18 dX7_measureOn_66 rfl ?_
  refine x_iconst 68 (1 : Int32) dX7_measureOn_67 rfl (by decide) ?_
  refine x_iadd 69 dX7_measureOn_68 rfl ?_
  obtain ⟨s19, h20, hF⟩ := b1_inv hF
  refine x_sI 70 h20 dX7_measureOn_69 rfl ?_
  refine x_aload_n 71 1 dX7_measureOn_70 rfl rfl ?_
  refine x_iconst 72 (1 : Int32) dX7_measureOn_71 rfl (by decide) ?_
  refine x_dup2 73 rfl rfl dX7_measureOn_72 rfl ?_
  obtain ⟨v21, h22, hF⟩ := b1_inv hF
  refine x_aI 74 h22 dX7_measureOn_73 rfl ?_
  refine x_iconst 75 (1 : Int32) dX7_measureOn_74 rfl (by decide) ?_
  refine x_iadd 76 dX7_measureOn_75 rfl ?_
  obtain ⟨s23, h24, hF⟩ := b1_inv hF
  refine x_sI 77 h24 dX7_measureOn_76 rfl ?_
  refine x_aload_n 78 1 dX7_measureOn_77 rfl rfl ?_
  refine x_iconst 79 (0 : Int32) dX7_measureOn_78 rfl (by decide) ?_
  obtain ⟨v25, h26, hF⟩ := b1_inv hF
  refine x_aI 80 h26 dX7_measureOn_79 rfl ?_
  refine x_iconst 81 (1 : Int32) dX7_measureOn_80 rfl (by decide) ?_
  refine x_isub 82 dX7_measureOn_81 rfl ?_
  cases hF
  exact x_iret rfl rfl (by decide) (by decide) dX7_measureOn_82
def rmX7_dropOn : Room := { frames := 0, cells := 0, slots := 0, locals := 0 }
theorem qyX7_dropOn : qY yX7_dropOn cX7_dropOn 3 (some .int) 2 := ⟨wd_1020, wd_32, by decide +kernel, by decide +kernel, by decide +kernel⟩
set_option maxHeartbeats 4000000 in
set_option maxRecDepth 100000 in
theorem mX7_dropOn_L8 {l : Launch} {G : qG} (hst : l.stackTraces = false) (a0 : Nat) (n : Option Nat) (r : qR) : ∀ (q : Nat) (y2 : Int32) (σ : qH) (so : qH), FX7_dropOn_L8 a0 q y2 σ = some so → qX l G RX7 "dropOn" cX7_dropOn 3 (some .int) [] rmX7_dropOn 0 0 r 0 0 so n 38 [(0, .ref a0)] [] → qX l G RX7 "dropOn" cX7_dropOn 3 (some .int) [] rmX7_dropOn 0 0 r 0 0 σ n 8 [(0, .ref a0), (2, .int y2)] [] := by
  intro q
  induction q with
  | zero => intro y2 σ so hF; rw [FX7_dropOn_L8] at hF; cases hF
  | succ q ih =>
    intro y2 σ so hF hJ
    rw [FX7_dropOn_L8] at hF
    refine x_iload_n 9 1 dX7_dropOn_8 rfl rfl ?_
    refine x_bipush 11 (30 : Int32) dX7_dropOn_9 rfl (by decide) ?_
    refine x_bipush 13 (7 : Int32) dX7_dropOn_11 rfl (by decide) ?_
    refine x_aload_n 14 0 dX7_dropOn_13 rfl rfl ?_
    refine x_iconst 15 (0 : Int32) dX7_dropOn_14 rfl (by decide) ?_
    obtain ⟨v1, h2, hF⟩ := b1_inv hF
    refine x_aI 16 h2 dX7_dropOn_15 rfl ?_
    refine x_iconst 17 (1 : Int32) dX7_dropOn_16 rfl (by decide) ?_
    refine x_isub 18 dX7_dropOn_17 rfl ?_
    refine x_imul 19 dX7_dropOn_18 rfl ?_
    refine x_iadd 20 dX7_dropOn_19 rfl ?_
    rcases ite_inv hF with ⟨hc, hF⟩ | ⟨hc, hF⟩
    · refine x_icmp_ge 38 23 dX7_dropOn_20 (by decide) rfl (fun _ => ?_) (fun q => absurd hc q)
      have e1 := Option.some.inj hF
      subst e1
      refine x_sub [(0, .ref a0)] [0] rfl ?_
      exact hJ
    · refine x_icmp_ge 38 23 dX7_dropOn_20 (by decide) rfl (fun q => absurd q hc) (fun _ => ?_)
      refine x_aload_n 24 0 dX7_dropOn_23 rfl rfl ?_
      refine x_iload_n 25 1 dX7_dropOn_24 rfl rfl ?_
      refine x_aload_n 26 0 dX7_dropOn_25 rfl rfl ?_
      refine x_iload_n 27 1 dX7_dropOn_26 rfl rfl ?_
      refine x_bipush 29 (7 : Int32) dX7_dropOn_27 rfl (by decide) ?_
      refine x_iadd 30 dX7_dropOn_29 rfl ?_
      obtain ⟨v3, h4, hF⟩ := b1_inv hF
      refine x_aI 31 h4 dX7_dropOn_30 rfl ?_
      obtain ⟨s5, h6, hF⟩ := b1_inv hF
      refine x_sI 32 h6 dX7_dropOn_31 rfl ?_
      refine x_iinc 35 2 1 (y2 + (1 : Int32)) [(2, .int (y2 + (1 : Int32))), (0, .ref a0)] dX7_dropOn_32 rfl rfl rfl (by decide) rfl ?_
      refine x_goto 8 dX7_dropOn_35 (by decide) ?_
      refine x_sub [(0, .ref a0), (2, .int (y2 + (1 : Int32)))] [1, 0] rfl ?_
      exact ih _ _ _ hF hJ
set_option maxHeartbeats 4000000 in
set_option maxRecDepth 100000 in
theorem mX7_dropOn {l : Launch} {G : qG} (hst : l.stackTraces = false) (p0 : Nat) (p1 : Int32) (σ : qH) (n : Option Nat) (ro : Int32) (so : qH) (hF : FX7_dropOn p0 p1 σ = some (ro, so)) : qM l G yX7_dropOn cX7_dropOn 3 (some .int) rmX7_dropOn [.ref p0, .int p1] σ n (.inl (some (.int ro), so, n)) := by
  refine q_body (own := RX7) (nm := "dropOn") (ls := [(0, .ref p0), (1, .int p1)]) hst (by decide +kernel) rfl rfl (Nat.le_of_ble_eq_true rfl) rfl rfl rfl ?_
  unfold FX7_dropOn at hF
  refine x_bipush 2 (30 : Int32) dX7_dropOn_0 rfl (by decide) ?_
  refine x_bipush 4 (7 : Int32) dX7_dropOn_2 rfl (by decide) ?_
  refine x_iload_n 5 1 dX7_dropOn_4 rfl rfl ?_
  refine x_imul 6 dX7_dropOn_5 rfl ?_
  refine x_iadd 7 dX7_dropOn_6 rfl ?_
  refine x_istore_n 8 2 [(2, .int ((30 : Int32) + ((7 : Int32) * p1))), (0, .ref p0), (1, .int p1)] dX7_dropOn_7 rfl rfl (by decide) rfl ?_
  obtain ⟨s7, h14, hF⟩ := b1_inv hF
  have hJ : qX l G RX7 "dropOn" cX7_dropOn 3 (some .int) [] rmX7_dropOn 0 0 (.inl (some (.int ro), so, n)) 0 0 s7 n 38 [(0, .ref p0)] [] := by
    refine x_aload_n 39 0 dX7_dropOn_38 rfl rfl ?_
    refine x_iconst 40 (0 : Int32) dX7_dropOn_39 rfl (by decide) ?_
    refine x_dup2 41 rfl rfl dX7_dropOn_40 rfl ?_
    obtain ⟨v8, h9, hF⟩ := b1_inv hF
    refine x_aI 42 h9 dX7_dropOn_41 rfl ?_
    refine x_iconst 43 (1 : Int32) dX7_dropOn_42 rfl (by decide) ?_
    refine x_isub 44 dX7_dropOn_43 rfl ?_
    obtain ⟨s10, h11, hF⟩ := b1_inv hF
    refine x_sI 45 h11 dX7_dropOn_44 rfl ?_
    refine x_aload_n 46 0 dX7_dropOn_45 rfl rfl ?_
    refine x_iconst 47 (0 : Int32) dX7_dropOn_46 rfl (by decide) ?_
    obtain ⟨v12, h13, hF⟩ := b1_inv hF
    refine x_aI 48 h13 dX7_dropOn_47 rfl ?_
    cases hF
    exact x_iret rfl rfl (by decide) (by decide) dX7_dropOn_48
  refine x_sub [(0, .ref p0), (2, .int ((30 : Int32) + ((7 : Int32) * p1)))] [1, 0] rfl ?_
  exact mX7_dropOn_L8 hst p0 n _ qfuel ((30 : Int32) + ((7 : Int32) * p1)) σ s7 h14 hJ
def rmX7_trustOn : Room := { frames := 0, cells := 0, slots := 0, locals := 0 }
theorem qyX7_trustOn : qY yX7_trustOn cX7_trustOn 4 (some .int) 3 := ⟨wd_1023, wd_32, by decide +kernel, by decide +kernel, by decide +kernel⟩
set_option maxHeartbeats 4000000 in
set_option maxRecDepth 100000 in
theorem mX7_trustOn {l : Launch} {G : qG} (hst : l.stackTraces = false) (p0 : Nat) (p1 : Int32) (p2 : Int32) (σ : qH) (n : Option Nat) (ro : Int32) (so : qH) (hF : FX7_trustOn p0 p1 p2 σ = some (ro, so)) : qM l G yX7_trustOn cX7_trustOn 4 (some .int) rmX7_trustOn [.ref p0, .int p1, .int p2] σ n (.inl (some (.int ro), so, n)) := by
  refine q_body (own := RX7) (nm := "trustOn") (ls := [(0, .ref p0), (1, .int p1), (2, .int p2)]) hst (by decide +kernel) rfl rfl (Nat.le_of_ble_eq_true rfl) rfl rfl rfl ?_
  unfold FX7_trustOn at hF
  refine x_aload_n 1 0 dX7_trustOn_0 rfl rfl ?_
  refine x_bipush 3 (9 : Int32) dX7_trustOn_1 rfl (by decide) ?_
  refine x_iload_n 4 1 dX7_trustOn_3 rfl rfl ?_
  refine x_iadd 5 dX7_trustOn_4 rfl ?_
  obtain ⟨v1, h2, hF⟩ := b1_inv hF
  refine x_aI 6 h2 dX7_trustOn_5 rfl ?_
  refine x_istore_n 7 3 [(3, .int v1), (0, .ref p0), (1, .int p1), (2, .int p2)] dX7_trustOn_6 rfl rfl (by decide) rfl ?_
  refine x_aload_n 8 1 dX7_trustOn_7 rfl rfl ?_
  refine x_bipush 10 (9 : Int32) dX7_trustOn_8 rfl (by decide) ?_
  refine x_iload_n 11 2 dX7_trustOn_10 rfl rfl ?_
  refine x_iadd 12 dX7_trustOn_11 rfl ?_
  refine x_iload_n 13 3 dX7_trustOn_12 rfl rfl ?_
  obtain ⟨s3, h4, hF⟩ := b1_inv hF
  refine x_sI 14 h4 dX7_trustOn_13 rfl ?_
  refine x_iload_n 15 0 dX7_trustOn_14 rfl rfl ?_
  cases hF
  exact x_iret rfl rfl (by decide) (by decide) dX7_trustOn_15
def rmX7_eveningOn : Room := { frames := 4, cells := 0, slots := 0, locals := 92 }
theorem qyX7_eveningOn : qY yX7_eveningOn cX7_eveningOn 6 (some .int) 1 := ⟨wd_1026, wd_32, by decide +kernel, by decide +kernel, by decide +kernel⟩
set_option maxHeartbeats 4000000 in
set_option maxRecDepth 100000 in
theorem mX7_eveningOn_L24 {l : Launch} {G : qG} (hst : l.stackTraces = false) (a0 : Nat) (a1 : Int32) (a2 : Int32) (n : Option Nat) (r : qR) : ∀ (q : Nat) (y3 : Int32) (σ : qH) (so : qH), FX7_eveningOn_L24 a0 a1 a2 q y3 σ = some so → qX l G RX7 "eveningOn" cX7_eveningOn 6 (some .int) [] rmX7_eveningOn 0 0 r 0 0 so n 122 [(0, .ref a0), (1, .int a1), (2, .int a2)] [] → qX l G RX7 "eveningOn" cX7_eveningOn 6 (some .int) [] rmX7_eveningOn 0 0 r 0 0 σ n 24 [(0, .ref a0), (1, .int a1), (2, .int a2), (3, .int y3)] [] := by
  intro q
  induction q with
  | zero => intro y3 σ so hF; rw [FX7_eveningOn_L24] at hF; cases hF
  | succ q ih =>
    intro y3 σ so hF hJ
    rw [FX7_eveningOn_L24] at hF
    refine x_iload_n 25 3 dX7_eveningOn_24 rfl rfl ?_
    refine x_aload_n 26 0 dX7_eveningOn_25 rfl rfl ?_
    refine x_iconst 27 (0 : Int32) dX7_eveningOn_26 rfl (by decide) ?_
    obtain ⟨v9, h10, hF⟩ := b1_inv hF
    refine x_aI 28 h10 dX7_eveningOn_27 rfl ?_
    rcases ite_inv hF with ⟨hc, hF⟩ | ⟨hc, hF⟩
    · refine x_icmp_ge 122 31 dX7_eveningOn_28 (by decide) rfl (fun _ => ?_) (fun q => absurd hc q)
      have e1 := Option.some.inj hF
      subst e1
      refine x_sub [(0, .ref a0), (1, .int a1), (2, .int a2)] [0, 1, 2] rfl ?_
      exact hJ
    · refine x_icmp_ge 122 31 dX7_eveningOn_28 (by decide) rfl (fun q => absurd q hc) (fun _ => ?_)
      refine x_aload_n 32 0 dX7_eveningOn_31 rfl rfl ?_
      refine x_iload_n 33 2 dX7_eveningOn_32 rfl rfl ?_
      obtain ⟨v12, h11, hF⟩ := b1_inv hF
      refine x_callS (As := [.ref a0, .int a2]) (rest := []) 36 0 0 (mX7_weight hst a0 a2 σ n v12 h11) qyX7_weight wd_1027 wd_1028 rfl rfl (by decide) (Nat.le_of_ble_eq_true rfl) (by decide) dX7_eveningOn_33 rfl rfl rfl rfl ?_
      refine x_aload_n 37 0 dX7_eveningOn_36 rfl rfl ?_
      refine x_iload_n 38 3 dX7_eveningOn_37 rfl rfl ?_
      obtain ⟨v14, h13, hF⟩ := b1_inv hF
      refine x_callS (As := [.ref a0, .int y3]) (rest := [.int v12]) 41 0 0 (mX7_weight hst a0 y3 σ n v14 h13) qyX7_weight wd_1027 wd_1028 rfl rfl (by decide) (Nat.le_of_ble_eq_true rfl) (by decide) dX7_eveningOn_38 rfl rfl rfl rfl ?_
      refine x_isub 42 dX7_eveningOn_41 rfl ?_
      refine x_istore 44 4 [(4, .int (v12 - v14)), (0, .ref a0), (1, .int a1), (2, .int a2), (3, .int y3)] dX7_eveningOn_42 rfl (by decide) rfl ?_
      refine x_aload_n 45 1 dX7_eveningOn_44 rfl rfl ?_
      refine x_iload 47 0 dX7_eveningOn_45 rfl rfl ?_
      obtain ⟨x15, h36, hF⟩ := b1_inv hF
      have hJ : qX l G RX7 "eveningOn" cX7_eveningOn 6 (some .int) [] rmX7_eveningOn 0 0 r 0 0 σ n 55 [(0, .ref a0), (1, .int a1), (2, .int a2), (3, .int y3), (4, .int (v12 - v14))] [.int x15, .ref a0] := by
        refine x_iconst 56 (1 : Int32) dX7_eveningOn_55 rfl (by decide) ?_
        obtain ⟨v17, h16, hF⟩ := b1_inv hF
        refine x_callS (As := [.ref a0, .int x15, .int (1 : Int32)]) (rest := []) 59 0 0 (mX7_of hst a0 x15 (1 : Int32) σ n v17 h16) qyX7_of wd_1030 wd_1031 rfl rfl (by decide) (Nat.le_of_ble_eq_true rfl) (by decide) dX7_eveningOn_56 rfl rfl rfl rfl ?_
        refine x_istore 61 5 [(5, .int v17), (0, .ref a0), (1, .int a1), (2, .int a2), (3, .int y3), (4, .int (v12 - v14))] dX7_eveningOn_59 rfl (by decide) rfl ?_
        refine x_aload_n 62 1 dX7_eveningOn_61 rfl rfl ?_
        refine x_iload_n 63 3 dX7_eveningOn_62 rfl rfl ?_
        refine x_iload_n 64 4 dX7_eveningOn_63 rfl rfl ?_
        obtain ⟨v19, h18, hF⟩ := b1_inv hF
        refine x_callS (As := [.ref a0, .int a2, .int y3]) (rest := []) 67 0 0 (mX7_quarrel hst a0 a2 y3 σ n v19 h18) qyX7_quarrel wd_1033 wd_1034 rfl rfl (by decide) (Nat.le_of_ble_eq_true rfl) (by decide) dX7_eveningOn_64 rfl rfl rfl rfl ?_
        obtain ⟨s20, h35, hF⟩ := b1_inv hF
        have hJ : qX l G RX7 "eveningOn" cX7_eveningOn 6 (some .int) [] rmX7_eveningOn 0 0 r 0 0 s20 n 116 [(0, .ref a0), (1, .int a1), (2, .int a2), (3, .int y3)] [] := by
          refine x_iinc 119 3 3 (y3 + (1 : Int32)) [(3, .int (y3 + (1 : Int32))), (0, .ref a0), (1, .int a1), (2, .int a2)] dX7_eveningOn_116 rfl rfl rfl (by decide) rfl ?_
          refine x_goto 24 dX7_eveningOn_119 (by decide) ?_
          refine x_sub [(0, .ref a0), (1, .int a1), (2, .int a2), (3, .int (y3 + (1 : Int32)))] [1, 2, 3, 0] rfl ?_
          exact ih _ _ _ hF hJ
        have hF := h35
        rcases ite_inv hF with ⟨hc, hF⟩ | ⟨hc, hF⟩
        · refine x_if_eq 116 70 dX7_eveningOn_67 (by decide) rfl (fun _ => ?_) (fun q => absurd hc q)
          have e1 := Option.some.inj hF
          subst e1
          refine x_sub [(0, .ref a0), (1, .int a1), (2, .int a2), (3, .int y3)] [1, 2, 3, 4] rfl ?_
          exact hJ
        · refine x_if_eq 116 70 dX7_eveningOn_67 (by decide) rfl (fun q => absurd q hc) (fun _ => ?_)
          refine x_aload_n 71 1 dX7_eveningOn_70 rfl rfl ?_
          refine x_iload_n 72 3 dX7_eveningOn_71 rfl rfl ?_
          refine x_iload_n 73 4 dX7_eveningOn_72 rfl rfl ?_
          obtain ⟨v22, h21, hF⟩ := b1_inv hF
          refine x_callS (As := [.ref a0, .int a2, .int y3]) (rest := []) 76 0 0 (mX7_gap hst a0 a2 y3 σ n v22 h21) qyX7_gap wd_1036 wd_1037 rfl rfl (by decide) (Nat.le_of_ble_eq_true rfl) (by decide) dX7_eveningOn_73 rfl rfl rfl rfl ?_
          refine x_aload_n 77 1 dX7_eveningOn_76 rfl rfl ?_
          refine x_bipush 79 (8 : Int32) dX7_eveningOn_77 rfl (by decide) ?_
          obtain ⟨v23, h24, hF⟩ := b1_inv hF
          refine x_aI 80 h24 dX7_eveningOn_79 rfl ?_
          rcases ite_inv hF with ⟨hc, hF⟩ | ⟨hc, hF⟩
          · refine x_icmp_le 116 83 dX7_eveningOn_80 (by decide) rfl (fun _ => ?_) (fun q => absurd hc q)
            have e1 := Option.some.inj hF
            subst e1
            refine x_sub [(0, .ref a0), (1, .int a1), (2, .int a2), (3, .int y3)] [1, 2, 3, 4] rfl ?_
            exact hJ
          · refine x_icmp_le 116 83 dX7_eveningOn_80 (by decide) rfl (fun q => absurd q hc) (fun _ => ?_)
            refine x_iload 85 5 dX7_eveningOn_83 rfl rfl ?_
            rcases ite_inv hF with ⟨hc, hF⟩ | ⟨hc, hF⟩
            · refine x_if_eq 116 88 dX7_eveningOn_85 (by decide) rfl (fun _ => ?_) (fun q => absurd hc q)
              have e1 := Option.some.inj hF
              subst e1
              refine x_sub [(0, .ref a0), (1, .int a1), (2, .int a2), (3, .int y3)] [1, 2, 3, 4] rfl ?_
              exact hJ
            · refine x_if_eq 116 88 dX7_eveningOn_85 (by decide) rfl (fun q => absurd q hc) (fun _ => ?_)
              refine x_aload_n 89 1 dX7_eveningOn_88 rfl rfl ?_
              refine x_bipush 91 (9 : Int32) dX7_eveningOn_89 rfl (by decide) ?_
              refine x_iload 93 0 dX7_eveningOn_91 rfl rfl ?_
              refine x_iadd 94 dX7_eveningOn_93 rfl ?_
              obtain ⟨v25, h26, hF⟩ := b1_inv hF
              refine x_aI 95 h26 dX7_eveningOn_94 rfl ?_
              rcases ite_inv hF with ⟨hc, hF⟩ | ⟨hc, hF⟩
              · refine x_if_le 116 98 dX7_eveningOn_95 (by decide) rfl (fun _ => ?_) (fun q => absurd hc q)
                have e1 := Option.some.inj hF
                subst e1
                refine x_sub [(0, .ref a0), (1, .int a1), (2, .int a2), (3, .int y3)] [1, 2, 3, 4] rfl ?_
                exact hJ
              · refine x_if_le 116 98 dX7_eveningOn_95 (by decide) rfl (fun q => absurd q hc) (fun _ => ?_)
                refine x_aload_n 99 1 dX7_eveningOn_98 rfl rfl ?_
                refine x_bipush 101 (9 : Int32) dX7_eveningOn_99 rfl (by decide) ?_
                refine x_iload 103 0 dX7_eveningOn_101 rfl rfl ?_
                refine x_iadd 104 dX7_eveningOn_103 rfl ?_
                refine x_dup2 105 rfl rfl dX7_eveningOn_104 rfl ?_
                obtain ⟨v27, h28, hF⟩ := b1_inv hF
                refine x_aI 106 h28 dX7_eveningOn_105 rfl ?_
                refine x_iconst 107 (1 : Int32) dX7_eveningOn_106 rfl (by decide) ?_
                refine x_isub 108 dX7_eveningOn_107 rfl ?_
                obtain ⟨s29, h30, hF⟩ := b1_inv hF
                refine x_sI 109 h30 dX7_eveningOn_108 rfl ?_
                refine x_aload_n 110 1 dX7_eveningOn_109 rfl rfl ?_
                refine x_iconst 111 (4 : Int32) dX7_eveningOn_110 rfl (by decide) ?_
                refine x_dup2 112 rfl rfl dX7_eveningOn_111 rfl ?_
                obtain ⟨v31, h32, hF⟩ := b1_inv hF
                refine x_aI 113 h32 dX7_eveningOn_112 rfl ?_
                refine x_iconst 114 (1 : Int32) dX7_eveningOn_113 rfl (by decide) ?_
                refine x_iadd 115 dX7_eveningOn_114 rfl ?_
                obtain ⟨s33, h34, hF⟩ := b1_inv hF
                refine x_sI 116 h34 dX7_eveningOn_115 rfl ?_
                have e1 := Option.some.inj hF
                subst e1
                refine x_sub [(0, .ref a0), (1, .int a1), (2, .int a2), (3, .int y3)] [1, 2, 3, 4] rfl ?_
                exact hJ
      have hF := h36
      rcases ite_inv hF with ⟨hc, hF⟩ | ⟨hc, hF⟩
      · refine x_if_ge 54 50 dX7_eveningOn_47 (by decide) rfl (fun _ => ?_) (fun q => absurd hc q)
        refine x_iload_n 55 4 dX7_eveningOn_54 rfl rfl ?_
        have e1 := Option.some.inj hF
        subst e1
        refine x_sub [(0, .ref a0), (1, .int a1), (2, .int a2), (3, .int y3), (4, .int (v12 - v14))] [1, 2, 3, 4, 0] rfl ?_
        exact hJ
      · refine x_if_ge 54 50 dX7_eveningOn_47 (by decide) rfl (fun q => absurd q hc) (fun _ => ?_)
        refine x_iload_n 51 3 dX7_eveningOn_50 rfl rfl ?_
        refine x_goto 55 dX7_eveningOn_51 (by decide) ?_
        have e1 := Option.some.inj hF
        subst e1
        refine x_sub [(0, .ref a0), (1, .int a1), (2, .int a2), (3, .int y3), (4, .int (v12 - v14))] [1, 2, 3, 4, 0] rfl ?_
        exact hJ
set_option maxHeartbeats 4000000 in
set_option maxRecDepth 100000 in
theorem mX7_eveningOn_L13 {l : Launch} {G : qG} (hst : l.stackTraces = false) (a0 : Nat) (a1 : Int32) (n : Option Nat) (r : qR) : ∀ (q : Nat) (y2 : Int32) (σ : qH) (so : qH), FX7_eveningOn_L13 a0 a1 q y2 σ = some so → qX l G RX7 "eveningOn" cX7_eveningOn 6 (some .int) [] rmX7_eveningOn 0 0 r 0 0 so n 128 [(0, .ref a0), (1, .int a1)] [] → qX l G RX7 "eveningOn" cX7_eveningOn 6 (some .int) [] rmX7_eveningOn 0 0 r 0 0 σ n 13 [(0, .ref a0), (1, .int a1), (2, .int y2)] [] := by
  intro q
  induction q with
  | zero => intro y2 σ so hF; rw [FX7_eveningOn_L13] at hF; cases hF
  | succ q ih =>
    intro y2 σ so hF hJ
    rw [FX7_eveningOn_L13] at hF
    refine x_iload_n 14 2 dX7_eveningOn_13 rfl rfl ?_
    refine x_aload_n 15 0 dX7_eveningOn_14 rfl rfl ?_
    refine x_iconst 16 (0 : Int32) dX7_eveningOn_15 rfl (by decide) ?_
    obtain ⟨v7, h8, hF⟩ := b1_inv hF
    refine x_aI 17 h8 dX7_eveningOn_16 rfl ?_
    rcases ite_inv hF with ⟨hc, hF⟩ | ⟨hc, hF⟩
    · refine x_icmp_ge 128 20 dX7_eveningOn_17 (by decide) rfl (fun _ => ?_) (fun q => absurd hc q)
      have e1 := Option.some.inj hF
      subst e1
      refine x_sub [(0, .ref a0), (1, .int a1)] [0, 1] rfl ?_
      exact hJ
    · refine x_icmp_ge 128 20 dX7_eveningOn_17 (by decide) rfl (fun q => absurd q hc) (fun _ => ?_)
      refine x_iload_n 21 2 dX7_eveningOn_20 rfl rfl ?_
      refine x_iconst 22 (1 : Int32) dX7_eveningOn_21 rfl (by decide) ?_
      refine x_iadd 23 dX7_eveningOn_22 rfl ?_
      refine x_istore_n 24 3 [(3, .int (y2 + (1 : Int32))), (0, .ref a0), (1, .int a1), (2, .int y2)] dX7_eveningOn_23 rfl rfl (by decide) rfl ?_
      obtain ⟨s37, h38, hF⟩ := b1_inv hF
      have hJ : qX l G RX7 "eveningOn" cX7_eveningOn 6 (some .int) [] rmX7_eveningOn 0 0 r 0 0 s37 n 122 [(0, .ref a0), (1, .int a1), (2, .int y2)] [] := by
        refine x_iinc 125 2 2 (y2 + (1 : Int32)) [(2, .int (y2 + (1 : Int32))), (0, .ref a0), (1, .int a1)] dX7_eveningOn_122 rfl rfl rfl (by decide) rfl ?_
        refine x_goto 13 dX7_eveningOn_125 (by decide) ?_
        refine x_sub [(0, .ref a0), (1, .int a1), (2, .int (y2 + (1 : Int32)))] [1, 2, 0] rfl ?_
        exact ih _ _ _ hF hJ
      refine x_sub [(0, .ref a0), (1, .int a1), (2, .int y2), (3, .int (y2 + (1 : Int32)))] [1, 2, 3, 0] rfl ?_
      exact mX7_eveningOn_L24 hst a0 a1 y2 n _ qfuel (y2 + (1 : Int32)) σ s37 h38 hJ
set_option maxHeartbeats 4000000 in
set_option maxRecDepth 100000 in
theorem mX7_eveningOn {l : Launch} {G : qG} (hst : l.stackTraces = false) (p0 : Nat) (σ : qH) (n : Option Nat) (ro : Int32) (so : qH) (hF : FX7_eveningOn p0 σ = some (ro, so)) : qM l G yX7_eveningOn cX7_eveningOn 6 (some .int) rmX7_eveningOn [.ref p0] σ n (.inl (some (.int ro), so, n)) := by
  refine q_body (own := RX7) (nm := "eveningOn") (ls := [(0, .ref p0)]) hst (by decide +kernel) rfl rfl (Nat.le_of_ble_eq_true rfl) rfl rfl rfl ?_
  unfold FX7_eveningOn at hF
  refine x_aload_n 1 0 dX7_eveningOn_0 rfl rfl ?_
  refine x_iconst 2 (4 : Int32) dX7_eveningOn_1 rfl (by decide) ?_
  obtain ⟨v1, h2, hF⟩ := b1_inv hF
  refine x_aI 3 h2 dX7_eveningOn_2 rfl ?_
  refine x_istore_n 4 1 [(1, .int v1), (0, .ref p0)] dX7_eveningOn_3 rfl rfl (by decide) rfl ?_
  refine x_aload_n 5 1 dX7_eveningOn_4 rfl rfl ?_
  refine x_iconst 6 (2 : Int32) dX7_eveningOn_5 rfl (by decide) ?_
  refine x_dup2 7 rfl rfl dX7_eveningOn_6 rfl ?_
  obtain ⟨v3, h4, hF⟩ := b1_inv hF
  refine x_aI 8 h4 dX7_eveningOn_7 rfl ?_
  refine x_iconst 9 (1 : Int32) dX7_eveningOn_8 rfl (by decide) ?_
  refine x_iadd 10 dX7_eveningOn_9 rfl ?_
  obtain ⟨s5, h6, hF⟩ := b1_inv hF
  refine x_sI 11 h6 dX7_eveningOn_10 rfl ?_
  refine x_iconst 12 (0 : Int32) dX7_eveningOn_11 rfl (by decide) ?_
  refine x_istore_n 13 2 [(2, .int (0 : Int32)), (1, .int v1), (0, .ref p0)] dX7_eveningOn_12 rfl rfl (by decide) rfl ?_
  obtain ⟨s39, h42, hF⟩ := b1_inv hF
  have hJ : qX l G RX7 "eveningOn" cX7_eveningOn 6 (some .int) [] rmX7_eveningOn 0 0 (.inl (some (.int ro), so, n)) 0 0 s39 n 128 [(0, .ref p0), (1, .int v1)] [] := by
    refine x_aload_n 129 0 dX7_eveningOn_128 rfl rfl ?_
    refine x_iconst 130 (4 : Int32) dX7_eveningOn_129 rfl (by decide) ?_
    obtain ⟨v40, h41, hF⟩ := b1_inv hF
    refine x_aI 131 h41 dX7_eveningOn_130 rfl ?_
    refine x_iload_n 132 1 dX7_eveningOn_131 rfl rfl ?_
    refine x_isub 133 dX7_eveningOn_132 rfl ?_
    cases hF
    exact x_iret rfl rfl (by decide) (by decide) dX7_eveningOn_133
  refine x_sub [(0, .ref p0), (1, .int v1), (2, .int (0 : Int32))] [2, 1, 0] rfl ?_
  exact mX7_eveningOn_L13 hst p0 v1 n _ qfuel (0 : Int32) s5 s39 h42 hJ
def rmX7_sees : Room := { frames := 0, cells := 0, slots := 0, locals := 0 }
theorem qyX7_sees : qY yX7_sees cX7_sees 4 (none) 3 := ⟨wd_1056, wd_32, by decide +kernel, by decide +kernel, by decide +kernel⟩
set_option maxHeartbeats 4000000 in
set_option maxRecDepth 100000 in
theorem mX7_sees {l : Launch} {G : qG} (hst : l.stackTraces = false) (p0 : Nat) (p1 : Int32) (p2 : Int32) (σ : qH) (n : Option Nat) (so : qH) (hF : FX7_sees p0 p1 p2 σ = some so) : qM l G yX7_sees cX7_sees 4 (none) rmX7_sees [.ref p0, .int p1, .int p2] σ n (.inl (none, so, n)) := by
  refine q_body (own := RX7) (nm := "sees") (ls := [(0, .ref p0), (1, .int p1), (2, .int p2)]) hst (by decide +kernel) rfl rfl (Nat.le_of_ble_eq_true rfl) rfl rfl rfl ?_
  unfold FX7_sees at hF
  refine x_aload_n 1 0 dX7_sees_0 rfl rfl ?_
  refine x_bipush 3 (9 : Int32) dX7_sees_1 rfl (by decide) ?_
  refine x_iload_n 4 1 dX7_sees_3 rfl rfl ?_
  refine x_iadd 5 dX7_sees_4 rfl ?_
  obtain ⟨v1, h2, hF⟩ := b1_inv hF
  refine x_aI 6 h2 dX7_sees_5 rfl ?_
  refine x_iload_n 7 2 dX7_sees_6 rfl rfl ?_
  obtain ⟨x3, h20, hF⟩ := b1_inv hF
  have hJ : qX l G RX7 "sees" cX7_sees 4 (none) [] rmX7_sees 0 0 (.inl (none, so, n)) 0 0 σ n 15 [(0, .ref p0), (1, .int p1), (2, .int p2)] [.int x3, .int v1] := by
    refine x_iadd 16 dX7_sees_15 rfl ?_
    refine x_istore_n 17 3 [(3, .int (v1 + x3)), (0, .ref p0), (1, .int p1), (2, .int p2)] dX7_sees_16 rfl rfl (by decide) rfl ?_
    refine x_aload_n 18 1 dX7_sees_17 rfl rfl ?_
    refine x_bipush 20 (9 : Int32) dX7_sees_18 rfl (by decide) ?_
    refine x_iload_n 21 2 dX7_sees_20 rfl rfl ?_
    refine x_iadd 22 dX7_sees_21 rfl ?_
    refine x_iload_n 23 0 dX7_sees_22 rfl rfl ?_
    obtain ⟨x4, h19, hF⟩ := b1_inv hF
    have hJ : qX l G RX7 "sees" cX7_sees 4 (none) [] rmX7_sees 0 0 (.inl (none, so, n)) 0 0 σ n 42 [(0, .ref p0), (1, .int p1), (2, .int p2)] [.int x4, .int ((9 : Int32) + p1), .ref p0] := by
      obtain ⟨s5, h6, hF⟩ := b1_inv hF
      refine x_sI 43 h6 dX7_sees_42 rfl ?_
      refine x_aload_n 44 0 dX7_sees_43 rfl rfl ?_
      refine x_iload_n 45 2 dX7_sees_44 rfl rfl ?_
      obtain ⟨x7, h18, hF⟩ := b1_inv hF
      have hJ : qX l G RX7 "sees" cX7_sees 4 (none) [] rmX7_sees 0 0 (.inl (none, so, n)) 0 0 s5 n 54 [(0, .ref p0), (1, .int p1), (2, .int p2)] [.int x7, .ref p0] := by
        refine x_dup2 55 rfl rfl dX7_sees_54 rfl ?_
        obtain ⟨v8, h9, hF⟩ := b1_inv hF
        refine x_aI 56 h9 dX7_sees_55 rfl ?_
        refine x_iconst 57 (1 : Int32) dX7_sees_56 rfl (by decide) ?_
        refine x_iadd 58 dX7_sees_57 rfl ?_
        obtain ⟨s10, h11, hF⟩ := b1_inv hF
        refine x_sI 59 h11 dX7_sees_58 rfl ?_
        refine x_aload_n 60 0 dX7_sees_59 rfl rfl ?_
        refine x_iload_n 61 2 dX7_sees_60 rfl rfl ?_
        obtain ⟨x12, h17, hF⟩ := b1_inv hF
        have hJ : qX l G RX7 "sees" cX7_sees 4 (none) [] rmX7_sees 0 0 (.inl (none, so, n)) 0 0 s10 n 71 [(1, .int p1)] [.int x12, .ref p0] := by
          refine x_iload_n 72 0 dX7_sees_71 rfl rfl ?_
          refine x_iadd 73 dX7_sees_72 rfl ?_
          refine x_dup2 74 rfl rfl dX7_sees_73 rfl ?_
          obtain ⟨v13, h14, hF⟩ := b1_inv hF
          refine x_aI 75 h14 dX7_sees_74 rfl ?_
          refine x_iconst 76 (1 : Int32) dX7_sees_75 rfl (by decide) ?_
          refine x_iadd 77 dX7_sees_76 rfl ?_
          obtain ⟨s15, h16, hF⟩ := b1_inv hF
          refine x_sI 78 h16 dX7_sees_77 rfl ?_
          cases hF
          exact x_vret rfl rfl (by decide) (by decide) dX7_sees_78
        have hF := h17
        rcases ite_inv hF with ⟨hc, hF⟩ | ⟨hc, hF⟩
        · refine x_if_eq 69 64 dX7_sees_61 (by decide) rfl (fun _ => ?_) (fun q => absurd hc q)
          refine x_bipush 71 (21 : Int32) dX7_sees_69 rfl (by decide) ?_
          have e1 := Option.some.inj hF
          subst e1
          refine x_sub [(1, .int p1)] [1] rfl ?_
          exact hJ
        · refine x_if_eq 69 64 dX7_sees_61 (by decide) rfl (fun q => absurd q hc) (fun _ => ?_)
          refine x_bipush 66 (15 : Int32) dX7_sees_64 rfl (by decide) ?_
          refine x_goto 71 dX7_sees_66 (by decide) ?_
          have e1 := Option.some.inj hF
          subst e1
          refine x_sub [(1, .int p1)] [1] rfl ?_
          exact hJ
      have hF := h18
      rcases ite_inv hF with ⟨hc, hF⟩ | ⟨hc, hF⟩
      · refine x_if_eq 52 48 dX7_sees_45 (by decide) rfl (fun _ => ?_) (fun q => absurd hc q)
        refine x_bipush 54 (6 : Int32) dX7_sees_52 rfl (by decide) ?_
        have e1 := Option.some.inj hF
        subst e1
        exact hJ
      · refine x_if_eq 52 48 dX7_sees_45 (by decide) rfl (fun q => absurd q hc) (fun _ => ?_)
        refine x_iconst 49 (5 : Int32) dX7_sees_48 rfl (by decide) ?_
        refine x_goto 54 dX7_sees_49 (by decide) ?_
        have e1 := Option.some.inj hF
        subst e1
        exact hJ
    have hF := h19
    rcases ite_inv hF with ⟨hc, hF⟩ | ⟨hc, hF⟩
    · refine x_if_ge 30 26 dX7_sees_23 (by decide) rfl (fun _ => ?_) (fun q => absurd hc q)
      refine x_iload_n 31 0 dX7_sees_30 rfl rfl ?_
      refine x_bipush 33 (9 : Int32) dX7_sees_31 rfl (by decide) ?_
      rcases ite_inv hF with ⟨hc, hF⟩ | ⟨hc, hF⟩
      · refine x_icmp_le 41 36 dX7_sees_33 (by decide) rfl (fun _ => ?_) (fun q => absurd hc q)
        refine x_iload_n 42 0 dX7_sees_41 rfl rfl ?_
        have e1 := Option.some.inj hF
        subst e1
        refine x_sub [(0, .ref p0), (1, .int p1), (2, .int p2)] [1, 2, 3] rfl ?_
        exact hJ
      · refine x_icmp_le 41 36 dX7_sees_33 (by decide) rfl (fun q => absurd q hc) (fun _ => ?_)
        refine x_bipush 38 (9 : Int32) dX7_sees_36 rfl (by decide) ?_
        refine x_goto 42 dX7_sees_38 (by decide) ?_
        have e1 := Option.some.inj hF
        subst e1
        refine x_sub [(0, .ref p0), (1, .int p1), (2, .int p2)] [1, 2, 3] rfl ?_
        exact hJ
    · refine x_if_ge 30 26 dX7_sees_23 (by decide) rfl (fun q => absurd q hc) (fun _ => ?_)
      refine x_iconst 27 (0 : Int32) dX7_sees_26 rfl (by decide) ?_
      refine x_goto 42 dX7_sees_27 (by decide) ?_
      have e1 := Option.some.inj hF
      subst e1
      refine x_sub [(0, .ref p0), (1, .int p1), (2, .int p2)] [1, 2, 3] rfl ?_
      exact hJ
  have hF := h20
  rcases ite_inv hF with ⟨hc, hF⟩ | ⟨hc, hF⟩
  · refine x_if_eq 14 10 dX7_sees_7 (by decide) rfl (fun _ => ?_) (fun q => absurd hc q)
    refine x_iconst 15 (-1 : Int32) dX7_sees_14 rfl (by decide) ?_
    have e1 := Option.some.inj hF
    subst e1
    exact hJ
  · refine x_if_eq 14 10 dX7_sees_7 (by decide) rfl (fun q => absurd q hc) (fun _ => ?_)
    refine x_iconst 11 (1 : Int32) dX7_sees_10 rfl (by decide) ?_
    refine x_goto 15 dX7_sees_11 (by decide) ?_
    have e1 := Option.some.inj hF
    subst e1
    exact hJ
def rmX7_surveyOn : Room := { frames := 3, cells := 0, slots := 0, locals := 67 }
theorem qyX7_surveyOn : qY yX7_surveyOn cX7_surveyOn 6 (some .int) 3 := ⟨wd_1050, wd_32, by decide +kernel, by decide +kernel, by decide +kernel⟩
set_option maxHeartbeats 4000000 in
set_option maxRecDepth 100000 in
theorem mX7_surveyOn_L5 {l : Launch} {G : qG} (hst : l.stackTraces = false) (a0 : Nat) (a1 : Int32) (a2 : Int32) (n : Option Nat) (r : qR) : ∀ (q : Nat) (y3 : Int32) (y4 : Int32) (σ : qH) (o3 : Int32) (so : qH), FX7_surveyOn_L5 a0 a1 a2 q y3 y4 σ = some (o3, so) → qX l G RX7 "surveyOn" cX7_surveyOn 6 (some .int) [] rmX7_surveyOn 0 0 r 0 0 so n 75 [(0, .ref a0), (1, .int a1), (2, .int a2), (3, .int o3)] [] → qX l G RX7 "surveyOn" cX7_surveyOn 6 (some .int) [] rmX7_surveyOn 0 0 r 0 0 σ n 5 [(0, .ref a0), (1, .int a1), (2, .int a2), (3, .int y3), (4, .int y4)] [] := by
  intro q
  induction q with
  | zero => intro y3 y4 σ o3 so hF; rw [FX7_surveyOn_L5] at hF; cases hF
  | succ q ih =>
    intro y3 y4 σ o3 so hF hJ
    rw [FX7_surveyOn_L5] at hF
    refine x_iload 7 4 dX7_surveyOn_5 rfl rfl ?_
    refine x_aload_n 8 0 dX7_surveyOn_7 rfl rfl ?_
    refine x_iconst 9 (0 : Int32) dX7_surveyOn_8 rfl (by decide) ?_
    obtain ⟨v1, h2, hF⟩ := b1_inv hF
    refine x_aI 10 h2 dX7_surveyOn_9 rfl ?_
    rcases ite_inv hF with ⟨hc, hF⟩ | ⟨hc, hF⟩
    · refine x_icmp_ge 75 13 dX7_surveyOn_10 (by decide) rfl (fun _ => ?_) (fun q => absurd hc q)
      obtain ⟨e1, e2⟩ := so2 hF
      subst e1
      subst e2
      refine x_sub [(0, .ref a0), (1, .int a1), (2, .int a2), (3, .int y3)] [0, 1, 2, 3] rfl ?_
      exact hJ
    · refine x_icmp_ge 75 13 dX7_surveyOn_10 (by decide) rfl (fun q => absurd q hc) (fun _ => ?_)
      refine x_aload_n 14 0 dX7_surveyOn_13 rfl rfl ?_
      refine x_iload 16 4 dX7_surveyOn_14 rfl rfl ?_
      refine x_iconst 17 (0 : Int32) dX7_surveyOn_16 rfl (by decide) ?_
      obtain ⟨v4, h3, hF⟩ := b1_inv hF
      refine x_callS (As := [.ref a0, .int y4, .int (0 : Int32)]) (rest := []) 20 0 0 (mX7_of hst a0 y4 (0 : Int32) σ n v4 h3) qyX7_of wd_1030 wd_1031 rfl rfl (by decide) (Nat.le_of_ble_eq_true rfl) (by decide) dX7_surveyOn_17 rfl rfl rfl rfl ?_
      refine x_iload_n 21 1 dX7_surveyOn_20 rfl rfl ?_
      rcases ite_inv hF with ⟨hc, hF⟩ | ⟨hc, hF⟩
      · refine x_icmp_ne 69 24 dX7_surveyOn_21 (by decide) rfl (fun q => absurd hc q) (fun _ => ?_)
        refine x_aload_n 25 0 dX7_surveyOn_24 rfl rfl ?_
        refine x_iload 27 4 dX7_surveyOn_25 rfl rfl ?_
        refine x_iload_n 28 2 dX7_surveyOn_27 rfl rfl ?_
        obtain ⟨v6, h5, hF⟩ := b1_inv hF
        refine x_callS (As := [.ref a0, .int y4, .int a2]) (rest := []) 31 0 0 (mX7_tells hst a0 y4 a2 σ n v6 h5) qyX7_tells wd_1051 wd_1052 rfl rfl (by decide) (Nat.le_of_ble_eq_true rfl) (by decide) dX7_surveyOn_28 rfl rfl rfl rfl ?_
        refine x_istore 33 5 [(5, .int v6), (0, .ref a0), (1, .int a1), (2, .int a2), (3, .int y3), (4, .int y4)] dX7_surveyOn_31 rfl (by decide) rfl ?_
        refine x_aload_n 34 1 dX7_surveyOn_33 rfl rfl ?_
        refine x_aload_n 35 1 dX7_surveyOn_34 rfl rfl ?_
        refine x_iload 37 5 dX7_surveyOn_35 rfl rfl ?_
        refine x_iconst 38 (1 : Int32) dX7_surveyOn_37 rfl (by decide) ?_
        obtain ⟨v8, h7, hF⟩ := b1_inv hF
        refine x_callS (As := [.ref a0, .int y4, .int (1 : Int32)]) (rest := [.ref a0]) 41 0 0 (mX7_of hst a0 y4 (1 : Int32) σ n v8 h7) qyX7_of wd_1030 wd_1031 rfl rfl (by decide) (Nat.le_of_ble_eq_true rfl) (by decide) dX7_surveyOn_38 rfl rfl rfl rfl ?_
        refine x_iload 43 0 dX7_surveyOn_41 rfl rfl ?_
        obtain ⟨s10, h9, hF⟩ := b1_inv hF
        refine x_callS (As := [.ref a0, .int v8, .int v6]) (rest := []) 46 0 0 (mX7_sees hst a0 v8 v6 σ n s10 h9) qyX7_sees wd_1054 wd_1055 rfl rfl (by decide) (Nat.le_of_ble_eq_true rfl) (by decide) dX7_surveyOn_43 rfl rfl rfl rfl ?_
        refine x_iload_n 47 4 dX7_surveyOn_46 rfl rfl ?_
        refine x_iload 49 0 dX7_surveyOn_47 rfl rfl ?_
        obtain ⟨x11, h15, hF⟩ := b1_inv hF
        have hJ : qX l G RX7 "surveyOn" cX7_surveyOn 6 (some .int) [] rmX7_surveyOn 0 0 r 0 0 s10 n 57 [(0, .ref a0), (1, .int a1), (2, .int a2), (4, .int y4)] [.int x11, .int y3] := by
          refine x_iadd 58 dX7_surveyOn_57 rfl ?_
          refine x_istore_n 59 3 [(3, .int (y3 + x11)), (0, .ref a0), (1, .int a1), (2, .int a2), (4, .int y4)] dX7_surveyOn_58 rfl rfl (by decide) rfl ?_
          refine x_aload_n 60 1 dX7_surveyOn_59 rfl rfl ?_
          refine x_iload 62 4 dX7_surveyOn_60 rfl rfl ?_
          obtain ⟨v13, s14, h12, hF⟩ := b2_inv hF
          refine x_callS (As := [.ref a0, .int y4]) (rest := []) 65 0 0 (mX7_dropOn hst a0 y4 s10 n v13 s14 h12) qyX7_dropOn wd_1018 wd_1019 rfl rfl (by decide) (Nat.le_of_ble_eq_true rfl) (by decide) dX7_surveyOn_62 rfl rfl rfl rfl ?_
          refine x_pop 66 rfl dX7_surveyOn_65 rfl ?_
          refine x_goto 5 dX7_surveyOn_66 (by decide) ?_
          refine x_sub [(0, .ref a0), (1, .int a1), (2, .int a2), (3, .int (y3 + x11)), (4, .int y4)] [1, 2, 3, 0, 4] rfl ?_
          exact ih _ _ _ _ _ hF hJ
        have hF := h15
        rcases ite_inv hF with ⟨hc, hF⟩ | ⟨hc, hF⟩
        · refine x_if_eq 56 52 dX7_surveyOn_49 (by decide) rfl (fun _ => ?_) (fun q => absurd hc q)
          refine x_iconst 57 (0 : Int32) dX7_surveyOn_56 rfl (by decide) ?_
          have e1 := Option.some.inj hF
          subst e1
          refine x_sub [(0, .ref a0), (1, .int a1), (2, .int a2), (4, .int y4)] [1, 2, 3, 5] rfl ?_
          exact hJ
        · refine x_if_eq 56 52 dX7_surveyOn_49 (by decide) rfl (fun q => absurd q hc) (fun _ => ?_)
          refine x_iconst 53 (1 : Int32) dX7_surveyOn_52 rfl (by decide) ?_
          refine x_goto 57 dX7_surveyOn_53 (by decide) ?_
          have e1 := Option.some.inj hF
          subst e1
          refine x_sub [(0, .ref a0), (1, .int a1), (2, .int a2), (4, .int y4)] [1, 2, 3, 5] rfl ?_
          exact hJ
      · refine x_icmp_ne 69 24 dX7_surveyOn_21 (by decide) rfl (fun _ => ?_) (fun q => absurd q hc)
        refine x_iinc 72 4 4 (y4 + (1 : Int32)) [(4, .int (y4 + (1 : Int32))), (0, .ref a0), (1, .int a1), (2, .int a2), (3, .int y3)] dX7_surveyOn_69 rfl rfl rfl (by decide) rfl ?_
        refine x_goto 5 dX7_surveyOn_72 (by decide) ?_
        refine x_sub [(0, .ref a0), (1, .int a1), (2, .int a2), (3, .int y3), (4, .int (y4 + (1 : Int32)))] [1, 2, 3, 4, 0] rfl ?_
        exact ih _ _ _ _ _ hF hJ
set_option maxHeartbeats 4000000 in
set_option maxRecDepth 100000 in
theorem mX7_surveyOn {l : Launch} {G : qG} (hst : l.stackTraces = false) (p0 : Nat) (p1 : Int32) (p2 : Int32) (σ : qH) (n : Option Nat) (ro : Int32) (so : qH) (hF : FX7_surveyOn p0 p1 p2 σ = some (ro, so)) : qM l G yX7_surveyOn cX7_surveyOn 6 (some .int) rmX7_surveyOn [.ref p0, .int p1, .int p2] σ n (.inl (some (.int ro), so, n)) := by
  refine q_body (own := RX7) (nm := "surveyOn") (ls := [(0, .ref p0), (1, .int p1), (2, .int p2)]) hst (by decide +kernel) rfl rfl (Nat.le_of_ble_eq_true rfl) rfl rfl rfl ?_
  unfold FX7_surveyOn at hF
  refine x_iconst 1 (0 : Int32) dX7_surveyOn_0 rfl (by decide) ?_
  refine x_istore_n 2 3 [(3, .int (0 : Int32)), (0, .ref p0), (1, .int p1), (2, .int p2)] dX7_surveyOn_1 rfl rfl (by decide) rfl ?_
  refine x_iconst 3 (0 : Int32) dX7_surveyOn_2 rfl (by decide) ?_
  refine x_istore 5 4 [(4, .int (0 : Int32)), (3, .int (0 : Int32)), (0, .ref p0), (1, .int p1), (2, .int p2)] dX7_surveyOn_3 rfl (by decide) rfl ?_
  obtain ⟨x16, s17, h24, hF⟩ := b2_inv hF
  have hJ : qX l G RX7 "surveyOn" cX7_surveyOn 6 (some .int) [] rmX7_surveyOn 0 0 (.inl (some (.int ro), so, n)) 0 0 s17 n 75 [(0, .ref p0), (1, .int p1), (2, .int p2), (3, .int x16)] [] := by
    refine x_aload_n 76 0 dX7_surveyOn_75 rfl rfl ?_
    refine x_iconst 77 (3 : Int32) dX7_surveyOn_76 rfl (by decide) ?_
    refine x_dup2 78 rfl rfl dX7_surveyOn_77 rfl ?_
    obtain ⟨v18, h19, hF⟩ := b1_inv hF
    refine x_aI 79 h19 dX7_surveyOn_78 rfl ?_
    refine x_iconst 80 (1 : Int32) dX7_surveyOn_79 rfl (by decide) ?_
    refine x_iadd 81 dX7_surveyOn_80 rfl ?_
    obtain ⟨s20, h21, hF⟩ := b1_inv hF
    refine x_sI 82 h21 dX7_surveyOn_81 rfl ?_
    refine x_aload_n 83 0 dX7_surveyOn_82 rfl rfl ?_
    refine x_bipush 85 (27 : Int32) dX7_surveyOn_83 rfl (by decide) ?_
    refine x_iload_n 86 1 dX7_surveyOn_85 rfl rfl ?_
    refine x_iadd 87 dX7_surveyOn_86 rfl ?_
    refine x_iload_n 88 2 dX7_surveyOn_87 rfl rfl ?_
    obtain ⟨s22, h23, hF⟩ := b1_inv hF
    refine x_sI 89 h23 dX7_surveyOn_88 rfl ?_
    refine x_iload_n 90 3 dX7_surveyOn_89 rfl rfl ?_
    cases hF
    exact x_iret rfl rfl (by decide) (by decide) dX7_surveyOn_90
  refine x_sub [(0, .ref p0), (1, .int p1), (2, .int p2), (3, .int (0 : Int32)), (4, .int (0 : Int32))] [2, 3, 4, 1, 0] rfl ?_
  exact mX7_surveyOn_L5 hst p0 p1 p2 n _ qfuel (0 : Int32) (0 : Int32) σ x16 s17 h24 hJ
def rmX7_change : Room := { frames := 0, cells := 0, slots := 0, locals := 0 }
theorem qyX7_change : qY yX7_change cX7_change 4 (some .int) 3 := ⟨wd_1154, wd_32, by decide +kernel, by decide +kernel, by decide +kernel⟩
set_option maxHeartbeats 4000000 in
set_option maxRecDepth 100000 in
theorem mX7_change {l : Launch} {G : qG} (hst : l.stackTraces = false) (p0 : Nat) (p1 : Int32) (p2 : Int32) (σ : qH) (n : Option Nat) (ro : Int32) (so : qH) (hF : FX7_change p0 p1 p2 σ = some (ro, so)) : qM l G yX7_change cX7_change 4 (some .int) rmX7_change [.ref p0, .int p1, .int p2] σ n (.inl (some (.int ro), so, n)) := by
  refine q_body (own := RX7) (nm := "change") (ls := [(0, .ref p0), (1, .int p1), (2, .int p2)]) hst (by decide +kernel) rfl rfl (Nat.le_of_ble_eq_true rfl) rfl rfl rfl ?_
  unfold FX7_change at hF
  refine x_aload_n 1 0 dX7_change_0 rfl rfl ?_
  refine x_bipush 3 (7 : Int32) dX7_change_1 rfl (by decide) ?_
  refine x_iload_n 4 1 dX7_change_3 rfl rfl ?_
  refine x_iadd 5 dX7_change_4 rfl ?_
  obtain ⟨v1, h2, hF⟩ := b1_inv hF
  refine x_aI 6 h2 dX7_change_5 rfl ?_
  refine x_istore_n 7 3 [(3, .int v1), (0, .ref p0), (1, .int p1), (2, .int p2)] dX7_change_6 rfl rfl (by decide) rfl ?_
  refine x_aload_n 8 1 dX7_change_7 rfl rfl ?_
  refine x_bipush 10 (7 : Int32) dX7_change_8 rfl (by decide) ?_
  refine x_iload_n 11 2 dX7_change_10 rfl rfl ?_
  refine x_iadd 12 dX7_change_11 rfl ?_
  refine x_iload_n 13 3 dX7_change_12 rfl rfl ?_
  obtain ⟨s3, h4, hF⟩ := b1_inv hF
  refine x_sI 14 h4 dX7_change_13 rfl ?_
  refine x_iload_n 15 0 dX7_change_14 rfl rfl ?_
  cases hF
  exact x_iret rfl rfl (by decide) (by decide) dX7_change_15
def rmX7_allTrust : Room := { frames := 0, cells := 0, slots := 0, locals := 0 }
theorem qyX7_allTrust : qY yX7_allTrust cX7_allTrust 3 (some .int) 1 := ⟨wd_1073, wd_32, by decide +kernel, by decide +kernel, by decide +kernel⟩
set_option maxHeartbeats 4000000 in
set_option maxRecDepth 100000 in
theorem mX7_allTrust_L4 {l : Launch} {G : qG} (hst : l.stackTraces = false) (a0 : Nat) (σ : qH) (n : Option Nat) (r : qR) : ∀ (q : Nat) (y1 : Int32) (y2 : Int32) (o1 : Int32), FX7_allTrust_L4 a0 σ q y1 y2 = some o1 → qX l G RX7 "allTrust" cX7_allTrust 3 (some .int) [] rmX7_allTrust 0 0 r 0 0 σ n 25 [(1, .int o1)] [] → qX l G RX7 "allTrust" cX7_allTrust 3 (some .int) [] rmX7_allTrust 0 0 r 0 0 σ n 4 [(0, .ref a0), (1, .int y1), (2, .int y2)] [] := by
  intro q
  induction q with
  | zero => intro y1 y2 o1 hF; rw [FX7_allTrust_L4] at hF; cases hF
  | succ q ih =>
    intro y1 y2 o1 hF hJ
    rw [FX7_allTrust_L4] at hF
    refine x_iload_n 5 2 dX7_allTrust_4 rfl rfl ?_
    refine x_bipush 7 (6 : Int32) dX7_allTrust_5 rfl (by decide) ?_
    rcases ite_inv hF with ⟨hc, hF⟩ | ⟨hc, hF⟩
    · refine x_icmp_ge 25 10 dX7_allTrust_7 (by decide) rfl (fun _ => ?_) (fun q => absurd hc q)
      have e1 := Option.some.inj hF
      subst e1
      refine x_sub [(1, .int y1)] [1] rfl ?_
      exact hJ
    · refine x_icmp_ge 25 10 dX7_allTrust_7 (by decide) rfl (fun q => absurd q hc) (fun _ => ?_)
      refine x_iload_n 11 1 dX7_allTrust_10 rfl rfl ?_
      refine x_aload_n 12 0 dX7_allTrust_11 rfl rfl ?_
      refine x_bipush 14 (9 : Int32) dX7_allTrust_12 rfl (by decide) ?_
      refine x_iload_n 15 2 dX7_allTrust_14 rfl rfl ?_
      refine x_iadd 16 dX7_allTrust_15 rfl ?_
      obtain ⟨v1, h2, hF⟩ := b1_inv hF
      refine x_aI 17 h2 dX7_allTrust_16 rfl ?_
      refine x_iadd 18 dX7_allTrust_17 rfl ?_
      refine x_istore_n 19 1 [(1, .int (y1 + v1)), (0, .ref a0), (2, .int y2)] dX7_allTrust_18 rfl rfl (by decide) rfl ?_
      refine x_iinc 22 2 2 (y2 + (1 : Int32)) [(2, .int (y2 + (1 : Int32))), (1, .int (y1 + v1)), (0, .ref a0)] dX7_allTrust_19 rfl rfl rfl (by decide) rfl ?_
      refine x_goto 4 dX7_allTrust_22 (by decide) ?_
      refine x_sub [(0, .ref a0), (1, .int (y1 + v1)), (2, .int (y2 + (1 : Int32)))] [2, 1, 0] rfl ?_
      exact ih _ _ _ hF hJ
set_option maxHeartbeats 4000000 in
set_option maxRecDepth 100000 in
theorem mX7_allTrust {l : Launch} {G : qG} (hst : l.stackTraces = false) (p0 : Nat) (σ : qH) (n : Option Nat) (ro : Int32) (hF : FX7_allTrust p0 σ = some ro) : qM l G yX7_allTrust cX7_allTrust 3 (some .int) rmX7_allTrust [.ref p0] σ n (.inl (some (.int ro), σ, n)) := by
  refine q_body (own := RX7) (nm := "allTrust") (ls := [(0, .ref p0)]) hst (by decide +kernel) rfl rfl (Nat.le_of_ble_eq_true rfl) rfl rfl rfl ?_
  unfold FX7_allTrust at hF
  refine x_iconst 1 (0 : Int32) dX7_allTrust_0 rfl (by decide) ?_
  refine x_istore_n 2 1 [(1, .int (0 : Int32)), (0, .ref p0)] dX7_allTrust_1 rfl rfl (by decide) rfl ?_
  refine x_iconst 3 (0 : Int32) dX7_allTrust_2 rfl (by decide) ?_
  refine x_istore_n 4 2 [(2, .int (0 : Int32)), (1, .int (0 : Int32)), (0, .ref p0)] dX7_allTrust_3 rfl rfl (by decide) rfl ?_
  obtain ⟨x3, h4, hF⟩ := b1_inv hF
  have hJ : qX l G RX7 "allTrust" cX7_allTrust 3 (some .int) [] rmX7_allTrust 0 0 (.inl (some (.int ro), σ, n)) 0 0 σ n 25 [(1, .int x3)] [] := by
    refine x_iload_n 26 0 dX7_allTrust_25 rfl rfl ?_
    cases hF
    exact x_iret rfl rfl (by decide) (by decide) dX7_allTrust_26
  refine x_sub [(0, .ref p0), (1, .int (0 : Int32)), (2, .int (0 : Int32))] [2, 1, 0] rfl ?_
  exact mX7_allTrust_L4 hst p0 σ n _ qfuel (0 : Int32) (0 : Int32) x3 h4 hJ
def rmX7_append : Room := { frames := 1, cells := 0, slots := 0, locals := 25 }
theorem qyX7_append : qY yX7_append cX7_append 2 (some .int) 1 := ⟨wd_966, wd_32, by decide +kernel, by decide +kernel, by decide +kernel⟩
theorem kX7_append {b : Nat} {p0 : Int32} {σ : qH} {o : Int32 × qH} (h : FX7_append b p0 σ = some o) : ∃ fs : List Value, True ∧ σ b = some (.inr (5, fs)) := by
  unfold FX7_append at h
  obtain ⟨_, h1, _⟩ := b1_inv h
  obtain ⟨fs, h2⟩ := gC_inv h1
  exact ⟨fs, trivial, h2⟩
set_option maxHeartbeats 4000000 in
set_option maxRecDepth 100000 in
theorem mX7_append {l : Launch} {G : qG} (hst : l.stackTraces = false) (b : Nat) (p0 : Int32) (σ : qH) (n : Option Nat) (ro : Int32) (so : qH) (hF : FX7_append b p0 σ = some (ro, so)) : qM l G yX7_append cX7_append 2 (some .int) rmX7_append [.ref b, .int p0] σ n (.inl (some (.int ro), so, n)) := by
  refine q_body (own := RX7) (nm := "append") (ls := [(0, .ref b), (1, .int p0)]) hst (by decide +kernel) rfl rfl (Nat.le_of_ble_eq_true rfl) rfl rfl rfl ?_
  unfold FX7_append at hF
  obtain ⟨_, hC, hF⟩ := b1_inv hF
  refine x_aload_n 1 0 dX7_append_0 rfl rfl ?_
  refine x_iload_n 2 1 dX7_append_1 rfl rfl ?_
  refine x_i2l 3 dX7_append_2 rfl ?_
  refine x_lconst 4 (0 : Int64) dX7_append_3 rfl (by decide) ?_
  refine x_ldc2 7 (255 : Int64) wd_967 dX7_append_4 rfl ?_
  obtain ⟨v2, h1, hF⟩ := b1_inv hF
  refine x_callS (As := [.long (p0).toInt64, .long (0 : Int64), .long (255 : Int64)]) (rest := [.ref b]) 10 0 0 (mX7_in hst (p0).toInt64 (0 : Int64) (255 : Int64) σ n v2 h1) qyX7_in wd_968 wd_969 rfl rfl (by decide) (Nat.le_of_ble_eq_true rfl) (by decide) dX7_append_7 rfl rfl rfl rfl ?_
  obtain ⟨x3, h21, hF⟩ := b1_inv hF
  have hJ : qX l G RX7 "append" cX7_append 2 (some .int) [] rmX7_append 0 0 (.inl (some (.int ro), so, n)) 0 0 σ n 31 [(0, .ref b), (1, .int p0)] [.int x3, .ref b] := by
    obtain ⟨v7, s8, h6, hF⟩ := b2_inv hF
    obtain ⟨fs, hb⟩ : ∃ fs : List Value, True ∧ σ b = some (.inr (5, fs)) := kX7_refused h6
    refine x_callV (As := [.int x3]) (rest := []) 34 0 0 (mX7_refused hst b x3 σ n v7 s8 h6) qyX7_refused wd_971 wd_973 wd_16 hb.2 rfl rfl rfl (by decide) (Nat.le_of_ble_eq_true rfl) (by decide) dX7_append_31 rfl rfl rfl rfl ?_
    rcases ite_inv hF with ⟨hc, hF⟩ | ⟨hc, hF⟩
    · refine x_if_eq 39 37 dX7_append_34 (by decide) rfl (fun _ => ?_) (fun q => absurd hc q)
      refine x_aload_n 40 0 dX7_append_39 rfl rfl ?_
      obtain ⟨r9, h10, hF⟩ := b1_inv hF
      refine x_getR 43 1 inX7 rfl (by decide) wd_926 h10 dX7_append_40 rfl ?_
      refine x_aload_n 44 0 dX7_append_43 rfl rfl ?_
      obtain ⟨v11, h12, hF⟩ := b1_inv hF
      refine x_getI 47 2 inX7 rfl (by decide) wd_927 h12 dX7_append_44 rfl ?_
      refine x_iload_n 48 1 dX7_append_47 rfl rfl ?_
      obtain ⟨s13, h14, hF⟩ := b1_inv hF
      refine x_sI 49 h14 dX7_append_48 rfl ?_
      refine x_aload_n 50 0 dX7_append_49 rfl rfl ?_
      refine x_dup 51 rfl dX7_append_50 rfl ?_
      obtain ⟨v15, h16, hF⟩ := b1_inv hF
      refine x_getI 54 2 inX7 rfl (by decide) wd_927 h16 dX7_append_51 rfl ?_
      refine x_iconst 55 (1 : Int32) dX7_append_54 rfl (by decide) ?_
      refine x_iadd 56 dX7_append_55 rfl ?_
      obtain ⟨s17, h18, hF⟩ := b1_inv hF
      refine x_put 59 2 inX7 tyX7 tyX7_ok nmX7 rfl (by decide) wd_927 rfl (tX7_2) rfl rfl h18 dX7_append_56 rfl ?_
      refine x_aload_n 60 0 dX7_append_59 rfl rfl ?_
      obtain ⟨v19, h20, hF⟩ := b1_inv hF
      refine x_getI 63 2 inX7 rfl (by decide) wd_927 h20 dX7_append_60 rfl ?_
      cases hF
      exact x_iret rfl rfl (by decide) (by decide) dX7_append_63
    · refine x_if_eq 39 37 dX7_append_34 (by decide) rfl (fun q => absurd q hc) (fun _ => ?_)
      refine x_iconst 38 (0 : Int32) dX7_append_37 rfl (by decide) ?_
      cases hF
      exact x_iret rfl rfl (by decide) (by decide) dX7_append_38
  have hF := h21
  rcases ite_inv hF with ⟨hc, hF⟩ | ⟨hc, hF⟩
  · refine x_if_ne 17 13 dX7_append_10 (by decide) rfl (fun q => absurd hc q) (fun _ => ?_)
    refine x_iconst 14 (1 : Int32) dX7_append_13 rfl (by decide) ?_
    refine x_goto 31 dX7_append_14 (by decide) ?_
    have e1 := Option.some.inj hF
    subst e1
    exact hJ
  · refine x_if_ne 17 13 dX7_append_10 (by decide) rfl (fun _ => ?_) (fun q => absurd q hc)
    refine x_aload_n 18 0 dX7_append_17 rfl rfl ?_
    obtain ⟨v4, h5, hF⟩ := b1_inv hF
    refine x_getI 21 2 inX7 rfl (by decide) wd_927 h5 dX7_append_18 rfl ?_
    refine x_bipush 23 (120 : Int32) dX7_append_21 rfl (by decide) ?_
    rcases ite_inv hF with ⟨hc, hF⟩ | ⟨hc, hF⟩
    · refine x_icmp_ne 30 26 dX7_append_23 (by decide) rfl (fun q => absurd hc q) (fun _ => ?_)
      refine x_iconst 27 (2 : Int32) dX7_append_26 rfl (by decide) ?_
      refine x_goto 31 dX7_append_27 (by decide) ?_
      have e1 := Option.some.inj hF
      subst e1
      exact hJ
    · refine x_icmp_ne 30 26 dX7_append_23 (by decide) rfl (fun _ => ?_) (fun q => absurd q hc)
      refine x_iconst 31 (0 : Int32) dX7_append_30 rfl (by decide) ?_
      have e1 := Option.some.inj hF
      subst e1
      exact hJ
def rmX7_clearText : Room := { frames := 0, cells := 0, slots := 0, locals := 0 }
theorem qyX7_clearText : qY yX7_clearText cX7_clearText 2 (some .int) 0 := ⟨wd_978, wd_32, by decide +kernel, by decide +kernel, by decide +kernel⟩
theorem kX7_clearText {b : Nat} {σ : qH} {o : Int32 × qH} (h : FX7_clearText b σ = some o) : ∃ fs : List Value, True ∧ σ b = some (.inr (5, fs)) := by
  unfold FX7_clearText at h
  obtain ⟨_, h1, _⟩ := b1_inv h
  obtain ⟨fs, h2⟩ := gC_inv h1
  exact ⟨fs, trivial, h2⟩
set_option maxHeartbeats 4000000 in
set_option maxRecDepth 100000 in
theorem mX7_clearText {l : Launch} {G : qG} (hst : l.stackTraces = false) (b : Nat) (σ : qH) (n : Option Nat) (ro : Int32) (so : qH) (hF : FX7_clearText b σ = some (ro, so)) : qM l G yX7_clearText cX7_clearText 2 (some .int) rmX7_clearText [.ref b] σ n (.inl (some (.int ro), so, n)) := by
  refine q_body (own := RX7) (nm := "clearText") (ls := [(0, .ref b)]) hst (by decide +kernel) rfl rfl (Nat.le_of_ble_eq_true rfl) rfl rfl rfl ?_
  unfold FX7_clearText at hF
  obtain ⟨_, hC, hF⟩ := b1_inv hF
  refine x_aload_n 1 0 dX7_clearText_0 rfl rfl ?_
  refine x_iconst 2 (0 : Int32) dX7_clearText_1 rfl (by decide) ?_
  obtain ⟨s1, h2, hF⟩ := b1_inv hF
  refine x_put 5 0 inX7 tyX7 tyX7_ok nmX7 rfl (by decide) wd_925 rfl (tX7_0) rfl rfl h2 dX7_clearText_2 rfl ?_
  refine x_aload_n 6 0 dX7_clearText_5 rfl rfl ?_
  obtain ⟨v3, h4, hF⟩ := b1_inv hF
  refine x_getI 9 2 inX7 rfl (by decide) wd_927 h4 dX7_clearText_6 rfl ?_
  refine x_istore_n 10 1 [(1, .int v3), (0, .ref b)] dX7_clearText_9 rfl rfl (by decide) rfl ?_
  refine x_aload_n 11 1 dX7_clearText_10 rfl rfl ?_
  refine x_iconst 12 (0 : Int32) dX7_clearText_11 rfl (by decide) ?_
  obtain ⟨s5, h6, hF⟩ := b1_inv hF
  refine x_put 15 2 inX7 tyX7 tyX7_ok nmX7 rfl (by decide) wd_927 rfl (tX7_2) rfl rfl h6 dX7_clearText_12 rfl ?_
  refine x_iload_n 16 0 dX7_clearText_15 rfl rfl ?_
  cases hF
  exact x_iret rfl rfl (by decide) (by decide) dX7_clearText_16
def rmX7_figures : Room := { frames := 1, cells := 0, slots := 0, locals := 25 }
theorem qyX7_figures : qY yX7_figures cX7_figures 9 (some .int) 4 := ⟨wd_998, wd_32, by decide +kernel, by decide +kernel, by decide +kernel⟩
set_option maxHeartbeats 4000000 in
set_option maxRecDepth 100000 in
theorem mX7_figures_L6 {l : Launch} {G : qG} (hst : l.stackTraces = false) (a0 : Nat) (a1 : Int32) (a3 : Int32) (a4 : Int32) (n : Option Nat) (rf : Int32 × qH → qR) (hrf : ∀ v : Int32, ∀ σ : qH, rf (v, σ) = .inl (some (.int v), σ, n)) : ∀ (q : Nat) (y5 : Int32) (y6 : Int32) (σ : qH) (o : Int32 × qH), FX7_figures_L6 a0 a1 a3 a4 q y5 y6 σ = some o → qX l G RX7 "figures" cX7_figures 9 (some .int) [] rmX7_figures 0 0 (rf o) 0 0 σ n 6 [(0, .ref a0), (1, .int a1), (3, .int a3), (4, .int a4), (5, .int y5), (6, .int y6)] [] := by
  intro q
  induction q with
  | zero => intro y5 y6 σ o hF; rw [FX7_figures_L6] at hF; cases hF
  | succ q ih =>
    intro y5 y6 σ o hF
    rw [FX7_figures_L6] at hF
    refine x_iload 8 5 dX7_figures_6 rfl rfl ?_
    rcases ite_inv hF with ⟨hc, hF⟩ | ⟨hc, hF⟩
    · refine x_if_le 112 11 dX7_figures_8 (by decide) rfl (fun _ => ?_) (fun q => absurd hc q)
      refine x_iload_n 113 1 dX7_figures_112 rfl rfl ?_
      refine x_iconst 114 (-1 : Int32) dX7_figures_113 rfl (by decide) ?_
      obtain ⟨x1, h2, hF⟩ := b1_inv hF
      have hJ : qX l G RX7 "figures" cX7_figures 9 (some .int) [] rmX7_figures 0 0 (rf o) 0 0 σ n 123 [] [.int x1] := by
        cases hF
        exact x_iret rfl (hrf _ _) (by decide) (by decide) dX7_figures_123
      have hF := h2
      rcases ite_inv hF with ⟨hc, hF⟩ | ⟨hc, hF⟩
      · refine x_icmp_ne 121 117 dX7_figures_114 (by decide) rfl (fun q => absurd hc q) (fun _ => ?_)
        refine x_iconst 118 (-1 : Int32) dX7_figures_117 rfl (by decide) ?_
        refine x_goto 123 dX7_figures_118 (by decide) ?_
        have e1 := Option.some.inj hF
        subst e1
        refine x_sub [] [] rfl ?_
        exact hJ
      · refine x_icmp_ne 121 117 dX7_figures_114 (by decide) rfl (fun _ => ?_) (fun q => absurd q hc)
        refine x_iload 123 4 dX7_figures_121 rfl rfl ?_
        have e1 := Option.some.inj hF
        subst e1
        refine x_sub [] [] rfl ?_
        exact hJ
    · refine x_if_le 112 11 dX7_figures_8 (by decide) rfl (fun q => absurd q hc) (fun _ => ?_)
      refine x_iload_n 12 1 dX7_figures_11 rfl rfl ?_
      refine x_iconst 13 (-1 : Int32) dX7_figures_12 rfl (by decide) ?_
      rcases ite_inv hF with ⟨hc, hF⟩ | ⟨hc, hF⟩
      · refine x_icmp_eq 112 16 dX7_figures_13 (by decide) rfl (fun _ => ?_) (fun q => absurd hc q)
        refine x_iload_n 113 1 dX7_figures_112 rfl rfl ?_
        refine x_iconst 114 (-1 : Int32) dX7_figures_113 rfl (by decide) ?_
        obtain ⟨x3, h4, hF⟩ := b1_inv hF
        have hJ : qX l G RX7 "figures" cX7_figures 9 (some .int) [] rmX7_figures 0 0 (rf o) 0 0 σ n 123 [] [.int x3] := by
          cases hF
          exact x_iret rfl (hrf _ _) (by decide) (by decide) dX7_figures_123
        have hF := h4
        rcases ite_inv hF with ⟨hc, hF⟩ | ⟨hc, hF⟩
        · refine x_icmp_ne 121 117 dX7_figures_114 (by decide) rfl (fun q => absurd hc q) (fun _ => ?_)
          refine x_iconst 118 (-1 : Int32) dX7_figures_117 rfl (by decide) ?_
          refine x_goto 123 dX7_figures_118 (by decide) ?_
          have e1 := Option.some.inj hF
          subst e1
          refine x_sub [] [] rfl ?_
          exact hJ
        · refine x_icmp_ne 121 117 dX7_figures_114 (by decide) rfl (fun _ => ?_) (fun q => absurd q hc)
          refine x_iload 123 4 dX7_figures_121 rfl rfl ?_
          have e1 := Option.some.inj hF
          subst e1
          refine x_sub [] [] rfl ?_
          exact hJ
      · refine x_icmp_eq 112 16 dX7_figures_13 (by decide) rfl (fun q => absurd q hc) (fun _ => ?_)
        refine x_aload_n 17 0 dX7_figures_16 rfl rfl ?_
        obtain ⟨v5, h6, hF⟩ := b1_inv hF
        refine x_getI 20 9 inX7 rfl (by decide) wd_934 h6 dX7_figures_17 rfl ?_
        refine x_aload_n 21 0 dX7_figures_20 rfl rfl ?_
        obtain ⟨v7, h8, hF⟩ := b1_inv hF
        refine x_getI 24 2 inX7 rfl (by decide) wd_927 h8 dX7_figures_21 rfl ?_
        obtain ⟨x9, h22, hF⟩ := b1_inv hF
        have hJ : qX l G RX7 "figures" cX7_figures 9 (some .int) [] rmX7_figures 0 0 (rf o) 0 0 σ n 43 [(0, .ref a0), (1, .int a1), (3, .int a3), (4, .int a4), (5, .int y5), (6, .int y6)] [.int x9] := by
          refine x_istore 45 7 [(7, .int x9), (0, .ref a0), (1, .int a1), (3, .int a3), (4, .int a4), (5, .int y5), (6, .int y6)] dX7_figures_43 rfl (by decide) rfl ?_
          refine x_iload 47 5 dX7_figures_45 rfl rfl ?_
          refine x_iload 49 0 dX7_figures_47 rfl rfl ?_
          refine x_iload 51 6 dX7_figures_49 rfl rfl ?_
          refine x_imul 52 dX7_figures_51 rfl ?_
          refine x_iadd 53 dX7_figures_52 rfl ?_
          refine x_istore 55 8 [(8, .int (y5 + (x9 * y6))), (7, .int x9), (0, .ref a0), (1, .int a1), (3, .int a3), (4, .int a4), (5, .int y5), (6, .int y6)] dX7_figures_53 rfl (by decide) rfl ?_
          refine x_iload 57 1 dX7_figures_55 rfl rfl ?_
          refine x_i2l 58 dX7_figures_57 rfl ?_
          refine x_lconst 59 (0 : Int64) dX7_figures_58 rfl (by decide) ?_
          refine x_ldc2 62 (9 : Int64) wd_999 dX7_figures_59 rfl ?_
          obtain ⟨v17, h16, hF⟩ := b1_inv hF
          refine x_callS (As := [.long (x9).toInt64, .long (0 : Int64), .long (9 : Int64)]) (rest := []) 65 0 0 (mX7_in hst (x9).toInt64 (0 : Int64) (9 : Int64) σ n v17 h16) qyX7_in wd_968 wd_969 rfl rfl (by decide) (Nat.le_of_ble_eq_true rfl) (by decide) dX7_figures_62 rfl rfl rfl rfl ?_
          rcases ite_inv hF with ⟨hc, hF⟩ | ⟨hc, hF⟩
          · refine x_if_eq 86 68 dX7_figures_65 (by decide) rfl (fun _ => ?_) (fun q => absurd hc q)
            refine x_iconst 87 (-1 : Int32) dX7_figures_86 rfl (by decide) ?_
            cases hF
            exact x_iret rfl (hrf _ _) (by decide) (by decide) dX7_figures_87
          · refine x_if_eq 86 68 dX7_figures_65 (by decide) rfl (fun q => absurd q hc) (fun _ => ?_)
            refine x_iload 70 0 dX7_figures_68 rfl rfl ?_
            refine x_iload 72 5 dX7_figures_70 rfl rfl ?_
            rcases ite_inv hF with ⟨hc, hF⟩ | ⟨hc, hF⟩
            · refine x_icmp_gt 86 75 dX7_figures_72 (by decide) rfl (fun _ => ?_) (fun q => absurd hc q)
              refine x_iconst 87 (-1 : Int32) dX7_figures_86 rfl (by decide) ?_
              cases hF
              exact x_iret rfl (hrf _ _) (by decide) (by decide) dX7_figures_87
            · refine x_icmp_gt 86 75 dX7_figures_72 (by decide) rfl (fun q => absurd q hc) (fun _ => ?_)
              refine x_iload 77 0 dX7_figures_75 rfl rfl ?_
              refine x_iload 79 7 dX7_figures_77 rfl rfl ?_
              refine x_iadd 80 dX7_figures_79 rfl ?_
              refine x_iconst 81 (1 : Int32) dX7_figures_80 rfl (by decide) ?_
              refine x_isub 82 dX7_figures_81 rfl ?_
              refine x_iload_n 83 4 dX7_figures_82 rfl rfl ?_
              rcases ite_inv hF with ⟨hc, hF⟩ | ⟨hc, hF⟩
              · refine x_icmp_ge 88 86 dX7_figures_83 (by decide) rfl (fun _ => ?_) (fun q => absurd hc q)
                refine x_iload 90 0 dX7_figures_88 rfl rfl ?_
                refine x_istore 92 5 [(5, .int (y5 + (x9 * y6))), (8, .int (y5 + (x9 * y6))), (7, .int x9), (0, .ref a0), (1, .int a1), (3, .int a3), (4, .int a4), (6, .int y6)] dX7_figures_90 rfl (by decide) rfl ?_
                refine x_aload_n 93 3 dX7_figures_92 rfl rfl ?_
                refine x_dup 94 rfl dX7_figures_93 rfl ?_
                obtain ⟨v18, h19, hF⟩ := b1_inv hF
                refine x_getI 97 9 inX7 rfl (by decide) wd_934 h19 dX7_figures_94 rfl ?_
                refine x_iconst 98 (1 : Int32) dX7_figures_97 rfl (by decide) ?_
                refine x_iadd 99 dX7_figures_98 rfl ?_
                obtain ⟨s20, h21, hF⟩ := b1_inv hF
                refine x_put 102 9 inX7 tyX7 tyX7_ok nmX7 rfl (by decide) wd_934 rfl (tX7_9) rfl rfl h21 dX7_figures_99 rfl ?_
                refine x_iload 104 7 dX7_figures_102 rfl rfl ?_
                refine x_bipush 106 (10 : Int32) dX7_figures_104 rfl (by decide) ?_
                refine x_idiv 107 (by decide) dX7_figures_106 rfl ?_
                refine x_istore 109 6 [(6, .int (y6 / (10 : Int32))), (5, .int (y5 + (x9 * y6))), (8, .int (y5 + (x9 * y6))), (7, .int x9), (0, .ref a0), (1, .int a1), (3, .int a3), (4, .int a4)] dX7_figures_107 rfl (by decide) rfl ?_
                refine x_goto 6 dX7_figures_109 (by decide) ?_
                refine x_sub [(0, .ref a0), (1, .int a1), (3, .int a3), (4, .int a4), (5, .int (y5 + (x9 * y6))), (6, .int (y6 / (10 : Int32)))] [4, 5, 6, 7, 1, 0] rfl ?_
                exact ih _ _ _ _ hF
              · refine x_icmp_ge 88 86 dX7_figures_83 (by decide) rfl (fun q => absurd q hc) (fun _ => ?_)
                refine x_iconst 87 (-1 : Int32) dX7_figures_86 rfl (by decide) ?_
                cases hF
                exact x_iret rfl (hrf _ _) (by decide) (by decide) dX7_figures_87
        have hF := h22
        rcases ite_inv hF with ⟨hc, hF⟩ | ⟨hc, hF⟩
        · refine x_icmp_ge 42 27 dX7_figures_24 (by decide) rfl (fun _ => ?_) (fun q => absurd hc q)
          refine x_iconst 43 (-1 : Int32) dX7_figures_42 rfl (by decide) ?_
          have e1 := Option.some.inj hF
          subst e1
          exact hJ
        · refine x_icmp_ge 42 27 dX7_figures_24 (by decide) rfl (fun q => absurd q hc) (fun _ => ?_)
          refine x_aload_n 28 0 dX7_figures_27 rfl rfl ?_
          obtain ⟨r10, h11, hF⟩ := b1_inv hF
          refine x_getR 31 1 inX7 rfl (by decide) wd_926 h11 dX7_figures_28 rfl ?_
          refine x_aload_n 32 0 dX7_figures_31 rfl rfl ?_
          obtain ⟨v12, h13, hF⟩ := b1_inv hF
          refine x_getI 35 9 inX7 rfl (by decide) wd_934 h13 dX7_figures_32 rfl ?_
          obtain ⟨v14, h15, hF⟩ := b1_inv hF
          refine x_aI 36 h15 dX7_figures_35 rfl ?_
          refine x_bipush 38 (48 : Int32) dX7_figures_36 rfl (by decide) ?_
          refine x_isub 39 dX7_figures_38 rfl ?_
          refine x_goto 43 dX7_figures_39 (by decide) ?_
          have e1 := Option.some.inj hF
          subst e1
          exact hJ
theorem kX7_figures {b : Nat} {p0 : Int32} {p1 : Int32} {p2 : Int32} {p3 : Int32} {σ : qH} {o : Int32 × qH} (h : FX7_figures b p0 p1 p2 p3 σ = some o) : ∃ fs : List Value, True ∧ σ b = some (.inr (5, fs)) := by
  unfold FX7_figures at h
  obtain ⟨_, h1, _⟩ := b1_inv h
  obtain ⟨fs, h2⟩ := gC_inv h1
  exact ⟨fs, trivial, h2⟩
set_option maxHeartbeats 4000000 in
set_option maxRecDepth 100000 in
theorem mX7_figures {l : Launch} {G : qG} (hst : l.stackTraces = false) (b : Nat) (p0 : Int32) (p1 : Int32) (p2 : Int32) (p3 : Int32) (σ : qH) (n : Option Nat) (ro : Int32) (so : qH) (hF : FX7_figures b p0 p1 p2 p3 σ = some (ro, so)) : qM l G yX7_figures cX7_figures 9 (some .int) rmX7_figures [.ref b, .int p0, .int p1, .int p2, .int p3] σ n (.inl (some (.int ro), so, n)) := by
  refine q_body (own := RX7) (nm := "figures") (ls := [(0, .ref b), (1, .int p0), (2, .int p1), (3, .int p2), (4, .int p3)]) hst (by decide +kernel) rfl rfl (Nat.le_of_ble_eq_true rfl) rfl rfl rfl ?_
  unfold FX7_figures at hF
  obtain ⟨_, hC, hF⟩ := b1_inv hF
  refine x_iconst 1 (0 : Int32) dX7_figures_0 rfl (by decide) ?_
  refine x_istore 3 5 [(5, .int (0 : Int32)), (0, .ref b), (1, .int p0), (2, .int p1), (3, .int p2), (4, .int p3)] dX7_figures_1 rfl (by decide) rfl ?_
  refine x_iload_n 4 3 dX7_figures_3 rfl rfl ?_
  refine x_istore 6 6 [(6, .int p1), (5, .int (0 : Int32)), (0, .ref b), (1, .int p0), (2, .int p1), (3, .int p2), (4, .int p3)] dX7_figures_4 rfl (by decide) rfl ?_
  refine x_sub [(0, .ref b), (1, .int p0), (3, .int p2), (4, .int p3), (5, .int (0 : Int32)), (6, .int p1)] [2, 3, 5, 6, 1, 0] rfl ?_
  exact mX7_figures_L6 hst b p0 p2 p3 n (fun v9 : Int32 × qH => .inl (some (.int v9.1), v9.2, n)) (fun _ _ => rfl) qfuel (0 : Int32) p1 σ _ hF
def rmX7_done : Room := { frames := 0, cells := 0, slots := 0, locals := 0 }
theorem qyX7_done : qY yX7_done cX7_done 2 (some .boolean) 1 := ⟨wd_1014, wd_32, by decide +kernel, by decide +kernel, by decide +kernel⟩
theorem kX7_done {b : Nat} {p0 : Int32} {σ : qH} {o : Int32 × qH} (h : FX7_done b p0 σ = some o) : ∃ fs : List Value, True ∧ σ b = some (.inr (5, fs)) := by
  unfold FX7_done at h
  obtain ⟨_, h1, _⟩ := b1_inv h
  obtain ⟨fs, h2⟩ := gC_inv h1
  exact ⟨fs, trivial, h2⟩
set_option maxHeartbeats 4000000 in
set_option maxRecDepth 100000 in
theorem mX7_done {l : Launch} {G : qG} (hst : l.stackTraces = false) (b : Nat) (p0 : Int32) (σ : qH) (n : Option Nat) (ro : Int32) (so : qH) (hF : FX7_done b p0 σ = some (ro, so)) : qM l G yX7_done cX7_done 2 (some .boolean) rmX7_done [.ref b, .int p0] σ n (.inl (some (.int ro), so, n)) := by
  refine q_body (own := RX7) (nm := "done") (ls := [(0, .ref b), (1, .int p0)]) hst (by decide +kernel) rfl rfl (Nat.le_of_ble_eq_true rfl) rfl rfl rfl ?_
  unfold FX7_done at hF
  obtain ⟨_, hC, hF⟩ := b1_inv hF
  refine x_aload_n 1 0 dX7_done_0 rfl rfl ?_
  refine x_dup 2 rfl dX7_done_1 rfl ?_
  obtain ⟨v1, h2, hF⟩ := b1_inv hF
  refine x_getI 5 10 inX7 rfl (by decide) wd_935 h2 dX7_done_2 rfl ?_
  refine x_iload_n 6 1 dX7_done_5 rfl rfl ?_
  obtain ⟨x3, h6, hF⟩ := b1_inv hF
  have hJ : qX l G RX7 "done" cX7_done 2 (some .boolean) [] rmX7_done 0 0 (.inl (some (.int ro), so, n)) 0 0 σ n 14 [] [.int x3, .int v1, .ref b] := by
    refine x_iadd 15 dX7_done_14 rfl ?_
    obtain ⟨s4, h5, hF⟩ := b1_inv hF
    refine x_put 18 10 inX7 tyX7 tyX7_ok nmX7 rfl (by decide) wd_935 rfl (tX7_10) rfl rfl h5 dX7_done_15 rfl ?_
    refine x_iconst 19 (1 : Int32) dX7_done_18 rfl (by decide) ?_
    cases hF
    exact x_zret rfl rfl rfl (by decide) (by decide) dX7_done_19
  have hF := h6
  rcases ite_inv hF with ⟨hc, hF⟩ | ⟨hc, hF⟩
  · refine x_if_eq 13 9 dX7_done_6 (by decide) rfl (fun _ => ?_) (fun q => absurd hc q)
    refine x_iconst 14 (1 : Int32) dX7_done_13 rfl (by decide) ?_
    have e1 := Option.some.inj hF
    subst e1
    refine x_sub [] [] rfl ?_
    exact hJ
  · refine x_if_eq 13 9 dX7_done_6 (by decide) rfl (fun q => absurd q hc) (fun _ => ?_)
    refine x_iconst 10 (0 : Int32) dX7_done_9 rfl (by decide) ?_
    refine x_goto 14 dX7_done_10 (by decide) ?_
    have e1 := Option.some.inj hF
    subst e1
    refine x_sub [] [] rfl ?_
    exact hJ
def rmX7_readMeasure : Room := { frames := 2, cells := 0, slots := 0, locals := 53 }
theorem qyX7_readMeasure : qY yX7_readMeasure cX7_readMeasure 9 (some .boolean) 2 := ⟨wd_994, wd_32, by decide +kernel, by decide +kernel, by decide +kernel⟩
theorem kX7_readMeasure {b : Nat} {p0 : Nat} {p1 : Int32} {σ : qH} {o : Int32 × qH} (h : FX7_readMeasure b p0 p1 σ = some o) : ∃ fs : List Value, True ∧ σ b = some (.inr (5, fs)) := by
  unfold FX7_readMeasure at h
  obtain ⟨_, h1, _⟩ := b1_inv h
  obtain ⟨fs, h2⟩ := gC_inv h1
  exact ⟨fs, trivial, h2⟩
set_option maxHeartbeats 4000000 in
set_option maxRecDepth 100000 in
theorem mX7_readMeasure {l : Launch} {G : qG} (hst : l.stackTraces = false) (b : Nat) (p0 : Nat) (p1 : Int32) (σ : qH) (n : Option Nat) (ro : Int32) (so : qH) (hF : FX7_readMeasure b p0 p1 σ = some (ro, so)) : qM l G yX7_readMeasure cX7_readMeasure 9 (some .boolean) rmX7_readMeasure [.ref b, .ref p0, .int p1] σ n (.inl (some (.int ro), so, n)) := by
  refine q_body (own := RX7) (nm := "readMeasure") (ls := [(0, .ref b), (1, .ref p0), (2, .int p1)]) hst (by decide +kernel) rfl rfl (Nat.le_of_ble_eq_true rfl) rfl rfl rfl ?_
  unfold FX7_readMeasure at hF
  obtain ⟨_, hC, hF⟩ := b1_inv hF
  refine x_aload_n 1 0 dX7_readMeasure_0 rfl rfl ?_
  refine x_iconst 2 (0 : Int32) dX7_readMeasure_1 rfl (by decide) ?_
  refine x_iconst 3 (1 : Int32) dX7_readMeasure_2 rfl (by decide) ?_
  refine x_iconst 4 (0 : Int32) dX7_readMeasure_3 rfl (by decide) ?_
  refine x_iconst 5 (2 : Int32) dX7_readMeasure_4 rfl (by decide) ?_
  obtain ⟨v2, s3, h1, hF⟩ := b2_inv hF
  obtain ⟨fs, hb⟩ : ∃ fs : List Value, True ∧ σ b = some (.inr (5, fs)) := kX7_figures h1
  refine x_callV (As := [.int (0 : Int32), .int (1 : Int32), .int (0 : Int32), .int (2 : Int32)]) (rest := []) 8 0 0 (mX7_figures hst b (0 : Int32) (1 : Int32) (0 : Int32) (2 : Int32) σ n v2 s3 h1) qyX7_figures wd_995 wd_997 wd_20 hb.2 rfl rfl rfl (by decide) (Nat.le_of_ble_eq_true rfl) (by decide) dX7_readMeasure_5 rfl rfl rfl rfl ?_
  refine x_istore_n 9 3 [(3, .int v2), (0, .ref b), (1, .ref p0), (2, .int p1)] dX7_readMeasure_8 rfl rfl (by decide) rfl ?_
  refine x_aload_n 10 1 dX7_readMeasure_9 rfl rfl ?_
  refine x_iload_n 11 0 dX7_readMeasure_10 rfl rfl ?_
  refine x_iconst 12 (1 : Int32) dX7_readMeasure_11 rfl (by decide) ?_
  refine x_iconst 13 (0 : Int32) dX7_readMeasure_12 rfl (by decide) ?_
  refine x_iconst 14 (5 : Int32) dX7_readMeasure_13 rfl (by decide) ?_
  obtain ⟨v5, s6, h4, hF⟩ := b2_inv hF
  obtain ⟨fs, hb⟩ : ∃ fs : List Value, True ∧ s3 b = some (.inr (5, fs)) := kX7_figures h4
  refine x_callV (As := [.int v2, .int (1 : Int32), .int (0 : Int32), .int (5 : Int32)]) (rest := []) 17 0 0 (mX7_figures hst b v2 (1 : Int32) (0 : Int32) (5 : Int32) s3 n v5 s6 h4) qyX7_figures wd_995 wd_997 wd_20 hb.2 rfl rfl rfl (by decide) (Nat.le_of_ble_eq_true rfl) (by decide) dX7_readMeasure_14 rfl rfl rfl rfl ?_
  refine x_istore 19 4 [(4, .int v5), (3, .int v2), (0, .ref b), (1, .ref p0), (2, .int p1)] dX7_readMeasure_17 rfl (by decide) rfl ?_
  refine x_iload_n 20 4 dX7_readMeasure_19 rfl rfl ?_
  obtain ⟨x7, s8, h57, hF⟩ := b2_inv hF
  have hJ : qX l G RX7 "readMeasure" cX7_readMeasure 9 (some .boolean) [] rmX7_readMeasure 0 0 (.inl (some (.int ro), so, n)) 0 0 s8 n 67 [(0, .ref b), (1, .ref p0), (2, .int p1), (3, .int v2), (4, .int v5)] [.int x7] := by
    refine x_istore 69 5 [(5, .int x7), (0, .ref b), (1, .ref p0), (2, .int p1), (3, .int v2), (4, .int v5)] dX7_readMeasure_67 rfl (by decide) rfl ?_
    refine x_iload_n 70 3 dX7_readMeasure_69 rfl rfl ?_
    refine x_iconst 71 (2 : Int32) dX7_readMeasure_70 rfl (by decide) ?_
    obtain ⟨x18, s19, h56, hF⟩ := b2_inv hF
    have hJ : qX l G RX7 "readMeasure" cX7_readMeasure 9 (some .boolean) [] rmX7_readMeasure 0 0 (.inl (some (.int ro), so, n)) 0 0 s19 n 109 [(0, .ref b), (1, .ref p0), (2, .int p1), (3, .int v2), (4, .int v5), (5, .int x7)] [.int x18] := by
      refine x_istore 111 6 [(6, .int x18), (0, .ref b), (1, .ref p0), (2, .int p1), (3, .int v2), (4, .int v5), (5, .int x7)] dX7_readMeasure_109 rfl (by decide) rfl ?_
      refine x_iload_n 112 3 dX7_readMeasure_111 rfl rfl ?_
      refine x_iconst 113 (2 : Int32) dX7_readMeasure_112 rfl (by decide) ?_
      obtain ⟨x28, s29, h55, hF⟩ := b2_inv hF
      have hJ : qX l G RX7 "readMeasure" cX7_readMeasure 9 (some .boolean) [] rmX7_readMeasure 0 0 (.inl (some (.int ro), so, n)) 0 0 s29 n 142 [(0, .ref b), (1, .ref p0), (2, .int p1), (3, .int v2), (4, .int v5), (5, .int x7), (6, .int x18)] [.int x28] := by
        refine x_istore 144 7 [(7, .int x28), (0, .ref b), (1, .ref p0), (2, .int p1), (3, .int v2), (4, .int v5), (5, .int x7), (6, .int x18)] dX7_readMeasure_142 rfl (by decide) rfl ?_
        refine x_iload_n 145 3 dX7_readMeasure_144 rfl rfl ?_
        refine x_iconst 146 (2 : Int32) dX7_readMeasure_145 rfl (by decide) ?_
        obtain ⟨x33, s34, h54, hF⟩ := b2_inv hF
        have hJ : qX l G RX7 "readMeasure" cX7_readMeasure 9 (some .boolean) [] rmX7_readMeasure 0 0 (.inl (some (.int ro), so, n)) 0 0 s34 n 165 [(0, .ref b), (1, .ref p0), (2, .int p1), (3, .int v2), (4, .int v5), (5, .int x7), (6, .int x18), (7, .int x28)] [.int x33] := by
          refine x_istore 167 8 [(8, .int x33), (0, .ref b), (1, .ref p0), (2, .int p1), (3, .int v2), (4, .int v5), (5, .int x7), (6, .int x18), (7, .int x28)] dX7_readMeasure_165 rfl (by decide) rfl ?_
          refine x_iload 169 0 dX7_readMeasure_167 rfl rfl ?_
          refine x_iconst 170 (-1 : Int32) dX7_readMeasure_169 rfl (by decide) ?_
          obtain ⟨x38, s39, h53, hF⟩ := b2_inv hF
          have hJ : qX l G RX7 "readMeasure" cX7_readMeasure 9 (some .boolean) [] rmX7_readMeasure 0 0 (.inl (some (.int ro), so, n)) 0 0 s39 n 232 [] [.int x38] := by
            obtain ⟨hz, hF⟩ := ite_none hF
            cases hF
            exact x_zret rfl (by rcases hz with h | h <;> rw [h] <;> rfl) rfl (by decide) (by decide) dX7_readMeasure_232
          have hF := h53
          rcases ite_inv hF with ⟨hc, hF⟩ | ⟨hc, hF⟩
          · refine x_icmp_eq 231 173 dX7_readMeasure_170 (by decide) rfl (fun _ => ?_) (fun q => absurd hc q)
            refine x_iconst 232 (0 : Int32) dX7_readMeasure_231 rfl (by decide) ?_
            obtain ⟨e1, e2⟩ := so2 hF
            subst e1
            subst e2
            refine x_sub [] [] rfl ?_
            exact hJ
          · refine x_icmp_eq 231 173 dX7_readMeasure_170 (by decide) rfl (fun q => absurd q hc) (fun _ => ?_)
            refine x_aload_n 174 1 dX7_readMeasure_173 rfl rfl ?_
            refine x_iload_n 175 3 dX7_readMeasure_174 rfl rfl ?_
            refine x_iload 177 6 dX7_readMeasure_175 rfl rfl ?_
            refine x_iload 179 7 dX7_readMeasure_177 rfl rfl ?_
            refine x_iload 181 8 dX7_readMeasure_179 rfl rfl ?_
            refine x_iload 183 0 dX7_readMeasure_181 rfl rfl ?_
            obtain ⟨v41, h40, hF⟩ := b1_inv hF
            refine x_callS (As := [.int p1, .int x7, .int x18, .int x28, .int x33]) (rest := [.ref b]) 186 0 0 (mX7_areFine hst p1 x7 x18 x28 x33 s34 n v41 h40) qyX7_areFine wd_1000 wd_1001 rfl rfl (by decide) (Nat.le_of_ble_eq_true rfl) (by decide) dX7_readMeasure_183 rfl rfl rfl rfl ?_
            obtain ⟨x42, s43, h52, hF⟩ := b2_inv hF
            have hJ : qX l G RX7 "readMeasure" cX7_readMeasure 9 (some .boolean) [] rmX7_readMeasure 0 0 (.inl (some (.int ro), so, n)) 0 0 s43 n 221 [] [.int x42, .ref b] := by
              obtain ⟨v50, s51, h49, hF⟩ := b2_inv hF
              obtain ⟨fs, hb⟩ : ∃ fs : List Value, True ∧ s43 b = some (.inr (5, fs)) := kX7_done h49
              refine x_callV (As := [.int x42]) (rest := []) 224 0 0 (mX7_done hst b x42 s43 n v50 s51 h49) qyX7_done wd_1011 wd_1013 wd_21 hb.2 rfl rfl rfl (by decide) (Nat.le_of_ble_eq_true rfl) (by decide) dX7_readMeasure_221 rfl rfl rfl rfl ?_
              rcases ite_inv hF with ⟨hc, hF⟩ | ⟨hc, hF⟩
              · refine x_if_eq 231 227 dX7_readMeasure_224 (by decide) rfl (fun _ => ?_) (fun q => absurd hc q)
                refine x_iconst 232 (0 : Int32) dX7_readMeasure_231 rfl (by decide) ?_
                obtain ⟨e1, e2⟩ := so2 hF
                subst e1
                subst e2
                exact hJ
              · refine x_if_eq 231 227 dX7_readMeasure_224 (by decide) rfl (fun q => absurd q hc) (fun _ => ?_)
                refine x_iconst 228 (1 : Int32) dX7_readMeasure_227 rfl (by decide) ?_
                refine x_goto 232 dX7_readMeasure_228 (by decide) ?_
                obtain ⟨e1, e2⟩ := so2 hF
                subst e1
                subst e2
                exact hJ
            have hF := h52
            rcases ite_inv hF with ⟨hc, hF⟩ | ⟨hc, hF⟩
            · refine x_if_eq 220 189 dX7_readMeasure_186 (by decide) rfl (fun _ => ?_) (fun q => absurd hc q)
              refine x_iconst 221 (0 : Int32) dX7_readMeasure_220 rfl (by decide) ?_
              obtain ⟨e1, e2⟩ := so2 hF
              subst e1
              subst e2
              refine x_sub [] [] rfl ?_
              exact hJ
            · refine x_if_eq 220 189 dX7_readMeasure_186 (by decide) rfl (fun q => absurd q hc) (fun _ => ?_)
              refine x_aload_n 190 2 dX7_readMeasure_189 rfl rfl ?_
              refine x_iconst 191 (0 : Int32) dX7_readMeasure_190 rfl (by decide) ?_
              obtain ⟨v44, h45, hF⟩ := b1_inv hF
              refine x_aI 192 h45 dX7_readMeasure_191 rfl ?_
              refine x_bipush 194 (16 : Int32) dX7_readMeasure_192 rfl (by decide) ?_
              rcases ite_inv hF with ⟨hc, hF⟩ | ⟨hc, hF⟩
              · refine x_icmp_ge 220 197 dX7_readMeasure_194 (by decide) rfl (fun _ => ?_) (fun q => absurd hc q)
                refine x_iconst 221 (0 : Int32) dX7_readMeasure_220 rfl (by decide) ?_
                obtain ⟨e1, e2⟩ := so2 hF
                subst e1
                subst e2
                refine x_sub [] [] rfl ?_
                exact hJ
              · refine x_icmp_ge 220 197 dX7_readMeasure_194 (by decide) rfl (fun q => absurd q hc) (fun _ => ?_)
                refine x_aload_n 198 2 dX7_readMeasure_197 rfl rfl ?_
                refine x_iload_n 199 4 dX7_readMeasure_198 rfl rfl ?_
                refine x_iload 201 5 dX7_readMeasure_199 rfl rfl ?_
                refine x_iload_n 202 3 dX7_readMeasure_201 rfl rfl ?_
                refine x_iload 204 6 dX7_readMeasure_202 rfl rfl ?_
                refine x_iload 206 7 dX7_readMeasure_204 rfl rfl ?_
                refine x_iload 208 8 dX7_readMeasure_206 rfl rfl ?_
                refine x_iload 210 0 dX7_readMeasure_208 rfl rfl ?_
                obtain ⟨v47, s48, h46, hF⟩ := b2_inv hF
                refine x_callS (As := [.ref p0, .int v2, .int v5, .int p1, .int x7, .int x18, .int x28, .int x33]) (rest := [.ref b]) 213 0 0 (mX7_measureOn hst p0 v2 v5 p1 x7 x18 x28 x33 s34 n v47 s48 h46) qyX7_measureOn wd_1008 wd_1009 rfl rfl (by decide) (Nat.le_of_ble_eq_true rfl) (by decide) dX7_readMeasure_210 rfl rfl rfl rfl ?_
                rcases ite_inv hF with ⟨hc, hF⟩ | ⟨hc, hF⟩
                · refine x_if_lt 220 216 dX7_readMeasure_213 (by decide) rfl (fun _ => ?_) (fun q => absurd hc q)
                  refine x_iconst 221 (0 : Int32) dX7_readMeasure_220 rfl (by decide) ?_
                  obtain ⟨e1, e2⟩ := so2 hF
                  subst e1
                  subst e2
                  refine x_sub [] [] rfl ?_
                  exact hJ
                · refine x_if_lt 220 216 dX7_readMeasure_213 (by decide) rfl (fun q => absurd q hc) (fun _ => ?_)
                  refine x_iconst 217 (1 : Int32) dX7_readMeasure_216 rfl (by decide) ?_
                  refine x_goto 221 dX7_readMeasure_217 (by decide) ?_
                  obtain ⟨e1, e2⟩ := so2 hF
                  subst e1
                  subst e2
                  refine x_sub [] [] rfl ?_
                  exact hJ
        have hF := h54
        rcases ite_inv hF with ⟨hc, hF⟩ | ⟨hc, hF⟩
        · refine x_icmp_ne 154 149 dX7_readMeasure_146 (by decide) rfl (fun q => absurd hc q) (fun _ => ?_)
          refine x_iload 151 0 dX7_readMeasure_149 rfl rfl ?_
          refine x_goto 165 dX7_readMeasure_151 (by decide) ?_
          obtain ⟨e1, e2⟩ := so2 hF
          subst e1
          subst e2
          refine x_sub [(0, .ref b), (1, .ref p0), (2, .int p1), (3, .int v2), (4, .int v5), (5, .int x7), (6, .int x18), (7, .int x28)] [1, 2, 3, 4, 5, 6, 7, 0] rfl ?_
          exact hJ
        · refine x_icmp_ne 154 149 dX7_readMeasure_146 (by decide) rfl (fun _ => ?_) (fun q => absurd q hc)
          refine x_aload_n 155 1 dX7_readMeasure_154 rfl rfl ?_
          refine x_iload 157 0 dX7_readMeasure_155 rfl rfl ?_
          refine x_bipush 159 (10 : Int32) dX7_readMeasure_157 rfl (by decide) ?_
          refine x_iconst 160 (0 : Int32) dX7_readMeasure_159 rfl (by decide) ?_
          refine x_bipush 162 (20 : Int32) dX7_readMeasure_160 rfl (by decide) ?_
          obtain ⟨v36, s37, h35, hF⟩ := b2_inv hF
          obtain ⟨fs, hb⟩ : ∃ fs : List Value, True ∧ s29 b = some (.inr (5, fs)) := kX7_figures h35
          refine x_callV (As := [.int x28, .int (10 : Int32), .int (0 : Int32), .int (20 : Int32)]) (rest := []) 165 0 0 (mX7_figures hst b x28 (10 : Int32) (0 : Int32) (20 : Int32) s29 n v36 s37 h35) qyX7_figures wd_995 wd_997 wd_20 hb.2 rfl rfl rfl (by decide) (Nat.le_of_ble_eq_true rfl) (by decide) dX7_readMeasure_162 rfl rfl rfl rfl ?_
          obtain ⟨e1, e2⟩ := so2 hF
          subst e1
          subst e2
          refine x_sub [(0, .ref b), (1, .ref p0), (2, .int p1), (3, .int v2), (4, .int v5), (5, .int x7), (6, .int x18), (7, .int x28)] [1, 2, 3, 4, 5, 6, 7, 0] rfl ?_
          exact hJ
      have hF := h55
      rcases ite_inv hF with ⟨hc, hF⟩ | ⟨hc, hF⟩
      · refine x_icmp_ne 130 116 dX7_readMeasure_113 (by decide) rfl (fun q => absurd hc q) (fun _ => ?_)
        refine x_iload 118 0 dX7_readMeasure_116 rfl rfl ?_
        refine x_iconst 119 (-1 : Int32) dX7_readMeasure_118 rfl (by decide) ?_
        rcases ite_inv hF with ⟨hc, hF⟩ | ⟨hc, hF⟩
        · refine x_icmp_ne 126 122 dX7_readMeasure_119 (by decide) rfl (fun q => absurd hc q) (fun _ => ?_)
          refine x_iconst 123 (-1 : Int32) dX7_readMeasure_122 rfl (by decide) ?_
          refine x_goto 142 dX7_readMeasure_123 (by decide) ?_
          obtain ⟨e1, e2⟩ := so2 hF
          subst e1
          subst e2
          refine x_sub [(0, .ref b), (1, .ref p0), (2, .int p1), (3, .int v2), (4, .int v5), (5, .int x7), (6, .int x18)] [1, 2, 3, 4, 5, 6, 0] rfl ?_
          exact hJ
        · refine x_icmp_ne 126 122 dX7_readMeasure_119 (by decide) rfl (fun _ => ?_) (fun q => absurd q hc)
          refine x_iconst 127 (0 : Int32) dX7_readMeasure_126 rfl (by decide) ?_
          refine x_goto 142 dX7_readMeasure_127 (by decide) ?_
          obtain ⟨e1, e2⟩ := so2 hF
          subst e1
          subst e2
          refine x_sub [(0, .ref b), (1, .ref p0), (2, .int p1), (3, .int v2), (4, .int v5), (5, .int x7), (6, .int x18)] [1, 2, 3, 4, 5, 6, 0] rfl ?_
          exact hJ
      · refine x_icmp_ne 130 116 dX7_readMeasure_113 (by decide) rfl (fun _ => ?_) (fun q => absurd q hc)
        refine x_aload_n 131 1 dX7_readMeasure_130 rfl rfl ?_
        refine x_iload 133 0 dX7_readMeasure_131 rfl rfl ?_
        refine x_bipush 135 (100 : Int32) dX7_readMeasure_133 rfl (by decide) ?_
        refine x_iconst 136 (1 : Int32) dX7_readMeasure_135 rfl (by decide) ?_
        refine x_sipush 139 (400 : Int32) dX7_readMeasure_136 rfl (by decide) ?_
        obtain ⟨v31, s32, h30, hF⟩ := b2_inv hF
        obtain ⟨fs, hb⟩ : ∃ fs : List Value, True ∧ s19 b = some (.inr (5, fs)) := kX7_figures h30
        refine x_callV (As := [.int x18, .int (100 : Int32), .int (1 : Int32), .int (400 : Int32)]) (rest := []) 142 0 0 (mX7_figures hst b x18 (100 : Int32) (1 : Int32) (400 : Int32) s19 n v31 s32 h30) qyX7_figures wd_995 wd_997 wd_20 hb.2 rfl rfl rfl (by decide) (Nat.le_of_ble_eq_true rfl) (by decide) dX7_readMeasure_139 rfl rfl rfl rfl ?_
        obtain ⟨e1, e2⟩ := so2 hF
        subst e1
        subst e2
        refine x_sub [(0, .ref b), (1, .ref p0), (2, .int p1), (3, .int v2), (4, .int v5), (5, .int x7), (6, .int x18)] [1, 2, 3, 4, 5, 6, 0] rfl ?_
        exact hJ
    have hF := h56
    rcases ite_inv hF with ⟨hc, hF⟩ | ⟨hc, hF⟩
    · refine x_icmp_ne 89 74 dX7_readMeasure_71 (by decide) rfl (fun q => absurd hc q) (fun _ => ?_)
      refine x_aload_n 75 1 dX7_readMeasure_74 rfl rfl ?_
      refine x_iload 77 0 dX7_readMeasure_75 rfl rfl ?_
      refine x_bipush 79 (100 : Int32) dX7_readMeasure_77 rfl (by decide) ?_
      refine x_iconst 80 (1 : Int32) dX7_readMeasure_79 rfl (by decide) ?_
      refine x_sipush 83 (999 : Int32) dX7_readMeasure_80 rfl (by decide) ?_
      obtain ⟨v21, s22, h20, hF⟩ := b2_inv hF
      obtain ⟨fs, hb⟩ : ∃ fs : List Value, True ∧ s8 b = some (.inr (5, fs)) := kX7_figures h20
      refine x_callV (As := [.int x7, .int (100 : Int32), .int (1 : Int32), .int (999 : Int32)]) (rest := []) 86 0 0 (mX7_figures hst b x7 (100 : Int32) (1 : Int32) (999 : Int32) s8 n v21 s22 h20) qyX7_figures wd_995 wd_997 wd_20 hb.2 rfl rfl rfl (by decide) (Nat.le_of_ble_eq_true rfl) (by decide) dX7_readMeasure_83 rfl rfl rfl rfl ?_
      refine x_goto 109 dX7_readMeasure_86 (by decide) ?_
      obtain ⟨e1, e2⟩ := so2 hF
      subst e1
      subst e2
      refine x_sub [(0, .ref b), (1, .ref p0), (2, .int p1), (3, .int v2), (4, .int v5), (5, .int x7)] [1, 2, 3, 4, 5, 0] rfl ?_
      exact hJ
    · refine x_icmp_ne 89 74 dX7_readMeasure_71 (by decide) rfl (fun _ => ?_) (fun q => absurd q hc)
      refine x_aload_n 90 1 dX7_readMeasure_89 rfl rfl ?_
      refine x_iload 92 0 dX7_readMeasure_90 rfl rfl ?_
      refine x_bipush 94 (10 : Int32) dX7_readMeasure_92 rfl (by decide) ?_
      refine x_iconst 95 (1 : Int32) dX7_readMeasure_94 rfl (by decide) ?_
      refine x_iload_n 96 3 dX7_readMeasure_95 rfl rfl ?_
      obtain ⟨x23, h27, hF⟩ := b1_inv hF
      have hJ : qX l G RX7 "readMeasure" cX7_readMeasure 9 (some .boolean) [] rmX7_readMeasure 0 0 (.inl (some (.int ro), so, n)) 0 0 s8 n 106 [(0, .ref b), (1, .ref p0), (2, .int p1), (3, .int v2), (4, .int v5), (5, .int x7)] [.int x23, .int (1 : Int32), .int (10 : Int32), .int x7, .ref b] := by
        obtain ⟨v25, s26, h24, hF⟩ := b2_inv hF
        obtain ⟨fs, hb⟩ : ∃ fs : List Value, True ∧ s8 b = some (.inr (5, fs)) := kX7_figures h24
        refine x_callV (As := [.int x7, .int (10 : Int32), .int (1 : Int32), .int x23]) (rest := []) 109 0 0 (mX7_figures hst b x7 (10 : Int32) (1 : Int32) x23 s8 n v25 s26 h24) qyX7_figures wd_995 wd_997 wd_20 hb.2 rfl rfl rfl (by decide) (Nat.le_of_ble_eq_true rfl) (by decide) dX7_readMeasure_106 rfl rfl rfl rfl ?_
        obtain ⟨e1, e2⟩ := so2 hF
        subst e1
        subst e2
        exact hJ
      have hF := h27
      rcases ite_inv hF with ⟨hc, hF⟩ | ⟨hc, hF⟩
      · refine x_if_ne 104 99 dX7_readMeasure_96 (by decide) rfl (fun q => absurd hc q) (fun _ => ?_)
        refine x_bipush 101 (40 : Int32) dX7_readMeasure_99 rfl (by decide) ?_
        refine x_goto 106 dX7_readMeasure_101 (by decide) ?_
        have e1 := Option.some.inj hF
        subst e1
        refine x_sub [(0, .ref b), (1, .ref p0), (2, .int p1), (3, .int v2), (4, .int v5), (5, .int x7)] [1, 2, 3, 4, 5, 0] rfl ?_
        exact hJ
      · refine x_if_ne 104 99 dX7_readMeasure_96 (by decide) rfl (fun _ => ?_) (fun q => absurd q hc)
        refine x_bipush 106 (60 : Int32) dX7_readMeasure_104 rfl (by decide) ?_
        have e1 := Option.some.inj hF
        subst e1
        refine x_sub [(0, .ref b), (1, .ref p0), (2, .int p1), (3, .int v2), (4, .int v5), (5, .int x7)] [1, 2, 3, 4, 5, 0] rfl ?_
        exact hJ
  have hF := h57
  rcases ite_inv hF with ⟨hc, hF⟩ | ⟨hc, hF⟩
  · refine x_if_ne 37 23 dX7_readMeasure_20 (by decide) rfl (fun q => absurd hc q) (fun _ => ?_)
    refine x_aload_n 24 2 dX7_readMeasure_23 rfl rfl ?_
    refine x_iload 26 0 dX7_readMeasure_24 rfl rfl ?_
    refine x_bipush 28 (10 : Int32) dX7_readMeasure_26 rfl (by decide) ?_
    refine x_iconst 29 (1 : Int32) dX7_readMeasure_28 rfl (by decide) ?_
    refine x_bipush 31 (20 : Int32) dX7_readMeasure_29 rfl (by decide) ?_
    obtain ⟨v10, s11, h9, hF⟩ := b2_inv hF
    obtain ⟨fs, hb⟩ : ∃ fs : List Value, True ∧ s6 b = some (.inr (5, fs)) := kX7_figures h9
    refine x_callV (As := [.int v5, .int (10 : Int32), .int (1 : Int32), .int (20 : Int32)]) (rest := []) 34 0 0 (mX7_figures hst b v5 (10 : Int32) (1 : Int32) (20 : Int32) s6 n v10 s11 h9) qyX7_figures wd_995 wd_997 wd_20 hb.2 rfl rfl rfl (by decide) (Nat.le_of_ble_eq_true rfl) (by decide) dX7_readMeasure_31 rfl rfl rfl rfl ?_
    refine x_goto 67 dX7_readMeasure_34 (by decide) ?_
    obtain ⟨e1, e2⟩ := so2 hF
    subst e1
    subst e2
    refine x_sub [(0, .ref b), (1, .ref p0), (2, .int p1), (3, .int v2), (4, .int v5)] [2, 3, 4, 1, 0] rfl ?_
    exact hJ
  · refine x_if_ne 37 23 dX7_readMeasure_20 (by decide) rfl (fun _ => ?_) (fun q => absurd q hc)
    refine x_iload_n 38 4 dX7_readMeasure_37 rfl rfl ?_
    refine x_iconst 39 (1 : Int32) dX7_readMeasure_38 rfl (by decide) ?_
    rcases ite_inv hF with ⟨hc, hF⟩ | ⟨hc, hF⟩
    · refine x_icmp_ne 55 42 dX7_readMeasure_39 (by decide) rfl (fun q => absurd hc q) (fun _ => ?_)
      refine x_aload_n 43 2 dX7_readMeasure_42 rfl rfl ?_
      refine x_iload 45 0 dX7_readMeasure_43 rfl rfl ?_
      refine x_iconst 46 (1 : Int32) dX7_readMeasure_45 rfl (by decide) ?_
      refine x_iconst 47 (1 : Int32) dX7_readMeasure_46 rfl (by decide) ?_
      refine x_bipush 49 (9 : Int32) dX7_readMeasure_47 rfl (by decide) ?_
      obtain ⟨v13, s14, h12, hF⟩ := b2_inv hF
      obtain ⟨fs, hb⟩ : ∃ fs : List Value, True ∧ s6 b = some (.inr (5, fs)) := kX7_figures h12
      refine x_callV (As := [.int v5, .int (1 : Int32), .int (1 : Int32), .int (9 : Int32)]) (rest := []) 52 0 0 (mX7_figures hst b v5 (1 : Int32) (1 : Int32) (9 : Int32) s6 n v13 s14 h12) qyX7_figures wd_995 wd_997 wd_20 hb.2 rfl rfl rfl (by decide) (Nat.le_of_ble_eq_true rfl) (by decide) dX7_readMeasure_49 rfl rfl rfl rfl ?_
      refine x_goto 67 dX7_readMeasure_52 (by decide) ?_
      obtain ⟨e1, e2⟩ := so2 hF
      subst e1
      subst e2
      refine x_sub [(0, .ref b), (1, .ref p0), (2, .int p1), (3, .int v2), (4, .int v5)] [2, 3, 4, 1, 0] rfl ?_
      exact hJ
    · refine x_icmp_ne 55 42 dX7_readMeasure_39 (by decide) rfl (fun _ => ?_) (fun q => absurd q hc)
      refine x_aload_n 56 2 dX7_readMeasure_55 rfl rfl ?_
      refine x_iload 58 0 dX7_readMeasure_56 rfl rfl ?_
      refine x_bipush 60 (100 : Int32) dX7_readMeasure_58 rfl (by decide) ?_
      refine x_iconst 61 (1 : Int32) dX7_readMeasure_60 rfl (by decide) ?_
      refine x_sipush 64 (999 : Int32) dX7_readMeasure_61 rfl (by decide) ?_
      obtain ⟨v16, s17, h15, hF⟩ := b2_inv hF
      obtain ⟨fs, hb⟩ : ∃ fs : List Value, True ∧ s6 b = some (.inr (5, fs)) := kX7_figures h15
      refine x_callV (As := [.int v5, .int (100 : Int32), .int (1 : Int32), .int (999 : Int32)]) (rest := []) 67 0 0 (mX7_figures hst b v5 (100 : Int32) (1 : Int32) (999 : Int32) s6 n v16 s17 h15) qyX7_figures wd_995 wd_997 wd_20 hb.2 rfl rfl rfl (by decide) (Nat.le_of_ble_eq_true rfl) (by decide) dX7_readMeasure_64 rfl rfl rfl rfl ?_
      obtain ⟨e1, e2⟩ := so2 hF
      subst e1
      subst e2
      refine x_sub [(0, .ref b), (1, .ref p0), (2, .int p1), (3, .int v2), (4, .int v5)] [2, 3, 4, 1, 0] rfl ?_
      exact hJ
def rmX7_readCommand : Room := { frames := 5, cells := 0, slots := 0, locals := 117 }
theorem qyX7_readCommand : qY yX7_readCommand cX7_readCommand 5 (some .boolean) 1 := ⟨wd_990, wd_32, by decide +kernel, by decide +kernel, by decide +kernel⟩
theorem kX7_readCommand {b : Nat} {p0 : Nat} {σ : qH} {o : Int32 × qH} (h : FX7_readCommand b p0 σ = some o) : ∃ fs : List Value, True ∧ σ b = some (.inr (5, fs)) := by
  unfold FX7_readCommand at h
  obtain ⟨_, h1, _⟩ := b1_inv h
  obtain ⟨fs, h2⟩ := gC_inv h1
  exact ⟨fs, trivial, h2⟩
set_option maxHeartbeats 4000000 in
set_option maxRecDepth 100000 in
theorem mX7_readCommand {l : Launch} {G : qG} (hst : l.stackTraces = false) (b : Nat) (p0 : Nat) (σ : qH) (n : Option Nat) (ro : Int32) (so : qH) (hF : FX7_readCommand b p0 σ = some (ro, so)) : qM l G yX7_readCommand cX7_readCommand 5 (some .boolean) rmX7_readCommand [.ref b, .ref p0] σ n (.inl (some (.int ro), so, n)) := by
  refine q_body (own := RX7) (nm := "readCommand") (ls := [(0, .ref b), (1, .ref p0)]) hst (by decide +kernel) rfl rfl (Nat.le_of_ble_eq_true rfl) rfl rfl rfl ?_
  unfold FX7_readCommand at hF
  obtain ⟨_, hC, hF⟩ := b1_inv hF
  refine x_aload_n 1 0 dX7_readCommand_0 rfl rfl ?_
  obtain ⟨r1, h2, hF⟩ := b1_inv hF
  refine x_getR 4 1 inX7 rfl (by decide) wd_926 h2 dX7_readCommand_1 rfl ?_
  refine x_aload_n 5 0 dX7_readCommand_4 rfl rfl ?_
  obtain ⟨v3, h4, hF⟩ := b1_inv hF
  refine x_getI 8 9 inX7 rfl (by decide) wd_934 h4 dX7_readCommand_5 rfl ?_
  obtain ⟨v5, h6, hF⟩ := b1_inv hF
  refine x_aI 9 h6 dX7_readCommand_8 rfl ?_
  refine x_istore_n 10 2 [(2, .int v5), (0, .ref b), (1, .ref p0)] dX7_readCommand_9 rfl rfl (by decide) rfl ?_
  refine x_aload_n 11 1 dX7_readCommand_10 rfl rfl ?_
  refine x_dup 12 rfl dX7_readCommand_11 rfl ?_
  obtain ⟨v7, h8, hF⟩ := b1_inv hF
  refine x_getI 15 9 inX7 rfl (by decide) wd_934 h8 dX7_readCommand_12 rfl ?_
  refine x_iconst 16 (1 : Int32) dX7_readCommand_15 rfl (by decide) ?_
  refine x_iadd 17 dX7_readCommand_16 rfl ?_
  obtain ⟨s9, h10, hF⟩ := b1_inv hF
  refine x_put 20 9 inX7 tyX7 tyX7_ok nmX7 rfl (by decide) wd_934 rfl (tX7_9) rfl rfl h10 dX7_readCommand_17 rfl ?_
  refine x_iload_n 21 0 dX7_readCommand_20 rfl rfl ?_
  rcases ite_inv hF with ⟨h28, hF⟩ | ⟨h28, hF⟩
  · have hK : qX l G RX7 "readCommand" cX7_readCommand 5 (some .boolean) [] rmX7_readCommand 0 0 (.inl (some (.int ro), so, n)) 0 0 s9 n 137 [(2, .int v5), (0, .ref b), (1, .ref p0)] [] := by
      refine x_aload_n 138 1 dX7_readCommand_137 rfl rfl ?_
      refine x_iconst 139 (0 : Int32) dX7_readCommand_138 rfl (by decide) ?_
      refine x_bipush 141 (10 : Int32) dX7_readCommand_139 rfl (by decide) ?_
      refine x_iconst 142 (0 : Int32) dX7_readCommand_141 rfl (by decide) ?_
      refine x_bipush 144 (15 : Int32) dX7_readCommand_142 rfl (by decide) ?_
      obtain ⟨v12, s13, h11, hF⟩ := b2_inv hF
      obtain ⟨fs, hb⟩ : ∃ fs : List Value, True ∧ s9 b = some (.inr (5, fs)) := kX7_figures h11
      refine x_callV (As := [.int (0 : Int32), .int (10 : Int32), .int (0 : Int32), .int (15 : Int32)]) (rest := []) 147 0 0 (mX7_figures hst b (0 : Int32) (10 : Int32) (0 : Int32) (15 : Int32) s9 n v12 s13 h11) qyX7_figures wd_995 wd_997 wd_20 hb.2 rfl rfl rfl (by decide) (Nat.le_of_ble_eq_true rfl) (by decide) dX7_readCommand_144 rfl rfl rfl rfl ?_
      refine x_istore_n 148 3 [(3, .int v12), (2, .int v5), (0, .ref b), (1, .ref p0)] dX7_readCommand_147 rfl rfl (by decide) rfl ?_
      refine x_iload_n 149 0 dX7_readCommand_148 rfl rfl ?_
      refine x_iconst 150 (-1 : Int32) dX7_readCommand_149 rfl (by decide) ?_
      obtain ⟨x14, s15, h27, hF⟩ := b2_inv hF
      have hJ : qX l G RX7 "readCommand" cX7_readCommand 5 (some .boolean) [] rmX7_readCommand 0 0 (.inl (some (.int ro), so, n)) 0 0 s15 n 186 [] [.int x14] := by
        obtain ⟨hz, hF⟩ := ite_none hF
        cases hF
        exact x_zret rfl (by rcases hz with h | h <;> rw [h] <;> rfl) rfl (by decide) (by decide) dX7_readCommand_186
      have hF := h27
      rcases ite_inv hF with ⟨hc, hF⟩ | ⟨hc, hF⟩
      · refine x_icmp_eq 185 153 dX7_readCommand_150 (by decide) rfl (fun _ => ?_) (fun q => absurd hc q)
        refine x_iconst 186 (0 : Int32) dX7_readCommand_185 rfl (by decide) ?_
        obtain ⟨e1, e2⟩ := so2 hF
        subst e1
        subst e2
        refine x_sub [] [] rfl ?_
        exact hJ
      · refine x_icmp_eq 185 153 dX7_readCommand_150 (by decide) rfl (fun q => absurd q hc) (fun _ => ?_)
        refine x_aload_n 154 2 dX7_readCommand_153 rfl rfl ?_
        refine x_aload_n 155 3 dX7_readCommand_154 rfl rfl ?_
        refine x_iload_n 156 0 dX7_readCommand_155 rfl rfl ?_
        obtain ⟨v17, h16, hF⟩ := b1_inv hF
        refine x_callS (As := [.ref p0, .int v12]) (rest := [.ref b]) 159 0 0 (mX7_isMeasure hst p0 v12 s13 n v17 h16) qyX7_isMeasure wd_1015 wd_1016 rfl rfl (by decide) (Nat.le_of_ble_eq_true rfl) (by decide) dX7_readCommand_156 rfl rfl rfl rfl ?_
        obtain ⟨x18, s19, h26, hF⟩ := b2_inv hF
        have hJ : qX l G RX7 "readCommand" cX7_readCommand 5 (some .boolean) [] rmX7_readCommand 0 0 (.inl (some (.int ro), so, n)) 0 0 s19 n 175 [] [.int x18, .ref b] := by
          obtain ⟨v24, s25, h23, hF⟩ := b2_inv hF
          obtain ⟨fs, hb⟩ : ∃ fs : List Value, True ∧ s19 b = some (.inr (5, fs)) := kX7_done h23
          refine x_callV (As := [.int x18]) (rest := []) 178 0 0 (mX7_done hst b x18 s19 n v24 s25 h23) qyX7_done wd_1011 wd_1013 wd_21 hb.2 rfl rfl rfl (by decide) (Nat.le_of_ble_eq_true rfl) (by decide) dX7_readCommand_175 rfl rfl rfl rfl ?_
          rcases ite_inv hF with ⟨hc, hF⟩ | ⟨hc, hF⟩
          · refine x_if_eq 185 181 dX7_readCommand_178 (by decide) rfl (fun _ => ?_) (fun q => absurd hc q)
            refine x_iconst 186 (0 : Int32) dX7_readCommand_185 rfl (by decide) ?_
            obtain ⟨e1, e2⟩ := so2 hF
            subst e1
            subst e2
            exact hJ
          · refine x_if_eq 185 181 dX7_readCommand_178 (by decide) rfl (fun q => absurd q hc) (fun _ => ?_)
            refine x_iconst 182 (1 : Int32) dX7_readCommand_181 rfl (by decide) ?_
            refine x_goto 186 dX7_readCommand_182 (by decide) ?_
            obtain ⟨e1, e2⟩ := so2 hF
            subst e1
            subst e2
            exact hJ
        have hF := h26
        rcases ite_inv hF with ⟨hc, hF⟩ | ⟨hc, hF⟩
        · refine x_if_eq 174 162 dX7_readCommand_159 (by decide) rfl (fun _ => ?_) (fun q => absurd hc q)
          refine x_iconst 175 (0 : Int32) dX7_readCommand_174 rfl (by decide) ?_
          obtain ⟨e1, e2⟩ := so2 hF
          subst e1
          subst e2
          refine x_sub [] [] rfl ?_
          exact hJ
        · refine x_if_eq 174 162 dX7_readCommand_159 (by decide) rfl (fun q => absurd q hc) (fun _ => ?_)
          refine x_aload_n 163 3 dX7_readCommand_162 rfl rfl ?_
          refine x_iload_n 164 0 dX7_readCommand_163 rfl rfl ?_
          obtain ⟨v21, s22, h20, hF⟩ := b2_inv hF
          refine x_callS (As := [.ref p0, .int v12]) (rest := [.ref b]) 167 0 0 (mX7_dropOn hst p0 v12 s13 n v21 s22 h20) qyX7_dropOn wd_1018 wd_1019 rfl rfl (by decide) (Nat.le_of_ble_eq_true rfl) (by decide) dX7_readCommand_164 rfl rfl rfl rfl ?_
          rcases ite_inv hF with ⟨hc, hF⟩ | ⟨hc, hF⟩
          · refine x_if_lt 174 170 dX7_readCommand_167 (by decide) rfl (fun _ => ?_) (fun q => absurd hc q)
            refine x_iconst 175 (0 : Int32) dX7_readCommand_174 rfl (by decide) ?_
            obtain ⟨e1, e2⟩ := so2 hF
            subst e1
            subst e2
            refine x_sub [] [] rfl ?_
            exact hJ
          · refine x_if_lt 174 170 dX7_readCommand_167 (by decide) rfl (fun q => absurd q hc) (fun _ => ?_)
            refine x_iconst 171 (1 : Int32) dX7_readCommand_170 rfl (by decide) ?_
            refine x_goto 175 dX7_readCommand_171 (by decide) ?_
            obtain ⟨e1, e2⟩ := so2 hF
            subst e1
            subst e2
            refine x_sub [] [] rfl ?_
            exact hJ
    · exact x_tableIn (116) 137 dX7_readCommand_21 (by rw [h28]; decide) (by rw [h28]; decide) (by rw [h28]; decide) (by decide) hK
  rcases ite_inv hF with ⟨h32, hF⟩ | ⟨h32, hF⟩
  · have hK : qX l G RX7 "readCommand" cX7_readCommand 5 (some .boolean) [] rmX7_readCommand 0 0 (.inl (some (.int ro), so, n)) 0 0 s9 n 123 [(2, .int v5), (0, .ref b), (1, .ref p0)] [] := by
      refine x_aload_n 124 1 dX7_readCommand_123 rfl rfl ?_
      refine x_aload_n 125 2 dX7_readCommand_124 rfl rfl ?_
      refine x_iconst 126 (1 : Int32) dX7_readCommand_125 rfl (by decide) ?_
      obtain ⟨v30, s31, h29, hF⟩ := b2_inv hF
      obtain ⟨fs, hb⟩ : ∃ fs : List Value, True ∧ s9 b = some (.inr (5, fs)) := kX7_readMeasure h29
      refine x_callV (As := [.ref p0, .int (1 : Int32)]) (rest := []) 129 0 0 (mX7_readMeasure hst b p0 (1 : Int32) s9 n v30 s31 h29) qyX7_readMeasure wd_991 wd_993 wd_19 hb.2 rfl rfl rfl (by decide) (Nat.le_of_ble_eq_true rfl) (by decide) dX7_readCommand_126 rfl rfl rfl rfl ?_
      obtain ⟨hz, hF⟩ := ite_none hF
      cases hF
      exact x_zret rfl (by rcases hz with h | h <;> rw [h] <;> rfl) rfl (by decide) (by decide) dX7_readCommand_129
    · exact x_tableIn (102) 123 dX7_readCommand_21 (by rw [h32]; decide) (by rw [h32]; decide) (by rw [h32]; decide) (by decide) hK
  rcases ite_inv hF with ⟨h41, hF⟩ | ⟨h41, hF⟩
  · have hK : qX l G RX7 "readCommand" cX7_readCommand 5 (some .boolean) [] rmX7_readCommand 0 0 (.inl (some (.int ro), so, n)) 0 0 s9 n 241 [(2, .int v5), (0, .ref b), (1, .ref p0)] [] := by
      refine x_aload_n 242 1 dX7_readCommand_241 rfl rfl ?_
      refine x_aload_n 243 2 dX7_readCommand_242 rfl rfl ?_
      obtain ⟨v34, s35, h33, hF⟩ := b2_inv hF
      refine x_callS (As := [.ref p0]) (rest := [.ref b]) 246 0 0 (mX7_eveningOn hst p0 s9 n v34 s35 h33) qyX7_eveningOn wd_1024 wd_1025 rfl rfl (by decide) (Nat.le_of_ble_eq_true rfl) (by decide) dX7_readCommand_243 rfl rfl rfl rfl ?_
      obtain ⟨x36, h40, hF⟩ := b1_inv hF
      have hJ : qX l G RX7 "readCommand" cX7_readCommand 5 (some .boolean) [] rmX7_readCommand 0 0 (.inl (some (.int ro), so, n)) 0 0 s35 n 254 [] [.int x36, .ref b] := by
        obtain ⟨v38, s39, h37, hF⟩ := b2_inv hF
        obtain ⟨fs, hb⟩ : ∃ fs : List Value, True ∧ s35 b = some (.inr (5, fs)) := kX7_done h37
        refine x_callV (As := [.int x36]) (rest := []) 257 0 0 (mX7_done hst b x36 s35 n v38 s39 h37) qyX7_done wd_1011 wd_1013 wd_21 hb.2 rfl rfl rfl (by decide) (Nat.le_of_ble_eq_true rfl) (by decide) dX7_readCommand_254 rfl rfl rfl rfl ?_
        obtain ⟨hz, hF⟩ := ite_none hF
        cases hF
        exact x_zret rfl (by rcases hz with h | h <;> rw [h] <;> rfl) rfl (by decide) (by decide) dX7_readCommand_257
      have hF := h40
      rcases ite_inv hF with ⟨hc, hF⟩ | ⟨hc, hF⟩
      · refine x_if_lt 253 249 dX7_readCommand_246 (by decide) rfl (fun _ => ?_) (fun q => absurd hc q)
        refine x_iconst 254 (0 : Int32) dX7_readCommand_253 rfl (by decide) ?_
        have e1 := Option.some.inj hF
        subst e1
        refine x_sub [] [] rfl ?_
        exact hJ
      · refine x_if_lt 253 249 dX7_readCommand_246 (by decide) rfl (fun q => absurd q hc) (fun _ => ?_)
        refine x_iconst 250 (1 : Int32) dX7_readCommand_249 rfl (by decide) ?_
        refine x_goto 254 dX7_readCommand_250 (by decide) ?_
        have e1 := Option.some.inj hF
        subst e1
        refine x_sub [] [] rfl ?_
        exact hJ
    · exact x_tableIn (220) 241 dX7_readCommand_21 (by rw [h41]; decide) (by rw [h41]; decide) (by rw [h41]; decide) (by decide) hK
  rcases ite_inv hF with ⟨h45, hF⟩ | ⟨h45, hF⟩
  · have hK : qX l G RX7 "readCommand" cX7_readCommand 5 (some .boolean) [] rmX7_readCommand 0 0 (.inl (some (.int ro), so, n)) 0 0 s9 n 116 [(2, .int v5), (0, .ref b), (1, .ref p0)] [] := by
      refine x_aload_n 117 1 dX7_readCommand_116 rfl rfl ?_
      refine x_aload_n 118 2 dX7_readCommand_117 rfl rfl ?_
      refine x_iconst 119 (0 : Int32) dX7_readCommand_118 rfl (by decide) ?_
      obtain ⟨v43, s44, h42, hF⟩ := b2_inv hF
      obtain ⟨fs, hb⟩ : ∃ fs : List Value, True ∧ s9 b = some (.inr (5, fs)) := kX7_readMeasure h42
      refine x_callV (As := [.ref p0, .int (0 : Int32)]) (rest := []) 122 0 0 (mX7_readMeasure hst b p0 (0 : Int32) s9 n v43 s44 h42) qyX7_readMeasure wd_991 wd_993 wd_19 hb.2 rfl rfl rfl (by decide) (Nat.le_of_ble_eq_true rfl) (by decide) dX7_readCommand_119 rfl rfl rfl rfl ?_
      obtain ⟨hz, hF⟩ := ite_none hF
      cases hF
      exact x_zret rfl (by rcases hz with h | h <;> rw [h] <;> rfl) rfl (by decide) (by decide) dX7_readCommand_122
    · exact x_tableIn (95) 116 dX7_readCommand_21 (by rw [h45]; decide) (by rw [h45]; decide) (by rw [h45]; decide) (by decide) hK
  rcases ite_inv hF with ⟨h63, hF⟩ | ⟨h63, hF⟩
  · have hK : qX l G RX7 "readCommand" cX7_readCommand 5 (some .boolean) [] rmX7_readCommand 0 0 (.inl (some (.int ro), so, n)) 0 0 s9 n 187 [(2, .int v5), (0, .ref b), (1, .ref p0)] [] := by
      refine x_aload_n 188 1 dX7_readCommand_187 rfl rfl ?_
      refine x_iconst 189 (0 : Int32) dX7_readCommand_188 rfl (by decide) ?_
      refine x_iconst 190 (1 : Int32) dX7_readCommand_189 rfl (by decide) ?_
      refine x_iconst 191 (0 : Int32) dX7_readCommand_190 rfl (by decide) ?_
      refine x_iconst 192 (5 : Int32) dX7_readCommand_191 rfl (by decide) ?_
      obtain ⟨v47, s48, h46, hF⟩ := b2_inv hF
      obtain ⟨fs, hb⟩ : ∃ fs : List Value, True ∧ s9 b = some (.inr (5, fs)) := kX7_figures h46
      refine x_callV (As := [.int (0 : Int32), .int (1 : Int32), .int (0 : Int32), .int (5 : Int32)]) (rest := []) 195 0 0 (mX7_figures hst b (0 : Int32) (1 : Int32) (0 : Int32) (5 : Int32) s9 n v47 s48 h46) qyX7_figures wd_995 wd_997 wd_20 hb.2 rfl rfl rfl (by decide) (Nat.le_of_ble_eq_true rfl) (by decide) dX7_readCommand_192 rfl rfl rfl rfl ?_
      refine x_istore_n 196 3 [(3, .int v47), (2, .int v5), (0, .ref b), (1, .ref p0)] dX7_readCommand_195 rfl rfl (by decide) rfl ?_
      refine x_aload_n 197 2 dX7_readCommand_196 rfl rfl ?_
      refine x_iload_n 198 0 dX7_readCommand_197 rfl rfl ?_
      refine x_iconst 199 (1 : Int32) dX7_readCommand_198 rfl (by decide) ?_
      refine x_iconst 200 (0 : Int32) dX7_readCommand_199 rfl (by decide) ?_
      refine x_bipush 202 (9 : Int32) dX7_readCommand_200 rfl (by decide) ?_
      obtain ⟨v50, s51, h49, hF⟩ := b2_inv hF
      obtain ⟨fs, hb⟩ : ∃ fs : List Value, True ∧ s48 b = some (.inr (5, fs)) := kX7_figures h49
      refine x_callV (As := [.int v47, .int (1 : Int32), .int (0 : Int32), .int (9 : Int32)]) (rest := []) 205 0 0 (mX7_figures hst b v47 (1 : Int32) (0 : Int32) (9 : Int32) s48 n v50 s51 h49) qyX7_figures wd_995 wd_997 wd_20 hb.2 rfl rfl rfl (by decide) (Nat.le_of_ble_eq_true rfl) (by decide) dX7_readCommand_202 rfl rfl rfl rfl ?_
      refine x_istore 207 4 [(4, .int v50), (3, .int v47), (2, .int v5), (0, .ref b), (1, .ref p0)] dX7_readCommand_205 rfl (by decide) rfl ?_
      refine x_iload 209 0 dX7_readCommand_207 rfl rfl ?_
      refine x_iconst 210 (-1 : Int32) dX7_readCommand_209 rfl (by decide) ?_
      obtain ⟨x52, s53, h62, hF⟩ := b2_inv hF
      have hJ : qX l G RX7 "readCommand" cX7_readCommand 5 (some .boolean) [] rmX7_readCommand 0 0 (.inl (some (.int ro), so, n)) 0 0 s53 n 240 [] [.int x52] := by
        obtain ⟨hz, hF⟩ := ite_none hF
        cases hF
        exact x_zret rfl (by rcases hz with h | h <;> rw [h] <;> rfl) rfl (by decide) (by decide) dX7_readCommand_240
      have hF := h62
      rcases ite_inv hF with ⟨hc, hF⟩ | ⟨hc, hF⟩
      · refine x_icmp_eq 239 213 dX7_readCommand_210 (by decide) rfl (fun _ => ?_) (fun q => absurd hc q)
        refine x_iconst 240 (0 : Int32) dX7_readCommand_239 rfl (by decide) ?_
        obtain ⟨e1, e2⟩ := so2 hF
        subst e1
        subst e2
        refine x_sub [] [] rfl ?_
        exact hJ
      · refine x_icmp_eq 239 213 dX7_readCommand_210 (by decide) rfl (fun q => absurd q hc) (fun _ => ?_)
        refine x_aload_n 214 3 dX7_readCommand_213 rfl rfl ?_
        refine x_aload_n 215 4 dX7_readCommand_214 rfl rfl ?_
        refine x_iload_n 216 1 dX7_readCommand_215 rfl rfl ?_
        refine x_iload 218 0 dX7_readCommand_216 rfl rfl ?_
        obtain ⟨v55, s56, h54, hF⟩ := b2_inv hF
        refine x_callS (As := [.ref p0, .int v47, .int v50]) (rest := [.ref b]) 221 0 0 (mX7_trustOn hst p0 v47 v50 s51 n v55 s56 h54) qyX7_trustOn wd_1021 wd_1022 rfl rfl (by decide) (Nat.le_of_ble_eq_true rfl) (by decide) dX7_readCommand_218 rfl rfl rfl rfl ?_
        obtain ⟨x57, h61, hF⟩ := b1_inv hF
        have hJ : qX l G RX7 "readCommand" cX7_readCommand 5 (some .boolean) [] rmX7_readCommand 0 0 (.inl (some (.int ro), so, n)) 0 0 s56 n 229 [] [.int x57, .ref b] := by
          obtain ⟨v59, s60, h58, hF⟩ := b2_inv hF
          obtain ⟨fs, hb⟩ : ∃ fs : List Value, True ∧ s56 b = some (.inr (5, fs)) := kX7_done h58
          refine x_callV (As := [.int x57]) (rest := []) 232 0 0 (mX7_done hst b x57 s56 n v59 s60 h58) qyX7_done wd_1011 wd_1013 wd_21 hb.2 rfl rfl rfl (by decide) (Nat.le_of_ble_eq_true rfl) (by decide) dX7_readCommand_229 rfl rfl rfl rfl ?_
          rcases ite_inv hF with ⟨hc, hF⟩ | ⟨hc, hF⟩
          · refine x_if_eq 239 235 dX7_readCommand_232 (by decide) rfl (fun _ => ?_) (fun q => absurd hc q)
            refine x_iconst 240 (0 : Int32) dX7_readCommand_239 rfl (by decide) ?_
            obtain ⟨e1, e2⟩ := so2 hF
            subst e1
            subst e2
            exact hJ
          · refine x_if_eq 239 235 dX7_readCommand_232 (by decide) rfl (fun q => absurd q hc) (fun _ => ?_)
            refine x_iconst 236 (1 : Int32) dX7_readCommand_235 rfl (by decide) ?_
            refine x_goto 240 dX7_readCommand_236 (by decide) ?_
            obtain ⟨e1, e2⟩ := so2 hF
            subst e1
            subst e2
            exact hJ
        have hF := h61
        rcases ite_inv hF with ⟨hc, hF⟩ | ⟨hc, hF⟩
        · refine x_if_lt 228 224 dX7_readCommand_221 (by decide) rfl (fun _ => ?_) (fun q => absurd hc q)
          refine x_iconst 229 (0 : Int32) dX7_readCommand_228 rfl (by decide) ?_
          have e1 := Option.some.inj hF
          subst e1
          refine x_sub [] [] rfl ?_
          exact hJ
        · refine x_if_lt 228 224 dX7_readCommand_221 (by decide) rfl (fun q => absurd q hc) (fun _ => ?_)
          refine x_iconst 225 (1 : Int32) dX7_readCommand_224 rfl (by decide) ?_
          refine x_goto 229 dX7_readCommand_225 (by decide) ?_
          have e1 := Option.some.inj hF
          subst e1
          refine x_sub [] [] rfl ?_
          exact hJ
    · exact x_tableIn (166) 187 dX7_readCommand_21 (by rw [h63]; decide) (by rw [h63]; decide) (by rw [h63]; decide) (by decide) hK
  rcases ite_inv hF with ⟨h81, hF⟩ | ⟨h81, hF⟩
  · have hK : qX l G RX7 "readCommand" cX7_readCommand 5 (some .boolean) [] rmX7_readCommand 0 0 (.inl (some (.int ro), so, n)) 0 0 s9 n 258 [(2, .int v5), (0, .ref b), (1, .ref p0)] [] := by
      refine x_aload_n 259 1 dX7_readCommand_258 rfl rfl ?_
      refine x_iconst 260 (0 : Int32) dX7_readCommand_259 rfl (by decide) ?_
      refine x_iconst 261 (1 : Int32) dX7_readCommand_260 rfl (by decide) ?_
      refine x_iconst 262 (0 : Int32) dX7_readCommand_261 rfl (by decide) ?_
      refine x_iconst 263 (2 : Int32) dX7_readCommand_262 rfl (by decide) ?_
      obtain ⟨v65, s66, h64, hF⟩ := b2_inv hF
      obtain ⟨fs, hb⟩ : ∃ fs : List Value, True ∧ s9 b = some (.inr (5, fs)) := kX7_figures h64
      refine x_callV (As := [.int (0 : Int32), .int (1 : Int32), .int (0 : Int32), .int (2 : Int32)]) (rest := []) 266 0 0 (mX7_figures hst b (0 : Int32) (1 : Int32) (0 : Int32) (2 : Int32) s9 n v65 s66 h64) qyX7_figures wd_995 wd_997 wd_20 hb.2 rfl rfl rfl (by decide) (Nat.le_of_ble_eq_true rfl) (by decide) dX7_readCommand_263 rfl rfl rfl rfl ?_
      refine x_istore_n 267 3 [(3, .int v65), (2, .int v5), (0, .ref b), (1, .ref p0)] dX7_readCommand_266 rfl rfl (by decide) rfl ?_
      refine x_aload_n 268 2 dX7_readCommand_267 rfl rfl ?_
      refine x_iload_n 269 0 dX7_readCommand_268 rfl rfl ?_
      refine x_bipush 271 (100 : Int32) dX7_readCommand_269 rfl (by decide) ?_
      refine x_iconst 272 (1 : Int32) dX7_readCommand_271 rfl (by decide) ?_
      refine x_sipush 275 (999 : Int32) dX7_readCommand_272 rfl (by decide) ?_
      obtain ⟨v68, s69, h67, hF⟩ := b2_inv hF
      obtain ⟨fs, hb⟩ : ∃ fs : List Value, True ∧ s66 b = some (.inr (5, fs)) := kX7_figures h67
      refine x_callV (As := [.int v65, .int (100 : Int32), .int (1 : Int32), .int (999 : Int32)]) (rest := []) 278 0 0 (mX7_figures hst b v65 (100 : Int32) (1 : Int32) (999 : Int32) s66 n v68 s69 h67) qyX7_figures wd_995 wd_997 wd_20 hb.2 rfl rfl rfl (by decide) (Nat.le_of_ble_eq_true rfl) (by decide) dX7_readCommand_275 rfl rfl rfl rfl ?_
      refine x_istore 280 4 [(4, .int v68), (3, .int v65), (2, .int v5), (0, .ref b), (1, .ref p0)] dX7_readCommand_278 rfl (by decide) rfl ?_
      refine x_iload 282 0 dX7_readCommand_280 rfl rfl ?_
      refine x_iconst 283 (-1 : Int32) dX7_readCommand_282 rfl (by decide) ?_
      obtain ⟨x70, s71, h80, hF⟩ := b2_inv hF
      have hJ : qX l G RX7 "readCommand" cX7_readCommand 5 (some .boolean) [] rmX7_readCommand 0 0 (.inl (some (.int ro), so, n)) 0 0 s71 n 313 [] [.int x70] := by
        obtain ⟨hz, hF⟩ := ite_none hF
        cases hF
        exact x_zret rfl (by rcases hz with h | h <;> rw [h] <;> rfl) rfl (by decide) (by decide) dX7_readCommand_313
      have hF := h80
      rcases ite_inv hF with ⟨hc, hF⟩ | ⟨hc, hF⟩
      · refine x_icmp_eq 312 286 dX7_readCommand_283 (by decide) rfl (fun _ => ?_) (fun q => absurd hc q)
        refine x_iconst 313 (0 : Int32) dX7_readCommand_312 rfl (by decide) ?_
        obtain ⟨e1, e2⟩ := so2 hF
        subst e1
        subst e2
        refine x_sub [] [] rfl ?_
        exact hJ
      · refine x_icmp_eq 312 286 dX7_readCommand_283 (by decide) rfl (fun q => absurd q hc) (fun _ => ?_)
        refine x_aload_n 287 3 dX7_readCommand_286 rfl rfl ?_
        refine x_aload_n 288 4 dX7_readCommand_287 rfl rfl ?_
        refine x_iload_n 289 1 dX7_readCommand_288 rfl rfl ?_
        refine x_iload 291 0 dX7_readCommand_289 rfl rfl ?_
        obtain ⟨v73, s74, h72, hF⟩ := b2_inv hF
        refine x_callS (As := [.ref p0, .int v65, .int v68]) (rest := [.ref b]) 294 0 0 (mX7_surveyOn hst p0 v65 v68 s69 n v73 s74 h72) qyX7_surveyOn wd_1048 wd_1049 rfl rfl (by decide) (Nat.le_of_ble_eq_true rfl) (by decide) dX7_readCommand_291 rfl rfl rfl rfl ?_
        obtain ⟨x75, h79, hF⟩ := b1_inv hF
        have hJ : qX l G RX7 "readCommand" cX7_readCommand 5 (some .boolean) [] rmX7_readCommand 0 0 (.inl (some (.int ro), so, n)) 0 0 s74 n 302 [] [.int x75, .ref b] := by
          obtain ⟨v77, s78, h76, hF⟩ := b2_inv hF
          obtain ⟨fs, hb⟩ : ∃ fs : List Value, True ∧ s74 b = some (.inr (5, fs)) := kX7_done h76
          refine x_callV (As := [.int x75]) (rest := []) 305 0 0 (mX7_done hst b x75 s74 n v77 s78 h76) qyX7_done wd_1011 wd_1013 wd_21 hb.2 rfl rfl rfl (by decide) (Nat.le_of_ble_eq_true rfl) (by decide) dX7_readCommand_302 rfl rfl rfl rfl ?_
          rcases ite_inv hF with ⟨hc, hF⟩ | ⟨hc, hF⟩
          · refine x_if_eq 312 308 dX7_readCommand_305 (by decide) rfl (fun _ => ?_) (fun q => absurd hc q)
            refine x_iconst 313 (0 : Int32) dX7_readCommand_312 rfl (by decide) ?_
            obtain ⟨e1, e2⟩ := so2 hF
            subst e1
            subst e2
            exact hJ
          · refine x_if_eq 312 308 dX7_readCommand_305 (by decide) rfl (fun q => absurd q hc) (fun _ => ?_)
            refine x_iconst 309 (1 : Int32) dX7_readCommand_308 rfl (by decide) ?_
            refine x_goto 313 dX7_readCommand_309 (by decide) ?_
            obtain ⟨e1, e2⟩ := so2 hF
            subst e1
            subst e2
            exact hJ
        have hF := h79
        rcases ite_inv hF with ⟨hc, hF⟩ | ⟨hc, hF⟩
        · refine x_if_lt 301 297 dX7_readCommand_294 (by decide) rfl (fun _ => ?_) (fun q => absurd hc q)
          refine x_iconst 302 (0 : Int32) dX7_readCommand_301 rfl (by decide) ?_
          have e1 := Option.some.inj hF
          subst e1
          refine x_sub [] [] rfl ?_
          exact hJ
        · refine x_if_lt 301 297 dX7_readCommand_294 (by decide) rfl (fun q => absurd q hc) (fun _ => ?_)
          refine x_iconst 298 (1 : Int32) dX7_readCommand_297 rfl (by decide) ?_
          refine x_goto 302 dX7_readCommand_298 (by decide) ?_
          have e1 := Option.some.inj hF
          subst e1
          refine x_sub [] [] rfl ?_
          exact hJ
    · exact x_tableIn (237) 258 dX7_readCommand_21 (by rw [h81]; decide) (by rw [h81]; decide) (by rw [h81]; decide) (by decide) hK
  rcases ite_inv hF with ⟨h85, hF⟩ | ⟨h85, hF⟩
  · have hK : qX l G RX7 "readCommand" cX7_readCommand 5 (some .boolean) [] rmX7_readCommand 0 0 (.inl (some (.int ro), so, n)) 0 0 s9 n 130 [(2, .int v5), (0, .ref b), (1, .ref p0)] [] := by
      refine x_aload_n 131 1 dX7_readCommand_130 rfl rfl ?_
      refine x_aload_n 132 2 dX7_readCommand_131 rfl rfl ?_
      refine x_iconst 133 (2 : Int32) dX7_readCommand_132 rfl (by decide) ?_
      obtain ⟨v83, s84, h82, hF⟩ := b2_inv hF
      obtain ⟨fs, hb⟩ : ∃ fs : List Value, True ∧ s9 b = some (.inr (5, fs)) := kX7_readMeasure h82
      refine x_callV (As := [.ref p0, .int (2 : Int32)]) (rest := []) 136 0 0 (mX7_readMeasure hst b p0 (2 : Int32) s9 n v83 s84 h82) qyX7_readMeasure wd_991 wd_993 wd_19 hb.2 rfl rfl rfl (by decide) (Nat.le_of_ble_eq_true rfl) (by decide) dX7_readCommand_133 rfl rfl rfl rfl ?_
      obtain ⟨hz, hF⟩ := ite_none hF
      cases hF
      exact x_zret rfl (by rcases hz with h | h <;> rw [h] <;> rfl) rfl (by decide) (by decide) dX7_readCommand_136
    · exact x_tableIn (109) 130 dX7_readCommand_21 (by rw [h85]; decide) (by rw [h85]; decide) (by rw [h85]; decide) (by decide) hK
  have hK : qX l G RX7 "readCommand" cX7_readCommand 5 (some .boolean) [] rmX7_readCommand 0 0 (.inl (some (.int ro), so, n)) 0 0 s9 n 314 [(2, .int v5), (0, .ref b), (1, .ref p0)] [] := by
    refine x_aload_n 315 1 dX7_readCommand_314 rfl rfl ?_
    refine x_dup 316 rfl dX7_readCommand_315 rfl ?_
    obtain ⟨v86, h87, hF⟩ := b1_inv hF
    refine x_getI 319 9 inX7 rfl (by decide) wd_934 h87 dX7_readCommand_316 rfl ?_
    refine x_iconst 320 (1 : Int32) dX7_readCommand_319 rfl (by decide) ?_
    refine x_isub 321 dX7_readCommand_320 rfl ?_
    obtain ⟨s88, h89, hF⟩ := b1_inv hF
    refine x_put 324 9 inX7 tyX7 tyX7_ok nmX7 rfl (by decide) wd_934 rfl (tX7_9) rfl rfl h89 dX7_readCommand_321 rfl ?_
    refine x_iconst 325 (0 : Int32) dX7_readCommand_324 rfl (by decide) ?_
    cases hF
    exact x_zret rfl rfl rfl (by decide) (by decide) dX7_readCommand_325
  by_cases h90 : v5 = (101 : Int32)
  · exact x_tableIn (293) 314 dX7_readCommand_21 (by rw [h90]; decide) (by rw [h90]; decide) (by rw [h90]; decide) (by decide) hK
  by_cases h91 : v5 = (102 : Int32)
  · exact x_tableIn (293) 314 dX7_readCommand_21 (by rw [h91]; decide) (by rw [h91]; decide) (by rw [h91]; decide) (by decide) hK
  by_cases h92 : v5 = (103 : Int32)
  · exact x_tableIn (293) 314 dX7_readCommand_21 (by rw [h92]; decide) (by rw [h92]; decide) (by rw [h92]; decide) (by decide) hK
  by_cases h93 : v5 = (104 : Int32)
  · exact x_tableIn (293) 314 dX7_readCommand_21 (by rw [h93]; decide) (by rw [h93]; decide) (by rw [h93]; decide) (by decide) hK
  by_cases h94 : v5 = (105 : Int32)
  · exact x_tableIn (293) 314 dX7_readCommand_21 (by rw [h94]; decide) (by rw [h94]; decide) (by rw [h94]; decide) (by decide) hK
  by_cases h95 : v5 = (106 : Int32)
  · exact x_tableIn (293) 314 dX7_readCommand_21 (by rw [h95]; decide) (by rw [h95]; decide) (by rw [h95]; decide) (by decide) hK
  by_cases h96 : v5 = (107 : Int32)
  · exact x_tableIn (293) 314 dX7_readCommand_21 (by rw [h96]; decide) (by rw [h96]; decide) (by rw [h96]; decide) (by decide) hK
  by_cases h97 : v5 = (108 : Int32)
  · exact x_tableIn (293) 314 dX7_readCommand_21 (by rw [h97]; decide) (by rw [h97]; decide) (by rw [h97]; decide) (by decide) hK
  by_cases h98 : v5 = (109 : Int32)
  · exact x_tableIn (293) 314 dX7_readCommand_21 (by rw [h98]; decide) (by rw [h98]; decide) (by rw [h98]; decide) (by decide) hK
  by_cases h99 : v5 = (110 : Int32)
  · exact x_tableIn (293) 314 dX7_readCommand_21 (by rw [h99]; decide) (by rw [h99]; decide) (by rw [h99]; decide) (by decide) hK
  by_cases h100 : v5 = (112 : Int32)
  · exact x_tableIn (293) 314 dX7_readCommand_21 (by rw [h100]; decide) (by rw [h100]; decide) (by rw [h100]; decide) (by decide) hK
  by_cases h101 : v5 = (114 : Int32)
  · exact x_tableIn (293) 314 dX7_readCommand_21 (by rw [h101]; decide) (by rw [h101]; decide) (by rw [h101]; decide) (by decide) hK
  by_cases h102 : v5 = (117 : Int32)
  · exact x_tableIn (293) 314 dX7_readCommand_21 (by rw [h102]; decide) (by rw [h102]; decide) (by rw [h102]; decide) (by decide) hK
  have h28z := i32_ne (z := 100) h28 (by decide)
  have h32z := i32_ne (z := 111) h32 (by decide)
  have h41z := i32_ne (z := 113) h41 (by decide)
  have h45z := i32_ne (z := 115) h45 (by decide)
  have h63z := i32_ne (z := 116) h63 (by decide)
  have h81z := i32_ne (z := 118) h81 (by decide)
  have h85z := i32_ne (z := 119) h85 (by decide)
  have h90z := i32_ne (z := 101) h90 (by decide)
  have h91z := i32_ne (z := 102) h91 (by decide)
  have h92z := i32_ne (z := 103) h92 (by decide)
  have h93z := i32_ne (z := 104) h93 (by decide)
  have h94z := i32_ne (z := 105) h94 (by decide)
  have h95z := i32_ne (z := 106) h95 (by decide)
  have h96z := i32_ne (z := 107) h96 (by decide)
  have h97z := i32_ne (z := 108) h97 (by decide)
  have h98z := i32_ne (z := 109) h98 (by decide)
  have h99z := i32_ne (z := 110) h99 (by decide)
  have h100z := i32_ne (z := 112) h100 (by decide)
  have h101z := i32_ne (z := 114) h101 (by decide)
  have h102z := i32_ne (z := 117) h102 (by decide)
  exact x_tableOut 314 dX7_readCommand_21 (by omega) (by decide) hK
def rmX7_readText : Room := { frames := 6, cells := 0, slots := 0, locals := 141 }
theorem qyX7_readText : qY yX7_readText cX7_readText 2 (some .int) 1 := ⟨wd_986, wd_32, by decide +kernel, by decide +kernel, by decide +kernel⟩
set_option maxHeartbeats 4000000 in
set_option maxRecDepth 100000 in
theorem mX7_readText_L39 {l : Launch} {G : qG} (hst : l.stackTraces = false) (a0 : Nat) (a1 : Nat) (n : Option Nat) (rf : Int32 × qH → qR) (hrf : ∀ v : Int32, ∀ σ : qH, rf (v, σ) = .inl (some (.int v), σ, n)) : ∀ (q : Nat) (σ : qH) (o : Int32 × qH), FX7_readText_L39 a0 a1 q σ = some o → qX l G RX7 "readText" cX7_readText 2 (some .int) [] rmX7_readText 0 0 (rf o) 0 0 σ n 39 [(0, .ref a0), (1, .ref a1)] [] := by
  intro q
  induction q with
  | zero => intro σ o hF; rw [FX7_readText_L39] at hF; cases hF
  | succ q ih =>
    intro σ o hF
    rw [FX7_readText_L39] at hF
    refine x_aload_n 40 0 dX7_readText_39 rfl rfl ?_
    obtain ⟨v15, h16, hF⟩ := b1_inv hF
    refine x_getI 43 9 inX7 rfl (by decide) wd_934 h16 dX7_readText_40 rfl ?_
    refine x_aload_n 44 0 dX7_readText_43 rfl rfl ?_
    obtain ⟨v17, h18, hF⟩ := b1_inv hF
    refine x_getI 47 2 inX7 rfl (by decide) wd_927 h18 dX7_readText_44 rfl ?_
    rcases ite_inv hF with ⟨hc, hF⟩ | ⟨hc, hF⟩
    · refine x_icmp_ge 63 50 dX7_readText_47 (by decide) rfl (fun _ => ?_) (fun q => absurd hc q)
      refine x_iconst 64 (-1 : Int32) dX7_readText_63 rfl (by decide) ?_
      cases hF
      exact x_iret rfl (hrf _ _) (by decide) (by decide) dX7_readText_64
    · refine x_icmp_ge 63 50 dX7_readText_47 (by decide) rfl (fun q => absurd q hc) (fun _ => ?_)
      refine x_aload_n 51 0 dX7_readText_50 rfl rfl ?_
      refine x_aload_n 52 1 dX7_readText_51 rfl rfl ?_
      obtain ⟨v20, s21, h19, hF⟩ := b2_inv hF
      obtain ⟨fs, hb⟩ : ∃ fs : List Value, True ∧ σ a0 = some (.inr (5, fs)) := kX7_readCommand h19
      refine x_callV (As := [.ref a1]) (rest := []) 55 0 0 (mX7_readCommand hst a0 a1 σ n v20 s21 h19) qyX7_readCommand wd_987 wd_989 wd_18 hb.2 rfl rfl rfl (by decide) (Nat.le_of_ble_eq_true rfl) (by decide) dX7_readText_52 rfl rfl rfl rfl ?_
      rcases ite_inv hF with ⟨hc, hF⟩ | ⟨hc, hF⟩
      · refine x_if_ne 39 58 dX7_readText_55 (by decide) rfl (fun q => absurd hc q) (fun _ => ?_)
        refine x_aload_n 59 0 dX7_readText_58 rfl rfl ?_
        obtain ⟨v22, h23, hF⟩ := b1_inv hF
        refine x_getI 62 9 inX7 rfl (by decide) wd_934 h23 dX7_readText_59 rfl ?_
        cases hF
        exact x_iret rfl (hrf _ _) (by decide) (by decide) dX7_readText_62
      · refine x_if_ne 39 58 dX7_readText_55 (by decide) rfl (fun _ => ?_) (fun q => absurd q hc)
        exact ih _ _ hF
theorem kX7_readText {b : Nat} {p0 : Nat} {σ : qH} {o : Int32 × qH} (h : FX7_readText b p0 σ = some o) : ∃ fs : List Value, True ∧ σ b = some (.inr (5, fs)) := by
  unfold FX7_readText at h
  obtain ⟨_, h1, _⟩ := b1_inv h
  obtain ⟨fs, h2⟩ := gC_inv h1
  exact ⟨fs, trivial, h2⟩
set_option maxHeartbeats 4000000 in
set_option maxRecDepth 100000 in
theorem mX7_readText {l : Launch} {G : qG} (hst : l.stackTraces = false) (b : Nat) (p0 : Nat) (σ : qH) (n : Option Nat) (ro : Int32) (so : qH) (hF : FX7_readText b p0 σ = some (ro, so)) : qM l G yX7_readText cX7_readText 2 (some .int) rmX7_readText [.ref b, .ref p0] σ n (.inl (some (.int ro), so, n)) := by
  refine q_body (own := RX7) (nm := "readText") (ls := [(0, .ref b), (1, .ref p0)]) hst (by decide +kernel) rfl rfl (Nat.le_of_ble_eq_true rfl) rfl rfl rfl ?_
  unfold FX7_readText at hF
  obtain ⟨_, hC, hF⟩ := b1_inv hF
  refine x_aload_n 1 1 dX7_readText_0 rfl rfl ?_
  obtain ⟨s2, h1, hF⟩ := b1_inv hF
  refine x_callS (As := [.ref p0]) (rest := []) 4 0 0 (mX7_clear hst p0 σ n s2 h1) qyX7_clear wd_922 wd_923 rfl rfl (by decide) (Nat.le_of_ble_eq_true rfl) (by decide) dX7_readText_1 rfl rfl rfl rfl ?_
  refine x_aload_n 5 0 dX7_readText_4 rfl rfl ?_
  refine x_iconst 6 (0 : Int32) dX7_readText_5 rfl (by decide) ?_
  obtain ⟨s3, h4, hF⟩ := b1_inv hF
  refine x_put 9 10 inX7 tyX7 tyX7_ok nmX7 rfl (by decide) wd_935 rfl (tX7_10) rfl rfl h4 dX7_readText_6 rfl ?_
  refine x_aload_n 10 0 dX7_readText_9 rfl rfl ?_
  refine x_iconst 11 (0 : Int32) dX7_readText_10 rfl (by decide) ?_
  obtain ⟨s5, h6, hF⟩ := b1_inv hF
  refine x_put 14 9 inX7 tyX7 tyX7_ok nmX7 rfl (by decide) wd_934 rfl (tX7_9) rfl rfl h6 dX7_readText_11 rfl ?_
  refine x_aload_n 15 0 dX7_readText_14 rfl rfl ?_
  obtain ⟨v7, h8, hF⟩ := b1_inv hF
  refine x_getI 18 2 inX7 rfl (by decide) wd_927 h8 dX7_readText_15 rfl ?_
  rcases ite_inv hF with ⟨hc, hF⟩ | ⟨hc, hF⟩
  · refine x_if_eq 32 21 dX7_readText_18 (by decide) rfl (fun _ => ?_) (fun q => absurd hc q)
    refine x_iconst 33 (0 : Int32) dX7_readText_32 rfl (by decide) ?_
    cases hF
    exact x_iret rfl rfl (by decide) (by decide) dX7_readText_33
  · refine x_if_eq 32 21 dX7_readText_18 (by decide) rfl (fun q => absurd q hc) (fun _ => ?_)
    refine x_aload_n 22 0 dX7_readText_21 rfl rfl ?_
    obtain ⟨r9, h10, hF⟩ := b1_inv hF
    refine x_getR 25 1 inX7 rfl (by decide) wd_926 h10 dX7_readText_22 rfl ?_
    refine x_iconst 26 (0 : Int32) dX7_readText_25 rfl (by decide) ?_
    obtain ⟨v11, h12, hF⟩ := b1_inv hF
    refine x_aI 27 h12 dX7_readText_26 rfl ?_
    refine x_bipush 29 (80 : Int32) dX7_readText_27 rfl (by decide) ?_
    rcases ite_inv hF with ⟨hc, hF⟩ | ⟨hc, hF⟩
    · refine x_icmp_eq 34 32 dX7_readText_29 (by decide) rfl (fun _ => ?_) (fun q => absurd hc q)
      refine x_aload_n 35 0 dX7_readText_34 rfl rfl ?_
      refine x_iconst 36 (1 : Int32) dX7_readText_35 rfl (by decide) ?_
      obtain ⟨s13, h14, hF⟩ := b1_inv hF
      refine x_put 39 9 inX7 tyX7 tyX7_ok nmX7 rfl (by decide) wd_934 rfl (tX7_9) rfl rfl h14 dX7_readText_36 rfl ?_
      exact mX7_readText_L39 hst b p0 n (fun v9 : Int32 × qH => .inl (some (.int v9.1), v9.2, n)) (fun _ _ => rfl) qfuel s13 _ hF
    · refine x_icmp_eq 34 32 dX7_readText_29 (by decide) rfl (fun q => absurd q hc) (fun _ => ?_)
      refine x_iconst 33 (0 : Int32) dX7_readText_32 rfl (by decide) ?_
      cases hF
      exact x_iret rfl rfl (by decide) (by decide) dX7_readText_33
def rmX7_errorPosition : Room := { frames := 7, cells := 0, slots := 0, locals := 162 }
theorem qyX7_errorPosition : qY yX7_errorPosition cX7_errorPosition 1 (some .int) 0 := ⟨wd_982, wd_32, by decide +kernel, by decide +kernel, by decide +kernel⟩
theorem kX7_errorPosition {b : Nat} {σ : qH} {o : Int32 × qH} (h : FX7_errorPosition b σ = some o) : ∃ fs : List Value, True ∧ σ b = some (.inr (5, fs)) := by
  unfold FX7_errorPosition at h
  obtain ⟨_, h1, _⟩ := b1_inv h
  obtain ⟨fs, h2⟩ := gC_inv h1
  exact ⟨fs, trivial, h2⟩
set_option maxHeartbeats 4000000 in
set_option maxRecDepth 100000 in
theorem mX7_errorPosition {l : Launch} {G : qG} (hst : l.stackTraces = false) (b : Nat) (σ : qH) (n : Option Nat) (ro : Int32) (so : qH) (hF : FX7_errorPosition b σ = some (ro, so)) : qM l G yX7_errorPosition cX7_errorPosition 1 (some .int) rmX7_errorPosition [.ref b] σ n (.inl (some (.int ro), so, n)) := by
  refine q_body (own := RX7) (nm := "errorPosition") (ls := [(0, .ref b)]) hst (by decide +kernel) rfl rfl (Nat.le_of_ble_eq_true rfl) rfl rfl rfl ?_
  unfold FX7_errorPosition at hF
  obtain ⟨_, hC, hF⟩ := b1_inv hF
  refine x_aload_n 1 0 dX7_errorPosition_0 rfl rfl ?_
  refine x_iconst 2 (0 : Int32) dX7_errorPosition_1 rfl (by decide) ?_
  obtain ⟨s1, h2, hF⟩ := b1_inv hF
  refine x_put 5 0 inX7 tyX7 tyX7_ok nmX7 rfl (by decide) wd_925 rfl (tX7_0) rfl rfl h2 dX7_errorPosition_2 rfl ?_
  refine x_aload_n 6 0 dX7_errorPosition_5 rfl rfl ?_
  refine x_aload_n 7 0 dX7_errorPosition_6 rfl rfl ?_
  obtain ⟨r3, h4, hF⟩ := b1_inv hF
  refine x_getR 10 4 inX7 rfl (by decide) wd_929 h4 dX7_errorPosition_7 rfl ?_
  obtain ⟨v6, s7, h5, hF⟩ := b2_inv hF
  obtain ⟨fs, hb⟩ : ∃ fs : List Value, True ∧ s1 b = some (.inr (5, fs)) := kX7_readText h5
  refine x_callV (As := [.ref r3]) (rest := []) 13 0 0 (mX7_readText hst b r3 s1 n v6 s7 h5) qyX7_readText wd_983 wd_985 wd_17 hb.2 rfl rfl rfl (by decide) (Nat.le_of_ble_eq_true rfl) (by decide) dX7_errorPosition_10 rfl rfl rfl rfl ?_
  cases hF
  exact x_iret rfl rfl (by decide) (by decide) dX7_errorPosition_13
def rmX7_load : Room := { frames := 7, cells := 0, slots := 0, locals := 162 }
theorem qyX7_load : qY yX7_load cX7_load 1 (some .int) 0 := ⟨wd_1060, wd_32, by decide +kernel, by decide +kernel, by decide +kernel⟩
theorem kX7_load {b : Nat} {σ : qH} {o : Int32 × qH} (h : FX7_load b σ = some o) : ∃ fs : List Value, True ∧ σ b = some (.inr (5, fs)) := by
  unfold FX7_load at h
  obtain ⟨_, h1, _⟩ := b1_inv h
  obtain ⟨fs, h2⟩ := gC_inv h1
  exact ⟨fs, trivial, h2⟩
set_option maxHeartbeats 4000000 in
set_option maxRecDepth 100000 in
theorem mX7_load {l : Launch} {G : qG} (hst : l.stackTraces = false) (b : Nat) (σ : qH) (n : Option Nat) (ro : Int32) (so : qH) (hF : FX7_load b σ = some (ro, so)) : qM l G yX7_load cX7_load 1 (some .int) rmX7_load [.ref b] σ n (.inl (some (.int ro), so, n)) := by
  refine q_body (own := RX7) (nm := "load") (ls := [(0, .ref b)]) hst (by decide +kernel) rfl rfl (Nat.le_of_ble_eq_true rfl) rfl rfl rfl ?_
  unfold FX7_load at hF
  obtain ⟨_, hC, hF⟩ := b1_inv hF
  refine x_aload_n 1 0 dX7_load_0 rfl rfl ?_
  refine x_aload_n 2 0 dX7_load_1 rfl rfl ?_
  refine x_aload_n 3 0 dX7_load_2 rfl rfl ?_
  obtain ⟨r1, h2, hF⟩ := b1_inv hF
  refine x_getR 6 4 inX7 rfl (by decide) wd_929 h2 dX7_load_3 rfl ?_
  obtain ⟨v4, s5, h3, hF⟩ := b2_inv hF
  obtain ⟨fs, hb⟩ : ∃ fs : List Value, True ∧ σ b = some (.inr (5, fs)) := kX7_readText h3
  refine x_callV (As := [.ref r1]) (rest := [.ref b]) 9 0 0 (mX7_readText hst b r1 σ n v4 s5 h3) qyX7_readText wd_983 wd_985 wd_17 hb.2 rfl rfl rfl (by decide) (Nat.le_of_ble_eq_true rfl) (by decide) dX7_load_6 rfl rfl rfl rfl ?_
  refine x_iconst 10 (-1 : Int32) dX7_load_9 rfl (by decide) ?_
  obtain ⟨x6, h28, hF⟩ := b1_inv hF
  have hJ : qX l G RX7 "load" cX7_load 1 (some .int) [] rmX7_load 0 0 (.inl (some (.int ro), so, n)) 0 0 s5 n 18 [(0, .ref b)] [.int x6, .ref b] := by
    obtain ⟨v8, s9, h7, hF⟩ := b2_inv hF
    obtain ⟨fs, hb⟩ : ∃ fs : List Value, True ∧ s5 b = some (.inr (5, fs)) := kX7_refused h7
    refine x_callV (As := [.int x6]) (rest := []) 21 0 0 (mX7_refused hst b x6 s5 n v8 s9 h7) qyX7_refused wd_971 wd_973 wd_16 hb.2 rfl rfl rfl (by decide) (Nat.le_of_ble_eq_true rfl) (by decide) dX7_load_18 rfl rfl rfl rfl ?_
    rcases ite_inv hF with ⟨hc, hF⟩ | ⟨hc, hF⟩
    · refine x_if_eq 26 24 dX7_load_21 (by decide) rfl (fun _ => ?_) (fun q => absurd hc q)
      refine x_aload_n 27 0 dX7_load_26 rfl rfl ?_
      obtain ⟨r10, h11, hF⟩ := b1_inv hF
      refine x_getR 30 4 inX7 rfl (by decide) wd_929 h11 dX7_load_27 rfl ?_
      refine x_iconst 31 (0 : Int32) dX7_load_30 rfl (by decide) ?_
      refine x_aload_n 32 0 dX7_load_31 rfl rfl ?_
      obtain ⟨r12, h13, hF⟩ := b1_inv hF
      refine x_getR 35 3 inX7 rfl (by decide) wd_928 h13 dX7_load_32 rfl ?_
      refine x_iconst 36 (0 : Int32) dX7_load_35 rfl (by decide) ?_
      obtain ⟨s15, h14, hF⟩ := b1_inv hF
      refine x_callS (As := [.ref r10, .int (0 : Int32), .ref r12, .int (0 : Int32)]) (rest := []) 39 0 0 (mX7_copyState hst r10 (0 : Int32) r12 (0 : Int32) s9 n s15 h14) qyX7_copyState wd_1061 wd_1062 rfl rfl (by decide) (Nat.le_of_ble_eq_true rfl) (by decide) dX7_load_36 rfl rfl rfl rfl ?_
      refine x_aload_n 40 0 dX7_load_39 rfl rfl ?_
      refine x_iconst 41 (0 : Int32) dX7_load_40 rfl (by decide) ?_
      obtain ⟨s16, h17, hF⟩ := b1_inv hF
      refine x_put 44 6 inX7 tyX7 tyX7_ok nmX7 rfl (by decide) wd_931 rfl (tX7_6) rfl rfl h17 dX7_load_41 rfl ?_
      refine x_aload_n 45 0 dX7_load_44 rfl rfl ?_
      obtain ⟨r18, h19, hF⟩ := b1_inv hF
      refine x_getR 48 8 inX7 rfl (by decide) wd_933 h19 dX7_load_45 rfl ?_
      refine x_iconst 49 (0 : Int32) dX7_load_48 rfl (by decide) ?_
      refine x_iconst 50 (0 : Int32) dX7_load_49 rfl (by decide) ?_
      obtain ⟨s20, h21, hF⟩ := b1_inv hF
      refine x_sZ 51 h21 dX7_load_50 rfl ?_
      refine x_aload_n 52 0 dX7_load_51 rfl rfl ?_
      obtain ⟨r22, h23, hF⟩ := b1_inv hF
      refine x_getR 55 8 inX7 rfl (by decide) wd_933 h23 dX7_load_52 rfl ?_
      refine x_iconst 56 (1 : Int32) dX7_load_55 rfl (by decide) ?_
      refine x_iconst 57 (0 : Int32) dX7_load_56 rfl (by decide) ?_
      obtain ⟨s24, h25, hF⟩ := b1_inv hF
      refine x_sZ 58 h25 dX7_load_57 rfl ?_
      refine x_aload_n 59 0 dX7_load_58 rfl rfl ?_
      obtain ⟨v26, h27, hF⟩ := b1_inv hF
      refine x_getI 62 10 inX7 rfl (by decide) wd_935 h27 dX7_load_59 rfl ?_
      cases hF
      exact x_iret rfl rfl (by decide) (by decide) dX7_load_62
    · refine x_if_eq 26 24 dX7_load_21 (by decide) rfl (fun q => absurd q hc) (fun _ => ?_)
      refine x_iconst 25 (0 : Int32) dX7_load_24 rfl (by decide) ?_
      cases hF
      exact x_iret rfl rfl (by decide) (by decide) dX7_load_25
  have hF := h28
  rcases ite_inv hF with ⟨hc, hF⟩ | ⟨hc, hF⟩
  · refine x_icmp_ne 17 13 dX7_load_10 (by decide) rfl (fun q => absurd hc q) (fun _ => ?_)
    refine x_iconst 14 (0 : Int32) dX7_load_13 rfl (by decide) ?_
    refine x_goto 18 dX7_load_14 (by decide) ?_
    have e1 := Option.some.inj hF
    subst e1
    exact hJ
  · refine x_icmp_ne 17 13 dX7_load_10 (by decide) rfl (fun _ => ?_) (fun q => absurd q hc)
    refine x_iconst 18 (1 : Int32) dX7_load_17 rfl (by decide) ?_
    have e1 := Option.some.inj hF
    subst e1
    exact hJ
def rmX7_about : Room := { frames := 5, cells := 0, slots := 0, locals := 116 }
theorem qyX7_about : qY yX7_about cX7_about 2 (some .int) 1 := ⟨wd_1067, wd_32, by decide +kernel, by decide +kernel, by decide +kernel⟩
theorem kX7_about {b : Nat} {p0 : Int32} {σ : qH} {o : Int32 × qH} (h : FX7_about b p0 σ = some o) : ∃ fs : List Value, True ∧ σ b = some (.inr (5, fs)) := by
  unfold FX7_about at h
  obtain ⟨_, h1, _⟩ := b1_inv h
  obtain ⟨fs, h2⟩ := gC_inv h1
  exact ⟨fs, trivial, h2⟩
set_option maxHeartbeats 4000000 in
set_option maxRecDepth 100000 in
theorem mX7_about {l : Launch} {G : qG} (hst : l.stackTraces = false) (b : Nat) (p0 : Int32) (σ : qH) (n : Option Nat) (ro : Int32) (so : qH) (hF : FX7_about b p0 σ = some (ro, so)) : qM l G yX7_about cX7_about 2 (some .int) rmX7_about [.ref b, .int p0] σ n (.inl (some (.int ro), so, n)) := by
  refine q_body (own := RX7) (nm := "about") (ls := [(0, .ref b), (1, .int p0)]) hst (by decide +kernel) rfl rfl (Nat.le_of_ble_eq_true rfl) rfl rfl rfl ?_
  unfold FX7_about at hF
  obtain ⟨_, hC, hF⟩ := b1_inv hF
  refine x_aload_n 1 0 dX7_about_0 rfl rfl ?_
  refine x_iload_n 2 1 dX7_about_1 rfl rfl ?_
  refine x_i2l 3 dX7_about_2 rfl ?_
  refine x_lconst 4 (0 : Int64) dX7_about_3 rfl (by decide) ?_
  refine x_ldc2 7 (9 : Int64) wd_999 dX7_about_4 rfl ?_
  obtain ⟨v2, h1, hF⟩ := b1_inv hF
  refine x_callS (As := [.long (p0).toInt64, .long (0 : Int64), .long (9 : Int64)]) (rest := [.ref b]) 10 0 0 (mX7_in hst (p0).toInt64 (0 : Int64) (9 : Int64) σ n v2 h1) qyX7_in wd_968 wd_969 rfl rfl (by decide) (Nat.le_of_ble_eq_true rfl) (by decide) dX7_about_7 rfl rfl rfl rfl ?_
  obtain ⟨x3, h33, hF⟩ := b1_inv hF
  have hJ : qX l G RX7 "about" cX7_about 2 (some .int) [] rmX7_about 0 0 (.inl (some (.int ro), so, n)) 0 0 σ n 18 [(0, .ref b), (1, .int p0)] [.int x3, .ref b] := by
    obtain ⟨v5, s6, h4, hF⟩ := b2_inv hF
    obtain ⟨fs, hb⟩ : ∃ fs : List Value, True ∧ σ b = some (.inr (5, fs)) := kX7_refused h4
    refine x_callV (As := [.int x3]) (rest := []) 21 0 0 (mX7_refused hst b x3 σ n v5 s6 h4) qyX7_refused wd_971 wd_973 wd_16 hb.2 rfl rfl rfl (by decide) (Nat.le_of_ble_eq_true rfl) (by decide) dX7_about_18 rfl rfl rfl rfl ?_
    rcases ite_inv hF with ⟨hc, hF⟩ | ⟨hc, hF⟩
    · refine x_if_eq 26 24 dX7_about_21 (by decide) rfl (fun _ => ?_) (fun q => absurd hc q)
      refine x_iload_n 27 1 dX7_about_26 rfl rfl ?_
      refine x_iconst 28 (4 : Int32) dX7_about_27 rfl (by decide) ?_
      obtain ⟨x7, h32, hF⟩ := b1_inv hF
      have hJ : qX l G RX7 "about" cX7_about 2 (some .int) [] rmX7_about 0 0 (.inl (some (.int ro), so, n)) 0 0 s6 n 102 [] [.int x7] := by
        cases hF
        exact x_iret rfl rfl (by decide) (by decide) dX7_about_102
      have hF := h32
      rcases ite_inv hF with ⟨hc, hF⟩ | ⟨hc, hF⟩
      · refine x_icmp_ge 40 31 dX7_about_28 (by decide) rfl (fun _ => ?_) (fun q => absurd hc q)
        refine x_iload_n 41 1 dX7_about_40 rfl rfl ?_
        refine x_iconst 42 (4 : Int32) dX7_about_41 rfl (by decide) ?_
        rcases ite_inv hF with ⟨hc, hF⟩ | ⟨hc, hF⟩
        · refine x_icmp_ne 56 45 dX7_about_42 (by decide) rfl (fun q => absurd hc q) (fun _ => ?_)
          refine x_aload_n 46 0 dX7_about_45 rfl rfl ?_
          obtain ⟨r8, h9, hF⟩ := b1_inv hF
          refine x_getR 49 3 inX7 rfl (by decide) wd_928 h9 dX7_about_46 rfl ?_
          refine x_iconst 50 (0 : Int32) dX7_about_49 rfl (by decide) ?_
          obtain ⟨v11, h10, hF⟩ := b1_inv hF
          refine x_callS (As := [.ref r8, .int (0 : Int32)]) (rest := []) 53 0 0 (mX7_pairs hst r8 (0 : Int32) s6 n v11 h10) qyX7_pairs wd_1068 wd_1069 rfl rfl (by decide) (Nat.le_of_ble_eq_true rfl) (by decide) dX7_about_50 rfl rfl rfl rfl ?_
          refine x_goto 102 dX7_about_53 (by decide) ?_
          have e1 := Option.some.inj hF
          subst e1
          refine x_sub [] [] rfl ?_
          exact hJ
        · refine x_icmp_ne 56 45 dX7_about_42 (by decide) rfl (fun _ => ?_) (fun q => absurd q hc)
          refine x_iload_n 57 1 dX7_about_56 rfl rfl ?_
          refine x_iconst 58 (5 : Int32) dX7_about_57 rfl (by decide) ?_
          rcases ite_inv hF with ⟨hc, hF⟩ | ⟨hc, hF⟩
          · refine x_icmp_ne 78 61 dX7_about_58 (by decide) rfl (fun q => absurd hc q) (fun _ => ?_)
            refine x_aload_n 62 0 dX7_about_61 rfl rfl ?_
            obtain ⟨r12, h13, hF⟩ := b1_inv hF
            refine x_getR 65 3 inX7 rfl (by decide) wd_928 h13 dX7_about_62 rfl ?_
            refine x_aload_n 66 0 dX7_about_65 rfl rfl ?_
            obtain ⟨r14, h15, hF⟩ := b1_inv hF
            refine x_getR 69 3 inX7 rfl (by decide) wd_928 h15 dX7_about_66 rfl ?_
            refine x_bipush 71 (8 : Int32) dX7_about_69 rfl (by decide) ?_
            obtain ⟨v16, h17, hF⟩ := b1_inv hF
            refine x_aI 72 h17 dX7_about_71 rfl ?_
            obtain ⟨v19, h18, hF⟩ := b1_inv hF
            refine x_callS (As := [.ref r12, .int v16]) (rest := []) 75 0 0 (mX7_pairs hst r12 v16 s6 n v19 h18) qyX7_pairs wd_1068 wd_1069 rfl rfl (by decide) (Nat.le_of_ble_eq_true rfl) (by decide) dX7_about_72 rfl rfl rfl rfl ?_
            refine x_goto 102 dX7_about_75 (by decide) ?_
            have e1 := Option.some.inj hF
            subst e1
            refine x_sub [] [] rfl ?_
            exact hJ
          · refine x_icmp_ne 78 61 dX7_about_58 (by decide) rfl (fun _ => ?_) (fun q => absurd q hc)
            refine x_iload_n 79 1 dX7_about_78 rfl rfl ?_
            refine x_bipush 81 (6 : Int32) dX7_about_79 rfl (by decide) ?_
            rcases ite_inv hF with ⟨hc, hF⟩ | ⟨hc, hF⟩
            · refine x_icmp_ne 94 84 dX7_about_81 (by decide) rfl (fun q => absurd hc q) (fun _ => ?_)
              refine x_aload_n 85 0 dX7_about_84 rfl rfl ?_
              obtain ⟨r20, h21, hF⟩ := b1_inv hF
              refine x_getR 88 3 inX7 rfl (by decide) wd_928 h21 dX7_about_85 rfl ?_
              obtain ⟨v23, h22, hF⟩ := b1_inv hF
              refine x_callS (As := [.ref r20]) (rest := []) 91 0 0 (mX7_allTrust hst r20 s6 n v23 h22) qyX7_allTrust wd_1071 wd_1072 rfl rfl (by decide) (Nat.le_of_ble_eq_true rfl) (by decide) dX7_about_88 rfl rfl rfl rfl ?_
              refine x_goto 102 dX7_about_91 (by decide) ?_
              have e1 := Option.some.inj hF
              subst e1
              refine x_sub [] [] rfl ?_
              exact hJ
            · refine x_icmp_ne 94 84 dX7_about_81 (by decide) rfl (fun _ => ?_) (fun q => absurd q hc)
              refine x_aload_n 95 0 dX7_about_94 rfl rfl ?_
              obtain ⟨r24, h25, hF⟩ := b1_inv hF
              refine x_getR 98 3 inX7 rfl (by decide) wd_928 h25 dX7_about_95 rfl ?_
              refine x_iload_n 99 1 dX7_about_98 rfl rfl ?_
              refine x_iconst 100 (3 : Int32) dX7_about_99 rfl (by decide) ?_
              refine x_isub 101 dX7_about_100 rfl ?_
              obtain ⟨v26, h27, hF⟩ := b1_inv hF
              refine x_aI 102 h27 dX7_about_101 rfl ?_
              have e1 := Option.some.inj hF
              subst e1
              refine x_sub [] [] rfl ?_
              exact hJ
      · refine x_icmp_ge 40 31 dX7_about_28 (by decide) rfl (fun q => absurd q hc) (fun _ => ?_)
        refine x_aload_n 32 0 dX7_about_31 rfl rfl ?_
        obtain ⟨r28, h29, hF⟩ := b1_inv hF
        refine x_getR 35 3 inX7 rfl (by decide) wd_928 h29 dX7_about_32 rfl ?_
        refine x_iload_n 36 1 dX7_about_35 rfl rfl ?_
        obtain ⟨v30, h31, hF⟩ := b1_inv hF
        refine x_aI 37 h31 dX7_about_36 rfl ?_
        refine x_goto 102 dX7_about_37 (by decide) ?_
        have e1 := Option.some.inj hF
        subst e1
        refine x_sub [] [] rfl ?_
        exact hJ
    · refine x_if_eq 26 24 dX7_about_21 (by decide) rfl (fun q => absurd q hc) (fun _ => ?_)
      refine x_iconst 25 (0 : Int32) dX7_about_24 rfl (by decide) ?_
      cases hF
      exact x_iret rfl rfl (by decide) (by decide) dX7_about_25
  have hF := h33
  rcases ite_inv hF with ⟨hc, hF⟩ | ⟨hc, hF⟩
  · refine x_if_eq 17 13 dX7_about_10 (by decide) rfl (fun _ => ?_) (fun q => absurd hc q)
    refine x_iconst 18 (1 : Int32) dX7_about_17 rfl (by decide) ?_
    have e1 := Option.some.inj hF
    subst e1
    exact hJ
  · refine x_if_eq 17 13 dX7_about_10 (by decide) rfl (fun q => absurd q hc) (fun _ => ?_)
    refine x_iconst 14 (0 : Int32) dX7_about_13 rfl (by decide) ?_
    refine x_goto 18 dX7_about_14 (by decide) ?_
    have e1 := Option.some.inj hF
    subst e1
    exact hJ
def rmX7_measureOf : Room := { frames := 5, cells := 0, slots := 0, locals := 115 }
theorem qyX7_measureOf : qY yX7_measureOf cX7_measureOf 3 (some .int) 2 := ⟨wd_1077, wd_32, by decide +kernel, by decide +kernel, by decide +kernel⟩
theorem kX7_measureOf {b : Nat} {p0 : Int32} {p1 : Int32} {σ : qH} {o : Int32 × qH} (h : FX7_measureOf b p0 p1 σ = some o) : ∃ fs : List Value, True ∧ σ b = some (.inr (5, fs)) := by
  unfold FX7_measureOf at h
  obtain ⟨_, h1, _⟩ := b1_inv h
  obtain ⟨fs, h2⟩ := gC_inv h1
  exact ⟨fs, trivial, h2⟩
set_option maxHeartbeats 4000000 in
set_option maxRecDepth 100000 in
theorem mX7_measureOf {l : Launch} {G : qG} (hst : l.stackTraces = false) (b : Nat) (p0 : Int32) (p1 : Int32) (σ : qH) (n : Option Nat) (ro : Int32) (so : qH) (hF : FX7_measureOf b p0 p1 σ = some (ro, so)) : qM l G yX7_measureOf cX7_measureOf 3 (some .int) rmX7_measureOf [.ref b, .int p0, .int p1] σ n (.inl (some (.int ro), so, n)) := by
  refine q_body (own := RX7) (nm := "measureOf") (ls := [(0, .ref b), (1, .int p0), (2, .int p1)]) hst (by decide +kernel) rfl rfl (Nat.le_of_ble_eq_true rfl) rfl rfl rfl ?_
  unfold FX7_measureOf at hF
  obtain ⟨_, hC, hF⟩ := b1_inv hF
  refine x_aload_n 1 0 dX7_measureOf_0 rfl rfl ?_
  refine x_aload_n 2 0 dX7_measureOf_1 rfl rfl ?_
  obtain ⟨r1, h2, hF⟩ := b1_inv hF
  refine x_getR 5 3 inX7 rfl (by decide) wd_928 h2 dX7_measureOf_2 rfl ?_
  refine x_iload_n 6 1 dX7_measureOf_5 rfl rfl ?_
  obtain ⟨v4, h3, hF⟩ := b1_inv hF
  refine x_callS (As := [.ref r1, .int p0]) (rest := [.ref b]) 9 0 0 (mX7_isMeasure hst r1 p0 σ n v4 h3) qyX7_isMeasure wd_1015 wd_1016 rfl rfl (by decide) (Nat.le_of_ble_eq_true rfl) (by decide) dX7_measureOf_6 rfl rfl rfl rfl ?_
  obtain ⟨x5, h33, hF⟩ := b1_inv hF
  have hJ : qX l G RX7 "measureOf" cX7_measureOf 3 (some .int) [] rmX7_measureOf 0 0 (.inl (some (.int ro), so, n)) 0 0 σ n 33 [(0, .ref b), (1, .int p0), (2, .int p1)] [.int x5, .ref b] := by
    obtain ⟨v9, s10, h8, hF⟩ := b2_inv hF
    obtain ⟨fs, hb⟩ : ∃ fs : List Value, True ∧ σ b = some (.inr (5, fs)) := kX7_refused h8
    refine x_callV (As := [.int x5]) (rest := []) 36 0 0 (mX7_refused hst b x5 σ n v9 s10 h8) qyX7_refused wd_971 wd_973 wd_16 hb.2 rfl rfl rfl (by decide) (Nat.le_of_ble_eq_true rfl) (by decide) dX7_measureOf_33 rfl rfl rfl rfl ?_
    rcases ite_inv hF with ⟨hc, hF⟩ | ⟨hc, hF⟩
    · refine x_if_eq 41 39 dX7_measureOf_36 (by decide) rfl (fun _ => ?_) (fun q => absurd hc q)
      refine x_iload_n 42 2 dX7_measureOf_41 rfl rfl ?_
      refine x_bipush 44 (7 : Int32) dX7_measureOf_42 rfl (by decide) ?_
      obtain ⟨x11, h32, hF⟩ := b1_inv hF
      have hJ : qX l G RX7 "measureOf" cX7_measureOf 3 (some .int) [] rmX7_measureOf 0 0 (.inl (some (.int ro), so, n)) 0 0 s10 n 118 [] [.int x11] := by
        cases hF
        exact x_iret rfl rfl (by decide) (by decide) dX7_measureOf_118
      have hF := h32
      rcases ite_inv hF with ⟨hc, hF⟩ | ⟨hc, hF⟩
      · refine x_icmp_ge 59 47 dX7_measureOf_44 (by decide) rfl (fun _ => ?_) (fun q => absurd hc q)
        refine x_iload_n 60 2 dX7_measureOf_59 rfl rfl ?_
        refine x_bipush 62 (7 : Int32) dX7_measureOf_60 rfl (by decide) ?_
        rcases ite_inv hF with ⟨hc, hF⟩ | ⟨hc, hF⟩
        · refine x_icmp_ne 76 65 dX7_measureOf_62 (by decide) rfl (fun q => absurd hc q) (fun _ => ?_)
          refine x_aload_n 66 0 dX7_measureOf_65 rfl rfl ?_
          obtain ⟨r12, h13, hF⟩ := b1_inv hF
          refine x_getR 69 3 inX7 rfl (by decide) wd_928 h13 dX7_measureOf_66 rfl ?_
          refine x_iload_n 70 1 dX7_measureOf_69 rfl rfl ?_
          obtain ⟨v15, h14, hF⟩ := b1_inv hF
          refine x_callS (As := [.ref r12, .int p0]) (rest := []) 73 0 0 (mX7_least hst r12 p0 s10 n v15 h14) qyX7_least wd_1039 wd_1040 rfl rfl (by decide) (Nat.le_of_ble_eq_true rfl) (by decide) dX7_measureOf_70 rfl rfl rfl rfl ?_
          refine x_goto 118 dX7_measureOf_73 (by decide) ?_
          have e1 := Option.some.inj hF
          subst e1
          refine x_sub [] [] rfl ?_
          exact hJ
        · refine x_icmp_ne 76 65 dX7_measureOf_62 (by decide) rfl (fun _ => ?_) (fun q => absurd q hc)
          refine x_iload_n 77 2 dX7_measureOf_76 rfl rfl ?_
          refine x_bipush 79 (8 : Int32) dX7_measureOf_77 rfl (by decide) ?_
          rcases ite_inv hF with ⟨hc, hF⟩ | ⟨hc, hF⟩
          · refine x_icmp_ne 93 82 dX7_measureOf_79 (by decide) rfl (fun q => absurd hc q) (fun _ => ?_)
            refine x_aload_n 83 0 dX7_measureOf_82 rfl rfl ?_
            obtain ⟨r16, h17, hF⟩ := b1_inv hF
            refine x_getR 86 3 inX7 rfl (by decide) wd_928 h17 dX7_measureOf_83 rfl ?_
            refine x_iload_n 87 1 dX7_measureOf_86 rfl rfl ?_
            obtain ⟨v19, h18, hF⟩ := b1_inv hF
            refine x_callS (As := [.ref r16, .int p0]) (rest := []) 90 0 0 (mX7_greatest hst r16 p0 s10 n v19 h18) qyX7_greatest wd_1045 wd_1046 rfl rfl (by decide) (Nat.le_of_ble_eq_true rfl) (by decide) dX7_measureOf_87 rfl rfl rfl rfl ?_
            refine x_goto 118 dX7_measureOf_90 (by decide) ?_
            have e1 := Option.some.inj hF
            subst e1
            refine x_sub [] [] rfl ?_
            exact hJ
          · refine x_icmp_ne 93 82 dX7_measureOf_79 (by decide) rfl (fun _ => ?_) (fun q => absurd q hc)
            refine x_iload_n 94 2 dX7_measureOf_93 rfl rfl ?_
            refine x_bipush 96 (9 : Int32) dX7_measureOf_94 rfl (by decide) ?_
            rcases ite_inv hF with ⟨hc, hF⟩ | ⟨hc, hF⟩
            · refine x_icmp_ne 110 99 dX7_measureOf_96 (by decide) rfl (fun q => absurd hc q) (fun _ => ?_)
              refine x_aload_n 100 0 dX7_measureOf_99 rfl rfl ?_
              obtain ⟨r20, h21, hF⟩ := b1_inv hF
              refine x_getR 103 3 inX7 rfl (by decide) wd_928 h21 dX7_measureOf_100 rfl ?_
              refine x_iload_n 104 1 dX7_measureOf_103 rfl rfl ?_
              obtain ⟨v23, h22, hF⟩ := b1_inv hF
              refine x_callS (As := [.ref r20, .int p0]) (rest := []) 107 0 0 (mX7_weight hst r20 p0 s10 n v23 h22) qyX7_weight wd_1027 wd_1028 rfl rfl (by decide) (Nat.le_of_ble_eq_true rfl) (by decide) dX7_measureOf_104 rfl rfl rfl rfl ?_
              refine x_goto 118 dX7_measureOf_107 (by decide) ?_
              have e1 := Option.some.inj hF
              subst e1
              refine x_sub [] [] rfl ?_
              exact hJ
            · refine x_icmp_ne 110 99 dX7_measureOf_96 (by decide) rfl (fun _ => ?_) (fun q => absurd q hc)
              refine x_aload_n 111 0 dX7_measureOf_110 rfl rfl ?_
              obtain ⟨r24, h25, hF⟩ := b1_inv hF
              refine x_getR 114 3 inX7 rfl (by decide) wd_928 h25 dX7_measureOf_111 rfl ?_
              refine x_iload_n 115 1 dX7_measureOf_114 rfl rfl ?_
              obtain ⟨v27, h26, hF⟩ := b1_inv hF
              refine x_callS (As := [.ref r24, .int p0]) (rest := []) 118 0 0 (mX7_quarrelsOf hst r24 p0 s10 n v27 h26) qyX7_quarrelsOf wd_1079 wd_1080 rfl rfl (by decide) (Nat.le_of_ble_eq_true rfl) (by decide) dX7_measureOf_115 rfl rfl rfl rfl ?_
              have e1 := Option.some.inj hF
              subst e1
              refine x_sub [] [] rfl ?_
              exact hJ
      · refine x_icmp_ge 59 47 dX7_measureOf_44 (by decide) rfl (fun q => absurd q hc) (fun _ => ?_)
        refine x_aload_n 48 0 dX7_measureOf_47 rfl rfl ?_
        obtain ⟨r28, h29, hF⟩ := b1_inv hF
        refine x_getR 51 3 inX7 rfl (by decide) wd_928 h29 dX7_measureOf_48 rfl ?_
        refine x_iload_n 52 1 dX7_measureOf_51 rfl rfl ?_
        refine x_iload_n 53 2 dX7_measureOf_52 rfl rfl ?_
        obtain ⟨v31, h30, hF⟩ := b1_inv hF
        refine x_callS (As := [.ref r28, .int p0, .int p1]) (rest := []) 56 0 0 (mX7_of hst r28 p0 p1 s10 n v31 h30) qyX7_of wd_1030 wd_1031 rfl rfl (by decide) (Nat.le_of_ble_eq_true rfl) (by decide) dX7_measureOf_53 rfl rfl rfl rfl ?_
        refine x_goto 118 dX7_measureOf_56 (by decide) ?_
        have e1 := Option.some.inj hF
        subst e1
        refine x_sub [] [] rfl ?_
        exact hJ
    · refine x_if_eq 41 39 dX7_measureOf_36 (by decide) rfl (fun q => absurd q hc) (fun _ => ?_)
      refine x_iconst 40 (0 : Int32) dX7_measureOf_39 rfl (by decide) ?_
      cases hF
      exact x_iret rfl rfl (by decide) (by decide) dX7_measureOf_40
  have hF := h33
  rcases ite_inv hF with ⟨hc, hF⟩ | ⟨hc, hF⟩
  · refine x_if_ne 16 12 dX7_measureOf_9 (by decide) rfl (fun q => absurd hc q) (fun _ => ?_)
    refine x_iconst 13 (1 : Int32) dX7_measureOf_12 rfl (by decide) ?_
    refine x_goto 33 dX7_measureOf_13 (by decide) ?_
    have e1 := Option.some.inj hF
    subst e1
    exact hJ
  · refine x_if_ne 16 12 dX7_measureOf_9 (by decide) rfl (fun _ => ?_) (fun q => absurd q hc)
    refine x_iload_n 17 2 dX7_measureOf_16 rfl rfl ?_
    refine x_i2l 18 dX7_measureOf_17 rfl ?_
    refine x_lconst 19 (0 : Int64) dX7_measureOf_18 rfl (by decide) ?_
    refine x_ldc2 22 (10 : Int64) wd_1078 dX7_measureOf_19 rfl ?_
    obtain ⟨v7, h6, hF⟩ := b1_inv hF
    refine x_callS (As := [.long (p1).toInt64, .long (0 : Int64), .long (10 : Int64)]) (rest := [.ref b]) 25 0 0 (mX7_in hst (p1).toInt64 (0 : Int64) (10 : Int64) σ n v7 h6) qyX7_in wd_968 wd_969 rfl rfl (by decide) (Nat.le_of_ble_eq_true rfl) (by decide) dX7_measureOf_22 rfl rfl rfl rfl ?_
    rcases ite_inv hF with ⟨hc, hF⟩ | ⟨hc, hF⟩
    · refine x_if_eq 32 28 dX7_measureOf_25 (by decide) rfl (fun _ => ?_) (fun q => absurd hc q)
      refine x_iconst 33 (2 : Int32) dX7_measureOf_32 rfl (by decide) ?_
      have e1 := Option.some.inj hF
      subst e1
      exact hJ
    · refine x_if_eq 32 28 dX7_measureOf_25 (by decide) rfl (fun q => absurd q hc) (fun _ => ?_)
      refine x_iconst 29 (0 : Int32) dX7_measureOf_28 rfl (by decide) ?_
      refine x_goto 33 dX7_measureOf_29 (by decide) ?_
      have e1 := Option.some.inj hF
      subst e1
      exact hJ
def rmX7_tellerOf : Room := { frames := 5, cells := 0, slots := 0, locals := 115 }
theorem qyX7_tellerOf : qY yX7_tellerOf cX7_tellerOf 6 (some .int) 2 := ⟨wd_1085, wd_32, by decide +kernel, by decide +kernel, by decide +kernel⟩
set_option maxHeartbeats 4000000 in
set_option maxRecDepth 100000 in
theorem mX7_tellerOf_L45 {l : Launch} {G : qG} (hst : l.stackTraces = false) (a0 : Nat) (a1 : Int32) (a2 : Int32) (σ : qH) (n : Option Nat) (r : qR) : ∀ (q : Nat) (y3 : Int32) (y4 : Int32) (y5 : Int32) (o3 : Int32) (o4 : Int32), FX7_tellerOf_L45 a0 a1 a2 σ q y3 y4 y5 = some (o3, o4) → qX l G RX7 "tellerOf" cX7_tellerOf 6 (some .int) [] rmX7_tellerOf 0 0 r 0 0 σ n 116 [(0, .ref a0), (1, .int a1), (2, .int a2), (3, .int o3), (4, .int o4)] [] → qX l G RX7 "tellerOf" cX7_tellerOf 6 (some .int) [] rmX7_tellerOf 0 0 r 0 0 σ n 45 [(0, .ref a0), (1, .int a1), (2, .int a2), (3, .int y3), (4, .int y4), (5, .int y5)] [] := by
  intro q
  induction q with
  | zero => intro y3 y4 y5 o3 o4 hF; rw [FX7_tellerOf_L45] at hF; cases hF
  | succ q ih =>
    intro y3 y4 y5 o3 o4 hF hJ
    rw [FX7_tellerOf_L45] at hF
    refine x_iload 47 5 dX7_tellerOf_45 rfl rfl ?_
    refine x_aload_n 48 0 dX7_tellerOf_47 rfl rfl ?_
    obtain ⟨r9, h10, hF⟩ := b1_inv hF
    refine x_getR 51 3 inX7 rfl (by decide) wd_928 h10 dX7_tellerOf_48 rfl ?_
    refine x_iconst 52 (0 : Int32) dX7_tellerOf_51 rfl (by decide) ?_
    obtain ⟨v11, h12, hF⟩ := b1_inv hF
    refine x_aI 53 h12 dX7_tellerOf_52 rfl ?_
    rcases ite_inv hF with ⟨hc, hF⟩ | ⟨hc, hF⟩
    · refine x_icmp_ge 116 56 dX7_tellerOf_53 (by decide) rfl (fun _ => ?_) (fun q => absurd hc q)
      obtain ⟨e1, e2⟩ := so2 hF
      subst e1
      subst e2
      refine x_sub [(0, .ref a0), (1, .int a1), (2, .int a2), (3, .int y3), (4, .int y4)] [0, 1, 2, 3, 4] rfl ?_
      exact hJ
    · refine x_icmp_ge 116 56 dX7_tellerOf_53 (by decide) rfl (fun q => absurd q hc) (fun _ => ?_)
      refine x_iload_n 57 3 dX7_tellerOf_56 rfl rfl ?_
      refine x_aload_n 58 0 dX7_tellerOf_57 rfl rfl ?_
      obtain ⟨r13, h14, hF⟩ := b1_inv hF
      refine x_getR 61 3 inX7 rfl (by decide) wd_928 h14 dX7_tellerOf_58 rfl ?_
      refine x_iload 63 5 dX7_tellerOf_61 rfl rfl ?_
      refine x_iconst 64 (1 : Int32) dX7_tellerOf_63 rfl (by decide) ?_
      obtain ⟨v16, h15, hF⟩ := b1_inv hF
      refine x_callS (As := [.ref r13, .int y5, .int (1 : Int32)]) (rest := [.int y3]) 67 0 0 (mX7_of hst r13 y5 (1 : Int32) σ n v16 h15) qyX7_of wd_1030 wd_1031 rfl rfl (by decide) (Nat.le_of_ble_eq_true rfl) (by decide) dX7_tellerOf_64 rfl rfl rfl rfl ?_
      refine x_iload_n 68 1 dX7_tellerOf_67 rfl rfl ?_
      obtain ⟨x17, h28, hF⟩ := b1_inv hF
      have hJ : qX l G RX7 "tellerOf" cX7_tellerOf 6 (some .int) [] rmX7_tellerOf 0 0 r 0 0 σ n 76 [(0, .ref a0), (1, .int a1), (2, .int a2), (4, .int y4), (5, .int y5)] [.int x17, .int y3] := by
        refine x_iadd 77 dX7_tellerOf_76 rfl ?_
        refine x_istore_n 78 3 [(3, .int (y3 + x17)), (0, .ref a0), (1, .int a1), (2, .int a2), (4, .int y4), (5, .int y5)] dX7_tellerOf_77 rfl rfl (by decide) rfl ?_
        refine x_iload 80 4 dX7_tellerOf_78 rfl rfl ?_
        refine x_aload_n 81 1 dX7_tellerOf_80 rfl rfl ?_
        obtain ⟨r18, h19, hF⟩ := b1_inv hF
        refine x_getR 84 3 inX7 rfl (by decide) wd_928 h19 dX7_tellerOf_81 rfl ?_
        refine x_iload 86 5 dX7_tellerOf_84 rfl rfl ?_
        refine x_iconst 87 (1 : Int32) dX7_tellerOf_86 rfl (by decide) ?_
        obtain ⟨v21, h20, hF⟩ := b1_inv hF
        refine x_callS (As := [.ref r18, .int y5, .int (1 : Int32)]) (rest := [.int y4]) 90 0 0 (mX7_of hst r18 y5 (1 : Int32) σ n v21 h20) qyX7_of wd_1030 wd_1031 rfl rfl (by decide) (Nat.le_of_ble_eq_true rfl) (by decide) dX7_tellerOf_87 rfl rfl rfl rfl ?_
        refine x_iload_n 91 2 dX7_tellerOf_90 rfl rfl ?_
        obtain ⟨x22, h27, hF⟩ := b1_inv hF
        have hJ : qX l G RX7 "tellerOf" cX7_tellerOf 6 (some .int) [] rmX7_tellerOf 0 0 r 0 0 σ n 107 [(0, .ref a0), (1, .int a1), (2, .int a2), (3, .int (y3 + x17)), (5, .int y5)] [.int x22, .int y4] := by
          refine x_iadd 108 dX7_tellerOf_107 rfl ?_
          refine x_istore 110 4 [(4, .int (y4 + x22)), (0, .ref a0), (1, .int a1), (2, .int a2), (3, .int (y3 + x17)), (5, .int y5)] dX7_tellerOf_108 rfl (by decide) rfl ?_
          refine x_iinc 113 5 5 (y5 + (1 : Int32)) [(5, .int (y5 + (1 : Int32))), (4, .int (y4 + x22)), (0, .ref a0), (1, .int a1), (2, .int a2), (3, .int (y3 + x17))] dX7_tellerOf_110 rfl rfl rfl (by decide) rfl ?_
          refine x_goto 45 dX7_tellerOf_113 (by decide) ?_
          refine x_sub [(0, .ref a0), (1, .int a1), (2, .int a2), (3, .int (y3 + x17)), (4, .int (y4 + x22)), (5, .int (y5 + (1 : Int32)))] [2, 3, 4, 5, 1, 0] rfl ?_
          exact ih _ _ _ _ _ hF hJ
        have hF := h27
        rcases ite_inv hF with ⟨hc, hF⟩ | ⟨hc, hF⟩
        · refine x_icmp_ne 106 94 dX7_tellerOf_91 (by decide) rfl (fun q => absurd hc q) (fun _ => ?_)
          refine x_aload_n 95 1 dX7_tellerOf_94 rfl rfl ?_
          obtain ⟨r23, h24, hF⟩ := b1_inv hF
          refine x_getR 98 3 inX7 rfl (by decide) wd_928 h24 dX7_tellerOf_95 rfl ?_
          refine x_iload 100 5 dX7_tellerOf_98 rfl rfl ?_
          obtain ⟨v26, h25, hF⟩ := b1_inv hF
          refine x_callS (As := [.ref r23, .int y5]) (rest := [.int y4]) 103 0 0 (mX7_quarrelsOf hst r23 y5 σ n v26 h25) qyX7_quarrelsOf wd_1079 wd_1080 rfl rfl (by decide) (Nat.le_of_ble_eq_true rfl) (by decide) dX7_tellerOf_100 rfl rfl rfl rfl ?_
          refine x_goto 107 dX7_tellerOf_103 (by decide) ?_
          have e1 := Option.some.inj hF
          subst e1
          refine x_sub [(0, .ref a0), (1, .int a1), (2, .int a2), (3, .int (y3 + x17)), (5, .int y5)] [1, 2, 3, 0, 5] rfl ?_
          exact hJ
        · refine x_icmp_ne 106 94 dX7_tellerOf_91 (by decide) rfl (fun _ => ?_) (fun q => absurd q hc)
          refine x_iconst 107 (0 : Int32) dX7_tellerOf_106 rfl (by decide) ?_
          have e1 := Option.some.inj hF
          subst e1
          refine x_sub [(0, .ref a0), (1, .int a1), (2, .int a2), (3, .int (y3 + x17)), (5, .int y5)] [1, 2, 3, 0, 5] rfl ?_
          exact hJ
      have hF := h28
      rcases ite_inv hF with ⟨hc, hF⟩ | ⟨hc, hF⟩
      · refine x_icmp_ne 75 71 dX7_tellerOf_68 (by decide) rfl (fun q => absurd hc q) (fun _ => ?_)
        refine x_iconst 72 (1 : Int32) dX7_tellerOf_71 rfl (by decide) ?_
        refine x_goto 76 dX7_tellerOf_72 (by decide) ?_
        have e1 := Option.some.inj hF
        subst e1
        refine x_sub [(0, .ref a0), (1, .int a1), (2, .int a2), (4, .int y4), (5, .int y5)] [0, 1, 2, 4, 5] rfl ?_
        exact hJ
      · refine x_icmp_ne 75 71 dX7_tellerOf_68 (by decide) rfl (fun _ => ?_) (fun q => absurd q hc)
        refine x_iconst 76 (0 : Int32) dX7_tellerOf_75 rfl (by decide) ?_
        have e1 := Option.some.inj hF
        subst e1
        refine x_sub [(0, .ref a0), (1, .int a1), (2, .int a2), (4, .int y4), (5, .int y5)] [0, 1, 2, 4, 5] rfl ?_
        exact hJ
theorem kX7_tellerOf {b : Nat} {p0 : Int32} {p1 : Int32} {σ : qH} {o : Int32 × qH} (h : FX7_tellerOf b p0 p1 σ = some o) : ∃ fs : List Value, True ∧ σ b = some (.inr (5, fs)) := by
  unfold FX7_tellerOf at h
  obtain ⟨_, h1, _⟩ := b1_inv h
  obtain ⟨fs, h2⟩ := gC_inv h1
  exact ⟨fs, trivial, h2⟩
set_option maxHeartbeats 4000000 in
set_option maxRecDepth 100000 in
theorem mX7_tellerOf {l : Launch} {G : qG} (hst : l.stackTraces = false) (b : Nat) (p0 : Int32) (p1 : Int32) (σ : qH) (n : Option Nat) (ro : Int32) (so : qH) (hF : FX7_tellerOf b p0 p1 σ = some (ro, so)) : qM l G yX7_tellerOf cX7_tellerOf 6 (some .int) rmX7_tellerOf [.ref b, .int p0, .int p1] σ n (.inl (some (.int ro), so, n)) := by
  refine q_body (own := RX7) (nm := "tellerOf") (ls := [(0, .ref b), (1, .int p0), (2, .int p1)]) hst (by decide +kernel) rfl rfl (Nat.le_of_ble_eq_true rfl) rfl rfl rfl ?_
  unfold FX7_tellerOf at hF
  obtain ⟨_, hC, hF⟩ := b1_inv hF
  refine x_aload_n 1 0 dX7_tellerOf_0 rfl rfl ?_
  refine x_iload_n 2 1 dX7_tellerOf_1 rfl rfl ?_
  obtain ⟨v2, h1, hF⟩ := b1_inv hF
  refine x_callS (As := [.int p0]) (rest := [.ref b]) 5 0 0 (mX7_isTeller hst p0 σ n v2 h1) qyX7_isTeller wd_1086 wd_1087 rfl rfl (by decide) (Nat.le_of_ble_eq_true rfl) (by decide) dX7_tellerOf_2 rfl rfl rfl rfl ?_
  obtain ⟨x3, h46, hF⟩ := b1_inv hF
  have hJ : qX l G RX7 "tellerOf" cX7_tellerOf 6 (some .int) [] rmX7_tellerOf 0 0 (.inl (some (.int ro), so, n)) 0 0 σ n 29 [(0, .ref b), (1, .int p0), (2, .int p1)] [.int x3, .ref b] := by
    obtain ⟨v7, s8, h6, hF⟩ := b2_inv hF
    obtain ⟨fs, hb⟩ : ∃ fs : List Value, True ∧ σ b = some (.inr (5, fs)) := kX7_refused h6
    refine x_callV (As := [.int x3]) (rest := []) 32 0 0 (mX7_refused hst b x3 σ n v7 s8 h6) qyX7_refused wd_971 wd_973 wd_16 hb.2 rfl rfl rfl (by decide) (Nat.le_of_ble_eq_true rfl) (by decide) dX7_tellerOf_29 rfl rfl rfl rfl ?_
    rcases ite_inv hF with ⟨hc, hF⟩ | ⟨hc, hF⟩
    · refine x_if_eq 37 35 dX7_tellerOf_32 (by decide) rfl (fun _ => ?_) (fun q => absurd hc q)
      refine x_iconst 38 (0 : Int32) dX7_tellerOf_37 rfl (by decide) ?_
      refine x_istore_n 39 3 [(3, .int (0 : Int32)), (0, .ref b), (1, .int p0), (2, .int p1)] dX7_tellerOf_38 rfl rfl (by decide) rfl ?_
      refine x_iconst 40 (0 : Int32) dX7_tellerOf_39 rfl (by decide) ?_
      refine x_istore 42 4 [(4, .int (0 : Int32)), (3, .int (0 : Int32)), (0, .ref b), (1, .int p0), (2, .int p1)] dX7_tellerOf_40 rfl (by decide) rfl ?_
      refine x_iconst 43 (0 : Int32) dX7_tellerOf_42 rfl (by decide) ?_
      refine x_istore 45 5 [(5, .int (0 : Int32)), (4, .int (0 : Int32)), (3, .int (0 : Int32)), (0, .ref b), (1, .int p0), (2, .int p1)] dX7_tellerOf_43 rfl (by decide) rfl ?_
      obtain ⟨x29, x30, h45, hF⟩ := b2_inv hF
      have hJ : qX l G RX7 "tellerOf" cX7_tellerOf 6 (some .int) [] rmX7_tellerOf 0 0 (.inl (some (.int ro), so, n)) 0 0 s8 n 116 [(0, .ref b), (1, .int p0), (2, .int p1), (3, .int x29), (4, .int x30)] [] := by
        refine x_iload_n 117 2 dX7_tellerOf_116 rfl rfl ?_
        obtain ⟨x31, h44, hF⟩ := b1_inv hF
        have hJ : qX l G RX7 "tellerOf" cX7_tellerOf 6 (some .int) [] rmX7_tellerOf 0 0 (.inl (some (.int ro), so, n)) 0 0 s8 n 177 [] [.int x31] := by
          cases hF
          exact x_iret rfl rfl (by decide) (by decide) dX7_tellerOf_177
        have hF := h44
        rcases ite_inv hF with ⟨hc, hF⟩ | ⟨hc, hF⟩
        · refine x_if_ne 132 120 dX7_tellerOf_117 (by decide) rfl (fun q => absurd hc q) (fun _ => ?_)
          refine x_aload_n 121 0 dX7_tellerOf_120 rfl rfl ?_
          obtain ⟨r32, h33, hF⟩ := b1_inv hF
          refine x_getR 124 3 inX7 rfl (by decide) wd_928 h33 dX7_tellerOf_121 rfl ?_
          refine x_bipush 126 (9 : Int32) dX7_tellerOf_124 rfl (by decide) ?_
          refine x_iload_n 127 1 dX7_tellerOf_126 rfl rfl ?_
          refine x_iadd 128 dX7_tellerOf_127 rfl ?_
          obtain ⟨v34, h35, hF⟩ := b1_inv hF
          refine x_aI 129 h35 dX7_tellerOf_128 rfl ?_
          refine x_goto 177 dX7_tellerOf_129 (by decide) ?_
          have e1 := Option.some.inj hF
          subst e1
          refine x_sub [] [] rfl ?_
          exact hJ
        · refine x_if_ne 132 120 dX7_tellerOf_117 (by decide) rfl (fun _ => ?_) (fun q => absurd q hc)
          refine x_iload_n 133 2 dX7_tellerOf_132 rfl rfl ?_
          refine x_iconst 134 (1 : Int32) dX7_tellerOf_133 rfl (by decide) ?_
          rcases ite_inv hF with ⟨hc, hF⟩ | ⟨hc, hF⟩
          · refine x_icmp_ne 141 137 dX7_tellerOf_134 (by decide) rfl (fun q => absurd hc q) (fun _ => ?_)
            refine x_iload_n 138 3 dX7_tellerOf_137 rfl rfl ?_
            refine x_goto 177 dX7_tellerOf_138 (by decide) ?_
            have e1 := Option.some.inj hF
            subst e1
            refine x_sub [] [] rfl ?_
            exact hJ
          · refine x_icmp_ne 141 137 dX7_tellerOf_134 (by decide) rfl (fun _ => ?_) (fun q => absurd q hc)
            refine x_iload_n 142 2 dX7_tellerOf_141 rfl rfl ?_
            refine x_iconst 143 (2 : Int32) dX7_tellerOf_142 rfl (by decide) ?_
            rcases ite_inv hF with ⟨hc, hF⟩ | ⟨hc, hF⟩
            · refine x_icmp_ne 158 146 dX7_tellerOf_143 (by decide) rfl (fun q => absurd hc q) (fun _ => ?_)
              refine x_aload_n 147 0 dX7_tellerOf_146 rfl rfl ?_
              obtain ⟨r36, h37, hF⟩ := b1_inv hF
              refine x_getR 150 3 inX7 rfl (by decide) wd_928 h37 dX7_tellerOf_147 rfl ?_
              refine x_bipush 152 (15 : Int32) dX7_tellerOf_150 rfl (by decide) ?_
              refine x_iload_n 153 1 dX7_tellerOf_152 rfl rfl ?_
              refine x_iadd 154 dX7_tellerOf_153 rfl ?_
              obtain ⟨v38, h39, hF⟩ := b1_inv hF
              refine x_aI 155 h39 dX7_tellerOf_154 rfl ?_
              refine x_goto 177 dX7_tellerOf_155 (by decide) ?_
              have e1 := Option.some.inj hF
              subst e1
              refine x_sub [] [] rfl ?_
              exact hJ
            · refine x_icmp_ne 158 146 dX7_tellerOf_143 (by decide) rfl (fun _ => ?_) (fun q => absurd q hc)
              refine x_iload_n 159 2 dX7_tellerOf_158 rfl rfl ?_
              refine x_iconst 160 (3 : Int32) dX7_tellerOf_159 rfl (by decide) ?_
              rcases ite_inv hF with ⟨hc, hF⟩ | ⟨hc, hF⟩
              · refine x_icmp_ne 175 163 dX7_tellerOf_160 (by decide) rfl (fun q => absurd hc q) (fun _ => ?_)
                refine x_aload_n 164 0 dX7_tellerOf_163 rfl rfl ?_
                obtain ⟨r40, h41, hF⟩ := b1_inv hF
                refine x_getR 167 3 inX7 rfl (by decide) wd_928 h41 dX7_tellerOf_164 rfl ?_
                refine x_bipush 169 (21 : Int32) dX7_tellerOf_167 rfl (by decide) ?_
                refine x_iload_n 170 1 dX7_tellerOf_169 rfl rfl ?_
                refine x_iadd 171 dX7_tellerOf_170 rfl ?_
                obtain ⟨v42, h43, hF⟩ := b1_inv hF
                refine x_aI 172 h43 dX7_tellerOf_171 rfl ?_
                refine x_goto 177 dX7_tellerOf_172 (by decide) ?_
                have e1 := Option.some.inj hF
                subst e1
                refine x_sub [] [] rfl ?_
                exact hJ
              · refine x_icmp_ne 175 163 dX7_tellerOf_160 (by decide) rfl (fun _ => ?_) (fun q => absurd q hc)
                refine x_iload 177 4 dX7_tellerOf_175 rfl rfl ?_
                have e1 := Option.some.inj hF
                subst e1
                refine x_sub [] [] rfl ?_
                exact hJ
      refine x_sub [(0, .ref b), (1, .int p0), (2, .int p1), (3, .int (0 : Int32)), (4, .int (0 : Int32)), (5, .int (0 : Int32))] [3, 4, 5, 2, 1, 0] rfl ?_
      exact mX7_tellerOf_L45 hst b p0 p1 s8 n _ qfuel (0 : Int32) (0 : Int32) (0 : Int32) x29 x30 h45 hJ
    · refine x_if_eq 37 35 dX7_tellerOf_32 (by decide) rfl (fun q => absurd q hc) (fun _ => ?_)
      refine x_iconst 36 (0 : Int32) dX7_tellerOf_35 rfl (by decide) ?_
      cases hF
      exact x_iret rfl rfl (by decide) (by decide) dX7_tellerOf_36
  have hF := h46
  rcases ite_inv hF with ⟨hc, hF⟩ | ⟨hc, hF⟩
  · refine x_if_ne 12 8 dX7_tellerOf_5 (by decide) rfl (fun q => absurd hc q) (fun _ => ?_)
    refine x_iconst 9 (1 : Int32) dX7_tellerOf_8 rfl (by decide) ?_
    refine x_goto 29 dX7_tellerOf_9 (by decide) ?_
    have e1 := Option.some.inj hF
    subst e1
    exact hJ
  · refine x_if_ne 12 8 dX7_tellerOf_5 (by decide) rfl (fun _ => ?_) (fun q => absurd q hc)
    refine x_iload_n 13 2 dX7_tellerOf_12 rfl rfl ?_
    refine x_i2l 14 dX7_tellerOf_13 rfl ?_
    refine x_lconst 15 (0 : Int64) dX7_tellerOf_14 rfl (by decide) ?_
    refine x_ldc2 18 (4 : Int64) wd_1090 dX7_tellerOf_15 rfl ?_
    obtain ⟨v5, h4, hF⟩ := b1_inv hF
    refine x_callS (As := [.long (p1).toInt64, .long (0 : Int64), .long (4 : Int64)]) (rest := [.ref b]) 21 0 0 (mX7_in hst (p1).toInt64 (0 : Int64) (4 : Int64) σ n v5 h4) qyX7_in wd_968 wd_969 rfl rfl (by decide) (Nat.le_of_ble_eq_true rfl) (by decide) dX7_tellerOf_18 rfl rfl rfl rfl ?_
    rcases ite_inv hF with ⟨hc, hF⟩ | ⟨hc, hF⟩
    · refine x_if_eq 28 24 dX7_tellerOf_21 (by decide) rfl (fun _ => ?_) (fun q => absurd hc q)
      refine x_iconst 29 (2 : Int32) dX7_tellerOf_28 rfl (by decide) ?_
      have e1 := Option.some.inj hF
      subst e1
      exact hJ
    · refine x_if_eq 28 24 dX7_tellerOf_21 (by decide) rfl (fun q => absurd q hc) (fun _ => ?_)
      refine x_iconst 25 (0 : Int32) dX7_tellerOf_24 rfl (by decide) ?_
      refine x_goto 29 dX7_tellerOf_25 (by decide) ?_
      have e1 := Option.some.inj hF
      subst e1
      exact hJ
def rmX7_steepleOf : Room := { frames := 2, cells := 0, slots := 0, locals := 45 }
theorem qyX7_steepleOf : qY yX7_steepleOf cX7_steepleOf 6 (some .int) 2 := ⟨wd_1094, wd_32, by decide +kernel, by decide +kernel, by decide +kernel⟩
set_option maxHeartbeats 4000000 in
set_option maxRecDepth 100000 in
theorem mX7_steepleOf_L45 {l : Launch} {G : qG} (hst : l.stackTraces = false) (a0 : Nat) (a1 : Int32) (a2 : Int32) (σ : qH) (n : Option Nat) (r : qR) : ∀ (q : Nat) (y3 : Int32) (y4 : Int32) (y5 : Int32) (o3 : Int32) (o4 : Int32), FX7_steepleOf_L45 a0 a1 a2 σ q y3 y4 y5 = some (o3, o4) → qX l G RX7 "steepleOf" cX7_steepleOf 6 (some .int) [] rmX7_steepleOf 0 0 r 0 0 σ n 116 [(0, .ref a0), (1, .int a1), (2, .int a2), (3, .int o3), (4, .int o4)] [] → qX l G RX7 "steepleOf" cX7_steepleOf 6 (some .int) [] rmX7_steepleOf 0 0 r 0 0 σ n 45 [(0, .ref a0), (1, .int a1), (2, .int a2), (3, .int y3), (4, .int y4), (5, .int y5)] [] := by
  intro q
  induction q with
  | zero => intro y3 y4 y5 o3 o4 hF; rw [FX7_steepleOf_L45] at hF; cases hF
  | succ q ih =>
    intro y3 y4 y5 o3 o4 hF hJ
    rw [FX7_steepleOf_L45] at hF
    refine x_iload 47 5 dX7_steepleOf_45 rfl rfl ?_
    refine x_aload_n 48 0 dX7_steepleOf_47 rfl rfl ?_
    obtain ⟨r9, h10, hF⟩ := b1_inv hF
    refine x_getR 51 3 inX7 rfl (by decide) wd_928 h10 dX7_steepleOf_48 rfl ?_
    refine x_iconst 52 (0 : Int32) dX7_steepleOf_51 rfl (by decide) ?_
    obtain ⟨v11, h12, hF⟩ := b1_inv hF
    refine x_aI 53 h12 dX7_steepleOf_52 rfl ?_
    rcases ite_inv hF with ⟨hc, hF⟩ | ⟨hc, hF⟩
    · refine x_icmp_ge 116 56 dX7_steepleOf_53 (by decide) rfl (fun _ => ?_) (fun q => absurd hc q)
      obtain ⟨e1, e2⟩ := so2 hF
      subst e1
      subst e2
      refine x_sub [(0, .ref a0), (1, .int a1), (2, .int a2), (3, .int y3), (4, .int y4)] [0, 1, 2, 3, 4] rfl ?_
      exact hJ
    · refine x_icmp_ge 116 56 dX7_steepleOf_53 (by decide) rfl (fun q => absurd q hc) (fun _ => ?_)
      refine x_iload_n 57 3 dX7_steepleOf_56 rfl rfl ?_
      refine x_aload_n 58 0 dX7_steepleOf_57 rfl rfl ?_
      obtain ⟨r13, h14, hF⟩ := b1_inv hF
      refine x_getR 61 3 inX7 rfl (by decide) wd_928 h14 dX7_steepleOf_58 rfl ?_
      refine x_iload 63 5 dX7_steepleOf_61 rfl rfl ?_
      refine x_iconst 64 (0 : Int32) dX7_steepleOf_63 rfl (by decide) ?_
      obtain ⟨v16, h15, hF⟩ := b1_inv hF
      refine x_callS (As := [.ref r13, .int y5, .int (0 : Int32)]) (rest := [.int y3]) 67 0 0 (mX7_of hst r13 y5 (0 : Int32) σ n v16 h15) qyX7_of wd_1030 wd_1031 rfl rfl (by decide) (Nat.le_of_ble_eq_true rfl) (by decide) dX7_steepleOf_64 rfl rfl rfl rfl ?_
      refine x_iload_n 68 1 dX7_steepleOf_67 rfl rfl ?_
      obtain ⟨x17, h28, hF⟩ := b1_inv hF
      have hJ : qX l G RX7 "steepleOf" cX7_steepleOf 6 (some .int) [] rmX7_steepleOf 0 0 r 0 0 σ n 76 [(0, .ref a0), (1, .int a1), (2, .int a2), (4, .int y4), (5, .int y5)] [.int x17, .int y3] := by
        refine x_iadd 77 dX7_steepleOf_76 rfl ?_
        refine x_istore_n 78 3 [(3, .int (y3 + x17)), (0, .ref a0), (1, .int a1), (2, .int a2), (4, .int y4), (5, .int y5)] dX7_steepleOf_77 rfl rfl (by decide) rfl ?_
        refine x_iload 80 4 dX7_steepleOf_78 rfl rfl ?_
        refine x_aload_n 81 1 dX7_steepleOf_80 rfl rfl ?_
        obtain ⟨r18, h19, hF⟩ := b1_inv hF
        refine x_getR 84 3 inX7 rfl (by decide) wd_928 h19 dX7_steepleOf_81 rfl ?_
        refine x_iload 86 5 dX7_steepleOf_84 rfl rfl ?_
        refine x_iconst 87 (0 : Int32) dX7_steepleOf_86 rfl (by decide) ?_
        obtain ⟨v21, h20, hF⟩ := b1_inv hF
        refine x_callS (As := [.ref r18, .int y5, .int (0 : Int32)]) (rest := [.int y4]) 90 0 0 (mX7_of hst r18 y5 (0 : Int32) σ n v21 h20) qyX7_of wd_1030 wd_1031 rfl rfl (by decide) (Nat.le_of_ble_eq_true rfl) (by decide) dX7_steepleOf_87 rfl rfl rfl rfl ?_
        refine x_iload_n 91 2 dX7_steepleOf_90 rfl rfl ?_
        obtain ⟨x22, h27, hF⟩ := b1_inv hF
        have hJ : qX l G RX7 "steepleOf" cX7_steepleOf 6 (some .int) [] rmX7_steepleOf 0 0 r 0 0 σ n 107 [(0, .ref a0), (1, .int a1), (2, .int a2), (3, .int (y3 + x17)), (5, .int y5)] [.int x22, .int y4] := by
          refine x_iadd 108 dX7_steepleOf_107 rfl ?_
          refine x_istore 110 4 [(4, .int (y4 + x22)), (0, .ref a0), (1, .int a1), (2, .int a2), (3, .int (y3 + x17)), (5, .int y5)] dX7_steepleOf_108 rfl (by decide) rfl ?_
          refine x_iinc 113 5 5 (y5 + (1 : Int32)) [(5, .int (y5 + (1 : Int32))), (4, .int (y4 + x22)), (0, .ref a0), (1, .int a1), (2, .int a2), (3, .int (y3 + x17))] dX7_steepleOf_110 rfl rfl rfl (by decide) rfl ?_
          refine x_goto 45 dX7_steepleOf_113 (by decide) ?_
          refine x_sub [(0, .ref a0), (1, .int a1), (2, .int a2), (3, .int (y3 + x17)), (4, .int (y4 + x22)), (5, .int (y5 + (1 : Int32)))] [2, 3, 4, 5, 1, 0] rfl ?_
          exact ih _ _ _ _ _ hF hJ
        have hF := h27
        rcases ite_inv hF with ⟨hc, hF⟩ | ⟨hc, hF⟩
        · refine x_icmp_ne 106 94 dX7_steepleOf_91 (by decide) rfl (fun q => absurd hc q) (fun _ => ?_)
          refine x_aload_n 95 1 dX7_steepleOf_94 rfl rfl ?_
          obtain ⟨r23, h24, hF⟩ := b1_inv hF
          refine x_getR 98 3 inX7 rfl (by decide) wd_928 h24 dX7_steepleOf_95 rfl ?_
          refine x_iload 100 5 dX7_steepleOf_98 rfl rfl ?_
          obtain ⟨v26, h25, hF⟩ := b1_inv hF
          refine x_callS (As := [.ref r23, .int y5]) (rest := [.int y4]) 103 0 0 (mX7_weight hst r23 y5 σ n v26 h25) qyX7_weight wd_1027 wd_1028 rfl rfl (by decide) (Nat.le_of_ble_eq_true rfl) (by decide) dX7_steepleOf_100 rfl rfl rfl rfl ?_
          refine x_goto 107 dX7_steepleOf_103 (by decide) ?_
          have e1 := Option.some.inj hF
          subst e1
          refine x_sub [(0, .ref a0), (1, .int a1), (2, .int a2), (3, .int (y3 + x17)), (5, .int y5)] [1, 2, 3, 0, 5] rfl ?_
          exact hJ
        · refine x_icmp_ne 106 94 dX7_steepleOf_91 (by decide) rfl (fun _ => ?_) (fun q => absurd q hc)
          refine x_iconst 107 (0 : Int32) dX7_steepleOf_106 rfl (by decide) ?_
          have e1 := Option.some.inj hF
          subst e1
          refine x_sub [(0, .ref a0), (1, .int a1), (2, .int a2), (3, .int (y3 + x17)), (5, .int y5)] [1, 2, 3, 0, 5] rfl ?_
          exact hJ
      have hF := h28
      rcases ite_inv hF with ⟨hc, hF⟩ | ⟨hc, hF⟩
      · refine x_icmp_ne 75 71 dX7_steepleOf_68 (by decide) rfl (fun q => absurd hc q) (fun _ => ?_)
        refine x_iconst 72 (1 : Int32) dX7_steepleOf_71 rfl (by decide) ?_
        refine x_goto 76 dX7_steepleOf_72 (by decide) ?_
        have e1 := Option.some.inj hF
        subst e1
        refine x_sub [(0, .ref a0), (1, .int a1), (2, .int a2), (4, .int y4), (5, .int y5)] [0, 1, 2, 4, 5] rfl ?_
        exact hJ
      · refine x_icmp_ne 75 71 dX7_steepleOf_68 (by decide) rfl (fun _ => ?_) (fun q => absurd q hc)
        refine x_iconst 76 (0 : Int32) dX7_steepleOf_75 rfl (by decide) ?_
        have e1 := Option.some.inj hF
        subst e1
        refine x_sub [(0, .ref a0), (1, .int a1), (2, .int a2), (4, .int y4), (5, .int y5)] [0, 1, 2, 4, 5] rfl ?_
        exact hJ
theorem kX7_steepleOf {b : Nat} {p0 : Int32} {p1 : Int32} {σ : qH} {o : Int32 × qH} (h : FX7_steepleOf b p0 p1 σ = some o) : ∃ fs : List Value, True ∧ σ b = some (.inr (5, fs)) := by
  unfold FX7_steepleOf at h
  obtain ⟨_, h1, _⟩ := b1_inv h
  obtain ⟨fs, h2⟩ := gC_inv h1
  exact ⟨fs, trivial, h2⟩
set_option maxHeartbeats 4000000 in
set_option maxRecDepth 100000 in
theorem mX7_steepleOf {l : Launch} {G : qG} (hst : l.stackTraces = false) (b : Nat) (p0 : Int32) (p1 : Int32) (σ : qH) (n : Option Nat) (ro : Int32) (so : qH) (hF : FX7_steepleOf b p0 p1 σ = some (ro, so)) : qM l G yX7_steepleOf cX7_steepleOf 6 (some .int) rmX7_steepleOf [.ref b, .int p0, .int p1] σ n (.inl (some (.int ro), so, n)) := by
  refine q_body (own := RX7) (nm := "steepleOf") (ls := [(0, .ref b), (1, .int p0), (2, .int p1)]) hst (by decide +kernel) rfl rfl (Nat.le_of_ble_eq_true rfl) rfl rfl rfl ?_
  unfold FX7_steepleOf at hF
  obtain ⟨_, hC, hF⟩ := b1_inv hF
  refine x_aload_n 1 0 dX7_steepleOf_0 rfl rfl ?_
  refine x_iload_n 2 1 dX7_steepleOf_1 rfl rfl ?_
  obtain ⟨v2, h1, hF⟩ := b1_inv hF
  refine x_callS (As := [.int p0]) (rest := [.ref b]) 5 0 0 (mX7_isSteeple hst p0 σ n v2 h1) qyX7_isSteeple wd_1095 wd_1096 rfl rfl (by decide) (Nat.le_of_ble_eq_true rfl) (by decide) dX7_steepleOf_2 rfl rfl rfl rfl ?_
  obtain ⟨x3, h38, hF⟩ := b1_inv hF
  have hJ : qX l G RX7 "steepleOf" cX7_steepleOf 6 (some .int) [] rmX7_steepleOf 0 0 (.inl (some (.int ro), so, n)) 0 0 σ n 29 [(0, .ref b), (1, .int p0), (2, .int p1)] [.int x3, .ref b] := by
    obtain ⟨v7, s8, h6, hF⟩ := b2_inv hF
    obtain ⟨fs, hb⟩ : ∃ fs : List Value, True ∧ σ b = some (.inr (5, fs)) := kX7_refused h6
    refine x_callV (As := [.int x3]) (rest := []) 32 0 0 (mX7_refused hst b x3 σ n v7 s8 h6) qyX7_refused wd_971 wd_973 wd_16 hb.2 rfl rfl rfl (by decide) (Nat.le_of_ble_eq_true rfl) (by decide) dX7_steepleOf_29 rfl rfl rfl rfl ?_
    rcases ite_inv hF with ⟨hc, hF⟩ | ⟨hc, hF⟩
    · refine x_if_eq 37 35 dX7_steepleOf_32 (by decide) rfl (fun _ => ?_) (fun q => absurd hc q)
      refine x_iconst 38 (0 : Int32) dX7_steepleOf_37 rfl (by decide) ?_
      refine x_istore_n 39 3 [(3, .int (0 : Int32)), (0, .ref b), (1, .int p0), (2, .int p1)] dX7_steepleOf_38 rfl rfl (by decide) rfl ?_
      refine x_iconst 40 (0 : Int32) dX7_steepleOf_39 rfl (by decide) ?_
      refine x_istore 42 4 [(4, .int (0 : Int32)), (3, .int (0 : Int32)), (0, .ref b), (1, .int p0), (2, .int p1)] dX7_steepleOf_40 rfl (by decide) rfl ?_
      refine x_iconst 43 (0 : Int32) dX7_steepleOf_42 rfl (by decide) ?_
      refine x_istore 45 5 [(5, .int (0 : Int32)), (4, .int (0 : Int32)), (3, .int (0 : Int32)), (0, .ref b), (1, .int p0), (2, .int p1)] dX7_steepleOf_43 rfl (by decide) rfl ?_
      obtain ⟨x29, x30, h37, hF⟩ := b2_inv hF
      have hJ : qX l G RX7 "steepleOf" cX7_steepleOf 6 (some .int) [] rmX7_steepleOf 0 0 (.inl (some (.int ro), so, n)) 0 0 s8 n 116 [(0, .ref b), (1, .int p0), (2, .int p1), (3, .int x29), (4, .int x30)] [] := by
        refine x_iload_n 117 2 dX7_steepleOf_116 rfl rfl ?_
        obtain ⟨x31, h36, hF⟩ := b1_inv hF
        have hJ : qX l G RX7 "steepleOf" cX7_steepleOf 6 (some .int) [] rmX7_steepleOf 0 0 (.inl (some (.int ro), so, n)) 0 0 s8 n 143 [] [.int x31] := by
          cases hF
          exact x_iret rfl rfl (by decide) (by decide) dX7_steepleOf_143
        have hF := h36
        rcases ite_inv hF with ⟨hc, hF⟩ | ⟨hc, hF⟩
        · refine x_if_ne 124 120 dX7_steepleOf_117 (by decide) rfl (fun q => absurd hc q) (fun _ => ?_)
          refine x_iload_n 121 3 dX7_steepleOf_120 rfl rfl ?_
          refine x_goto 143 dX7_steepleOf_121 (by decide) ?_
          have e1 := Option.some.inj hF
          subst e1
          refine x_sub [] [] rfl ?_
          exact hJ
        · refine x_if_ne 124 120 dX7_steepleOf_117 (by decide) rfl (fun _ => ?_) (fun q => absurd q hc)
          refine x_iload_n 125 2 dX7_steepleOf_124 rfl rfl ?_
          refine x_iconst 126 (1 : Int32) dX7_steepleOf_125 rfl (by decide) ?_
          rcases ite_inv hF with ⟨hc, hF⟩ | ⟨hc, hF⟩
          · refine x_icmp_ne 141 129 dX7_steepleOf_126 (by decide) rfl (fun q => absurd hc q) (fun _ => ?_)
            refine x_aload_n 130 0 dX7_steepleOf_129 rfl rfl ?_
            obtain ⟨r32, h33, hF⟩ := b1_inv hF
            refine x_getR 133 3 inX7 rfl (by decide) wd_928 h33 dX7_steepleOf_130 rfl ?_
            refine x_bipush 135 (27 : Int32) dX7_steepleOf_133 rfl (by decide) ?_
            refine x_iload_n 136 1 dX7_steepleOf_135 rfl rfl ?_
            refine x_iadd 137 dX7_steepleOf_136 rfl ?_
            obtain ⟨v34, h35, hF⟩ := b1_inv hF
            refine x_aI 138 h35 dX7_steepleOf_137 rfl ?_
            refine x_goto 143 dX7_steepleOf_138 (by decide) ?_
            have e1 := Option.some.inj hF
            subst e1
            refine x_sub [] [] rfl ?_
            exact hJ
          · refine x_icmp_ne 141 129 dX7_steepleOf_126 (by decide) rfl (fun _ => ?_) (fun q => absurd q hc)
            refine x_iload 143 4 dX7_steepleOf_141 rfl rfl ?_
            have e1 := Option.some.inj hF
            subst e1
            refine x_sub [] [] rfl ?_
            exact hJ
      refine x_sub [(0, .ref b), (1, .int p0), (2, .int p1), (3, .int (0 : Int32)), (4, .int (0 : Int32)), (5, .int (0 : Int32))] [3, 4, 5, 2, 1, 0] rfl ?_
      exact mX7_steepleOf_L45 hst b p0 p1 s8 n _ qfuel (0 : Int32) (0 : Int32) (0 : Int32) x29 x30 h37 hJ
    · refine x_if_eq 37 35 dX7_steepleOf_32 (by decide) rfl (fun q => absurd q hc) (fun _ => ?_)
      refine x_iconst 36 (0 : Int32) dX7_steepleOf_35 rfl (by decide) ?_
      cases hF
      exact x_iret rfl rfl (by decide) (by decide) dX7_steepleOf_36
  have hF := h38
  rcases ite_inv hF with ⟨hc, hF⟩ | ⟨hc, hF⟩
  · refine x_if_ne 12 8 dX7_steepleOf_5 (by decide) rfl (fun q => absurd hc q) (fun _ => ?_)
    refine x_iconst 9 (1 : Int32) dX7_steepleOf_8 rfl (by decide) ?_
    refine x_goto 29 dX7_steepleOf_9 (by decide) ?_
    have e1 := Option.some.inj hF
    subst e1
    exact hJ
  · refine x_if_ne 12 8 dX7_steepleOf_5 (by decide) rfl (fun _ => ?_) (fun q => absurd q hc)
    refine x_iload_n 13 2 dX7_steepleOf_12 rfl rfl ?_
    refine x_i2l 14 dX7_steepleOf_13 rfl ?_
    refine x_lconst 15 (0 : Int64) dX7_steepleOf_14 rfl (by decide) ?_
    refine x_ldc2 18 (2 : Int64) wd_1098 dX7_steepleOf_15 rfl ?_
    obtain ⟨v5, h4, hF⟩ := b1_inv hF
    refine x_callS (As := [.long (p1).toInt64, .long (0 : Int64), .long (2 : Int64)]) (rest := [.ref b]) 21 0 0 (mX7_in hst (p1).toInt64 (0 : Int64) (2 : Int64) σ n v5 h4) qyX7_in wd_968 wd_969 rfl rfl (by decide) (Nat.le_of_ble_eq_true rfl) (by decide) dX7_steepleOf_18 rfl rfl rfl rfl ?_
    rcases ite_inv hF with ⟨hc, hF⟩ | ⟨hc, hF⟩
    · refine x_if_eq 28 24 dX7_steepleOf_21 (by decide) rfl (fun _ => ?_) (fun q => absurd hc q)
      refine x_iconst 29 (2 : Int32) dX7_steepleOf_28 rfl (by decide) ?_
      have e1 := Option.some.inj hF
      subst e1
      exact hJ
    · refine x_if_eq 28 24 dX7_steepleOf_21 (by decide) rfl (fun q => absurd q hc) (fun _ => ?_)
      refine x_iconst 25 (0 : Int32) dX7_steepleOf_24 rfl (by decide) ?_
      refine x_goto 29 dX7_steepleOf_25 (by decide) ?_
      have e1 := Option.some.inj hF
      subst e1
      exact hJ
def rmX7_vote : Room := { frames := 4, cells := 0, slots := 0, locals := 91 }
theorem qyX7_vote : qY yX7_vote cX7_vote 3 (some .int) 2 := ⟨wd_1102, wd_32, by decide +kernel, by decide +kernel, by decide +kernel⟩
theorem kX7_vote {b : Nat} {p0 : Int32} {p1 : Int32} {σ : qH} {o : Int32 × qH} (h : FX7_vote b p0 p1 σ = some o) : ∃ fs : List Value, True ∧ σ b = some (.inr (5, fs)) := by
  unfold FX7_vote at h
  obtain ⟨_, h1, _⟩ := b1_inv h
  obtain ⟨fs, h2⟩ := gC_inv h1
  exact ⟨fs, trivial, h2⟩
set_option maxHeartbeats 4000000 in
set_option maxRecDepth 100000 in
theorem mX7_vote {l : Launch} {G : qG} (hst : l.stackTraces = false) (b : Nat) (p0 : Int32) (p1 : Int32) (σ : qH) (n : Option Nat) (ro : Int32) (so : qH) (hF : FX7_vote b p0 p1 σ = some (ro, so)) : qM l G yX7_vote cX7_vote 3 (some .int) rmX7_vote [.ref b, .int p0, .int p1] σ n (.inl (some (.int ro), so, n)) := by
  refine q_body (own := RX7) (nm := "vote") (ls := [(0, .ref b), (1, .int p0), (2, .int p1)]) hst (by decide +kernel) rfl rfl (Nat.le_of_ble_eq_true rfl) rfl rfl rfl ?_
  unfold FX7_vote at hF
  obtain ⟨_, hC, hF⟩ := b1_inv hF
  refine x_aload_n 1 0 dX7_vote_0 rfl rfl ?_
  refine x_iload_n 2 1 dX7_vote_1 rfl rfl ?_
  obtain ⟨v2, h1, hF⟩ := b1_inv hF
  refine x_callS (As := [.int p0]) (rest := [.ref b]) 5 0 0 (mX7_isSteeple hst p0 σ n v2 h1) qyX7_isSteeple wd_1095 wd_1096 rfl rfl (by decide) (Nat.le_of_ble_eq_true rfl) (by decide) dX7_vote_2 rfl rfl rfl rfl ?_
  obtain ⟨x3, h13, hF⟩ := b1_inv hF
  have hJ : qX l G RX7 "vote" cX7_vote 3 (some .int) [] rmX7_vote 0 0 (.inl (some (.int ro), so, n)) 0 0 σ n 29 [(0, .ref b), (1, .int p0), (2, .int p1)] [.int x3, .ref b] := by
    obtain ⟨v7, s8, h6, hF⟩ := b2_inv hF
    obtain ⟨fs, hb⟩ : ∃ fs : List Value, True ∧ σ b = some (.inr (5, fs)) := kX7_refused h6
    refine x_callV (As := [.int x3]) (rest := []) 32 0 0 (mX7_refused hst b x3 σ n v7 s8 h6) qyX7_refused wd_971 wd_973 wd_16 hb.2 rfl rfl rfl (by decide) (Nat.le_of_ble_eq_true rfl) (by decide) dX7_vote_29 rfl rfl rfl rfl ?_
    rcases ite_inv hF with ⟨hc, hF⟩ | ⟨hc, hF⟩
    · refine x_if_eq 37 35 dX7_vote_32 (by decide) rfl (fun _ => ?_) (fun q => absurd hc q)
      refine x_aload_n 38 0 dX7_vote_37 rfl rfl ?_
      obtain ⟨r9, h10, hF⟩ := b1_inv hF
      refine x_getR 41 3 inX7 rfl (by decide) wd_928 h10 dX7_vote_38 rfl ?_
      refine x_iload_n 42 1 dX7_vote_41 rfl rfl ?_
      refine x_iload_n 43 2 dX7_vote_42 rfl rfl ?_
      obtain ⟨v12, h11, hF⟩ := b1_inv hF
      refine x_callS (As := [.ref r9, .int p0, .int p1]) (rest := []) 46 0 0 (mX7_voteOf hst r9 p0 p1 s8 n v12 h11) qyX7_voteOf wd_1103 wd_1104 rfl rfl (by decide) (Nat.le_of_ble_eq_true rfl) (by decide) dX7_vote_43 rfl rfl rfl rfl ?_
      cases hF
      exact x_iret rfl rfl (by decide) (by decide) dX7_vote_46
    · refine x_if_eq 37 35 dX7_vote_32 (by decide) rfl (fun q => absurd q hc) (fun _ => ?_)
      refine x_iconst 36 (0 : Int32) dX7_vote_35 rfl (by decide) ?_
      cases hF
      exact x_iret rfl rfl (by decide) (by decide) dX7_vote_36
  have hF := h13
  rcases ite_inv hF with ⟨hc, hF⟩ | ⟨hc, hF⟩
  · refine x_if_ne 12 8 dX7_vote_5 (by decide) rfl (fun q => absurd hc q) (fun _ => ?_)
    refine x_iconst 9 (1 : Int32) dX7_vote_8 rfl (by decide) ?_
    refine x_goto 29 dX7_vote_9 (by decide) ?_
    have e1 := Option.some.inj hF
    subst e1
    exact hJ
  · refine x_if_ne 12 8 dX7_vote_5 (by decide) rfl (fun _ => ?_) (fun q => absurd q hc)
    refine x_iload_n 13 2 dX7_vote_12 rfl rfl ?_
    refine x_i2l 14 dX7_vote_13 rfl ?_
    refine x_lconst 15 (1 : Int64) dX7_vote_14 rfl (by decide) ?_
    refine x_ldc2 18 (999 : Int64) wd_1007 dX7_vote_15 rfl ?_
    obtain ⟨v5, h4, hF⟩ := b1_inv hF
    refine x_callS (As := [.long (p1).toInt64, .long (1 : Int64), .long (999 : Int64)]) (rest := [.ref b]) 21 0 0 (mX7_in hst (p1).toInt64 (1 : Int64) (999 : Int64) σ n v5 h4) qyX7_in wd_968 wd_969 rfl rfl (by decide) (Nat.le_of_ble_eq_true rfl) (by decide) dX7_vote_18 rfl rfl rfl rfl ?_
    rcases ite_inv hF with ⟨hc, hF⟩ | ⟨hc, hF⟩
    · refine x_if_eq 28 24 dX7_vote_21 (by decide) rfl (fun _ => ?_) (fun q => absurd hc q)
      refine x_iconst 29 (2 : Int32) dX7_vote_28 rfl (by decide) ?_
      have e1 := Option.some.inj hF
      subst e1
      exact hJ
    · refine x_if_eq 28 24 dX7_vote_21 (by decide) rfl (fun q => absurd q hc) (fun _ => ?_)
      refine x_iconst 25 (0 : Int32) dX7_vote_24 rfl (by decide) ?_
      refine x_goto 29 dX7_vote_25 (by decide) ?_
      have e1 := Option.some.inj hF
      subst e1
      exact hJ
def rmX7_best : Room := { frames := 6, cells := 0, slots := 0, locals := 141 }
theorem qyX7_best : qY yX7_best cX7_best 4 (some .int) 3 := ⟨wd_1109, wd_32, by decide +kernel, by decide +kernel, by decide +kernel⟩
theorem kX7_best {b : Nat} {p0 : Int32} {p1 : Int32} {p2 : Int32} {σ : qH} {o : Int32 × qH} (h : FX7_best b p0 p1 p2 σ = some o) : ∃ fs : List Value, True ∧ σ b = some (.inr (5, fs)) := by
  unfold FX7_best at h
  obtain ⟨_, h1, _⟩ := b1_inv h
  obtain ⟨fs, h2⟩ := gC_inv h1
  exact ⟨fs, trivial, h2⟩
set_option maxHeartbeats 4000000 in
set_option maxRecDepth 100000 in
theorem mX7_best {l : Launch} {G : qG} (hst : l.stackTraces = false) (b : Nat) (p0 : Int32) (p1 : Int32) (p2 : Int32) (σ : qH) (n : Option Nat) (ro : Int32) (so : qH) (hF : FX7_best b p0 p1 p2 σ = some (ro, so)) : qM l G yX7_best cX7_best 4 (some .int) rmX7_best [.ref b, .int p0, .int p1, .int p2] σ n (.inl (some (.int ro), so, n)) := by
  refine q_body (own := RX7) (nm := "best") (ls := [(0, .ref b), (1, .int p0), (2, .int p1), (3, .int p2)]) hst (by decide +kernel) rfl rfl (Nat.le_of_ble_eq_true rfl) rfl rfl rfl ?_
  unfold FX7_best at hF
  obtain ⟨_, hC, hF⟩ := b1_inv hF
  refine x_aload_n 1 0 dX7_best_0 rfl rfl ?_
  refine x_iload_n 2 1 dX7_best_1 rfl rfl ?_
  obtain ⟨v2, h1, hF⟩ := b1_inv hF
  refine x_callS (As := [.int p0]) (rest := [.ref b]) 5 0 0 (mX7_isSteeple hst p0 σ n v2 h1) qyX7_isSteeple wd_1095 wd_1096 rfl rfl (by decide) (Nat.le_of_ble_eq_true rfl) (by decide) dX7_best_2 rfl rfl rfl rfl ?_
  obtain ⟨x3, h15, hF⟩ := b1_inv hF
  have hJ : qX l G RX7 "best" cX7_best 4 (some .int) [] rmX7_best 0 0 (.inl (some (.int ro), so, n)) 0 0 σ n 39 [(0, .ref b), (1, .int p0), (2, .int p1)] [.int x3, .ref b] := by
    obtain ⟨v9, s10, h8, hF⟩ := b2_inv hF
    obtain ⟨fs, hb⟩ : ∃ fs : List Value, True ∧ σ b = some (.inr (5, fs)) := kX7_refused h8
    refine x_callV (As := [.int x3]) (rest := []) 42 0 0 (mX7_refused hst b x3 σ n v9 s10 h8) qyX7_refused wd_971 wd_973 wd_16 hb.2 rfl rfl rfl (by decide) (Nat.le_of_ble_eq_true rfl) (by decide) dX7_best_39 rfl rfl rfl rfl ?_
    rcases ite_inv hF with ⟨hc, hF⟩ | ⟨hc, hF⟩
    · refine x_if_eq 47 45 dX7_best_42 (by decide) rfl (fun _ => ?_) (fun q => absurd hc q)
      refine x_aload_n 48 0 dX7_best_47 rfl rfl ?_
      obtain ⟨r11, h12, hF⟩ := b1_inv hF
      refine x_getR 51 3 inX7 rfl (by decide) wd_928 h12 dX7_best_48 rfl ?_
      refine x_iload_n 52 1 dX7_best_51 rfl rfl ?_
      refine x_iload_n 53 2 dX7_best_52 rfl rfl ?_
      obtain ⟨v14, h13, hF⟩ := b1_inv hF
      refine x_callS (As := [.ref r11, .int p0, .int p1]) (rest := []) 56 0 0 (mX7_bestOf hst r11 p0 p1 s10 n v14 h13) qyX7_bestOf wd_1110 wd_1111 rfl rfl (by decide) (Nat.le_of_ble_eq_true rfl) (by decide) dX7_best_53 rfl rfl rfl rfl ?_
      cases hF
      exact x_iret rfl rfl (by decide) (by decide) dX7_best_56
    · refine x_if_eq 47 45 dX7_best_42 (by decide) rfl (fun q => absurd q hc) (fun _ => ?_)
      refine x_iconst 46 (0 : Int32) dX7_best_45 rfl (by decide) ?_
      cases hF
      exact x_iret rfl rfl (by decide) (by decide) dX7_best_46
  have hF := h15
  rcases ite_inv hF with ⟨hc, hF⟩ | ⟨hc, hF⟩
  · refine x_if_ne 12 8 dX7_best_5 (by decide) rfl (fun q => absurd hc q) (fun _ => ?_)
    refine x_iconst 9 (1 : Int32) dX7_best_8 rfl (by decide) ?_
    refine x_goto 39 dX7_best_9 (by decide) ?_
    have e1 := Option.some.inj hF
    subst e1
    refine x_sub [(0, .ref b), (1, .int p0), (2, .int p1)] [0, 1, 2] rfl ?_
    exact hJ
  · refine x_if_ne 12 8 dX7_best_5 (by decide) rfl (fun _ => ?_) (fun q => absurd q hc)
    refine x_iload_n 13 2 dX7_best_12 rfl rfl ?_
    refine x_i2l 14 dX7_best_13 rfl ?_
    refine x_lconst 15 (0 : Int64) dX7_best_14 rfl (by decide) ?_
    refine x_ldc2 18 (2 : Int64) wd_1098 dX7_best_15 rfl ?_
    obtain ⟨v5, h4, hF⟩ := b1_inv hF
    refine x_callS (As := [.long (p1).toInt64, .long (0 : Int64), .long (2 : Int64)]) (rest := [.ref b]) 21 0 0 (mX7_in hst (p1).toInt64 (0 : Int64) (2 : Int64) σ n v5 h4) qyX7_in wd_968 wd_969 rfl rfl (by decide) (Nat.le_of_ble_eq_true rfl) (by decide) dX7_best_18 rfl rfl rfl rfl ?_
    rcases ite_inv hF with ⟨hc, hF⟩ | ⟨hc, hF⟩
    · refine x_if_eq 38 24 dX7_best_21 (by decide) rfl (fun _ => ?_) (fun q => absurd hc q)
      refine x_iconst 39 (2 : Int32) dX7_best_38 rfl (by decide) ?_
      have e1 := Option.some.inj hF
      subst e1
      refine x_sub [(0, .ref b), (1, .int p0), (2, .int p1)] [0, 1, 2] rfl ?_
      exact hJ
    · refine x_if_eq 38 24 dX7_best_21 (by decide) rfl (fun q => absurd q hc) (fun _ => ?_)
      refine x_iload_n 25 3 dX7_best_24 rfl rfl ?_
      refine x_i2l 26 dX7_best_25 rfl ?_
      refine x_lconst 27 (0 : Int64) dX7_best_26 rfl (by decide) ?_
      refine x_lconst 28 (1 : Int64) dX7_best_27 rfl (by decide) ?_
      obtain ⟨v7, h6, hF⟩ := b1_inv hF
      refine x_callS (As := [.long (p2).toInt64, .long (0 : Int64), .long (1 : Int64)]) (rest := [.ref b]) 31 0 0 (mX7_in hst (p2).toInt64 (0 : Int64) (1 : Int64) σ n v7 h6) qyX7_in wd_968 wd_969 rfl rfl (by decide) (Nat.le_of_ble_eq_true rfl) (by decide) dX7_best_28 rfl rfl rfl rfl ?_
      rcases ite_inv hF with ⟨hc, hF⟩ | ⟨hc, hF⟩
      · refine x_if_eq 38 34 dX7_best_31 (by decide) rfl (fun _ => ?_) (fun q => absurd hc q)
        refine x_iconst 39 (2 : Int32) dX7_best_38 rfl (by decide) ?_
        have e1 := Option.some.inj hF
        subst e1
        refine x_sub [(0, .ref b), (1, .int p0), (2, .int p1)] [0, 1, 2] rfl ?_
        exact hJ
      · refine x_if_eq 38 34 dX7_best_31 (by decide) rfl (fun q => absurd q hc) (fun _ => ?_)
        refine x_iconst 35 (0 : Int32) dX7_best_34 rfl (by decide) ?_
        refine x_goto 39 dX7_best_35 (by decide) ?_
        have e1 := Option.some.inj hF
        subst e1
        refine x_sub [(0, .ref b), (1, .int p0), (2, .int p1)] [0, 1, 2] rfl ?_
        exact hJ
def rmX7_setting : Room := { frames := 1, cells := 0, slots := 0, locals := 25 }
theorem qyX7_setting : qY yX7_setting cX7_setting 2 (some .int) 1 := ⟨wd_1119, wd_32, by decide +kernel, by decide +kernel, by decide +kernel⟩
theorem kX7_setting {b : Nat} {p0 : Int32} {σ : qH} {o : Int32 × qH} (h : FX7_setting b p0 σ = some o) : ∃ fs : List Value, True ∧ σ b = some (.inr (5, fs)) := by
  unfold FX7_setting at h
  obtain ⟨_, h1, _⟩ := b1_inv h
  obtain ⟨fs, h2⟩ := gC_inv h1
  exact ⟨fs, trivial, h2⟩
set_option maxHeartbeats 4000000 in
set_option maxRecDepth 100000 in
theorem mX7_setting {l : Launch} {G : qG} (hst : l.stackTraces = false) (b : Nat) (p0 : Int32) (σ : qH) (n : Option Nat) (ro : Int32) (so : qH) (hF : FX7_setting b p0 σ = some (ro, so)) : qM l G yX7_setting cX7_setting 2 (some .int) rmX7_setting [.ref b, .int p0] σ n (.inl (some (.int ro), so, n)) := by
  refine q_body (own := RX7) (nm := "setting") (ls := [(0, .ref b), (1, .int p0)]) hst (by decide +kernel) rfl rfl (Nat.le_of_ble_eq_true rfl) rfl rfl rfl ?_
  unfold FX7_setting at hF
  obtain ⟨_, hC, hF⟩ := b1_inv hF
  refine x_aload_n 1 0 dX7_setting_0 rfl rfl ?_
  refine x_iload_n 2 1 dX7_setting_1 rfl rfl ?_
  refine x_i2l 3 dX7_setting_2 rfl ?_
  refine x_lconst 4 (0 : Int64) dX7_setting_3 rfl (by decide) ?_
  refine x_lconst 5 (1 : Int64) dX7_setting_4 rfl (by decide) ?_
  obtain ⟨v2, h1, hF⟩ := b1_inv hF
  refine x_callS (As := [.long (p0).toInt64, .long (0 : Int64), .long (1 : Int64)]) (rest := [.ref b]) 8 0 0 (mX7_in hst (p0).toInt64 (0 : Int64) (1 : Int64) σ n v2 h1) qyX7_in wd_968 wd_969 rfl rfl (by decide) (Nat.le_of_ble_eq_true rfl) (by decide) dX7_setting_5 rfl rfl rfl rfl ?_
  obtain ⟨x3, h11, hF⟩ := b1_inv hF
  have hJ : qX l G RX7 "setting" cX7_setting 2 (some .int) [] rmX7_setting 0 0 (.inl (some (.int ro), so, n)) 0 0 σ n 16 [(0, .ref b), (1, .int p0)] [.int x3, .ref b] := by
    obtain ⟨v5, s6, h4, hF⟩ := b2_inv hF
    obtain ⟨fs, hb⟩ : ∃ fs : List Value, True ∧ σ b = some (.inr (5, fs)) := kX7_refused h4
    refine x_callV (As := [.int x3]) (rest := []) 19 0 0 (mX7_refused hst b x3 σ n v5 s6 h4) qyX7_refused wd_971 wd_973 wd_16 hb.2 rfl rfl rfl (by decide) (Nat.le_of_ble_eq_true rfl) (by decide) dX7_setting_16 rfl rfl rfl rfl ?_
    rcases ite_inv hF with ⟨hc, hF⟩ | ⟨hc, hF⟩
    · refine x_if_eq 24 22 dX7_setting_19 (by decide) rfl (fun _ => ?_) (fun q => absurd hc q)
      refine x_aload_n 25 0 dX7_setting_24 rfl rfl ?_
      obtain ⟨r7, h8, hF⟩ := b1_inv hF
      refine x_getR 28 3 inX7 rfl (by decide) wd_928 h8 dX7_setting_25 rfl ?_
      refine x_bipush 30 (7 : Int32) dX7_setting_28 rfl (by decide) ?_
      refine x_iload_n 31 1 dX7_setting_30 rfl rfl ?_
      refine x_iadd 32 dX7_setting_31 rfl ?_
      obtain ⟨v9, h10, hF⟩ := b1_inv hF
      refine x_aI 33 h10 dX7_setting_32 rfl ?_
      cases hF
      exact x_iret rfl rfl (by decide) (by decide) dX7_setting_33
    · refine x_if_eq 24 22 dX7_setting_19 (by decide) rfl (fun q => absurd q hc) (fun _ => ?_)
      refine x_iconst 23 (0 : Int32) dX7_setting_22 rfl (by decide) ?_
      cases hF
      exact x_iret rfl rfl (by decide) (by decide) dX7_setting_23
  have hF := h11
  rcases ite_inv hF with ⟨hc, hF⟩ | ⟨hc, hF⟩
  · refine x_if_eq 15 11 dX7_setting_8 (by decide) rfl (fun _ => ?_) (fun q => absurd hc q)
    refine x_iconst 16 (1 : Int32) dX7_setting_15 rfl (by decide) ?_
    have e1 := Option.some.inj hF
    subst e1
    exact hJ
  · refine x_if_eq 15 11 dX7_setting_8 (by decide) rfl (fun q => absurd q hc) (fun _ => ?_)
    refine x_iconst 12 (0 : Int32) dX7_setting_11 rfl (by decide) ?_
    refine x_goto 16 dX7_setting_12 (by decide) ?_
    have e1 := Option.some.inj hF
    subst e1
    exact hJ
def rmX7_remember : Room := { frames := 1, cells := 0, slots := 0, locals := 24 }
theorem qyX7_remember : qY yX7_remember cX7_remember 2 (none) 0 := ⟨wd_1127, wd_32, by decide +kernel, by decide +kernel, by decide +kernel⟩
set_option maxHeartbeats 4000000 in
set_option maxRecDepth 100000 in
theorem mX7_remember_L11 {l : Launch} {G : qG} (hst : l.stackTraces = false) (a0 : Nat) (n : Option Nat) (r : qR) : ∀ (q : Nat) (y1 : Int32) (σ : qH) (so : qH), FX7_remember_L11 a0 q y1 σ = some so → qX l G RX7 "remember" cX7_remember 2 (none) [] rmX7_remember 0 0 r 0 0 so n 40 [(0, .ref a0)] [] → qX l G RX7 "remember" cX7_remember 2 (none) [] rmX7_remember 0 0 r 0 0 σ n 11 [(0, .ref a0), (1, .int y1)] [] := by
  intro q
  induction q with
  | zero => intro y1 σ so hF; rw [FX7_remember_L11] at hF; cases hF
  | succ q ih =>
    intro y1 σ so hF hJ
    rw [FX7_remember_L11] at hF
    refine x_iload_n 12 1 dX7_remember_11 rfl rfl ?_
    refine x_sipush 15 (1846 : Int32) dX7_remember_12 rfl (by decide) ?_
    rcases ite_inv hF with ⟨hc, hF⟩ | ⟨hc, hF⟩
    · refine x_icmp_ge 40 18 dX7_remember_15 (by decide) rfl (fun _ => ?_) (fun q => absurd hc q)
      have e1 := Option.some.inj hF
      subst e1
      refine x_sub [(0, .ref a0)] [0] rfl ?_
      exact hJ
    · refine x_icmp_ge 40 18 dX7_remember_15 (by decide) rfl (fun q => absurd q hc) (fun _ => ?_)
      refine x_aload_n 19 0 dX7_remember_18 rfl rfl ?_
      obtain ⟨r4, h5, hF⟩ := b1_inv hF
      refine x_getR 22 5 inX7 rfl (by decide) wd_930 h5 dX7_remember_19 rfl ?_
      refine x_iload_n 23 1 dX7_remember_22 rfl rfl ?_
      refine x_aload_n 24 0 dX7_remember_23 rfl rfl ?_
      obtain ⟨r6, h7, hF⟩ := b1_inv hF
      refine x_getR 27 5 inX7 rfl (by decide) wd_930 h7 dX7_remember_24 rfl ?_
      refine x_iload_n 28 1 dX7_remember_27 rfl rfl ?_
      refine x_sipush 31 (142 : Int32) dX7_remember_28 rfl (by decide) ?_
      refine x_iadd 32 dX7_remember_31 rfl ?_
      obtain ⟨v8, h9, hF⟩ := b1_inv hF
      refine x_aI 33 h9 dX7_remember_32 rfl ?_
      obtain ⟨s10, h11, hF⟩ := b1_inv hF
      refine x_sI 34 h11 dX7_remember_33 rfl ?_
      refine x_iinc 37 1 1 (y1 + (1 : Int32)) [(1, .int (y1 + (1 : Int32))), (0, .ref a0)] dX7_remember_34 rfl rfl rfl (by decide) rfl ?_
      refine x_goto 11 dX7_remember_37 (by decide) ?_
      refine x_sub [(0, .ref a0), (1, .int (y1 + (1 : Int32)))] [1, 0] rfl ?_
      exact ih _ _ _ hF hJ
theorem kX7_remember {b : Nat} {σ : qH} {o : qH} (h : FX7_remember b σ = some o) : ∃ fs : List Value, True ∧ σ b = some (.inr (5, fs)) := by
  unfold FX7_remember at h
  obtain ⟨_, h1, _⟩ := b1_inv h
  obtain ⟨fs, h2⟩ := gC_inv h1
  exact ⟨fs, trivial, h2⟩
set_option maxHeartbeats 4000000 in
set_option maxRecDepth 100000 in
theorem mX7_remember {l : Launch} {G : qG} (hst : l.stackTraces = false) (b : Nat) (σ : qH) (n : Option Nat) (so : qH) (hF : FX7_remember b σ = some so) : qM l G yX7_remember cX7_remember 2 (none) rmX7_remember [.ref b] σ n (.inl (none, so, n)) := by
  refine q_body (own := RX7) (nm := "remember") (ls := [(0, .ref b)]) hst (by decide +kernel) rfl rfl (Nat.le_of_ble_eq_true rfl) rfl rfl rfl ?_
  unfold FX7_remember at hF
  obtain ⟨_, hC, hF⟩ := b1_inv hF
  refine x_aload_n 1 0 dX7_remember_0 rfl rfl ?_
  obtain ⟨v1, h2, hF⟩ := b1_inv hF
  refine x_getI 4 6 inX7 rfl (by decide) wd_931 h2 dX7_remember_1 rfl ?_
  refine x_bipush 6 (14 : Int32) dX7_remember_4 rfl (by decide) ?_
  obtain ⟨s3, h30, hF⟩ := b1_inv hF
  have hJ : qX l G RX7 "remember" cX7_remember 2 (none) [] rmX7_remember 0 0 (.inl (none, so, n)) 0 0 s3 n 50 [(0, .ref b)] [] := by
    refine x_aload_n 51 0 dX7_remember_50 rfl rfl ?_
    obtain ⟨r18, h19, hF⟩ := b1_inv hF
    refine x_getR 54 3 inX7 rfl (by decide) wd_928 h19 dX7_remember_51 rfl ?_
    refine x_iconst 55 (0 : Int32) dX7_remember_54 rfl (by decide) ?_
    refine x_aload_n 56 0 dX7_remember_55 rfl rfl ?_
    obtain ⟨r20, h21, hF⟩ := b1_inv hF
    refine x_getR 59 5 inX7 rfl (by decide) wd_930 h21 dX7_remember_56 rfl ?_
    refine x_sipush 62 (142 : Int32) dX7_remember_59 rfl (by decide) ?_
    refine x_aload_n 63 0 dX7_remember_62 rfl rfl ?_
    obtain ⟨v22, h23, hF⟩ := b1_inv hF
    refine x_getI 66 6 inX7 rfl (by decide) wd_931 h23 dX7_remember_63 rfl ?_
    refine x_imul 67 dX7_remember_66 rfl ?_
    obtain ⟨s25, h24, hF⟩ := b1_inv hF
    refine x_callS (As := [.ref r18, .int (0 : Int32), .ref r20, .int ((142 : Int32) * v22)]) (rest := []) 70 0 0 (mX7_copyState hst r18 (0 : Int32) r20 ((142 : Int32) * v22) s3 n s25 h24) qyX7_copyState wd_1061 wd_1062 rfl rfl (by decide) (Nat.le_of_ble_eq_true rfl) (by decide) dX7_remember_67 rfl rfl rfl rfl ?_
    refine x_aload_n 71 0 dX7_remember_70 rfl rfl ?_
    refine x_dup 72 rfl dX7_remember_71 rfl ?_
    obtain ⟨v26, h27, hF⟩ := b1_inv hF
    refine x_getI 75 6 inX7 rfl (by decide) wd_931 h27 dX7_remember_72 rfl ?_
    refine x_iconst 76 (1 : Int32) dX7_remember_75 rfl (by decide) ?_
    refine x_iadd 77 dX7_remember_76 rfl ?_
    obtain ⟨s28, h29, hF⟩ := b1_inv hF
    refine x_put 80 6 inX7 tyX7 tyX7_ok nmX7 rfl (by decide) wd_931 rfl (tX7_6) rfl rfl h29 dX7_remember_77 rfl ?_
    cases hF
    exact x_vret rfl rfl (by decide) (by decide) dX7_remember_80
  have hF := h30
  rcases ite_inv hF with ⟨hc, hF⟩ | ⟨hc, hF⟩
  · refine x_icmp_ne 50 9 dX7_remember_6 (by decide) rfl (fun q => absurd hc q) (fun _ => ?_)
    refine x_iconst 10 (0 : Int32) dX7_remember_9 rfl (by decide) ?_
    refine x_istore_n 11 1 [(1, .int (0 : Int32)), (0, .ref b)] dX7_remember_10 rfl rfl (by decide) rfl ?_
    obtain ⟨s12, h17, hF⟩ := b1_inv hF
    have hJ : qX l G RX7 "remember" cX7_remember 2 (none) [] rmX7_remember 0 0 (.inl (none, so, n)) 0 0 s12 n 40 [(0, .ref b)] [] := by
      refine x_aload_n 41 0 dX7_remember_40 rfl rfl ?_
      refine x_dup 42 rfl dX7_remember_41 rfl ?_
      obtain ⟨v13, h14, hF⟩ := b1_inv hF
      refine x_getI 45 6 inX7 rfl (by decide) wd_931 h14 dX7_remember_42 rfl ?_
      refine x_iconst 46 (1 : Int32) dX7_remember_45 rfl (by decide) ?_
      refine x_isub 47 dX7_remember_46 rfl ?_
      obtain ⟨s15, h16, hF⟩ := b1_inv hF
      refine x_put 50 6 inX7 tyX7 tyX7_ok nmX7 rfl (by decide) wd_931 rfl (tX7_6) rfl rfl h16 dX7_remember_47 rfl ?_
      have e1 := Option.some.inj hF
      subst e1
      exact hJ
    refine x_sub [(0, .ref b), (1, .int (0 : Int32))] [1, 0] rfl ?_
    exact mX7_remember_L11 hst b n _ qfuel (0 : Int32) σ s12 h17 hJ
  · refine x_icmp_ne 50 9 dX7_remember_6 (by decide) rfl (fun _ => ?_) (fun q => absurd q hc)
    have e1 := Option.some.inj hF
    subst e1
    exact hJ
def rmX7_measure : Room := { frames := 2, cells := 0, slots := 0, locals := 49 }
theorem qyX7_measure : qY yX7_measure cX7_measure 8 (some .int) 7 := ⟨wd_1123, wd_32, by decide +kernel, by decide +kernel, by decide +kernel⟩
theorem kX7_measure {b : Nat} {p0 : Int32} {p1 : Int32} {p2 : Int32} {p3 : Int32} {p4 : Int32} {p5 : Int32} {p6 : Int32} {σ : qH} {o : Int32 × qH} (h : FX7_measure b p0 p1 p2 p3 p4 p5 p6 σ = some o) : ∃ fs : List Value, True ∧ σ b = some (.inr (5, fs)) := by
  unfold FX7_measure at h
  obtain ⟨_, h1, _⟩ := b1_inv h
  obtain ⟨fs, h2⟩ := gC_inv h1
  exact ⟨fs, trivial, h2⟩
set_option maxHeartbeats 4000000 in
set_option maxRecDepth 100000 in
theorem mX7_measure {l : Launch} {G : qG} (hst : l.stackTraces = false) (b : Nat) (p0 : Int32) (p1 : Int32) (p2 : Int32) (p3 : Int32) (p4 : Int32) (p5 : Int32) (p6 : Int32) (σ : qH) (n : Option Nat) (ro : Int32) (so : qH) (hF : FX7_measure b p0 p1 p2 p3 p4 p5 p6 σ = some (ro, so)) : qM l G yX7_measure cX7_measure 8 (some .int) rmX7_measure [.ref b, .int p0, .int p1, .int p2, .int p3, .int p4, .int p5, .int p6] σ n (.inl (some (.int ro), so, n)) := by
  refine q_body (own := RX7) (nm := "measure") (ls := [(0, .ref b), (1, .int p0), (2, .int p1), (3, .int p2), (4, .int p3), (5, .int p4), (6, .int p5), (7, .int p6)]) hst (by decide +kernel) rfl rfl (Nat.le_of_ble_eq_true rfl) rfl rfl rfl ?_
  unfold FX7_measure at hF
  obtain ⟨_, hC, hF⟩ := b1_inv hF
  refine x_aload_n 1 0 dX7_measure_0 rfl rfl ?_
  refine x_iload_n 2 1 dX7_measure_1 rfl rfl ?_
  obtain ⟨v2, h1, hF⟩ := b1_inv hF
  refine x_callS (As := [.int p0]) (rest := [.ref b]) 5 0 0 (mX7_isSteeple hst p0 σ n v2 h1) qyX7_isSteeple wd_1095 wd_1096 rfl rfl (by decide) (Nat.le_of_ble_eq_true rfl) (by decide) dX7_measure_2 rfl rfl rfl rfl ?_
  obtain ⟨x3, h22, hF⟩ := b1_inv hF
  have hJ : qX l G RX7 "measure" cX7_measure 8 (some .int) [] rmX7_measure 0 0 (.inl (some (.int ro), so, n)) 0 0 σ n 54 [(0, .ref b), (1, .int p0), (2, .int p1), (3, .int p2), (4, .int p3), (5, .int p4), (6, .int p5), (7, .int p6)] [.int x3, .ref b] := by
    obtain ⟨v13, s14, h12, hF⟩ := b2_inv hF
    obtain ⟨fs, hb⟩ : ∃ fs : List Value, True ∧ σ b = some (.inr (5, fs)) := kX7_refused h12
    refine x_callV (As := [.int x3]) (rest := []) 57 0 0 (mX7_refused hst b x3 σ n v13 s14 h12) qyX7_refused wd_971 wd_973 wd_16 hb.2 rfl rfl rfl (by decide) (Nat.le_of_ble_eq_true rfl) (by decide) dX7_measure_54 rfl rfl rfl rfl ?_
    rcases ite_inv hF with ⟨hc, hF⟩ | ⟨hc, hF⟩
    · refine x_if_eq 62 60 dX7_measure_57 (by decide) rfl (fun _ => ?_) (fun q => absurd hc q)
      refine x_aload_n 63 0 dX7_measure_62 rfl rfl ?_
      obtain ⟨s16, h15, hF⟩ := b1_inv hF
      obtain ⟨fs, hb⟩ : ∃ fs : List Value, True ∧ s14 b = some (.inr (5, fs)) := kX7_remember h15
      refine x_callV (As := []) (rest := []) 66 0 0 (mX7_remember hst b s14 n s16 h15) qyX7_remember wd_1124 wd_1126 wd_22 hb.2 rfl rfl rfl (by decide) (Nat.le_of_ble_eq_true rfl) (by decide) dX7_measure_63 rfl rfl rfl rfl ?_
      refine x_aload_n 67 0 dX7_measure_66 rfl rfl ?_
      obtain ⟨r17, h18, hF⟩ := b1_inv hF
      refine x_getR 70 3 inX7 rfl (by decide) wd_928 h18 dX7_measure_67 rfl ?_
      refine x_iload_n 71 1 dX7_measure_70 rfl rfl ?_
      refine x_iload_n 72 2 dX7_measure_71 rfl rfl ?_
      refine x_iload_n 73 3 dX7_measure_72 rfl rfl ?_
      refine x_iload 75 4 dX7_measure_73 rfl rfl ?_
      refine x_iload 77 5 dX7_measure_75 rfl rfl ?_
      refine x_iload 79 6 dX7_measure_77 rfl rfl ?_
      refine x_iload 81 7 dX7_measure_79 rfl rfl ?_
      obtain ⟨v20, s21, h19, hF⟩ := b2_inv hF
      refine x_callS (As := [.ref r17, .int p0, .int p1, .int p2, .int p3, .int p4, .int p5, .int p6]) (rest := []) 84 0 0 (mX7_measureOn hst r17 p0 p1 p2 p3 p4 p5 p6 s16 n v20 s21 h19) qyX7_measureOn wd_1008 wd_1009 rfl rfl (by decide) (Nat.le_of_ble_eq_true rfl) (by decide) dX7_measure_81 rfl rfl rfl rfl ?_
      cases hF
      exact x_iret rfl rfl (by decide) (by decide) dX7_measure_84
    · refine x_if_eq 62 60 dX7_measure_57 (by decide) rfl (fun q => absurd q hc) (fun _ => ?_)
      refine x_iconst 61 (0 : Int32) dX7_measure_60 rfl (by decide) ?_
      cases hF
      exact x_iret rfl rfl (by decide) (by decide) dX7_measure_61
  have hF := h22
  rcases ite_inv hF with ⟨hc, hF⟩ | ⟨hc, hF⟩
  · refine x_if_eq 15 8 dX7_measure_5 (by decide) rfl (fun _ => ?_) (fun q => absurd hc q)
    refine x_iconst 16 (1 : Int32) dX7_measure_15 rfl (by decide) ?_
    refine x_goto 54 dX7_measure_16 (by decide) ?_
    have e1 := Option.some.inj hF
    subst e1
    exact hJ
  · refine x_if_eq 15 8 dX7_measure_5 (by decide) rfl (fun q => absurd q hc) (fun _ => ?_)
    refine x_iload_n 9 2 dX7_measure_8 rfl rfl ?_
    obtain ⟨v5, h4, hF⟩ := b1_inv hF
    refine x_callS (As := [.int p1]) (rest := [.ref b]) 12 0 0 (mX7_isTeller hst p1 σ n v5 h4) qyX7_isTeller wd_1086 wd_1087 rfl rfl (by decide) (Nat.le_of_ble_eq_true rfl) (by decide) dX7_measure_9 rfl rfl rfl rfl ?_
    rcases ite_inv hF with ⟨hc, hF⟩ | ⟨hc, hF⟩
    · refine x_if_ne 19 15 dX7_measure_12 (by decide) rfl (fun q => absurd hc q) (fun _ => ?_)
      refine x_iconst 16 (1 : Int32) dX7_measure_15 rfl (by decide) ?_
      refine x_goto 54 dX7_measure_16 (by decide) ?_
      have e1 := Option.some.inj hF
      subst e1
      exact hJ
    · refine x_if_ne 19 15 dX7_measure_12 (by decide) rfl (fun _ => ?_) (fun q => absurd q hc)
      refine x_iload_n 20 3 dX7_measure_19 rfl rfl ?_
      refine x_iload 22 4 dX7_measure_20 rfl rfl ?_
      refine x_iload 24 5 dX7_measure_22 rfl rfl ?_
      refine x_iload 26 6 dX7_measure_24 rfl rfl ?_
      refine x_iload 28 7 dX7_measure_26 rfl rfl ?_
      obtain ⟨v7, h6, hF⟩ := b1_inv hF
      refine x_callS (As := [.int p2, .int p3, .int p4, .int p5, .int p6]) (rest := [.ref b]) 31 0 0 (mX7_areFine hst p2 p3 p4 p5 p6 σ n v7 h6) qyX7_areFine wd_1000 wd_1001 rfl rfl (by decide) (Nat.le_of_ble_eq_true rfl) (by decide) dX7_measure_28 rfl rfl rfl rfl ?_
      rcases ite_inv hF with ⟨hc, hF⟩ | ⟨hc, hF⟩
      · refine x_if_ne 38 34 dX7_measure_31 (by decide) rfl (fun q => absurd hc q) (fun _ => ?_)
        refine x_iconst 35 (2 : Int32) dX7_measure_34 rfl (by decide) ?_
        refine x_goto 54 dX7_measure_35 (by decide) ?_
        have e1 := Option.some.inj hF
        subst e1
        exact hJ
      · refine x_if_ne 38 34 dX7_measure_31 (by decide) rfl (fun _ => ?_) (fun q => absurd q hc)
        refine x_aload_n 39 0 dX7_measure_38 rfl rfl ?_
        obtain ⟨r8, h9, hF⟩ := b1_inv hF
        refine x_getR 42 3 inX7 rfl (by decide) wd_928 h9 dX7_measure_39 rfl ?_
        refine x_iconst 43 (0 : Int32) dX7_measure_42 rfl (by decide) ?_
        obtain ⟨v10, h11, hF⟩ := b1_inv hF
        refine x_aI 44 h11 dX7_measure_43 rfl ?_
        refine x_bipush 46 (16 : Int32) dX7_measure_44 rfl (by decide) ?_
        rcases ite_inv hF with ⟨hc, hF⟩ | ⟨hc, hF⟩
        · refine x_icmp_ge 53 49 dX7_measure_46 (by decide) rfl (fun _ => ?_) (fun q => absurd hc q)
          refine x_iconst 54 (3 : Int32) dX7_measure_53 rfl (by decide) ?_
          have e1 := Option.some.inj hF
          subst e1
          exact hJ
        · refine x_icmp_ge 53 49 dX7_measure_46 (by decide) rfl (fun q => absurd q hc) (fun _ => ?_)
          refine x_iconst 50 (0 : Int32) dX7_measure_49 rfl (by decide) ?_
          refine x_goto 54 dX7_measure_50 (by decide) ?_
          have e1 := Option.some.inj hF
          subst e1
          exact hJ
def rmX7_drop : Room := { frames := 2, cells := 0, slots := 0, locals := 46 }
theorem qyX7_drop : qY yX7_drop cX7_drop 2 (some .int) 1 := ⟨wd_1131, wd_32, by decide +kernel, by decide +kernel, by decide +kernel⟩
theorem kX7_drop {b : Nat} {p0 : Int32} {σ : qH} {o : Int32 × qH} (h : FX7_drop b p0 σ = some o) : ∃ fs : List Value, True ∧ σ b = some (.inr (5, fs)) := by
  unfold FX7_drop at h
  obtain ⟨_, h1, _⟩ := b1_inv h
  obtain ⟨fs, h2⟩ := gC_inv h1
  exact ⟨fs, trivial, h2⟩
set_option maxHeartbeats 4000000 in
set_option maxRecDepth 100000 in
theorem mX7_drop {l : Launch} {G : qG} (hst : l.stackTraces = false) (b : Nat) (p0 : Int32) (σ : qH) (n : Option Nat) (ro : Int32) (so : qH) (hF : FX7_drop b p0 σ = some (ro, so)) : qM l G yX7_drop cX7_drop 2 (some .int) rmX7_drop [.ref b, .int p0] σ n (.inl (some (.int ro), so, n)) := by
  refine q_body (own := RX7) (nm := "drop") (ls := [(0, .ref b), (1, .int p0)]) hst (by decide +kernel) rfl rfl (Nat.le_of_ble_eq_true rfl) rfl rfl rfl ?_
  unfold FX7_drop at hF
  obtain ⟨_, hC, hF⟩ := b1_inv hF
  refine x_aload_n 1 0 dX7_drop_0 rfl rfl ?_
  refine x_aload_n 2 0 dX7_drop_1 rfl rfl ?_
  obtain ⟨r1, h2, hF⟩ := b1_inv hF
  refine x_getR 5 3 inX7 rfl (by decide) wd_928 h2 dX7_drop_2 rfl ?_
  refine x_iload_n 6 1 dX7_drop_5 rfl rfl ?_
  obtain ⟨v4, h3, hF⟩ := b1_inv hF
  refine x_callS (As := [.ref r1, .int p0]) (rest := [.ref b]) 9 0 0 (mX7_isMeasure hst r1 p0 σ n v4 h3) qyX7_isMeasure wd_1015 wd_1016 rfl rfl (by decide) (Nat.le_of_ble_eq_true rfl) (by decide) dX7_drop_6 rfl rfl rfl rfl ?_
  obtain ⟨x5, h16, hF⟩ := b1_inv hF
  have hJ : qX l G RX7 "drop" cX7_drop 2 (some .int) [] rmX7_drop 0 0 (.inl (some (.int ro), so, n)) 0 0 σ n 17 [(0, .ref b), (1, .int p0)] [.int x5, .ref b] := by
    obtain ⟨v7, s8, h6, hF⟩ := b2_inv hF
    obtain ⟨fs, hb⟩ : ∃ fs : List Value, True ∧ σ b = some (.inr (5, fs)) := kX7_refused h6
    refine x_callV (As := [.int x5]) (rest := []) 20 0 0 (mX7_refused hst b x5 σ n v7 s8 h6) qyX7_refused wd_971 wd_973 wd_16 hb.2 rfl rfl rfl (by decide) (Nat.le_of_ble_eq_true rfl) (by decide) dX7_drop_17 rfl rfl rfl rfl ?_
    rcases ite_inv hF with ⟨hc, hF⟩ | ⟨hc, hF⟩
    · refine x_if_eq 25 23 dX7_drop_20 (by decide) rfl (fun _ => ?_) (fun q => absurd hc q)
      refine x_aload_n 26 0 dX7_drop_25 rfl rfl ?_
      obtain ⟨s10, h9, hF⟩ := b1_inv hF
      obtain ⟨fs, hb⟩ : ∃ fs : List Value, True ∧ s8 b = some (.inr (5, fs)) := kX7_remember h9
      refine x_callV (As := []) (rest := []) 29 0 0 (mX7_remember hst b s8 n s10 h9) qyX7_remember wd_1124 wd_1126 wd_22 hb.2 rfl rfl rfl (by decide) (Nat.le_of_ble_eq_true rfl) (by decide) dX7_drop_26 rfl rfl rfl rfl ?_
      refine x_aload_n 30 0 dX7_drop_29 rfl rfl ?_
      obtain ⟨r11, h12, hF⟩ := b1_inv hF
      refine x_getR 33 3 inX7 rfl (by decide) wd_928 h12 dX7_drop_30 rfl ?_
      refine x_iload_n 34 1 dX7_drop_33 rfl rfl ?_
      obtain ⟨v14, s15, h13, hF⟩ := b2_inv hF
      refine x_callS (As := [.ref r11, .int p0]) (rest := []) 37 0 0 (mX7_dropOn hst r11 p0 s10 n v14 s15 h13) qyX7_dropOn wd_1018 wd_1019 rfl rfl (by decide) (Nat.le_of_ble_eq_true rfl) (by decide) dX7_drop_34 rfl rfl rfl rfl ?_
      cases hF
      exact x_iret rfl rfl (by decide) (by decide) dX7_drop_37
    · refine x_if_eq 25 23 dX7_drop_20 (by decide) rfl (fun q => absurd q hc) (fun _ => ?_)
      refine x_iconst 24 (0 : Int32) dX7_drop_23 rfl (by decide) ?_
      cases hF
      exact x_iret rfl rfl (by decide) (by decide) dX7_drop_24
  have hF := h16
  rcases ite_inv hF with ⟨hc, hF⟩ | ⟨hc, hF⟩
  · refine x_if_eq 16 12 dX7_drop_9 (by decide) rfl (fun _ => ?_) (fun q => absurd hc q)
    refine x_iconst 17 (1 : Int32) dX7_drop_16 rfl (by decide) ?_
    have e1 := Option.some.inj hF
    subst e1
    exact hJ
  · refine x_if_eq 16 12 dX7_drop_9 (by decide) rfl (fun q => absurd q hc) (fun _ => ?_)
    refine x_iconst 13 (0 : Int32) dX7_drop_12 rfl (by decide) ?_
    refine x_goto 17 dX7_drop_13 (by decide) ?_
    have e1 := Option.some.inj hF
    subst e1
    exact hJ
def rmX7_trust : Room := { frames := 2, cells := 0, slots := 0, locals := 45 }
theorem qyX7_trust : qY yX7_trust cX7_trust 3 (some .int) 2 := ⟨wd_1135, wd_32, by decide +kernel, by decide +kernel, by decide +kernel⟩
theorem kX7_trust {b : Nat} {p0 : Int32} {p1 : Int32} {σ : qH} {o : Int32 × qH} (h : FX7_trust b p0 p1 σ = some o) : ∃ fs : List Value, True ∧ σ b = some (.inr (5, fs)) := by
  unfold FX7_trust at h
  obtain ⟨_, h1, _⟩ := b1_inv h
  obtain ⟨fs, h2⟩ := gC_inv h1
  exact ⟨fs, trivial, h2⟩
set_option maxHeartbeats 4000000 in
set_option maxRecDepth 100000 in
theorem mX7_trust {l : Launch} {G : qG} (hst : l.stackTraces = false) (b : Nat) (p0 : Int32) (p1 : Int32) (σ : qH) (n : Option Nat) (ro : Int32) (so : qH) (hF : FX7_trust b p0 p1 σ = some (ro, so)) : qM l G yX7_trust cX7_trust 3 (some .int) rmX7_trust [.ref b, .int p0, .int p1] σ n (.inl (some (.int ro), so, n)) := by
  refine q_body (own := RX7) (nm := "trust") (ls := [(0, .ref b), (1, .int p0), (2, .int p1)]) hst (by decide +kernel) rfl rfl (Nat.le_of_ble_eq_true rfl) rfl rfl rfl ?_
  unfold FX7_trust at hF
  obtain ⟨_, hC, hF⟩ := b1_inv hF
  refine x_aload_n 1 0 dX7_trust_0 rfl rfl ?_
  refine x_iload_n 2 1 dX7_trust_1 rfl rfl ?_
  obtain ⟨v2, h1, hF⟩ := b1_inv hF
  refine x_callS (As := [.int p0]) (rest := [.ref b]) 5 0 0 (mX7_isTeller hst p0 σ n v2 h1) qyX7_isTeller wd_1086 wd_1087 rfl rfl (by decide) (Nat.le_of_ble_eq_true rfl) (by decide) dX7_trust_2 rfl rfl rfl rfl ?_
  obtain ⟨x3, h16, hF⟩ := b1_inv hF
  have hJ : qX l G RX7 "trust" cX7_trust 3 (some .int) [] rmX7_trust 0 0 (.inl (some (.int ro), so, n)) 0 0 σ n 29 [(0, .ref b), (1, .int p0), (2, .int p1)] [.int x3, .ref b] := by
    obtain ⟨v7, s8, h6, hF⟩ := b2_inv hF
    obtain ⟨fs, hb⟩ : ∃ fs : List Value, True ∧ σ b = some (.inr (5, fs)) := kX7_refused h6
    refine x_callV (As := [.int x3]) (rest := []) 32 0 0 (mX7_refused hst b x3 σ n v7 s8 h6) qyX7_refused wd_971 wd_973 wd_16 hb.2 rfl rfl rfl (by decide) (Nat.le_of_ble_eq_true rfl) (by decide) dX7_trust_29 rfl rfl rfl rfl ?_
    rcases ite_inv hF with ⟨hc, hF⟩ | ⟨hc, hF⟩
    · refine x_if_eq 37 35 dX7_trust_32 (by decide) rfl (fun _ => ?_) (fun q => absurd hc q)
      refine x_aload_n 38 0 dX7_trust_37 rfl rfl ?_
      obtain ⟨s10, h9, hF⟩ := b1_inv hF
      obtain ⟨fs, hb⟩ : ∃ fs : List Value, True ∧ s8 b = some (.inr (5, fs)) := kX7_remember h9
      refine x_callV (As := []) (rest := []) 41 0 0 (mX7_remember hst b s8 n s10 h9) qyX7_remember wd_1124 wd_1126 wd_22 hb.2 rfl rfl rfl (by decide) (Nat.le_of_ble_eq_true rfl) (by decide) dX7_trust_38 rfl rfl rfl rfl ?_
      refine x_aload_n 42 0 dX7_trust_41 rfl rfl ?_
      obtain ⟨r11, h12, hF⟩ := b1_inv hF
      refine x_getR 45 3 inX7 rfl (by decide) wd_928 h12 dX7_trust_42 rfl ?_
      refine x_iload_n 46 1 dX7_trust_45 rfl rfl ?_
      refine x_iload_n 47 2 dX7_trust_46 rfl rfl ?_
      obtain ⟨v14, s15, h13, hF⟩ := b2_inv hF
      refine x_callS (As := [.ref r11, .int p0, .int p1]) (rest := []) 50 0 0 (mX7_trustOn hst r11 p0 p1 s10 n v14 s15 h13) qyX7_trustOn wd_1021 wd_1022 rfl rfl (by decide) (Nat.le_of_ble_eq_true rfl) (by decide) dX7_trust_47 rfl rfl rfl rfl ?_
      cases hF
      exact x_iret rfl rfl (by decide) (by decide) dX7_trust_50
    · refine x_if_eq 37 35 dX7_trust_32 (by decide) rfl (fun q => absurd q hc) (fun _ => ?_)
      refine x_iconst 36 (0 : Int32) dX7_trust_35 rfl (by decide) ?_
      cases hF
      exact x_iret rfl rfl (by decide) (by decide) dX7_trust_36
  have hF := h16
  rcases ite_inv hF with ⟨hc, hF⟩ | ⟨hc, hF⟩
  · refine x_if_ne 12 8 dX7_trust_5 (by decide) rfl (fun q => absurd hc q) (fun _ => ?_)
    refine x_iconst 9 (1 : Int32) dX7_trust_8 rfl (by decide) ?_
    refine x_goto 29 dX7_trust_9 (by decide) ?_
    have e1 := Option.some.inj hF
    subst e1
    exact hJ
  · refine x_if_ne 12 8 dX7_trust_5 (by decide) rfl (fun _ => ?_) (fun q => absurd q hc)
    refine x_iload_n 13 2 dX7_trust_12 rfl rfl ?_
    refine x_i2l 14 dX7_trust_13 rfl ?_
    refine x_lconst 15 (0 : Int64) dX7_trust_14 rfl (by decide) ?_
    refine x_ldc2 18 (9 : Int64) wd_999 dX7_trust_15 rfl ?_
    obtain ⟨v5, h4, hF⟩ := b1_inv hF
    refine x_callS (As := [.long (p1).toInt64, .long (0 : Int64), .long (9 : Int64)]) (rest := [.ref b]) 21 0 0 (mX7_in hst (p1).toInt64 (0 : Int64) (9 : Int64) σ n v5 h4) qyX7_in wd_968 wd_969 rfl rfl (by decide) (Nat.le_of_ble_eq_true rfl) (by decide) dX7_trust_18 rfl rfl rfl rfl ?_
    rcases ite_inv hF with ⟨hc, hF⟩ | ⟨hc, hF⟩
    · refine x_if_eq 28 24 dX7_trust_21 (by decide) rfl (fun _ => ?_) (fun q => absurd hc q)
      refine x_iconst 29 (2 : Int32) dX7_trust_28 rfl (by decide) ?_
      have e1 := Option.some.inj hF
      subst e1
      exact hJ
    · refine x_if_eq 28 24 dX7_trust_21 (by decide) rfl (fun q => absurd q hc) (fun _ => ?_)
      refine x_iconst 25 (0 : Int32) dX7_trust_24 rfl (by decide) ?_
      refine x_goto 29 dX7_trust_25 (by decide) ?_
      have e1 := Option.some.inj hF
      subst e1
      exact hJ
def rmX7_evening : Room := { frames := 5, cells := 0, slots := 0, locals := 117 }
theorem qyX7_evening : qY yX7_evening cX7_evening 1 (some .int) 0 := ⟨wd_1139, wd_32, by decide +kernel, by decide +kernel, by decide +kernel⟩
theorem kX7_evening {b : Nat} {σ : qH} {o : Int32 × qH} (h : FX7_evening b σ = some o) : ∃ fs : List Value, True ∧ σ b = some (.inr (5, fs)) := by
  unfold FX7_evening at h
  obtain ⟨_, h1, _⟩ := b1_inv h
  obtain ⟨fs, h2⟩ := gC_inv h1
  exact ⟨fs, trivial, h2⟩
set_option maxHeartbeats 4000000 in
set_option maxRecDepth 100000 in
theorem mX7_evening {l : Launch} {G : qG} (hst : l.stackTraces = false) (b : Nat) (σ : qH) (n : Option Nat) (ro : Int32) (so : qH) (hF : FX7_evening b σ = some (ro, so)) : qM l G yX7_evening cX7_evening 1 (some .int) rmX7_evening [.ref b] σ n (.inl (some (.int ro), so, n)) := by
  refine q_body (own := RX7) (nm := "evening") (ls := [(0, .ref b)]) hst (by decide +kernel) rfl rfl (Nat.le_of_ble_eq_true rfl) rfl rfl rfl ?_
  unfold FX7_evening at hF
  obtain ⟨_, hC, hF⟩ := b1_inv hF
  refine x_aload_n 1 0 dX7_evening_0 rfl rfl ?_
  refine x_iconst 2 (0 : Int32) dX7_evening_1 rfl (by decide) ?_
  obtain ⟨s1, h2, hF⟩ := b1_inv hF
  refine x_put 5 0 inX7 tyX7 tyX7_ok nmX7 rfl (by decide) wd_925 rfl (tX7_0) rfl rfl h2 dX7_evening_2 rfl ?_
  refine x_aload_n 6 0 dX7_evening_5 rfl rfl ?_
  obtain ⟨s4, h3, hF⟩ := b1_inv hF
  obtain ⟨fs, hb⟩ : ∃ fs : List Value, True ∧ s1 b = some (.inr (5, fs)) := kX7_remember h3
  refine x_callV (As := []) (rest := []) 9 0 0 (mX7_remember hst b s1 n s4 h3) qyX7_remember wd_1124 wd_1126 wd_22 hb.2 rfl rfl rfl (by decide) (Nat.le_of_ble_eq_true rfl) (by decide) dX7_evening_6 rfl rfl rfl rfl ?_
  refine x_aload_n 10 0 dX7_evening_9 rfl rfl ?_
  obtain ⟨r5, h6, hF⟩ := b1_inv hF
  refine x_getR 13 3 inX7 rfl (by decide) wd_928 h6 dX7_evening_10 rfl ?_
  obtain ⟨v8, s9, h7, hF⟩ := b2_inv hF
  refine x_callS (As := [.ref r5]) (rest := []) 16 0 0 (mX7_eveningOn hst r5 s4 n v8 s9 h7) qyX7_eveningOn wd_1024 wd_1025 rfl rfl (by decide) (Nat.le_of_ble_eq_true rfl) (by decide) dX7_evening_13 rfl rfl rfl rfl ?_
  cases hF
  exact x_iret rfl rfl (by decide) (by decide) dX7_evening_16
def rmX7_survey : Room := { frames := 4, cells := 0, slots := 0, locals := 92 }
theorem qyX7_survey : qY yX7_survey cX7_survey 3 (some .int) 2 := ⟨wd_1143, wd_32, by decide +kernel, by decide +kernel, by decide +kernel⟩
theorem kX7_survey {b : Nat} {p0 : Int32} {p1 : Int32} {σ : qH} {o : Int32 × qH} (h : FX7_survey b p0 p1 σ = some o) : ∃ fs : List Value, True ∧ σ b = some (.inr (5, fs)) := by
  unfold FX7_survey at h
  obtain ⟨_, h1, _⟩ := b1_inv h
  obtain ⟨fs, h2⟩ := gC_inv h1
  exact ⟨fs, trivial, h2⟩
set_option maxHeartbeats 4000000 in
set_option maxRecDepth 100000 in
theorem mX7_survey {l : Launch} {G : qG} (hst : l.stackTraces = false) (b : Nat) (p0 : Int32) (p1 : Int32) (σ : qH) (n : Option Nat) (ro : Int32) (so : qH) (hF : FX7_survey b p0 p1 σ = some (ro, so)) : qM l G yX7_survey cX7_survey 3 (some .int) rmX7_survey [.ref b, .int p0, .int p1] σ n (.inl (some (.int ro), so, n)) := by
  refine q_body (own := RX7) (nm := "survey") (ls := [(0, .ref b), (1, .int p0), (2, .int p1)]) hst (by decide +kernel) rfl rfl (Nat.le_of_ble_eq_true rfl) rfl rfl rfl ?_
  unfold FX7_survey at hF
  obtain ⟨_, hC, hF⟩ := b1_inv hF
  refine x_aload_n 1 0 dX7_survey_0 rfl rfl ?_
  refine x_iload_n 2 1 dX7_survey_1 rfl rfl ?_
  obtain ⟨v2, h1, hF⟩ := b1_inv hF
  refine x_callS (As := [.int p0]) (rest := [.ref b]) 5 0 0 (mX7_isSteeple hst p0 σ n v2 h1) qyX7_isSteeple wd_1095 wd_1096 rfl rfl (by decide) (Nat.le_of_ble_eq_true rfl) (by decide) dX7_survey_2 rfl rfl rfl rfl ?_
  obtain ⟨x3, h16, hF⟩ := b1_inv hF
  have hJ : qX l G RX7 "survey" cX7_survey 3 (some .int) [] rmX7_survey 0 0 (.inl (some (.int ro), so, n)) 0 0 σ n 29 [(0, .ref b), (1, .int p0), (2, .int p1)] [.int x3, .ref b] := by
    obtain ⟨v7, s8, h6, hF⟩ := b2_inv hF
    obtain ⟨fs, hb⟩ : ∃ fs : List Value, True ∧ σ b = some (.inr (5, fs)) := kX7_refused h6
    refine x_callV (As := [.int x3]) (rest := []) 32 0 0 (mX7_refused hst b x3 σ n v7 s8 h6) qyX7_refused wd_971 wd_973 wd_16 hb.2 rfl rfl rfl (by decide) (Nat.le_of_ble_eq_true rfl) (by decide) dX7_survey_29 rfl rfl rfl rfl ?_
    rcases ite_inv hF with ⟨hc, hF⟩ | ⟨hc, hF⟩
    · refine x_if_eq 37 35 dX7_survey_32 (by decide) rfl (fun _ => ?_) (fun q => absurd hc q)
      refine x_aload_n 38 0 dX7_survey_37 rfl rfl ?_
      obtain ⟨s10, h9, hF⟩ := b1_inv hF
      obtain ⟨fs, hb⟩ : ∃ fs : List Value, True ∧ s8 b = some (.inr (5, fs)) := kX7_remember h9
      refine x_callV (As := []) (rest := []) 41 0 0 (mX7_remember hst b s8 n s10 h9) qyX7_remember wd_1124 wd_1126 wd_22 hb.2 rfl rfl rfl (by decide) (Nat.le_of_ble_eq_true rfl) (by decide) dX7_survey_38 rfl rfl rfl rfl ?_
      refine x_aload_n 42 0 dX7_survey_41 rfl rfl ?_
      obtain ⟨r11, h12, hF⟩ := b1_inv hF
      refine x_getR 45 3 inX7 rfl (by decide) wd_928 h12 dX7_survey_42 rfl ?_
      refine x_iload_n 46 1 dX7_survey_45 rfl rfl ?_
      refine x_iload_n 47 2 dX7_survey_46 rfl rfl ?_
      obtain ⟨v14, s15, h13, hF⟩ := b2_inv hF
      refine x_callS (As := [.ref r11, .int p0, .int p1]) (rest := []) 50 0 0 (mX7_surveyOn hst r11 p0 p1 s10 n v14 s15 h13) qyX7_surveyOn wd_1048 wd_1049 rfl rfl (by decide) (Nat.le_of_ble_eq_true rfl) (by decide) dX7_survey_47 rfl rfl rfl rfl ?_
      cases hF
      exact x_iret rfl rfl (by decide) (by decide) dX7_survey_50
    · refine x_if_eq 37 35 dX7_survey_32 (by decide) rfl (fun q => absurd q hc) (fun _ => ?_)
      refine x_iconst 36 (0 : Int32) dX7_survey_35 rfl (by decide) ?_
      cases hF
      exact x_iret rfl rfl (by decide) (by decide) dX7_survey_36
  have hF := h16
  rcases ite_inv hF with ⟨hc, hF⟩ | ⟨hc, hF⟩
  · refine x_if_ne 12 8 dX7_survey_5 (by decide) rfl (fun q => absurd hc q) (fun _ => ?_)
    refine x_iconst 9 (1 : Int32) dX7_survey_8 rfl (by decide) ?_
    refine x_goto 29 dX7_survey_9 (by decide) ?_
    have e1 := Option.some.inj hF
    subst e1
    exact hJ
  · refine x_if_ne 12 8 dX7_survey_5 (by decide) rfl (fun _ => ?_) (fun q => absurd q hc)
    refine x_iload_n 13 2 dX7_survey_12 rfl rfl ?_
    refine x_i2l 14 dX7_survey_13 rfl ?_
    refine x_lconst 15 (1 : Int64) dX7_survey_14 rfl (by decide) ?_
    refine x_ldc2 18 (999 : Int64) wd_1007 dX7_survey_15 rfl ?_
    obtain ⟨v5, h4, hF⟩ := b1_inv hF
    refine x_callS (As := [.long (p1).toInt64, .long (1 : Int64), .long (999 : Int64)]) (rest := [.ref b]) 21 0 0 (mX7_in hst (p1).toInt64 (1 : Int64) (999 : Int64) σ n v5 h4) qyX7_in wd_968 wd_969 rfl rfl (by decide) (Nat.le_of_ble_eq_true rfl) (by decide) dX7_survey_18 rfl rfl rfl rfl ?_
    rcases ite_inv hF with ⟨hc, hF⟩ | ⟨hc, hF⟩
    · refine x_if_eq 28 24 dX7_survey_21 (by decide) rfl (fun _ => ?_) (fun q => absurd hc q)
      refine x_iconst 29 (2 : Int32) dX7_survey_28 rfl (by decide) ?_
      have e1 := Option.some.inj hF
      subst e1
      exact hJ
    · refine x_if_eq 28 24 dX7_survey_21 (by decide) rfl (fun q => absurd q hc) (fun _ => ?_)
      refine x_iconst 25 (0 : Int32) dX7_survey_24 rfl (by decide) ?_
      refine x_goto 29 dX7_survey_25 (by decide) ?_
      have e1 := Option.some.inj hF
      subst e1
      exact hJ
def rmX7_set : Room := { frames := 2, cells := 0, slots := 0, locals := 46 }
theorem qyX7_set : qY yX7_set cX7_set 3 (some .int) 2 := ⟨wd_1147, wd_32, by decide +kernel, by decide +kernel, by decide +kernel⟩
theorem kX7_set {b : Nat} {p0 : Int32} {p1 : Int32} {σ : qH} {o : Int32 × qH} (h : FX7_set b p0 p1 σ = some o) : ∃ fs : List Value, True ∧ σ b = some (.inr (5, fs)) := by
  unfold FX7_set at h
  obtain ⟨_, h1, _⟩ := b1_inv h
  obtain ⟨fs, h2⟩ := gC_inv h1
  exact ⟨fs, trivial, h2⟩
set_option maxHeartbeats 4000000 in
set_option maxRecDepth 100000 in
theorem mX7_set {l : Launch} {G : qG} (hst : l.stackTraces = false) (b : Nat) (p0 : Int32) (p1 : Int32) (σ : qH) (n : Option Nat) (ro : Int32) (so : qH) (hF : FX7_set b p0 p1 σ = some (ro, so)) : qM l G yX7_set cX7_set 3 (some .int) rmX7_set [.ref b, .int p0, .int p1] σ n (.inl (some (.int ro), so, n)) := by
  refine q_body (own := RX7) (nm := "set") (ls := [(0, .ref b), (1, .int p0), (2, .int p1)]) hst (by decide +kernel) rfl rfl (Nat.le_of_ble_eq_true rfl) rfl rfl rfl ?_
  unfold FX7_set at hF
  obtain ⟨_, hC, hF⟩ := b1_inv hF
  refine x_aload_n 1 0 dX7_set_0 rfl rfl ?_
  refine x_iload_n 2 1 dX7_set_1 rfl rfl ?_
  refine x_iload_n 3 2 dX7_set_2 rfl rfl ?_
  obtain ⟨v2, h1, hF⟩ := b1_inv hF
  refine x_callS (As := [.int p0, .int p1]) (rest := [.ref b]) 6 0 0 (mX7_isSetting hst p0 p1 σ n v2 h1) qyX7_isSetting wd_1148 wd_1149 rfl rfl (by decide) (Nat.le_of_ble_eq_true rfl) (by decide) dX7_set_3 rfl rfl rfl rfl ?_
  obtain ⟨x3, h14, hF⟩ := b1_inv hF
  have hJ : qX l G RX7 "set" cX7_set 3 (some .int) [] rmX7_set 0 0 (.inl (some (.int ro), so, n)) 0 0 σ n 14 [(0, .ref b), (1, .int p0), (2, .int p1)] [.int x3, .ref b] := by
    obtain ⟨v5, s6, h4, hF⟩ := b2_inv hF
    obtain ⟨fs, hb⟩ : ∃ fs : List Value, True ∧ σ b = some (.inr (5, fs)) := kX7_refused h4
    refine x_callV (As := [.int x3]) (rest := []) 17 0 0 (mX7_refused hst b x3 σ n v5 s6 h4) qyX7_refused wd_971 wd_973 wd_16 hb.2 rfl rfl rfl (by decide) (Nat.le_of_ble_eq_true rfl) (by decide) dX7_set_14 rfl rfl rfl rfl ?_
    rcases ite_inv hF with ⟨hc, hF⟩ | ⟨hc, hF⟩
    · refine x_if_eq 22 20 dX7_set_17 (by decide) rfl (fun _ => ?_) (fun q => absurd hc q)
      refine x_aload_n 23 0 dX7_set_22 rfl rfl ?_
      obtain ⟨s8, h7, hF⟩ := b1_inv hF
      obtain ⟨fs, hb⟩ : ∃ fs : List Value, True ∧ s6 b = some (.inr (5, fs)) := kX7_remember h7
      refine x_callV (As := []) (rest := []) 26 0 0 (mX7_remember hst b s6 n s8 h7) qyX7_remember wd_1124 wd_1126 wd_22 hb.2 rfl rfl rfl (by decide) (Nat.le_of_ble_eq_true rfl) (by decide) dX7_set_23 rfl rfl rfl rfl ?_
      refine x_aload_n 27 0 dX7_set_26 rfl rfl ?_
      obtain ⟨r9, h10, hF⟩ := b1_inv hF
      refine x_getR 30 3 inX7 rfl (by decide) wd_928 h10 dX7_set_27 rfl ?_
      refine x_iload_n 31 1 dX7_set_30 rfl rfl ?_
      refine x_iload_n 32 2 dX7_set_31 rfl rfl ?_
      obtain ⟨v12, s13, h11, hF⟩ := b2_inv hF
      refine x_callS (As := [.ref r9, .int p0, .int p1]) (rest := []) 35 0 0 (mX7_change hst r9 p0 p1 s8 n v12 s13 h11) qyX7_change wd_1152 wd_1153 rfl rfl (by decide) (Nat.le_of_ble_eq_true rfl) (by decide) dX7_set_32 rfl rfl rfl rfl ?_
      cases hF
      exact x_iret rfl rfl (by decide) (by decide) dX7_set_35
    · refine x_if_eq 22 20 dX7_set_17 (by decide) rfl (fun q => absurd q hc) (fun _ => ?_)
      refine x_iconst 21 (0 : Int32) dX7_set_20 rfl (by decide) ?_
      cases hF
      exact x_iret rfl rfl (by decide) (by decide) dX7_set_21
  have hF := h14
  rcases ite_inv hF with ⟨hc, hF⟩ | ⟨hc, hF⟩
  · refine x_if_eq 13 9 dX7_set_6 (by decide) rfl (fun _ => ?_) (fun q => absurd hc q)
    refine x_iconst 14 (1 : Int32) dX7_set_13 rfl (by decide) ?_
    have e1 := Option.some.inj hF
    subst e1
    exact hJ
  · refine x_if_eq 13 9 dX7_set_6 (by decide) rfl (fun q => absurd q hc) (fun _ => ?_)
    refine x_iconst 10 (0 : Int32) dX7_set_9 rfl (by decide) ?_
    refine x_goto 14 dX7_set_10 (by decide) ?_
    have e1 := Option.some.inj hF
    subst e1
    exact hJ
def rmX7_undo : Room := { frames := 1, cells := 0, slots := 0, locals := 24 }
theorem qyX7_undo : qY yX7_undo cX7_undo 1 (some .int) 0 := ⟨wd_1158, wd_32, by decide +kernel, by decide +kernel, by decide +kernel⟩
theorem kX7_undo {b : Nat} {σ : qH} {o : Int32 × qH} (h : FX7_undo b σ = some o) : ∃ fs : List Value, True ∧ σ b = some (.inr (5, fs)) := by
  unfold FX7_undo at h
  obtain ⟨_, h1, _⟩ := b1_inv h
  obtain ⟨fs, h2⟩ := gC_inv h1
  exact ⟨fs, trivial, h2⟩
set_option maxHeartbeats 4000000 in
set_option maxRecDepth 100000 in
theorem mX7_undo {l : Launch} {G : qG} (hst : l.stackTraces = false) (b : Nat) (σ : qH) (n : Option Nat) (ro : Int32) (so : qH) (hF : FX7_undo b σ = some (ro, so)) : qM l G yX7_undo cX7_undo 1 (some .int) rmX7_undo [.ref b] σ n (.inl (some (.int ro), so, n)) := by
  refine q_body (own := RX7) (nm := "undo") (ls := [(0, .ref b)]) hst (by decide +kernel) rfl rfl (Nat.le_of_ble_eq_true rfl) rfl rfl rfl ?_
  unfold FX7_undo at hF
  obtain ⟨_, hC, hF⟩ := b1_inv hF
  refine x_aload_n 1 0 dX7_undo_0 rfl rfl ?_
  refine x_aload_n 2 0 dX7_undo_1 rfl rfl ?_
  obtain ⟨v1, h2, hF⟩ := b1_inv hF
  refine x_getI 5 6 inX7 rfl (by decide) wd_931 h2 dX7_undo_2 rfl ?_
  obtain ⟨x3, h21, hF⟩ := b1_inv hF
  have hJ : qX l G RX7 "undo" cX7_undo 1 (some .int) [] rmX7_undo 0 0 (.inl (some (.int ro), so, n)) 0 0 σ n 13 [(0, .ref b)] [.int x3, .ref b] := by
    obtain ⟨v5, s6, h4, hF⟩ := b2_inv hF
    obtain ⟨fs, hb⟩ : ∃ fs : List Value, True ∧ σ b = some (.inr (5, fs)) := kX7_refused h4
    refine x_callV (As := [.int x3]) (rest := []) 16 0 0 (mX7_refused hst b x3 σ n v5 s6 h4) qyX7_refused wd_971 wd_973 wd_16 hb.2 rfl rfl rfl (by decide) (Nat.le_of_ble_eq_true rfl) (by decide) dX7_undo_13 rfl rfl rfl rfl ?_
    rcases ite_inv hF with ⟨hc, hF⟩ | ⟨hc, hF⟩
    · refine x_if_eq 21 19 dX7_undo_16 (by decide) rfl (fun _ => ?_) (fun q => absurd hc q)
      refine x_aload_n 22 0 dX7_undo_21 rfl rfl ?_
      refine x_dup 23 rfl dX7_undo_22 rfl ?_
      obtain ⟨v7, h8, hF⟩ := b1_inv hF
      refine x_getI 26 6 inX7 rfl (by decide) wd_931 h8 dX7_undo_23 rfl ?_
      refine x_iconst 27 (1 : Int32) dX7_undo_26 rfl (by decide) ?_
      refine x_isub 28 dX7_undo_27 rfl ?_
      obtain ⟨s9, h10, hF⟩ := b1_inv hF
      refine x_put 31 6 inX7 tyX7 tyX7_ok nmX7 rfl (by decide) wd_931 rfl (tX7_6) rfl rfl h10 dX7_undo_28 rfl ?_
      refine x_aload_n 32 0 dX7_undo_31 rfl rfl ?_
      obtain ⟨r11, h12, hF⟩ := b1_inv hF
      refine x_getR 35 5 inX7 rfl (by decide) wd_930 h12 dX7_undo_32 rfl ?_
      refine x_sipush 38 (142 : Int32) dX7_undo_35 rfl (by decide) ?_
      refine x_aload_n 39 0 dX7_undo_38 rfl rfl ?_
      obtain ⟨v13, h14, hF⟩ := b1_inv hF
      refine x_getI 42 6 inX7 rfl (by decide) wd_931 h14 dX7_undo_39 rfl ?_
      refine x_imul 43 dX7_undo_42 rfl ?_
      refine x_aload_n 44 0 dX7_undo_43 rfl rfl ?_
      obtain ⟨r15, h16, hF⟩ := b1_inv hF
      refine x_getR 47 3 inX7 rfl (by decide) wd_928 h16 dX7_undo_44 rfl ?_
      refine x_iconst 48 (0 : Int32) dX7_undo_47 rfl (by decide) ?_
      obtain ⟨s18, h17, hF⟩ := b1_inv hF
      refine x_callS (As := [.ref r11, .int ((142 : Int32) * v13), .ref r15, .int (0 : Int32)]) (rest := []) 51 0 0 (mX7_copyState hst r11 ((142 : Int32) * v13) r15 (0 : Int32) s9 n s18 h17) qyX7_copyState wd_1061 wd_1062 rfl rfl (by decide) (Nat.le_of_ble_eq_true rfl) (by decide) dX7_undo_48 rfl rfl rfl rfl ?_
      refine x_aload_n 52 0 dX7_undo_51 rfl rfl ?_
      obtain ⟨v19, h20, hF⟩ := b1_inv hF
      refine x_getI 55 6 inX7 rfl (by decide) wd_931 h20 dX7_undo_52 rfl ?_
      cases hF
      exact x_iret rfl rfl (by decide) (by decide) dX7_undo_55
    · refine x_if_eq 21 19 dX7_undo_16 (by decide) rfl (fun q => absurd q hc) (fun _ => ?_)
      refine x_iconst 20 (0 : Int32) dX7_undo_19 rfl (by decide) ?_
      cases hF
      exact x_iret rfl rfl (by decide) (by decide) dX7_undo_20
  have hF := h21
  rcases ite_inv hF with ⟨hc, hF⟩ | ⟨hc, hF⟩
  · refine x_if_ne 12 8 dX7_undo_5 (by decide) rfl (fun q => absurd hc q) (fun _ => ?_)
    refine x_iconst 9 (1 : Int32) dX7_undo_8 rfl (by decide) ?_
    refine x_goto 13 dX7_undo_9 (by decide) ?_
    have e1 := Option.some.inj hF
    subst e1
    exact hJ
  · refine x_if_ne 12 8 dX7_undo_5 (by decide) rfl (fun _ => ?_) (fun q => absurd q hc)
    refine x_iconst 13 (0 : Int32) dX7_undo_12 rfl (by decide) ?_
    have e1 := Option.some.inj hF
    subst e1
    exact hJ
def rmX7_apart : Room := { frames := 3, cells := 0, slots := 0, locals := 70 }
theorem qyX7_apart : qY yX7_apart cX7_apart 3 (some .int) 2 := ⟨wd_1162, wd_32, by decide +kernel, by decide +kernel, by decide +kernel⟩
theorem kX7_apart {b : Nat} {p0 : Int32} {p1 : Int32} {σ : qH} {o : Int32 × qH} (h : FX7_apart b p0 p1 σ = some o) : ∃ fs : List Value, True ∧ σ b = some (.inr (5, fs)) := by
  unfold FX7_apart at h
  obtain ⟨_, h1, _⟩ := b1_inv h
  obtain ⟨fs, h2⟩ := gC_inv h1
  exact ⟨fs, trivial, h2⟩
set_option maxHeartbeats 4000000 in
set_option maxRecDepth 100000 in
theorem mX7_apart {l : Launch} {G : qG} (hst : l.stackTraces = false) (b : Nat) (p0 : Int32) (p1 : Int32) (σ : qH) (n : Option Nat) (ro : Int32) (so : qH) (hF : FX7_apart b p0 p1 σ = some (ro, so)) : qM l G yX7_apart cX7_apart 3 (some .int) rmX7_apart [.ref b, .int p0, .int p1] σ n (.inl (some (.int ro), so, n)) := by
  refine q_body (own := RX7) (nm := "apart") (ls := [(0, .ref b), (1, .int p0), (2, .int p1)]) hst (by decide +kernel) rfl rfl (Nat.le_of_ble_eq_true rfl) rfl rfl rfl ?_
  unfold FX7_apart at hF
  obtain ⟨_, hC, hF⟩ := b1_inv hF
  refine x_aload_n 1 0 dX7_apart_0 rfl rfl ?_
  refine x_aload_n 2 0 dX7_apart_1 rfl rfl ?_
  obtain ⟨r1, h2, hF⟩ := b1_inv hF
  refine x_getR 5 3 inX7 rfl (by decide) wd_928 h2 dX7_apart_2 rfl ?_
  refine x_iload_n 6 1 dX7_apart_5 rfl rfl ?_
  obtain ⟨v4, h3, hF⟩ := b1_inv hF
  refine x_callS (As := [.ref r1, .int p0]) (rest := [.ref b]) 9 0 0 (mX7_isMeasure hst r1 p0 σ n v4 h3) qyX7_isMeasure wd_1015 wd_1016 rfl rfl (by decide) (Nat.le_of_ble_eq_true rfl) (by decide) dX7_apart_6 rfl rfl rfl rfl ?_
  obtain ⟨x5, h27, hF⟩ := b1_inv hF
  have hJ : qX l G RX7 "apart" cX7_apart 3 (some .int) [] rmX7_apart 0 0 (.inl (some (.int ro), so, n)) 0 0 σ n 28 [(0, .ref b), (1, .int p0), (2, .int p1)] [.int x5, .ref b] := by
    obtain ⟨v11, s12, h10, hF⟩ := b2_inv hF
    obtain ⟨fs, hb⟩ : ∃ fs : List Value, True ∧ σ b = some (.inr (5, fs)) := kX7_refused h10
    refine x_callV (As := [.int x5]) (rest := []) 31 0 0 (mX7_refused hst b x5 σ n v11 s12 h10) qyX7_refused wd_971 wd_973 wd_16 hb.2 rfl rfl rfl (by decide) (Nat.le_of_ble_eq_true rfl) (by decide) dX7_apart_28 rfl rfl rfl rfl ?_
    rcases ite_inv hF with ⟨hc, hF⟩ | ⟨hc, hF⟩
    · refine x_if_eq 36 34 dX7_apart_31 (by decide) rfl (fun _ => ?_) (fun q => absurd hc q)
      refine x_aload_n 37 0 dX7_apart_36 rfl rfl ?_
      obtain ⟨r13, h14, hF⟩ := b1_inv hF
      refine x_getR 40 3 inX7 rfl (by decide) wd_928 h14 dX7_apart_37 rfl ?_
      refine x_iload_n 41 1 dX7_apart_40 rfl rfl ?_
      refine x_iconst 42 (0 : Int32) dX7_apart_41 rfl (by decide) ?_
      obtain ⟨v16, h15, hF⟩ := b1_inv hF
      refine x_callS (As := [.ref r13, .int p0, .int (0 : Int32)]) (rest := []) 45 0 0 (mX7_of hst r13 p0 (0 : Int32) s12 n v16 h15) qyX7_of wd_1030 wd_1031 rfl rfl (by decide) (Nat.le_of_ble_eq_true rfl) (by decide) dX7_apart_42 rfl rfl rfl rfl ?_
      refine x_aload_n 46 0 dX7_apart_45 rfl rfl ?_
      obtain ⟨r17, h18, hF⟩ := b1_inv hF
      refine x_getR 49 3 inX7 rfl (by decide) wd_928 h18 dX7_apart_46 rfl ?_
      refine x_iload_n 50 2 dX7_apart_49 rfl rfl ?_
      refine x_iconst 51 (0 : Int32) dX7_apart_50 rfl (by decide) ?_
      obtain ⟨v20, h19, hF⟩ := b1_inv hF
      refine x_callS (As := [.ref r17, .int p1, .int (0 : Int32)]) (rest := [.int v16]) 54 0 0 (mX7_of hst r17 p1 (0 : Int32) s12 n v20 h19) qyX7_of wd_1030 wd_1031 rfl rfl (by decide) (Nat.le_of_ble_eq_true rfl) (by decide) dX7_apart_51 rfl rfl rfl rfl ?_
      obtain ⟨x21, h26, hF⟩ := b1_inv hF
      have hJ : qX l G RX7 "apart" cX7_apart 3 (some .int) [] rmX7_apart 0 0 (.inl (some (.int ro), so, n)) 0 0 s12 n 70 [] [.int x21] := by
        cases hF
        exact x_iret rfl rfl (by decide) (by decide) dX7_apart_70
      have hF := h26
      rcases ite_inv hF with ⟨hc, hF⟩ | ⟨hc, hF⟩
      · refine x_icmp_ne 69 57 dX7_apart_54 (by decide) rfl (fun q => absurd hc q) (fun _ => ?_)
        refine x_aload_n 58 0 dX7_apart_57 rfl rfl ?_
        obtain ⟨r22, h23, hF⟩ := b1_inv hF
        refine x_getR 61 3 inX7 rfl (by decide) wd_928 h23 dX7_apart_58 rfl ?_
        refine x_iload_n 62 1 dX7_apart_61 rfl rfl ?_
        refine x_iload_n 63 2 dX7_apart_62 rfl rfl ?_
        obtain ⟨v25, h24, hF⟩ := b1_inv hF
        refine x_callS (As := [.ref r22, .int p0, .int p1]) (rest := []) 66 0 0 (mX7_gap hst r22 p0 p1 s12 n v25 h24) qyX7_gap wd_1036 wd_1037 rfl rfl (by decide) (Nat.le_of_ble_eq_true rfl) (by decide) dX7_apart_63 rfl rfl rfl rfl ?_
        refine x_goto 70 dX7_apart_66 (by decide) ?_
        have e1 := Option.some.inj hF
        subst e1
        refine x_sub [] [] rfl ?_
        exact hJ
      · refine x_icmp_ne 69 57 dX7_apart_54 (by decide) rfl (fun _ => ?_) (fun q => absurd q hc)
        refine x_iconst 70 (-1 : Int32) dX7_apart_69 rfl (by decide) ?_
        have e1 := Option.some.inj hF
        subst e1
        refine x_sub [] [] rfl ?_
        exact hJ
    · refine x_if_eq 36 34 dX7_apart_31 (by decide) rfl (fun q => absurd q hc) (fun _ => ?_)
      refine x_iconst 35 (0 : Int32) dX7_apart_34 rfl (by decide) ?_
      cases hF
      exact x_iret rfl rfl (by decide) (by decide) dX7_apart_35
  have hF := h27
  rcases ite_inv hF with ⟨hc, hF⟩ | ⟨hc, hF⟩
  · refine x_if_eq 27 12 dX7_apart_9 (by decide) rfl (fun _ => ?_) (fun q => absurd hc q)
    refine x_iconst 28 (1 : Int32) dX7_apart_27 rfl (by decide) ?_
    have e1 := Option.some.inj hF
    subst e1
    exact hJ
  · refine x_if_eq 27 12 dX7_apart_9 (by decide) rfl (fun q => absurd q hc) (fun _ => ?_)
    refine x_aload_n 13 0 dX7_apart_12 rfl rfl ?_
    obtain ⟨r6, h7, hF⟩ := b1_inv hF
    refine x_getR 16 3 inX7 rfl (by decide) wd_928 h7 dX7_apart_13 rfl ?_
    refine x_iload_n 17 2 dX7_apart_16 rfl rfl ?_
    obtain ⟨v9, h8, hF⟩ := b1_inv hF
    refine x_callS (As := [.ref r6, .int p1]) (rest := [.ref b]) 20 0 0 (mX7_isMeasure hst r6 p1 σ n v9 h8) qyX7_isMeasure wd_1015 wd_1016 rfl rfl (by decide) (Nat.le_of_ble_eq_true rfl) (by decide) dX7_apart_17 rfl rfl rfl rfl ?_
    rcases ite_inv hF with ⟨hc, hF⟩ | ⟨hc, hF⟩
    · refine x_if_eq 27 23 dX7_apart_20 (by decide) rfl (fun _ => ?_) (fun q => absurd hc q)
      refine x_iconst 28 (1 : Int32) dX7_apart_27 rfl (by decide) ?_
      have e1 := Option.some.inj hF
      subst e1
      exact hJ
    · refine x_if_eq 27 23 dX7_apart_20 (by decide) rfl (fun q => absurd q hc) (fun _ => ?_)
      refine x_iconst 24 (0 : Int32) dX7_apart_23 rfl (by decide) ?_
      refine x_goto 28 dX7_apart_24 (by decide) ?_
      have e1 := Option.some.inj hF
      subst e1
      exact hJ
def rmX7_away : Room := { frames := 2, cells := 0, slots := 0, locals := 45 }
theorem qyX7_away : qY yX7_away cX7_away 3 (some .int) 3 := ⟨wd_1169, wd_32, by decide +kernel, by decide +kernel, by decide +kernel⟩
set_option maxHeartbeats 4000000 in
set_option maxRecDepth 100000 in
theorem mX7_away {l : Launch} {G : qG} (hst : l.stackTraces = false) (p0 : Nat) (p1 : Int32) (p2 : Int32) (σ : qH) (n : Option Nat) (ro : Int32) (hF : FX7_away p0 p1 p2 σ = some ro) : qM l G yX7_away cX7_away 3 (some .int) rmX7_away [.ref p0, .int p1, .int p2] σ n (.inl (some (.int ro), σ, n)) := by
  refine q_body (own := RX7) (nm := "away") (ls := [(0, .ref p0), (1, .int p1), (2, .int p2)]) hst (by decide +kernel) rfl rfl (Nat.le_of_ble_eq_true rfl) rfl rfl rfl ?_
  unfold FX7_away at hF
  refine x_iload_n 1 2 dX7_away_0 rfl rfl ?_
  refine x_aload_n 2 0 dX7_away_1 rfl rfl ?_
  refine x_iload_n 3 1 dX7_away_2 rfl rfl ?_
  obtain ⟨v2, h1, hF⟩ := b1_inv hF
  refine x_callS (As := [.ref p0, .int p1]) (rest := [.int p2]) 6 0 0 (mX7_least hst p0 p1 σ n v2 h1) qyX7_least wd_1039 wd_1040 rfl rfl (by decide) (Nat.le_of_ble_eq_true rfl) (by decide) dX7_away_3 rfl rfl rfl rfl ?_
  obtain ⟨x3, h10, hF⟩ := b1_inv hF
  have hJ : qX l G RX7 "away" cX7_away 3 (some .int) [] rmX7_away 0 0 (.inl (some (.int ro), σ, n)) 0 0 σ n 39 [] [.int x3] := by
    cases hF
    exact x_iret rfl rfl (by decide) (by decide) dX7_away_39
  have hF := h10
  rcases ite_inv hF with ⟨hc, hF⟩ | ⟨hc, hF⟩
  · refine x_icmp_ge 19 9 dX7_away_6 (by decide) rfl (fun _ => ?_) (fun q => absurd hc q)
    refine x_iload_n 20 2 dX7_away_19 rfl rfl ?_
    refine x_aload_n 21 0 dX7_away_20 rfl rfl ?_
    refine x_iload_n 22 1 dX7_away_21 rfl rfl ?_
    obtain ⟨v5, h4, hF⟩ := b1_inv hF
    refine x_callS (As := [.ref p0, .int p1]) (rest := [.int p2]) 25 0 0 (mX7_greatest hst p0 p1 σ n v5 h4) qyX7_greatest wd_1045 wd_1046 rfl rfl (by decide) (Nat.le_of_ble_eq_true rfl) (by decide) dX7_away_22 rfl rfl rfl rfl ?_
    rcases ite_inv hF with ⟨hc, hF⟩ | ⟨hc, hF⟩
    · refine x_icmp_le 38 28 dX7_away_25 (by decide) rfl (fun _ => ?_) (fun q => absurd hc q)
      refine x_iconst 39 (0 : Int32) dX7_away_38 rfl (by decide) ?_
      have e1 := Option.some.inj hF
      subst e1
      refine x_sub [] [] rfl ?_
      exact hJ
    · refine x_icmp_le 38 28 dX7_away_25 (by decide) rfl (fun q => absurd q hc) (fun _ => ?_)
      refine x_iload_n 29 2 dX7_away_28 rfl rfl ?_
      refine x_aload_n 30 0 dX7_away_29 rfl rfl ?_
      refine x_iload_n 31 1 dX7_away_30 rfl rfl ?_
      obtain ⟨v7, h6, hF⟩ := b1_inv hF
      refine x_callS (As := [.ref p0, .int p1]) (rest := [.int p2]) 34 0 0 (mX7_greatest hst p0 p1 σ n v7 h6) qyX7_greatest wd_1045 wd_1046 rfl rfl (by decide) (Nat.le_of_ble_eq_true rfl) (by decide) dX7_away_31 rfl rfl rfl rfl ?_
      refine x_isub 35 dX7_away_34 rfl ?_
      refine x_goto 39 dX7_away_35 (by decide) ?_
      have e1 := Option.some.inj hF
      subst e1
      refine x_sub [] [] rfl ?_
      exact hJ
  · refine x_icmp_ge 19 9 dX7_away_6 (by decide) rfl (fun q => absurd q hc) (fun _ => ?_)
    refine x_aload_n 10 0 dX7_away_9 rfl rfl ?_
    refine x_iload_n 11 1 dX7_away_10 rfl rfl ?_
    obtain ⟨v9, h8, hF⟩ := b1_inv hF
    refine x_callS (As := [.ref p0, .int p1]) (rest := []) 14 0 0 (mX7_least hst p0 p1 σ n v9 h8) qyX7_least wd_1039 wd_1040 rfl rfl (by decide) (Nat.le_of_ble_eq_true rfl) (by decide) dX7_away_11 rfl rfl rfl rfl ?_
    refine x_iload_n 15 2 dX7_away_14 rfl rfl ?_
    refine x_isub 16 dX7_away_15 rfl ?_
    refine x_goto 39 dX7_away_16 (by decide) ?_
    have e1 := Option.some.inj hF
    subst e1
    refine x_sub [] [] rfl ?_
    exact hJ
def rmX7_against : Room := { frames := 5, cells := 0, slots := 0, locals := 116 }
theorem qyX7_against : qY yX7_against cX7_against 6 (some .int) 1 := ⟨wd_1166, wd_32, by decide +kernel, by decide +kernel, by decide +kernel⟩
set_option maxHeartbeats 4000000 in
set_option maxRecDepth 100000 in
theorem mX7_against_L35 {l : Launch} {G : qG} (hst : l.stackTraces = false) (a0 : Nat) (a1 : Int32) (a2 : Int32) (σ : qH) (n : Option Nat) (r : qR) : ∀ (q : Nat) (y3 : Int32) (y4 : Int32) (o3 : Int32), FX7_against_L35 a0 a1 a2 σ q y3 y4 = some o3 → qX l G RX7 "against" cX7_against 6 (some .int) [] rmX7_against 0 0 r 0 0 σ n 147 [(3, .int o3)] [] → qX l G RX7 "against" cX7_against 6 (some .int) [] rmX7_against 0 0 r 0 0 σ n 35 [(0, .ref a0), (1, .int a1), (2, .int a2), (3, .int y3), (4, .int y4)] [] := by
  intro q
  induction q with
  | zero => intro y3 y4 o3 hF; rw [FX7_against_L35] at hF; cases hF
  | succ q ih =>
    intro y3 y4 o3 hF hJ
    rw [FX7_against_L35] at hF
    refine x_iload 37 4 dX7_against_35 rfl rfl ?_
    refine x_aload_n 38 0 dX7_against_37 rfl rfl ?_
    obtain ⟨r11, h12, hF⟩ := b1_inv hF
    refine x_getR 41 3 inX7 rfl (by decide) wd_928 h12 dX7_against_38 rfl ?_
    refine x_iconst 42 (0 : Int32) dX7_against_41 rfl (by decide) ?_
    obtain ⟨v13, h14, hF⟩ := b1_inv hF
    refine x_aI 43 h14 dX7_against_42 rfl ?_
    rcases ite_inv hF with ⟨hc, hF⟩ | ⟨hc, hF⟩
    · refine x_icmp_ge 147 46 dX7_against_43 (by decide) rfl (fun _ => ?_) (fun q => absurd hc q)
      have e1 := Option.some.inj hF
      subst e1
      refine x_sub [(3, .int y3)] [3] rfl ?_
      exact hJ
    · refine x_icmp_ge 147 46 dX7_against_43 (by decide) rfl (fun q => absurd q hc) (fun _ => ?_)
      refine x_aload_n 47 0 dX7_against_46 rfl rfl ?_
      obtain ⟨r15, h16, hF⟩ := b1_inv hF
      refine x_getR 50 3 inX7 rfl (by decide) wd_928 h16 dX7_against_47 rfl ?_
      refine x_iload 52 4 dX7_against_50 rfl rfl ?_
      refine x_iconst 53 (0 : Int32) dX7_against_52 rfl (by decide) ?_
      obtain ⟨v18, h17, hF⟩ := b1_inv hF
      refine x_callS (As := [.ref r15, .int y4, .int (0 : Int32)]) (rest := []) 56 0 0 (mX7_of hst r15 y4 (0 : Int32) σ n v18 h17) qyX7_of wd_1030 wd_1031 rfl rfl (by decide) (Nat.le_of_ble_eq_true rfl) (by decide) dX7_against_53 rfl rfl rfl rfl ?_
      refine x_iload_n 57 1 dX7_against_56 rfl rfl ?_
      obtain ⟨x19, h44, hF⟩ := b1_inv hF
      have hJ : qX l G RX7 "against" cX7_against 6 (some .int) [] rmX7_against 0 0 r 0 0 σ n 141 [(0, .ref a0), (1, .int a1), (2, .int a2), (3, .int x19), (4, .int y4)] [] := by
        refine x_iinc 144 4 4 (y4 + (1 : Int32)) [(4, .int (y4 + (1 : Int32))), (0, .ref a0), (1, .int a1), (2, .int a2), (3, .int x19)] dX7_against_141 rfl rfl rfl (by decide) rfl ?_
        refine x_goto 35 dX7_against_144 (by decide) ?_
        refine x_sub [(0, .ref a0), (1, .int a1), (2, .int a2), (3, .int x19), (4, .int (y4 + (1 : Int32)))] [1, 2, 3, 4, 0] rfl ?_
        exact ih _ _ _ hF hJ
      have hF := h44
      rcases ite_inv hF with ⟨hc, hF⟩ | ⟨hc, hF⟩
      · refine x_icmp_ne 141 60 dX7_against_57 (by decide) rfl (fun q => absurd hc q) (fun _ => ?_)
        refine x_aload_n 61 0 dX7_against_60 rfl rfl ?_
        obtain ⟨r20, h21, hF⟩ := b1_inv hF
        refine x_getR 64 3 inX7 rfl (by decide) wd_928 h21 dX7_against_61 rfl ?_
        refine x_iload 66 4 dX7_against_64 rfl rfl ?_
        refine x_iload_n 67 2 dX7_against_66 rfl rfl ?_
        obtain ⟨v23, h22, hF⟩ := b1_inv hF
        refine x_callS (As := [.ref r20, .int y4, .int a2]) (rest := []) 70 0 0 (mX7_tells hst r20 y4 a2 σ n v23 h22) qyX7_tells wd_1051 wd_1052 rfl rfl (by decide) (Nat.le_of_ble_eq_true rfl) (by decide) dX7_against_67 rfl rfl rfl rfl ?_
        rcases ite_inv hF with ⟨hc, hF⟩ | ⟨hc, hF⟩
        · refine x_if_ne 141 73 dX7_against_70 (by decide) rfl (fun q => absurd hc q) (fun _ => ?_)
          refine x_iload_n 74 3 dX7_against_73 rfl rfl ?_
          refine x_iconst 75 (-1 : Int32) dX7_against_74 rfl (by decide) ?_
          obtain ⟨x24, h43, hF⟩ := b1_inv hF
          have hJ : qX l G RX7 "against" cX7_against 6 (some .int) [] rmX7_against 0 0 r 0 0 σ n 100 [(0, .ref a0), (1, .int a1), (2, .int a2), (3, .int y3), (4, .int y4)] [.int x24] := by
            refine x_istore 102 5 [(5, .int x24), (0, .ref a0), (1, .int a1), (2, .int a2), (3, .int y3), (4, .int y4)] dX7_against_100 rfl (by decide) rfl ?_
            refine x_iload 104 0 dX7_against_102 rfl rfl ?_
            obtain ⟨x33, h42, hF⟩ := b1_inv hF
            have hJ : qX l G RX7 "against" cX7_against 6 (some .int) [] rmX7_against 0 0 r 0 0 σ n 140 [(0, .ref a0), (1, .int a1), (2, .int a2), (4, .int y4)] [.int x33] := by
              refine x_istore_n 141 3 [(3, .int x33), (0, .ref a0), (1, .int a1), (2, .int a2), (4, .int y4)] dX7_against_140 rfl rfl (by decide) rfl ?_
              have e1 := Option.some.inj hF
              subst e1
              refine x_sub [(0, .ref a0), (1, .int a1), (2, .int a2), (3, .int x33), (4, .int y4)] [1, 2, 3, 0, 4] rfl ?_
              exact hJ
            have hF := h42
            rcases ite_inv hF with ⟨hc, hF⟩ | ⟨hc, hF⟩
            · refine x_if_gt 134 107 dX7_against_104 (by decide) rfl (fun _ => ?_) (fun q => absurd hc q)
              refine x_iload 136 5 dX7_against_134 rfl rfl ?_
              refine x_goto 140 dX7_against_136 (by decide) ?_
              have e1 := Option.some.inj hF
              subst e1
              refine x_sub [(0, .ref a0), (1, .int a1), (2, .int a2), (4, .int y4)] [1, 2, 3, 5] rfl ?_
              exact hJ
            · refine x_if_gt 134 107 dX7_against_104 (by decide) rfl (fun q => absurd q hc) (fun _ => ?_)
              refine x_iload 109 0 dX7_against_107 rfl rfl ?_
              rcases ite_inv hF with ⟨hc, hF⟩ | ⟨hc, hF⟩
              · refine x_if_ne 139 112 dX7_against_109 (by decide) rfl (fun q => absurd hc q) (fun _ => ?_)
                refine x_aload_n 113 1 dX7_against_112 rfl rfl ?_
                obtain ⟨r34, h35, hF⟩ := b1_inv hF
                refine x_getR 116 3 inX7 rfl (by decide) wd_928 h35 dX7_against_113 rfl ?_
                refine x_iload 118 5 dX7_against_116 rfl rfl ?_
                refine x_iload_n 119 3 dX7_against_118 rfl rfl ?_
                obtain ⟨v37, h36, hF⟩ := b1_inv hF
                refine x_callS (As := [.ref r34, .int y4, .int a2]) (rest := []) 122 0 0 (mX7_away hst r34 y4 a2 σ n v37 h36) qyX7_away wd_1167 wd_1168 rfl rfl (by decide) (Nat.le_of_ble_eq_true rfl) (by decide) dX7_against_119 rfl rfl rfl rfl ?_
                refine x_aload_n 123 1 dX7_against_122 rfl rfl ?_
                obtain ⟨r38, h39, hF⟩ := b1_inv hF
                refine x_getR 126 3 inX7 rfl (by decide) wd_928 h39 dX7_against_123 rfl ?_
                refine x_iload_n 127 4 dX7_against_126 rfl rfl ?_
                refine x_iload_n 128 3 dX7_against_127 rfl rfl ?_
                obtain ⟨v41, h40, hF⟩ := b1_inv hF
                refine x_callS (As := [.ref r38, .int y3, .int a2]) (rest := [.int v37]) 131 0 0 (mX7_away hst r38 y3 a2 σ n v41 h40) qyX7_away wd_1167 wd_1168 rfl rfl (by decide) (Nat.le_of_ble_eq_true rfl) (by decide) dX7_against_128 rfl rfl rfl rfl ?_
                rcases ite_inv hF with ⟨hc, hF⟩ | ⟨hc, hF⟩
                · refine x_icmp_le 139 134 dX7_against_131 (by decide) rfl (fun _ => ?_) (fun q => absurd hc q)
                  refine x_iload_n 140 4 dX7_against_139 rfl rfl ?_
                  have e1 := Option.some.inj hF
                  subst e1
                  refine x_sub [(0, .ref a0), (1, .int a1), (2, .int a2), (4, .int y4)] [1, 2, 3, 5] rfl ?_
                  exact hJ
                · refine x_icmp_le 139 134 dX7_against_131 (by decide) rfl (fun q => absurd q hc) (fun _ => ?_)
                  refine x_iload 136 5 dX7_against_134 rfl rfl ?_
                  refine x_goto 140 dX7_against_136 (by decide) ?_
                  have e1 := Option.some.inj hF
                  subst e1
                  refine x_sub [(0, .ref a0), (1, .int a1), (2, .int a2), (4, .int y4)] [1, 2, 3, 5] rfl ?_
                  exact hJ
              · refine x_if_ne 139 112 dX7_against_109 (by decide) rfl (fun _ => ?_) (fun q => absurd q hc)
                refine x_iload_n 140 4 dX7_against_139 rfl rfl ?_
                have e1 := Option.some.inj hF
                subst e1
                refine x_sub [(0, .ref a0), (1, .int a1), (2, .int a2), (4, .int y4)] [1, 2, 3, 5] rfl ?_
                exact hJ
          have hF := h43
          rcases ite_inv hF with ⟨hc, hF⟩ | ⟨hc, hF⟩
          · refine x_icmp_ne 82 78 dX7_against_75 (by decide) rfl (fun q => absurd hc q) (fun _ => ?_)
            refine x_iconst 79 (1 : Int32) dX7_against_78 rfl (by decide) ?_
            refine x_goto 100 dX7_against_79 (by decide) ?_
            have e1 := Option.some.inj hF
            subst e1
            exact hJ
          · refine x_icmp_ne 82 78 dX7_against_75 (by decide) rfl (fun _ => ?_) (fun q => absurd q hc)
            refine x_aload_n 83 0 dX7_against_82 rfl rfl ?_
            obtain ⟨r25, h26, hF⟩ := b1_inv hF
            refine x_getR 86 3 inX7 rfl (by decide) wd_928 h26 dX7_against_83 rfl ?_
            refine x_iload 88 4 dX7_against_86 rfl rfl ?_
            obtain ⟨v28, h27, hF⟩ := b1_inv hF
            refine x_callS (As := [.ref r25, .int y4]) (rest := []) 91 0 0 (mX7_weight hst r25 y4 σ n v28 h27) qyX7_weight wd_1027 wd_1028 rfl rfl (by decide) (Nat.le_of_ble_eq_true rfl) (by decide) dX7_against_88 rfl rfl rfl rfl ?_
            refine x_aload_n 92 0 dX7_against_91 rfl rfl ?_
            obtain ⟨r29, h30, hF⟩ := b1_inv hF
            refine x_getR 95 3 inX7 rfl (by decide) wd_928 h30 dX7_against_92 rfl ?_
            refine x_iload_n 96 3 dX7_against_95 rfl rfl ?_
            obtain ⟨v32, h31, hF⟩ := b1_inv hF
            refine x_callS (As := [.ref r29, .int y3]) (rest := [.int v28]) 99 0 0 (mX7_weight hst r29 y3 σ n v32 h31) qyX7_weight wd_1027 wd_1028 rfl rfl (by decide) (Nat.le_of_ble_eq_true rfl) (by decide) dX7_against_96 rfl rfl rfl rfl ?_
            refine x_isub 100 dX7_against_99 rfl ?_
            have e1 := Option.some.inj hF
            subst e1
            exact hJ
        · refine x_if_ne 141 73 dX7_against_70 (by decide) rfl (fun _ => ?_) (fun q => absurd q hc)
          have e1 := Option.some.inj hF
          subst e1
          exact hJ
      · refine x_icmp_ne 141 60 dX7_against_57 (by decide) rfl (fun _ => ?_) (fun q => absurd q hc)
        have e1 := Option.some.inj hF
        subst e1
        exact hJ
theorem kX7_against {b : Nat} {p0 : Int32} {σ : qH} {o : Int32 × qH} (h : FX7_against b p0 σ = some o) : ∃ fs : List Value, True ∧ σ b = some (.inr (5, fs)) := by
  unfold FX7_against at h
  obtain ⟨_, h1, _⟩ := b1_inv h
  obtain ⟨fs, h2⟩ := gC_inv h1
  exact ⟨fs, trivial, h2⟩
set_option maxHeartbeats 4000000 in
set_option maxRecDepth 100000 in
theorem mX7_against {l : Launch} {G : qG} (hst : l.stackTraces = false) (b : Nat) (p0 : Int32) (σ : qH) (n : Option Nat) (ro : Int32) (so : qH) (hF : FX7_against b p0 σ = some (ro, so)) : qM l G yX7_against cX7_against 6 (some .int) rmX7_against [.ref b, .int p0] σ n (.inl (some (.int ro), so, n)) := by
  refine q_body (own := RX7) (nm := "against") (ls := [(0, .ref b), (1, .int p0)]) hst (by decide +kernel) rfl rfl (Nat.le_of_ble_eq_true rfl) rfl rfl rfl ?_
  unfold FX7_against at hF
  obtain ⟨_, hC, hF⟩ := b1_inv hF
  refine x_aload_n 1 0 dX7_against_0 rfl rfl ?_
  refine x_iload_n 2 1 dX7_against_1 rfl rfl ?_
  obtain ⟨v2, h1, hF⟩ := b1_inv hF
  refine x_callS (As := [.int p0]) (rest := [.ref b]) 5 0 0 (mX7_isSteeple hst p0 σ n v2 h1) qyX7_isSteeple wd_1095 wd_1096 rfl rfl (by decide) (Nat.le_of_ble_eq_true rfl) (by decide) dX7_against_2 rfl rfl rfl rfl ?_
  obtain ⟨x3, h47, hF⟩ := b1_inv hF
  have hJ : qX l G RX7 "against" cX7_against 6 (some .int) [] rmX7_against 0 0 (.inl (some (.int ro), so, n)) 0 0 σ n 13 [(0, .ref b), (1, .int p0)] [.int x3, .ref b] := by
    obtain ⟨v5, s6, h4, hF⟩ := b2_inv hF
    obtain ⟨fs, hb⟩ : ∃ fs : List Value, True ∧ σ b = some (.inr (5, fs)) := kX7_refused h4
    refine x_callV (As := [.int x3]) (rest := []) 16 0 0 (mX7_refused hst b x3 σ n v5 s6 h4) qyX7_refused wd_971 wd_973 wd_16 hb.2 rfl rfl rfl (by decide) (Nat.le_of_ble_eq_true rfl) (by decide) dX7_against_13 rfl rfl rfl rfl ?_
    rcases ite_inv hF with ⟨hc, hF⟩ | ⟨hc, hF⟩
    · refine x_if_eq 21 19 dX7_against_16 (by decide) rfl (fun _ => ?_) (fun q => absurd hc q)
      refine x_aload_n 22 0 dX7_against_21 rfl rfl ?_
      obtain ⟨r7, h8, hF⟩ := b1_inv hF
      refine x_getR 25 3 inX7 rfl (by decide) wd_928 h8 dX7_against_22 rfl ?_
      refine x_iload_n 26 1 dX7_against_25 rfl rfl ?_
      obtain ⟨v10, h9, hF⟩ := b1_inv hF
      refine x_callS (As := [.ref r7, .int p0]) (rest := []) 29 0 0 (mX7_lowestBest hst r7 p0 s6 n v10 h9) qyX7_lowestBest wd_1113 wd_1114 rfl rfl (by decide) (Nat.le_of_ble_eq_true rfl) (by decide) dX7_against_26 rfl rfl rfl rfl ?_
      refine x_istore_n 30 2 [(2, .int v10), (0, .ref b), (1, .int p0)] dX7_against_29 rfl rfl (by decide) rfl ?_
      refine x_iconst 31 (-1 : Int32) dX7_against_30 rfl (by decide) ?_
      refine x_istore_n 32 3 [(3, .int (-1 : Int32)), (2, .int v10), (0, .ref b), (1, .int p0)] dX7_against_31 rfl rfl (by decide) rfl ?_
      refine x_iconst 33 (0 : Int32) dX7_against_32 rfl (by decide) ?_
      refine x_istore 35 4 [(4, .int (0 : Int32)), (3, .int (-1 : Int32)), (2, .int v10), (0, .ref b), (1, .int p0)] dX7_against_33 rfl (by decide) rfl ?_
      obtain ⟨x45, h46, hF⟩ := b1_inv hF
      have hJ : qX l G RX7 "against" cX7_against 6 (some .int) [] rmX7_against 0 0 (.inl (some (.int ro), so, n)) 0 0 s6 n 147 [(3, .int x45)] [] := by
        refine x_iload_n 148 0 dX7_against_147 rfl rfl ?_
        cases hF
        exact x_iret rfl rfl (by decide) (by decide) dX7_against_148
      refine x_sub [(0, .ref b), (1, .int p0), (2, .int v10), (3, .int (-1 : Int32)), (4, .int (0 : Int32))] [3, 4, 2, 1, 0] rfl ?_
      exact mX7_against_L35 hst b p0 v10 s6 n _ qfuel (-1 : Int32) (0 : Int32) x45 h46 hJ
    · refine x_if_eq 21 19 dX7_against_16 (by decide) rfl (fun q => absurd q hc) (fun _ => ?_)
      refine x_iconst 20 (0 : Int32) dX7_against_19 rfl (by decide) ?_
      cases hF
      exact x_iret rfl rfl (by decide) (by decide) dX7_against_20
  have hF := h47
  rcases ite_inv hF with ⟨hc, hF⟩ | ⟨hc, hF⟩
  · refine x_if_eq 12 8 dX7_against_5 (by decide) rfl (fun _ => ?_) (fun q => absurd hc q)
    refine x_iconst 13 (1 : Int32) dX7_against_12 rfl (by decide) ?_
    have e1 := Option.some.inj hF
    subst e1
    exact hJ
  · refine x_if_eq 12 8 dX7_against_5 (by decide) rfl (fun q => absurd q hc) (fun _ => ?_)
    refine x_iconst 9 (0 : Int32) dX7_against_8 rfl (by decide) ?_
    refine x_goto 13 dX7_against_9 (by decide) ?_
    have e1 := Option.some.inj hF
    subst e1
    exact hJ
def rmX7_without : Room := { frames := 6, cells := 0, slots := 0, locals := 141 }
theorem qyX7_without : qY yX7_without cX7_without 4 (some .int) 2 := ⟨wd_1173, wd_32, by decide +kernel, by decide +kernel, by decide +kernel⟩
theorem kX7_without {b : Nat} {p0 : Int32} {p1 : Int32} {σ : qH} {o : Int32 × qH} (h : FX7_without b p0 p1 σ = some o) : ∃ fs : List Value, True ∧ σ b = some (.inr (5, fs)) := by
  unfold FX7_without at h
  obtain ⟨_, h1, _⟩ := b1_inv h
  obtain ⟨fs, h2⟩ := gC_inv h1
  exact ⟨fs, trivial, h2⟩
set_option maxHeartbeats 4000000 in
set_option maxRecDepth 100000 in
theorem mX7_without {l : Launch} {G : qG} (hst : l.stackTraces = false) (b : Nat) (p0 : Int32) (p1 : Int32) (σ : qH) (n : Option Nat) (ro : Int32) (so : qH) (hF : FX7_without b p0 p1 σ = some (ro, so)) : qM l G yX7_without cX7_without 4 (some .int) rmX7_without [.ref b, .int p0, .int p1] σ n (.inl (some (.int ro), so, n)) := by
  refine q_body (own := RX7) (nm := "without") (ls := [(0, .ref b), (1, .int p0), (2, .int p1)]) hst (by decide +kernel) rfl rfl (Nat.le_of_ble_eq_true rfl) rfl rfl rfl ?_
  unfold FX7_without at hF
  obtain ⟨_, hC, hF⟩ := b1_inv hF
  refine x_aload_n 1 0 dX7_without_0 rfl rfl ?_
  refine x_aload_n 2 0 dX7_without_1 rfl rfl ?_
  obtain ⟨r1, h2, hF⟩ := b1_inv hF
  refine x_getR 5 3 inX7 rfl (by decide) wd_928 h2 dX7_without_2 rfl ?_
  refine x_iload_n 6 1 dX7_without_5 rfl rfl ?_
  obtain ⟨v4, h3, hF⟩ := b1_inv hF
  refine x_callS (As := [.ref r1, .int p0]) (rest := [.ref b]) 9 0 0 (mX7_isMeasure hst r1 p0 σ n v4 h3) qyX7_isMeasure wd_1015 wd_1016 rfl rfl (by decide) (Nat.le_of_ble_eq_true rfl) (by decide) dX7_without_6 rfl rfl rfl rfl ?_
  obtain ⟨x5, h30, hF⟩ := b1_inv hF
  have hJ : qX l G RX7 "without" cX7_without 4 (some .int) [] rmX7_without 0 0 (.inl (some (.int ro), so, n)) 0 0 σ n 33 [(0, .ref b), (1, .int p0), (2, .int p1)] [.int x5, .ref b] := by
    obtain ⟨v9, s10, h8, hF⟩ := b2_inv hF
    obtain ⟨fs, hb⟩ : ∃ fs : List Value, True ∧ σ b = some (.inr (5, fs)) := kX7_refused h8
    refine x_callV (As := [.int x5]) (rest := []) 36 0 0 (mX7_refused hst b x5 σ n v9 s10 h8) qyX7_refused wd_971 wd_973 wd_16 hb.2 rfl rfl rfl (by decide) (Nat.le_of_ble_eq_true rfl) (by decide) dX7_without_33 rfl rfl rfl rfl ?_
    rcases ite_inv hF with ⟨hc, hF⟩ | ⟨hc, hF⟩
    · refine x_if_eq 41 39 dX7_without_36 (by decide) rfl (fun _ => ?_) (fun q => absurd hc q)
      refine x_aload_n 42 0 dX7_without_41 rfl rfl ?_
      obtain ⟨r11, h12, hF⟩ := b1_inv hF
      refine x_getR 45 3 inX7 rfl (by decide) wd_928 h12 dX7_without_42 rfl ?_
      refine x_iload_n 46 1 dX7_without_45 rfl rfl ?_
      refine x_iconst 47 (0 : Int32) dX7_without_46 rfl (by decide) ?_
      obtain ⟨v14, h13, hF⟩ := b1_inv hF
      refine x_callS (As := [.ref r11, .int p0, .int (0 : Int32)]) (rest := []) 50 0 0 (mX7_of hst r11 p0 (0 : Int32) s10 n v14 h13) qyX7_of wd_1030 wd_1031 rfl rfl (by decide) (Nat.le_of_ble_eq_true rfl) (by decide) dX7_without_47 rfl rfl rfl rfl ?_
      refine x_istore_n 51 3 [(3, .int v14), (0, .ref b), (1, .int p0), (2, .int p1)] dX7_without_50 rfl rfl (by decide) rfl ?_
      refine x_aload_n 52 1 dX7_without_51 rfl rfl ?_
      obtain ⟨r15, h16, hF⟩ := b1_inv hF
      refine x_getR 55 3 inX7 rfl (by decide) wd_928 h16 dX7_without_52 rfl ?_
      refine x_iconst 56 (0 : Int32) dX7_without_55 rfl (by decide) ?_
      refine x_aload_n 57 1 dX7_without_56 rfl rfl ?_
      obtain ⟨r17, h18, hF⟩ := b1_inv hF
      refine x_getR 60 4 inX7 rfl (by decide) wd_929 h18 dX7_without_57 rfl ?_
      refine x_iconst 61 (0 : Int32) dX7_without_60 rfl (by decide) ?_
      obtain ⟨s20, h19, hF⟩ := b1_inv hF
      refine x_callS (As := [.ref r15, .int (0 : Int32), .ref r17, .int (0 : Int32)]) (rest := []) 64 0 0 (mX7_copyState hst r15 (0 : Int32) r17 (0 : Int32) s10 n s20 h19) qyX7_copyState wd_1061 wd_1062 rfl rfl (by decide) (Nat.le_of_ble_eq_true rfl) (by decide) dX7_without_61 rfl rfl rfl rfl ?_
      refine x_aload_n 65 1 dX7_without_64 rfl rfl ?_
      obtain ⟨r21, h22, hF⟩ := b1_inv hF
      refine x_getR 68 4 inX7 rfl (by decide) wd_929 h22 dX7_without_65 rfl ?_
      refine x_iload_n 69 2 dX7_without_68 rfl rfl ?_
      obtain ⟨v24, s25, h23, hF⟩ := b2_inv hF
      refine x_callS (As := [.ref r21, .int p0]) (rest := []) 72 0 0 (mX7_dropOn hst r21 p0 s20 n v24 s25 h23) qyX7_dropOn wd_1018 wd_1019 rfl rfl (by decide) (Nat.le_of_ble_eq_true rfl) (by decide) dX7_without_69 rfl rfl rfl rfl ?_
      refine x_pop 73 rfl dX7_without_72 rfl ?_
      refine x_aload_n 74 1 dX7_without_73 rfl rfl ?_
      obtain ⟨r26, h27, hF⟩ := b1_inv hF
      refine x_getR 77 4 inX7 rfl (by decide) wd_929 h27 dX7_without_74 rfl ?_
      refine x_iload_n 78 0 dX7_without_77 rfl rfl ?_
      refine x_iload_n 79 3 dX7_without_78 rfl rfl ?_
      obtain ⟨v29, h28, hF⟩ := b1_inv hF
      refine x_callS (As := [.ref r26, .int v14, .int p1]) (rest := []) 82 0 0 (mX7_bestOf hst r26 v14 p1 s25 n v29 h28) qyX7_bestOf wd_1110 wd_1111 rfl rfl (by decide) (Nat.le_of_ble_eq_true rfl) (by decide) dX7_without_79 rfl rfl rfl rfl ?_
      cases hF
      exact x_iret rfl rfl (by decide) (by decide) dX7_without_82
    · refine x_if_eq 41 39 dX7_without_36 (by decide) rfl (fun q => absurd q hc) (fun _ => ?_)
      refine x_iconst 40 (0 : Int32) dX7_without_39 rfl (by decide) ?_
      cases hF
      exact x_iret rfl rfl (by decide) (by decide) dX7_without_40
  have hF := h30
  rcases ite_inv hF with ⟨hc, hF⟩ | ⟨hc, hF⟩
  · refine x_if_ne 16 12 dX7_without_9 (by decide) rfl (fun q => absurd hc q) (fun _ => ?_)
    refine x_iconst 13 (1 : Int32) dX7_without_12 rfl (by decide) ?_
    refine x_goto 33 dX7_without_13 (by decide) ?_
    have e1 := Option.some.inj hF
    subst e1
    exact hJ
  · refine x_if_ne 16 12 dX7_without_9 (by decide) rfl (fun _ => ?_) (fun q => absurd q hc)
    refine x_iload_n 17 2 dX7_without_16 rfl rfl ?_
    refine x_i2l 18 dX7_without_17 rfl ?_
    refine x_lconst 19 (0 : Int64) dX7_without_18 rfl (by decide) ?_
    refine x_ldc2 22 (2 : Int64) wd_1098 dX7_without_19 rfl ?_
    obtain ⟨v7, h6, hF⟩ := b1_inv hF
    refine x_callS (As := [.long (p1).toInt64, .long (0 : Int64), .long (2 : Int64)]) (rest := [.ref b]) 25 0 0 (mX7_in hst (p1).toInt64 (0 : Int64) (2 : Int64) σ n v7 h6) qyX7_in wd_968 wd_969 rfl rfl (by decide) (Nat.le_of_ble_eq_true rfl) (by decide) dX7_without_22 rfl rfl rfl rfl ?_
    rcases ite_inv hF with ⟨hc, hF⟩ | ⟨hc, hF⟩
    · refine x_if_eq 32 28 dX7_without_25 (by decide) rfl (fun _ => ?_) (fun q => absurd hc q)
      refine x_iconst 33 (2 : Int32) dX7_without_32 rfl (by decide) ?_
      have e1 := Option.some.inj hF
      subst e1
      exact hJ
    · refine x_if_eq 32 28 dX7_without_25 (by decide) rfl (fun q => absurd q hc) (fun _ => ?_)
      refine x_iconst 29 (0 : Int32) dX7_without_28 rfl (by decide) ?_
      refine x_goto 33 dX7_without_29 (by decide) ?_
      have e1 := Option.some.inj hF
      subst e1
      exact hJ
def rmX7_isTold : Room := { frames := 5, cells := 0, slots := 0, locals := 116 }
theorem qyX7_isTold : qY yX7_isTold cX7_isTold 6 (some .boolean) 3 := ⟨wd_1180, wd_32, by decide +kernel, by decide +kernel, by decide +kernel⟩
set_option maxHeartbeats 4000000 in
set_option maxRecDepth 100000 in
theorem mX7_isTold_L12 {l : Launch} {G : qG} (hst : l.stackTraces = false) (a0 : Nat) (a1 : Int32) (a2 : Int32) (a3 : Int32) (σ : qH) (n : Option Nat) (r : qR) : ∀ (q : Nat) (y4 : Int32) (y5 : Int32) (o4 : Int32), FX7_isTold_L12 a0 a1 a2 a3 σ q y4 y5 = some o4 → qX l G RX7 "isTold" cX7_isTold 6 (some .boolean) [] rmX7_isTold 0 0 r 0 0 σ n 70 [(4, .int o4)] [] → qX l G RX7 "isTold" cX7_isTold 6 (some .boolean) [] rmX7_isTold 0 0 r 0 0 σ n 12 [(0, .ref a0), (1, .int a1), (2, .int a2), (3, .int a3), (4, .int y4), (5, .int y5)] [] := by
  intro q
  induction q with
  | zero => intro y4 y5 o4 hF; rw [FX7_isTold_L12] at hF; cases hF
  | succ q ih =>
    intro y4 y5 o4 hF hJ
    rw [FX7_isTold_L12] at hF
    refine x_iload 14 5 dX7_isTold_12 rfl rfl ?_
    refine x_aload_n 15 0 dX7_isTold_14 rfl rfl ?_
    refine x_iconst 16 (0 : Int32) dX7_isTold_15 rfl (by decide) ?_
    obtain ⟨v3, h4, hF⟩ := b1_inv hF
    refine x_aI 17 h4 dX7_isTold_16 rfl ?_
    rcases ite_inv hF with ⟨hc, hF⟩ | ⟨hc, hF⟩
    · refine x_icmp_ge 70 20 dX7_isTold_17 (by decide) rfl (fun _ => ?_) (fun q => absurd hc q)
      have e1 := Option.some.inj hF
      subst e1
      refine x_sub [(4, .int y4)] [4] rfl ?_
      exact hJ
    · refine x_icmp_ge 70 20 dX7_isTold_17 (by decide) rfl (fun q => absurd q hc) (fun _ => ?_)
      refine x_iload 22 4 dX7_isTold_20 rfl rfl ?_
      obtain ⟨x5, h12, hF⟩ := b1_inv hF
      have hJ : qX l G RX7 "isTold" cX7_isTold 6 (some .boolean) [] rmX7_isTold 0 0 r 0 0 σ n 62 [(0, .ref a0), (1, .int a1), (2, .int a2), (3, .int a3), (5, .int y5)] [.int x5] := by
        refine x_istore 64 4 [(4, .int x5), (0, .ref a0), (1, .int a1), (2, .int a2), (3, .int a3), (5, .int y5)] dX7_isTold_62 rfl (by decide) rfl ?_
        refine x_iinc 67 5 5 (y5 + (1 : Int32)) [(5, .int (y5 + (1 : Int32))), (4, .int x5), (0, .ref a0), (1, .int a1), (2, .int a2), (3, .int a3)] dX7_isTold_64 rfl rfl rfl (by decide) rfl ?_
        refine x_goto 12 dX7_isTold_67 (by decide) ?_
        refine x_sub [(0, .ref a0), (1, .int a1), (2, .int a2), (3, .int a3), (4, .int x5), (5, .int (y5 + (1 : Int32)))] [2, 3, 4, 5, 1, 0] rfl ?_
        exact ih _ _ _ hF hJ
      have hF := h12
      rcases ite_inv hF with ⟨hc, hF⟩ | ⟨hc, hF⟩
      · refine x_if_ne 57 25 dX7_isTold_22 (by decide) rfl (fun q => absurd hc q) (fun _ => ?_)
        refine x_aload_n 26 0 dX7_isTold_25 rfl rfl ?_
        refine x_iload 28 5 dX7_isTold_26 rfl rfl ?_
        refine x_iconst 29 (0 : Int32) dX7_isTold_28 rfl (by decide) ?_
        obtain ⟨v7, h6, hF⟩ := b1_inv hF
        refine x_callS (As := [.ref a0, .int y5, .int (0 : Int32)]) (rest := []) 32 0 0 (mX7_of hst a0 y5 (0 : Int32) σ n v7 h6) qyX7_of wd_1030 wd_1031 rfl rfl (by decide) (Nat.le_of_ble_eq_true rfl) (by decide) dX7_isTold_29 rfl rfl rfl rfl ?_
        refine x_iload_n 33 2 dX7_isTold_32 rfl rfl ?_
        rcases ite_inv hF with ⟨hc, hF⟩ | ⟨hc, hF⟩
        · refine x_icmp_ne 61 36 dX7_isTold_33 (by decide) rfl (fun q => absurd hc q) (fun _ => ?_)
          refine x_aload_n 37 0 dX7_isTold_36 rfl rfl ?_
          refine x_iload 39 5 dX7_isTold_37 rfl rfl ?_
          refine x_iconst 40 (1 : Int32) dX7_isTold_39 rfl (by decide) ?_
          obtain ⟨v9, h8, hF⟩ := b1_inv hF
          refine x_callS (As := [.ref a0, .int y5, .int (1 : Int32)]) (rest := []) 43 0 0 (mX7_of hst a0 y5 (1 : Int32) σ n v9 h8) qyX7_of wd_1030 wd_1031 rfl rfl (by decide) (Nat.le_of_ble_eq_true rfl) (by decide) dX7_isTold_40 rfl rfl rfl rfl ?_
          refine x_iload_n 44 1 dX7_isTold_43 rfl rfl ?_
          rcases ite_inv hF with ⟨hc, hF⟩ | ⟨hc, hF⟩
          · refine x_icmp_ne 61 47 dX7_isTold_44 (by decide) rfl (fun q => absurd hc q) (fun _ => ?_)
            refine x_aload_n 48 0 dX7_isTold_47 rfl rfl ?_
            refine x_iload 50 5 dX7_isTold_48 rfl rfl ?_
            refine x_iload_n 51 3 dX7_isTold_50 rfl rfl ?_
            obtain ⟨v11, h10, hF⟩ := b1_inv hF
            refine x_callS (As := [.ref a0, .int y5, .int a3]) (rest := []) 54 0 0 (mX7_tells hst a0 y5 a3 σ n v11 h10) qyX7_tells wd_1051 wd_1052 rfl rfl (by decide) (Nat.le_of_ble_eq_true rfl) (by decide) dX7_isTold_51 rfl rfl rfl rfl ?_
            rcases ite_inv hF with ⟨hc, hF⟩ | ⟨hc, hF⟩
            · refine x_if_eq 61 57 dX7_isTold_54 (by decide) rfl (fun _ => ?_) (fun q => absurd hc q)
              refine x_iconst 62 (0 : Int32) dX7_isTold_61 rfl (by decide) ?_
              have e1 := Option.some.inj hF
              subst e1
              refine x_sub [(0, .ref a0), (1, .int a1), (2, .int a2), (3, .int a3), (5, .int y5)] [0, 1, 2, 3, 5] rfl ?_
              exact hJ
            · refine x_if_eq 61 57 dX7_isTold_54 (by decide) rfl (fun q => absurd q hc) (fun _ => ?_)
              refine x_iconst 58 (1 : Int32) dX7_isTold_57 rfl (by decide) ?_
              refine x_goto 62 dX7_isTold_58 (by decide) ?_
              have e1 := Option.some.inj hF
              subst e1
              refine x_sub [(0, .ref a0), (1, .int a1), (2, .int a2), (3, .int a3), (5, .int y5)] [0, 1, 2, 3, 5] rfl ?_
              exact hJ
          · refine x_icmp_ne 61 47 dX7_isTold_44 (by decide) rfl (fun _ => ?_) (fun q => absurd q hc)
            refine x_iconst 62 (0 : Int32) dX7_isTold_61 rfl (by decide) ?_
            have e1 := Option.some.inj hF
            subst e1
            refine x_sub [(0, .ref a0), (1, .int a1), (2, .int a2), (3, .int a3), (5, .int y5)] [0, 1, 2, 3, 5] rfl ?_
            exact hJ
        · refine x_icmp_ne 61 36 dX7_isTold_33 (by decide) rfl (fun _ => ?_) (fun q => absurd q hc)
          refine x_iconst 62 (0 : Int32) dX7_isTold_61 rfl (by decide) ?_
          have e1 := Option.some.inj hF
          subst e1
          refine x_sub [(0, .ref a0), (1, .int a1), (2, .int a2), (3, .int a3), (5, .int y5)] [0, 1, 2, 3, 5] rfl ?_
          exact hJ
      · refine x_if_ne 57 25 dX7_isTold_22 (by decide) rfl (fun _ => ?_) (fun q => absurd q hc)
        refine x_iconst 58 (1 : Int32) dX7_isTold_57 rfl (by decide) ?_
        refine x_goto 62 dX7_isTold_58 (by decide) ?_
        have e1 := Option.some.inj hF
        subst e1
        refine x_sub [(0, .ref a0), (1, .int a1), (2, .int a2), (3, .int a3), (5, .int y5)] [0, 1, 2, 3, 5] rfl ?_
        exact hJ
set_option maxHeartbeats 4000000 in
set_option maxRecDepth 100000 in
theorem mX7_isTold {l : Launch} {G : qG} (hst : l.stackTraces = false) (p0 : Nat) (p1 : Int32) (p2 : Int32) (σ : qH) (n : Option Nat) (ro : Int32) (hF : FX7_isTold p0 p1 p2 σ = some ro) : qM l G yX7_isTold cX7_isTold 6 (some .boolean) rmX7_isTold [.ref p0, .int p1, .int p2] σ n (.inl (some (.int ro), σ, n)) := by
  refine q_body (own := RX7) (nm := "isTold") (ls := [(0, .ref p0), (1, .int p1), (2, .int p2)]) hst (by decide +kernel) rfl rfl (Nat.le_of_ble_eq_true rfl) rfl rfl rfl ?_
  unfold FX7_isTold at hF
  refine x_aload_n 1 0 dX7_isTold_0 rfl rfl ?_
  refine x_iload_n 2 2 dX7_isTold_1 rfl rfl ?_
  obtain ⟨v2, h1, hF⟩ := b1_inv hF
  refine x_callS (As := [.ref p0, .int p2]) (rest := []) 5 0 0 (mX7_lowestBest hst p0 p2 σ n v2 h1) qyX7_lowestBest wd_1113 wd_1114 rfl rfl (by decide) (Nat.le_of_ble_eq_true rfl) (by decide) dX7_isTold_2 rfl rfl rfl rfl ?_
  refine x_istore_n 6 3 [(3, .int v2), (0, .ref p0), (1, .int p1), (2, .int p2)] dX7_isTold_5 rfl rfl (by decide) rfl ?_
  refine x_iconst 7 (0 : Int32) dX7_isTold_6 rfl (by decide) ?_
  refine x_istore 9 4 [(4, .int (0 : Int32)), (3, .int v2), (0, .ref p0), (1, .int p1), (2, .int p2)] dX7_isTold_7 rfl (by decide) rfl ?_
  refine x_iconst 10 (0 : Int32) dX7_isTold_9 rfl (by decide) ?_
  refine x_istore 12 5 [(5, .int (0 : Int32)), (4, .int (0 : Int32)), (3, .int v2), (0, .ref p0), (1, .int p1), (2, .int p2)] dX7_isTold_10 rfl (by decide) rfl ?_
  obtain ⟨x13, h14, hF⟩ := b1_inv hF
  have hJ : qX l G RX7 "isTold" cX7_isTold 6 (some .boolean) [] rmX7_isTold 0 0 (.inl (some (.int ro), σ, n)) 0 0 σ n 70 [(4, .int x13)] [] := by
    refine x_iload 72 0 dX7_isTold_70 rfl rfl ?_
    obtain ⟨hz, hF⟩ := ite_none hF
    cases hF
    exact x_zret rfl (by rcases hz with h | h <;> rw [h] <;> rfl) rfl (by decide) (by decide) dX7_isTold_72
  refine x_sub [(0, .ref p0), (1, .int p1), (2, .int p2), (3, .int v2), (4, .int (0 : Int32)), (5, .int (0 : Int32))] [3, 4, 5, 2, 1, 0] rfl ?_
  exact mX7_isTold_L12 hst p0 p1 p2 v2 σ n _ qfuel (0 : Int32) (0 : Int32) x13 h14 hJ
def rmX7_swings : Room := { frames := 6, cells := 0, slots := 0, locals := 141 }
theorem qyX7_swings : qY yX7_swings cX7_swings 4 (some .int) 2 := ⟨wd_1177, wd_32, by decide +kernel, by decide +kernel, by decide +kernel⟩
set_option maxHeartbeats 4000000 in
set_option maxRecDepth 100000 in
theorem mX7_swings_L43 {l : Launch} {G : qG} (hst : l.stackTraces = false) (a0 : Nat) (a1 : Int32) (a2 : Int32) (n : Option Nat) (rf : Int32 × qH → qR) (hrf : ∀ v : Int32, ∀ σ : qH, rf (v, σ) = .inl (some (.int v), σ, n)) : ∀ (q : Nat) (y3 : Int32) (σ : qH) (o : Int32 × qH), FX7_swings_L43 a0 a1 a2 q y3 σ = some o → qX l G RX7 "swings" cX7_swings 4 (some .int) [] rmX7_swings 0 0 (rf o) 0 0 σ n 43 [(0, .ref a0), (1, .int a1), (2, .int a2), (3, .int y3)] [] := by
  intro q
  induction q with
  | zero => intro y3 σ o hF; rw [FX7_swings_L43] at hF; cases hF
  | succ q ih =>
    intro y3 σ o hF
    rw [FX7_swings_L43] at hF
    refine x_iload_n 44 3 dX7_swings_43 rfl rfl ?_
    refine x_bipush 46 (9 : Int32) dX7_swings_44 rfl (by decide) ?_
    rcases ite_inv hF with ⟨hc, hF⟩ | ⟨hc, hF⟩
    · refine x_icmp_gt 79 49 dX7_swings_46 (by decide) rfl (fun _ => ?_) (fun q => absurd hc q)
      refine x_iconst 80 (-1 : Int32) dX7_swings_79 rfl (by decide) ?_
      cases hF
      exact x_iret rfl (hrf _ _) (by decide) (by decide) dX7_swings_80
    · refine x_icmp_gt 79 49 dX7_swings_46 (by decide) rfl (fun q => absurd q hc) (fun _ => ?_)
      refine x_aload_n 50 0 dX7_swings_49 rfl rfl ?_
      obtain ⟨r15, h16, hF⟩ := b1_inv hF
      refine x_getR 53 4 inX7 rfl (by decide) wd_929 h16 dX7_swings_50 rfl ?_
      refine x_iload_n 54 1 dX7_swings_53 rfl rfl ?_
      refine x_iload_n 55 3 dX7_swings_54 rfl rfl ?_
      obtain ⟨v18, s19, h17, hF⟩ := b2_inv hF
      refine x_callS (As := [.ref r15, .int a1, .int y3]) (rest := []) 58 0 0 (mX7_trustOn hst r15 a1 y3 σ n v18 s19 h17) qyX7_trustOn wd_1021 wd_1022 rfl rfl (by decide) (Nat.le_of_ble_eq_true rfl) (by decide) dX7_swings_55 rfl rfl rfl rfl ?_
      refine x_pop 59 rfl dX7_swings_58 rfl ?_
      refine x_aload_n 60 0 dX7_swings_59 rfl rfl ?_
      obtain ⟨r20, h21, hF⟩ := b1_inv hF
      refine x_getR 63 4 inX7 rfl (by decide) wd_929 h21 dX7_swings_60 rfl ?_
      refine x_iload_n 64 1 dX7_swings_63 rfl rfl ?_
      refine x_iload_n 65 2 dX7_swings_64 rfl rfl ?_
      obtain ⟨v23, h22, hF⟩ := b1_inv hF
      refine x_callS (As := [.ref r20, .int a1, .int a2]) (rest := []) 68 0 0 (mX7_isTold hst r20 a1 a2 s19 n v23 h22) qyX7_isTold wd_1178 wd_1179 rfl rfl (by decide) (Nat.le_of_ble_eq_true rfl) (by decide) dX7_swings_65 rfl rfl rfl rfl ?_
      rcases ite_inv hF with ⟨hc, hF⟩ | ⟨hc, hF⟩
      · refine x_if_eq 73 71 dX7_swings_68 (by decide) rfl (fun _ => ?_) (fun q => absurd hc q)
        refine x_iinc 76 3 3 (y3 + (1 : Int32)) [(3, .int (y3 + (1 : Int32))), (0, .ref a0), (1, .int a1), (2, .int a2)] dX7_swings_73 rfl rfl rfl (by decide) rfl ?_
        refine x_goto 43 dX7_swings_76 (by decide) ?_
        refine x_sub [(0, .ref a0), (1, .int a1), (2, .int a2), (3, .int (y3 + (1 : Int32)))] [1, 2, 3, 0] rfl ?_
        exact ih _ _ _ hF
      · refine x_if_eq 73 71 dX7_swings_68 (by decide) rfl (fun q => absurd q hc) (fun _ => ?_)
        refine x_iload_n 72 3 dX7_swings_71 rfl rfl ?_
        cases hF
        exact x_iret rfl (hrf _ _) (by decide) (by decide) dX7_swings_72
theorem kX7_swings {b : Nat} {p0 : Int32} {p1 : Int32} {σ : qH} {o : Int32 × qH} (h : FX7_swings b p0 p1 σ = some o) : ∃ fs : List Value, True ∧ σ b = some (.inr (5, fs)) := by
  unfold FX7_swings at h
  obtain ⟨_, h1, _⟩ := b1_inv h
  obtain ⟨fs, h2⟩ := gC_inv h1
  exact ⟨fs, trivial, h2⟩
set_option maxHeartbeats 4000000 in
set_option maxRecDepth 100000 in
theorem mX7_swings {l : Launch} {G : qG} (hst : l.stackTraces = false) (b : Nat) (p0 : Int32) (p1 : Int32) (σ : qH) (n : Option Nat) (ro : Int32) (so : qH) (hF : FX7_swings b p0 p1 σ = some (ro, so)) : qM l G yX7_swings cX7_swings 4 (some .int) rmX7_swings [.ref b, .int p0, .int p1] σ n (.inl (some (.int ro), so, n)) := by
  refine q_body (own := RX7) (nm := "swings") (ls := [(0, .ref b), (1, .int p0), (2, .int p1)]) hst (by decide +kernel) rfl rfl (Nat.le_of_ble_eq_true rfl) rfl rfl rfl ?_
  unfold FX7_swings at hF
  obtain ⟨_, hC, hF⟩ := b1_inv hF
  refine x_aload_n 1 0 dX7_swings_0 rfl rfl ?_
  refine x_iload_n 2 1 dX7_swings_1 rfl rfl ?_
  obtain ⟨v2, h1, hF⟩ := b1_inv hF
  refine x_callS (As := [.int p0]) (rest := [.ref b]) 5 0 0 (mX7_isTeller hst p0 σ n v2 h1) qyX7_isTeller wd_1086 wd_1087 rfl rfl (by decide) (Nat.le_of_ble_eq_true rfl) (by decide) dX7_swings_2 rfl rfl rfl rfl ?_
  obtain ⟨x3, h24, hF⟩ := b1_inv hF
  have hJ : qX l G RX7 "swings" cX7_swings 4 (some .int) [] rmX7_swings 0 0 (.inl (some (.int ro), so, n)) 0 0 σ n 20 [(0, .ref b), (1, .int p0), (2, .int p1)] [.int x3, .ref b] := by
    obtain ⟨v7, s8, h6, hF⟩ := b2_inv hF
    obtain ⟨fs, hb⟩ : ∃ fs : List Value, True ∧ σ b = some (.inr (5, fs)) := kX7_refused h6
    refine x_callV (As := [.int x3]) (rest := []) 23 0 0 (mX7_refused hst b x3 σ n v7 s8 h6) qyX7_refused wd_971 wd_973 wd_16 hb.2 rfl rfl rfl (by decide) (Nat.le_of_ble_eq_true rfl) (by decide) dX7_swings_20 rfl rfl rfl rfl ?_
    rcases ite_inv hF with ⟨hc, hF⟩ | ⟨hc, hF⟩
    · refine x_if_eq 28 26 dX7_swings_23 (by decide) rfl (fun _ => ?_) (fun q => absurd hc q)
      refine x_aload_n 29 0 dX7_swings_28 rfl rfl ?_
      obtain ⟨r9, h10, hF⟩ := b1_inv hF
      refine x_getR 32 3 inX7 rfl (by decide) wd_928 h10 dX7_swings_29 rfl ?_
      refine x_iconst 33 (0 : Int32) dX7_swings_32 rfl (by decide) ?_
      refine x_aload_n 34 0 dX7_swings_33 rfl rfl ?_
      obtain ⟨r11, h12, hF⟩ := b1_inv hF
      refine x_getR 37 4 inX7 rfl (by decide) wd_929 h12 dX7_swings_34 rfl ?_
      refine x_iconst 38 (0 : Int32) dX7_swings_37 rfl (by decide) ?_
      obtain ⟨s14, h13, hF⟩ := b1_inv hF
      refine x_callS (As := [.ref r9, .int (0 : Int32), .ref r11, .int (0 : Int32)]) (rest := []) 41 0 0 (mX7_copyState hst r9 (0 : Int32) r11 (0 : Int32) s8 n s14 h13) qyX7_copyState wd_1061 wd_1062 rfl rfl (by decide) (Nat.le_of_ble_eq_true rfl) (by decide) dX7_swings_38 rfl rfl rfl rfl ?_
      refine x_iconst 42 (0 : Int32) dX7_swings_41 rfl (by decide) ?_
      refine x_istore_n 43 3 [(3, .int (0 : Int32)), (0, .ref b), (1, .int p0), (2, .int p1)] dX7_swings_42 rfl rfl (by decide) rfl ?_
      refine x_sub [(0, .ref b), (1, .int p0), (2, .int p1), (3, .int (0 : Int32))] [1, 2, 3, 0] rfl ?_
      exact mX7_swings_L43 hst b p0 p1 n (fun v9 : Int32 × qH => .inl (some (.int v9.1), v9.2, n)) (fun _ _ => rfl) qfuel (0 : Int32) s14 _ hF
    · refine x_if_eq 28 26 dX7_swings_23 (by decide) rfl (fun q => absurd q hc) (fun _ => ?_)
      refine x_iconst 27 (0 : Int32) dX7_swings_26 rfl (by decide) ?_
      cases hF
      exact x_iret rfl rfl (by decide) (by decide) dX7_swings_27
  have hF := h24
  rcases ite_inv hF with ⟨hc, hF⟩ | ⟨hc, hF⟩
  · refine x_if_eq 19 8 dX7_swings_5 (by decide) rfl (fun _ => ?_) (fun q => absurd hc q)
    refine x_iconst 20 (1 : Int32) dX7_swings_19 rfl (by decide) ?_
    have e1 := Option.some.inj hF
    subst e1
    exact hJ
  · refine x_if_eq 19 8 dX7_swings_5 (by decide) rfl (fun q => absurd q hc) (fun _ => ?_)
    refine x_iload_n 9 2 dX7_swings_8 rfl rfl ?_
    obtain ⟨v5, h4, hF⟩ := b1_inv hF
    refine x_callS (As := [.int p1]) (rest := [.ref b]) 12 0 0 (mX7_isSteeple hst p1 σ n v5 h4) qyX7_isSteeple wd_1095 wd_1096 rfl rfl (by decide) (Nat.le_of_ble_eq_true rfl) (by decide) dX7_swings_9 rfl rfl rfl rfl ?_
    rcases ite_inv hF with ⟨hc, hF⟩ | ⟨hc, hF⟩
    · refine x_if_eq 19 15 dX7_swings_12 (by decide) rfl (fun _ => ?_) (fun q => absurd hc q)
      refine x_iconst 20 (1 : Int32) dX7_swings_19 rfl (by decide) ?_
      have e1 := Option.some.inj hF
      subst e1
      exact hJ
    · refine x_if_eq 19 15 dX7_swings_12 (by decide) rfl (fun q => absurd q hc) (fun _ => ?_)
      refine x_iconst 16 (0 : Int32) dX7_swings_15 rfl (by decide) ?_
      refine x_goto 20 dX7_swings_16 (by decide) ?_
      have e1 := Option.some.inj hF
      subst e1
      exact hJ
def rmX7_truest : Room := { frames := 0, cells := 0, slots := 0, locals := 0 }
theorem qyX7_truest : qY yX7_truest cX7_truest 6 (some .int) 0 := ⟨wd_1184, wd_32, by decide +kernel, by decide +kernel, by decide +kernel⟩
set_option maxHeartbeats 4000000 in
set_option maxRecDepth 100000 in
theorem mX7_truest_L9 {l : Launch} {G : qG} (hst : l.stackTraces = false) (a0 : Nat) (σ : qH) (n : Option Nat) (r : qR) : ∀ (q : Nat) (y1 : Int32) (y2 : Int32) (o1 : Int32), FX7_truest_L9 a0 σ q y1 y2 = some o1 → qX l G RX7 "truest" cX7_truest 6 (some .int) [] rmX7_truest 0 0 r 0 0 σ n 132 [(1, .int o1)] [] → qX l G RX7 "truest" cX7_truest 6 (some .int) [] rmX7_truest 0 0 r 0 0 σ n 9 [(0, .ref a0), (1, .int y1), (2, .int y2)] [] := by
  intro q
  induction q with
  | zero => intro y1 y2 o1 hF; rw [FX7_truest_L9] at hF; cases hF
  | succ q ih =>
    intro y1 y2 o1 hF hJ
    rw [FX7_truest_L9] at hF
    refine x_iload_n 10 2 dX7_truest_9 rfl rfl ?_
    refine x_bipush 12 (6 : Int32) dX7_truest_10 rfl (by decide) ?_
    rcases ite_inv hF with ⟨hc, hF⟩ | ⟨hc, hF⟩
    · refine x_icmp_ge 132 15 dX7_truest_12 (by decide) rfl (fun _ => ?_) (fun q => absurd hc q)
      have e1 := Option.some.inj hF
      subst e1
      refine x_sub [(1, .int y1)] [1] rfl ?_
      exact hJ
    · refine x_icmp_ge 132 15 dX7_truest_12 (by decide) rfl (fun q => absurd q hc) (fun _ => ?_)
      refine x_aload_n 16 0 dX7_truest_15 rfl rfl ?_
      obtain ⟨r3, h4, hF⟩ := b1_inv hF
      refine x_getR 19 3 inX7 rfl (by decide) wd_928 h4 dX7_truest_16 rfl ?_
      refine x_bipush 21 (15 : Int32) dX7_truest_19 rfl (by decide) ?_
      refine x_iload_n 22 2 dX7_truest_21 rfl rfl ?_
      refine x_iadd 23 dX7_truest_22 rfl ?_
      obtain ⟨v5, h6, hF⟩ := b1_inv hF
      refine x_aI 24 h6 dX7_truest_23 rfl ?_
      refine x_aload_n 25 0 dX7_truest_24 rfl rfl ?_
      obtain ⟨r7, h8, hF⟩ := b1_inv hF
      refine x_getR 28 3 inX7 rfl (by decide) wd_928 h8 dX7_truest_25 rfl ?_
      refine x_bipush 30 (21 : Int32) dX7_truest_28 rfl (by decide) ?_
      refine x_iload_n 31 2 dX7_truest_30 rfl rfl ?_
      refine x_iadd 32 dX7_truest_31 rfl ?_
      obtain ⟨v9, h10, hF⟩ := b1_inv hF
      refine x_aI 33 h10 dX7_truest_32 rfl ?_
      refine x_iadd 34 dX7_truest_33 rfl ?_
      refine x_istore_n 35 3 [(3, .int (v5 + v9)), (0, .ref a0), (1, .int y1), (2, .int y2)] dX7_truest_34 rfl rfl (by decide) rfl ?_
      refine x_iload_n 36 0 dX7_truest_35 rfl rfl ?_
      obtain ⟨x11, h34, hF⟩ := b1_inv hF
      have hJ : qX l G RX7 "truest" cX7_truest 6 (some .int) [] rmX7_truest 0 0 r 0 0 σ n 126 [(0, .ref a0), (1, .int x11), (2, .int y2)] [] := by
        refine x_iinc 129 2 2 (y2 + (1 : Int32)) [(2, .int (y2 + (1 : Int32))), (0, .ref a0), (1, .int x11)] dX7_truest_126 rfl rfl rfl (by decide) rfl ?_
        refine x_goto 9 dX7_truest_129 (by decide) ?_
        refine x_sub [(0, .ref a0), (1, .int x11), (2, .int (y2 + (1 : Int32)))] [1, 2, 0] rfl ?_
        exact ih _ _ _ hF hJ
      have hF := h34
      rcases ite_inv hF with ⟨hc, hF⟩ | ⟨hc, hF⟩
      · refine x_if_le 126 39 dX7_truest_36 (by decide) rfl (fun _ => ?_) (fun q => absurd hc q)
        have e1 := Option.some.inj hF
        subst e1
        refine x_sub [(0, .ref a0), (1, .int y1), (2, .int y2)] [1, 2, 3] rfl ?_
        exact hJ
      · refine x_if_le 126 39 dX7_truest_36 (by decide) rfl (fun q => absurd q hc) (fun _ => ?_)
        refine x_iload_n 40 2 dX7_truest_39 rfl rfl ?_
        refine x_iconst 41 (-1 : Int32) dX7_truest_40 rfl (by decide) ?_
        obtain ⟨x12, h33, hF⟩ := b1_inv hF
        have hJ : qX l G RX7 "truest" cX7_truest 6 (some .int) [] rmX7_truest 0 0 r 0 0 σ n 67 [(0, .ref a0), (1, .int y1), (2, .int y2), (3, .int (v5 + v9))] [.int x12] := by
          refine x_istore 69 4 [(4, .int x12), (0, .ref a0), (1, .int y1), (2, .int y2), (3, .int (v5 + v9))] dX7_truest_67 rfl (by decide) rfl ?_
          refine x_iload_n 70 2 dX7_truest_69 rfl rfl ?_
          refine x_iconst 71 (-1 : Int32) dX7_truest_70 rfl (by decide) ?_
          obtain ⟨x21, h32, hF⟩ := b1_inv hF
          have hJ : qX l G RX7 "truest" cX7_truest 6 (some .int) [] rmX7_truest 0 0 r 0 0 σ n 102 [(0, .ref a0), (1, .int y1), (2, .int y2), (3, .int (v5 + v9)), (4, .int x12)] [.int x21] := by
            refine x_istore 104 5 [(5, .int x21), (0, .ref a0), (1, .int y1), (2, .int y2), (3, .int (v5 + v9)), (4, .int x12)] dX7_truest_102 rfl (by decide) rfl ?_
            refine x_iload 106 0 dX7_truest_104 rfl rfl ?_
            obtain ⟨x30, h31, hF⟩ := b1_inv hF
            have hJ : qX l G RX7 "truest" cX7_truest 6 (some .int) [] rmX7_truest 0 0 r 0 0 σ n 125 [(0, .ref a0), (2, .int y2)] [.int x30] := by
              refine x_istore_n 126 1 [(1, .int x30), (0, .ref a0), (2, .int y2)] dX7_truest_125 rfl rfl (by decide) rfl ?_
              have e1 := Option.some.inj hF
              subst e1
              refine x_sub [(0, .ref a0), (1, .int x30), (2, .int y2)] [1, 0, 2] rfl ?_
              exact hJ
            have hF := h31
            rcases ite_inv hF with ⟨hc, hF⟩ | ⟨hc, hF⟩
            · refine x_if_gt 120 109 dX7_truest_106 (by decide) rfl (fun _ => ?_) (fun q => absurd hc q)
              refine x_iload_n 121 3 dX7_truest_120 rfl rfl ?_
              refine x_goto 125 dX7_truest_121 (by decide) ?_
              have e1 := Option.some.inj hF
              subst e1
              refine x_sub [(0, .ref a0), (2, .int y2)] [1, 3] rfl ?_
              exact hJ
            · refine x_if_gt 120 109 dX7_truest_106 (by decide) rfl (fun q => absurd q hc) (fun _ => ?_)
              refine x_iload 111 0 dX7_truest_109 rfl rfl ?_
              rcases ite_inv hF with ⟨hc, hF⟩ | ⟨hc, hF⟩
              · refine x_if_ne 124 114 dX7_truest_111 (by decide) rfl (fun q => absurd hc q) (fun _ => ?_)
                refine x_iload_n 115 4 dX7_truest_114 rfl rfl ?_
                refine x_iload 117 5 dX7_truest_115 rfl rfl ?_
                rcases ite_inv hF with ⟨hc, hF⟩ | ⟨hc, hF⟩
                · refine x_icmp_le 124 120 dX7_truest_117 (by decide) rfl (fun _ => ?_) (fun q => absurd hc q)
                  refine x_iload_n 125 2 dX7_truest_124 rfl rfl ?_
                  have e1 := Option.some.inj hF
                  subst e1
                  refine x_sub [(0, .ref a0), (2, .int y2)] [1, 3] rfl ?_
                  exact hJ
                · refine x_icmp_le 124 120 dX7_truest_117 (by decide) rfl (fun q => absurd q hc) (fun _ => ?_)
                  refine x_iload_n 121 3 dX7_truest_120 rfl rfl ?_
                  refine x_goto 125 dX7_truest_121 (by decide) ?_
                  have e1 := Option.some.inj hF
                  subst e1
                  refine x_sub [(0, .ref a0), (2, .int y2)] [1, 3] rfl ?_
                  exact hJ
              · refine x_if_ne 124 114 dX7_truest_111 (by decide) rfl (fun _ => ?_) (fun q => absurd q hc)
                refine x_iload_n 125 2 dX7_truest_124 rfl rfl ?_
                have e1 := Option.some.inj hF
                subst e1
                refine x_sub [(0, .ref a0), (2, .int y2)] [1, 3] rfl ?_
                exact hJ
          have hF := h32
          rcases ite_inv hF with ⟨hc, hF⟩ | ⟨hc, hF⟩
          · refine x_icmp_ne 78 74 dX7_truest_71 (by decide) rfl (fun q => absurd hc q) (fun _ => ?_)
            refine x_iconst 75 (1 : Int32) dX7_truest_74 rfl (by decide) ?_
            refine x_goto 102 dX7_truest_75 (by decide) ?_
            have e1 := Option.some.inj hF
            subst e1
            refine x_sub [(0, .ref a0), (1, .int y1), (2, .int y2), (3, .int (v5 + v9)), (4, .int x12)] [1, 2, 3, 4, 0] rfl ?_
            exact hJ
          · refine x_icmp_ne 78 74 dX7_truest_71 (by decide) rfl (fun _ => ?_) (fun q => absurd q hc)
            refine x_aload_n 79 1 dX7_truest_78 rfl rfl ?_
            obtain ⟨r22, h23, hF⟩ := b1_inv hF
            refine x_getR 82 3 inX7 rfl (by decide) wd_928 h23 dX7_truest_79 rfl ?_
            refine x_bipush 84 (15 : Int32) dX7_truest_82 rfl (by decide) ?_
            refine x_iload_n 85 3 dX7_truest_84 rfl rfl ?_
            refine x_iadd 86 dX7_truest_85 rfl ?_
            obtain ⟨v24, h25, hF⟩ := b1_inv hF
            refine x_aI 87 h25 dX7_truest_86 rfl ?_
            refine x_iload 89 0 dX7_truest_87 rfl rfl ?_
            refine x_imul 90 dX7_truest_89 rfl ?_
            refine x_aload_n 91 1 dX7_truest_90 rfl rfl ?_
            obtain ⟨r26, h27, hF⟩ := b1_inv hF
            refine x_getR 94 3 inX7 rfl (by decide) wd_928 h27 dX7_truest_91 rfl ?_
            refine x_bipush 96 (15 : Int32) dX7_truest_94 rfl (by decide) ?_
            refine x_iload_n 97 2 dX7_truest_96 rfl rfl ?_
            refine x_iadd 98 dX7_truest_97 rfl ?_
            obtain ⟨v28, h29, hF⟩ := b1_inv hF
            refine x_aI 99 h29 dX7_truest_98 rfl ?_
            refine x_iload_n 100 4 dX7_truest_99 rfl rfl ?_
            refine x_imul 101 dX7_truest_100 rfl ?_
            refine x_isub 102 dX7_truest_101 rfl ?_
            have e1 := Option.some.inj hF
            subst e1
            refine x_sub [(0, .ref a0), (1, .int y1), (2, .int y2), (3, .int (v5 + v9)), (4, .int x12)] [1, 2, 3, 4, 0] rfl ?_
            exact hJ
        have hF := h33
        rcases ite_inv hF with ⟨hc, hF⟩ | ⟨hc, hF⟩
        · refine x_icmp_ne 48 44 dX7_truest_41 (by decide) rfl (fun q => absurd hc q) (fun _ => ?_)
          refine x_iconst 45 (0 : Int32) dX7_truest_44 rfl (by decide) ?_
          refine x_goto 67 dX7_truest_45 (by decide) ?_
          have e1 := Option.some.inj hF
          subst e1
          refine x_sub [(0, .ref a0), (1, .int y1), (2, .int y2), (3, .int (v5 + v9))] [1, 2, 3, 0] rfl ?_
          exact hJ
        · refine x_icmp_ne 48 44 dX7_truest_41 (by decide) rfl (fun _ => ?_) (fun q => absurd q hc)
          refine x_aload_n 49 1 dX7_truest_48 rfl rfl ?_
          obtain ⟨r13, h14, hF⟩ := b1_inv hF
          refine x_getR 52 3 inX7 rfl (by decide) wd_928 h14 dX7_truest_49 rfl ?_
          refine x_bipush 54 (15 : Int32) dX7_truest_52 rfl (by decide) ?_
          refine x_iload_n 55 2 dX7_truest_54 rfl rfl ?_
          refine x_iadd 56 dX7_truest_55 rfl ?_
          obtain ⟨v15, h16, hF⟩ := b1_inv hF
          refine x_aI 57 h16 dX7_truest_56 rfl ?_
          refine x_aload_n 58 1 dX7_truest_57 rfl rfl ?_
          obtain ⟨r17, h18, hF⟩ := b1_inv hF
          refine x_getR 61 3 inX7 rfl (by decide) wd_928 h18 dX7_truest_58 rfl ?_
          refine x_bipush 63 (21 : Int32) dX7_truest_61 rfl (by decide) ?_
          refine x_iload_n 64 2 dX7_truest_63 rfl rfl ?_
          refine x_iadd 65 dX7_truest_64 rfl ?_
          obtain ⟨v19, h20, hF⟩ := b1_inv hF
          refine x_aI 66 h20 dX7_truest_65 rfl ?_
          refine x_iadd 67 dX7_truest_66 rfl ?_
          have e1 := Option.some.inj hF
          subst e1
          refine x_sub [(0, .ref a0), (1, .int y1), (2, .int y2), (3, .int (v5 + v9))] [1, 2, 3, 0] rfl ?_
          exact hJ
theorem kX7_truest {b : Nat} {σ : qH} {o : Int32 × qH} (h : FX7_truest b σ = some o) : ∃ fs : List Value, True ∧ σ b = some (.inr (5, fs)) := by
  unfold FX7_truest at h
  obtain ⟨_, h1, _⟩ := b1_inv h
  obtain ⟨fs, h2⟩ := gC_inv h1
  exact ⟨fs, trivial, h2⟩
set_option maxHeartbeats 4000000 in
set_option maxRecDepth 100000 in
theorem mX7_truest {l : Launch} {G : qG} (hst : l.stackTraces = false) (b : Nat) (σ : qH) (n : Option Nat) (ro : Int32) (so : qH) (hF : FX7_truest b σ = some (ro, so)) : qM l G yX7_truest cX7_truest 6 (some .int) rmX7_truest [.ref b] σ n (.inl (some (.int ro), so, n)) := by
  refine q_body (own := RX7) (nm := "truest") (ls := [(0, .ref b)]) hst (by decide +kernel) rfl rfl (Nat.le_of_ble_eq_true rfl) rfl rfl rfl ?_
  unfold FX7_truest at hF
  obtain ⟨_, hC, hF⟩ := b1_inv hF
  refine x_aload_n 1 0 dX7_truest_0 rfl rfl ?_
  refine x_iconst 2 (0 : Int32) dX7_truest_1 rfl (by decide) ?_
  obtain ⟨s1, h2, hF⟩ := b1_inv hF
  refine x_put 5 0 inX7 tyX7 tyX7_ok nmX7 rfl (by decide) wd_925 rfl (tX7_0) rfl rfl h2 dX7_truest_2 rfl ?_
  refine x_iconst 6 (-1 : Int32) dX7_truest_5 rfl (by decide) ?_
  refine x_istore_n 7 1 [(1, .int (-1 : Int32)), (0, .ref b)] dX7_truest_6 rfl rfl (by decide) rfl ?_
  refine x_iconst 8 (0 : Int32) dX7_truest_7 rfl (by decide) ?_
  refine x_istore_n 9 2 [(2, .int (0 : Int32)), (1, .int (-1 : Int32)), (0, .ref b)] dX7_truest_8 rfl rfl (by decide) rfl ?_
  obtain ⟨x35, h36, hF⟩ := b1_inv hF
  have hJ : qX l G RX7 "truest" cX7_truest 6 (some .int) [] rmX7_truest 0 0 (.inl (some (.int ro), so, n)) 0 0 s1 n 132 [(1, .int x35)] [] := by
    refine x_iload_n 133 0 dX7_truest_132 rfl rfl ?_
    cases hF
    exact x_iret rfl rfl (by decide) (by decide) dX7_truest_133
  refine x_sub [(0, .ref b), (1, .int (-1 : Int32)), (2, .int (0 : Int32))] [2, 1, 0] rfl ?_
  exact mX7_truest_L9 hst b s1 n _ qfuel (-1 : Int32) (0 : Int32) x35 h36 hJ
def rmX7_commandSteeple : Room := { frames := 6, cells := 0, slots := 0, locals := 141 }
theorem qyX7_commandSteeple : qY yX7_commandSteeple cX7_commandSteeple 5 (some .boolean) 4 := ⟨wd_1199, wd_32, by decide +kernel, by decide +kernel, by decide +kernel⟩
theorem kX7_commandSteeple {b : Nat} {p0 : Int32} {p1 : Int32} {p2 : Int32} {p3 : Int32} {σ : qH} {o : Int32 × qH} (h : FX7_commandSteeple b p0 p1 p2 p3 σ = some o) : ∃ fs : List Value, True ∧ σ b = some (.inr (5, fs)) := by
  unfold FX7_commandSteeple at h
  obtain ⟨_, h1, _⟩ := b1_inv h
  obtain ⟨fs, h2⟩ := gC_inv h1
  exact ⟨fs, trivial, h2⟩
set_option maxHeartbeats 4000000 in
set_option maxRecDepth 100000 in
theorem mX7_commandSteeple {l : Launch} {G : qG} (hst : l.stackTraces = false) (b : Nat) (p0 : Int32) (p1 : Int32) (p2 : Int32) (p3 : Int32) (σ : qH) (n : Option Nat) (ro : Int32) (so : qH) (hF : FX7_commandSteeple b p0 p1 p2 p3 σ = some (ro, so)) : qM l G yX7_commandSteeple cX7_commandSteeple 5 (some .boolean) rmX7_commandSteeple [.ref b, .int p0, .int p1, .int p2, .int p3] σ n (.inl (some (.int ro), so, n)) := by
  refine q_body (own := RX7) (nm := "commandSteeple") (ls := [(0, .ref b), (1, .int p0), (2, .int p1), (3, .int p2), (4, .int p3)]) hst (by decide +kernel) rfl rfl (Nat.le_of_ble_eq_true rfl) rfl rfl rfl ?_
  unfold FX7_commandSteeple at hF
  obtain ⟨_, hC, hF⟩ := b1_inv hF
  refine x_iload_n 1 1 dX7_commandSteeple_0 rfl rfl ?_
  rcases ite_inv hF with ⟨h15, hF⟩ | ⟨h15, hF⟩
  · have hK : qX l G RX7 "commandSteeple" cX7_commandSteeple 5 (some .boolean) [] rmX7_commandSteeple 0 0 (.inl (some (.int ro), so, n)) 0 0 σ n 36 [(0, .ref b), (1, .int p0), (2, .int p1), (3, .int p2), (4, .int p3)] [] := by
      refine x_iload_n 37 3 dX7_commandSteeple_36 rfl rfl ?_
      obtain ⟨v2, h1, hF⟩ := b1_inv hF
      refine x_callS (As := [.int p2]) (rest := []) 40 0 0 (mX7_isTeller hst p2 σ n v2 h1) qyX7_isTeller wd_1086 wd_1087 rfl rfl (by decide) (Nat.le_of_ble_eq_true rfl) (by decide) dX7_commandSteeple_37 rfl rfl rfl rfl ?_
      obtain ⟨x3, s4, h14, hF⟩ := b2_inv hF
      have hJ : qX l G RX7 "commandSteeple" cX7_commandSteeple 5 (some .boolean) [] rmX7_commandSteeple 0 0 (.inl (some (.int ro), so, n)) 0 0 s4 n 83 [] [.int x3] := by
        obtain ⟨hz, hF⟩ := ite_none hF
        cases hF
        exact x_zret rfl (by rcases hz with h | h <;> rw [h] <;> rfl) rfl (by decide) (by decide) dX7_commandSteeple_83
      have hF := h14
      rcases ite_inv hF with ⟨hc, hF⟩ | ⟨hc, hF⟩
      · refine x_if_eq 82 43 dX7_commandSteeple_40 (by decide) rfl (fun _ => ?_) (fun q => absurd hc q)
        refine x_iconst 83 (0 : Int32) dX7_commandSteeple_82 rfl (by decide) ?_
        obtain ⟨e1, e2⟩ := so2 hF
        subst e1
        subst e2
        refine x_sub [] [] rfl ?_
        exact hJ
      · refine x_if_eq 82 43 dX7_commandSteeple_40 (by decide) rfl (fun q => absurd q hc) (fun _ => ?_)
        refine x_iload 45 4 dX7_commandSteeple_43 rfl rfl ?_
        rcases ite_inv hF with ⟨hc, hF⟩ | ⟨hc, hF⟩
        · refine x_if_le 82 48 dX7_commandSteeple_45 (by decide) rfl (fun _ => ?_) (fun q => absurd hc q)
          refine x_iconst 83 (0 : Int32) dX7_commandSteeple_82 rfl (by decide) ?_
          obtain ⟨e1, e2⟩ := so2 hF
          subst e1
          subst e2
          refine x_sub [] [] rfl ?_
          exact hJ
        · refine x_if_le 82 48 dX7_commandSteeple_45 (by decide) rfl (fun q => absurd q hc) (fun _ => ?_)
          refine x_aload_n 49 0 dX7_commandSteeple_48 rfl rfl ?_
          obtain ⟨r5, h6, hF⟩ := b1_inv hF
          refine x_getR 52 4 inX7 rfl (by decide) wd_929 h6 dX7_commandSteeple_49 rfl ?_
          refine x_iconst 53 (0 : Int32) dX7_commandSteeple_52 rfl (by decide) ?_
          obtain ⟨v7, h8, hF⟩ := b1_inv hF
          refine x_aI 54 h8 dX7_commandSteeple_53 rfl ?_
          refine x_bipush 56 (16 : Int32) dX7_commandSteeple_54 rfl (by decide) ?_
          rcases ite_inv hF with ⟨hc, hF⟩ | ⟨hc, hF⟩
          · refine x_icmp_ge 82 59 dX7_commandSteeple_56 (by decide) rfl (fun _ => ?_) (fun q => absurd hc q)
            refine x_iconst 83 (0 : Int32) dX7_commandSteeple_82 rfl (by decide) ?_
            obtain ⟨e1, e2⟩ := so2 hF
            subst e1
            subst e2
            refine x_sub [] [] rfl ?_
            exact hJ
          · refine x_icmp_ge 82 59 dX7_commandSteeple_56 (by decide) rfl (fun q => absurd q hc) (fun _ => ?_)
            refine x_aload_n 60 0 dX7_commandSteeple_59 rfl rfl ?_
            obtain ⟨r9, h10, hF⟩ := b1_inv hF
            refine x_getR 63 4 inX7 rfl (by decide) wd_929 h10 dX7_commandSteeple_60 rfl ?_
            refine x_iload_n 64 2 dX7_commandSteeple_63 rfl rfl ?_
            refine x_iload_n 65 3 dX7_commandSteeple_64 rfl rfl ?_
            refine x_iconst 66 (2 : Int32) dX7_commandSteeple_65 rfl (by decide) ?_
            refine x_iload 68 4 dX7_commandSteeple_66 rfl rfl ?_
            refine x_iload 70 4 dX7_commandSteeple_68 rfl rfl ?_
            refine x_iconst 71 (0 : Int32) dX7_commandSteeple_70 rfl (by decide) ?_
            refine x_iconst 72 (0 : Int32) dX7_commandSteeple_71 rfl (by decide) ?_
            obtain ⟨v12, s13, h11, hF⟩ := b2_inv hF
            refine x_callS (As := [.ref r9, .int p1, .int p2, .int (2 : Int32), .int p3, .int p3, .int (0 : Int32), .int (0 : Int32)]) (rest := []) 75 0 0 (mX7_measureOn hst r9 p1 p2 (2 : Int32) p3 p3 (0 : Int32) (0 : Int32) σ n v12 s13 h11) qyX7_measureOn wd_1008 wd_1009 rfl rfl (by decide) (Nat.le_of_ble_eq_true rfl) (by decide) dX7_commandSteeple_72 rfl rfl rfl rfl ?_
            rcases ite_inv hF with ⟨hc, hF⟩ | ⟨hc, hF⟩
            · refine x_if_lt 82 78 dX7_commandSteeple_75 (by decide) rfl (fun _ => ?_) (fun q => absurd hc q)
              refine x_iconst 83 (0 : Int32) dX7_commandSteeple_82 rfl (by decide) ?_
              obtain ⟨e1, e2⟩ := so2 hF
              subst e1
              subst e2
              refine x_sub [] [] rfl ?_
              exact hJ
            · refine x_if_lt 82 78 dX7_commandSteeple_75 (by decide) rfl (fun q => absurd q hc) (fun _ => ?_)
              refine x_iconst 79 (1 : Int32) dX7_commandSteeple_78 rfl (by decide) ?_
              refine x_goto 83 dX7_commandSteeple_79 (by decide) ?_
              obtain ⟨e1, e2⟩ := so2 hF
              subst e1
              subst e2
              refine x_sub [] [] rfl ?_
              exact hJ
    · exact x_lookup (35) 36 dX7_commandSteeple_1 (by decide) (by rw [h15]; decide) (by decide) hK
  rcases ite_inv hF with ⟨h24, hF⟩ | ⟨h24, hF⟩
  · have hK : qX l G RX7 "commandSteeple" cX7_commandSteeple 5 (some .boolean) [] rmX7_commandSteeple 0 0 (.inl (some (.int ro), so, n)) 0 0 σ n 84 [(0, .ref b), (1, .int p0), (2, .int p1), (3, .int p2), (4, .int p3)] [] := by
      refine x_iload_n 85 3 dX7_commandSteeple_84 rfl rfl ?_
      obtain ⟨x16, s17, h23, hF⟩ := b2_inv hF
      have hJ : qX l G RX7 "commandSteeple" cX7_commandSteeple 5 (some .boolean) [] rmX7_commandSteeple 0 0 (.inl (some (.int ro), so, n)) 0 0 s17 n 111 [] [.int x16] := by
        obtain ⟨hz, hF⟩ := ite_none hF
        cases hF
        exact x_zret rfl (by rcases hz with h | h <;> rw [h] <;> rfl) rfl (by decide) (by decide) dX7_commandSteeple_111
      have hF := h23
      rcases ite_inv hF with ⟨hc, hF⟩ | ⟨hc, hF⟩
      · refine x_if_ne 110 88 dX7_commandSteeple_85 (by decide) rfl (fun q => absurd hc q) (fun _ => ?_)
        refine x_iload 90 4 dX7_commandSteeple_88 rfl rfl ?_
        rcases ite_inv hF with ⟨hc, hF⟩ | ⟨hc, hF⟩
        · refine x_if_le 110 93 dX7_commandSteeple_90 (by decide) rfl (fun _ => ?_) (fun q => absurd hc q)
          refine x_iconst 111 (0 : Int32) dX7_commandSteeple_110 rfl (by decide) ?_
          obtain ⟨e1, e2⟩ := so2 hF
          subst e1
          subst e2
          refine x_sub [] [] rfl ?_
          exact hJ
        · refine x_if_le 110 93 dX7_commandSteeple_90 (by decide) rfl (fun q => absurd q hc) (fun _ => ?_)
          refine x_aload_n 94 0 dX7_commandSteeple_93 rfl rfl ?_
          obtain ⟨r18, h19, hF⟩ := b1_inv hF
          refine x_getR 97 4 inX7 rfl (by decide) wd_929 h19 dX7_commandSteeple_94 rfl ?_
          refine x_iload_n 98 2 dX7_commandSteeple_97 rfl rfl ?_
          refine x_iload 100 4 dX7_commandSteeple_98 rfl rfl ?_
          obtain ⟨v21, s22, h20, hF⟩ := b2_inv hF
          refine x_callS (As := [.ref r18, .int p1, .int p3]) (rest := []) 103 0 0 (mX7_surveyOn hst r18 p1 p3 σ n v21 s22 h20) qyX7_surveyOn wd_1048 wd_1049 rfl rfl (by decide) (Nat.le_of_ble_eq_true rfl) (by decide) dX7_commandSteeple_100 rfl rfl rfl rfl ?_
          rcases ite_inv hF with ⟨hc, hF⟩ | ⟨hc, hF⟩
          · refine x_if_lt 110 106 dX7_commandSteeple_103 (by decide) rfl (fun _ => ?_) (fun q => absurd hc q)
            refine x_iconst 111 (0 : Int32) dX7_commandSteeple_110 rfl (by decide) ?_
            obtain ⟨e1, e2⟩ := so2 hF
            subst e1
            subst e2
            refine x_sub [] [] rfl ?_
            exact hJ
          · refine x_if_lt 110 106 dX7_commandSteeple_103 (by decide) rfl (fun q => absurd q hc) (fun _ => ?_)
            refine x_iconst 107 (1 : Int32) dX7_commandSteeple_106 rfl (by decide) ?_
            refine x_goto 111 dX7_commandSteeple_107 (by decide) ?_
            obtain ⟨e1, e2⟩ := so2 hF
            subst e1
            subst e2
            refine x_sub [] [] rfl ?_
            exact hJ
      · refine x_if_ne 110 88 dX7_commandSteeple_85 (by decide) rfl (fun _ => ?_) (fun q => absurd q hc)
        refine x_iconst 111 (0 : Int32) dX7_commandSteeple_110 rfl (by decide) ?_
        obtain ⟨e1, e2⟩ := so2 hF
        subst e1
        subst e2
        refine x_sub [] [] rfl ?_
        exact hJ
    · exact x_lookup (83) 84 dX7_commandSteeple_1 (by decide) (by rw [h24]; decide) (by decide) hK
  rcases ite_inv hF with ⟨h31, hF⟩ | ⟨h31, hF⟩
  · have hK : qX l G RX7 "commandSteeple" cX7_commandSteeple 5 (some .boolean) [] rmX7_commandSteeple 0 0 (.inl (some (.int ro), so, n)) 0 0 σ n 112 [(0, .ref b), (1, .int p0), (2, .int p1), (3, .int p2), (4, .int p3)] [] := by
      refine x_iload_n 113 3 dX7_commandSteeple_112 rfl rfl ?_
      obtain ⟨x25, h30, hF⟩ := b1_inv hF
      have hJ : qX l G RX7 "commandSteeple" cX7_commandSteeple 5 (some .boolean) [] rmX7_commandSteeple 0 0 (.inl (some (.int ro), so, n)) 0 0 σ n 134 [] [.int x25] := by
        obtain ⟨hz, hF⟩ := ite_none hF
        cases hF
        exact x_zret rfl (by rcases hz with h | h <;> rw [h] <;> rfl) rfl (by decide) (by decide) dX7_commandSteeple_134
      have hF := h30
      rcases ite_inv hF with ⟨hc, hF⟩ | ⟨hc, hF⟩
      · refine x_if_ne 133 116 dX7_commandSteeple_113 (by decide) rfl (fun q => absurd hc q) (fun _ => ?_)
        refine x_aload_n 117 0 dX7_commandSteeple_116 rfl rfl ?_
        obtain ⟨r26, h27, hF⟩ := b1_inv hF
        refine x_getR 120 4 inX7 rfl (by decide) wd_929 h27 dX7_commandSteeple_117 rfl ?_
        refine x_iload_n 121 2 dX7_commandSteeple_120 rfl rfl ?_
        obtain ⟨v29, h28, hF⟩ := b1_inv hF
        refine x_callS (As := [.ref r26, .int p1]) (rest := []) 124 0 0 (mX7_lowestBest hst r26 p1 σ n v29 h28) qyX7_lowestBest wd_1113 wd_1114 rfl rfl (by decide) (Nat.le_of_ble_eq_true rfl) (by decide) dX7_commandSteeple_121 rfl rfl rfl rfl ?_
        refine x_iload 126 4 dX7_commandSteeple_124 rfl rfl ?_
        rcases ite_inv hF with ⟨hc, hF⟩ | ⟨hc, hF⟩
        · refine x_icmp_gt 133 129 dX7_commandSteeple_126 (by decide) rfl (fun _ => ?_) (fun q => absurd hc q)
          refine x_iconst 134 (0 : Int32) dX7_commandSteeple_133 rfl (by decide) ?_
          have e1 := Option.some.inj hF
          subst e1
          refine x_sub [] [] rfl ?_
          exact hJ
        · refine x_icmp_gt 133 129 dX7_commandSteeple_126 (by decide) rfl (fun q => absurd q hc) (fun _ => ?_)
          refine x_iconst 130 (1 : Int32) dX7_commandSteeple_129 rfl (by decide) ?_
          refine x_goto 134 dX7_commandSteeple_130 (by decide) ?_
          have e1 := Option.some.inj hF
          subst e1
          refine x_sub [] [] rfl ?_
          exact hJ
      · refine x_if_ne 133 116 dX7_commandSteeple_113 (by decide) rfl (fun _ => ?_) (fun q => absurd q hc)
        refine x_iconst 134 (0 : Int32) dX7_commandSteeple_133 rfl (by decide) ?_
        have e1 := Option.some.inj hF
        subst e1
        refine x_sub [] [] rfl ?_
        exact hJ
    · exact x_lookup (111) 112 dX7_commandSteeple_1 (by decide) (by rw [h31]; decide) (by decide) hK
  have hK : qX l G RX7 "commandSteeple" cX7_commandSteeple 5 (some .boolean) [] rmX7_commandSteeple 0 0 (.inl (some (.int ro), so, n)) 0 0 σ n 135 [(0, .ref b), (1, .int p0), (2, .int p1), (3, .int p2), (4, .int p3)] [] := by
    refine x_iload 137 4 dX7_commandSteeple_135 rfl rfl ?_
    refine x_bipush 139 (100 : Int32) dX7_commandSteeple_137 rfl (by decide) ?_
    refine x_irem 140 (by decide) dX7_commandSteeple_139 rfl ?_
    obtain ⟨x32, h37, hF⟩ := b1_inv hF
    have hJ : qX l G RX7 "commandSteeple" cX7_commandSteeple 5 (some .boolean) [] rmX7_commandSteeple 0 0 (.inl (some (.int ro), so, n)) 0 0 σ n 170 [] [.int x32] := by
      obtain ⟨hz, hF⟩ := ite_none hF
      cases hF
      exact x_zret rfl (by rcases hz with h | h <;> rw [h] <;> rfl) rfl (by decide) (by decide) dX7_commandSteeple_170
    have hF := h37
    rcases ite_inv hF with ⟨hc, hF⟩ | ⟨hc, hF⟩
    · refine x_if_ne 169 143 dX7_commandSteeple_140 (by decide) rfl (fun q => absurd hc q) (fun _ => ?_)
      refine x_aload_n 144 0 dX7_commandSteeple_143 rfl rfl ?_
      obtain ⟨r33, h34, hF⟩ := b1_inv hF
      refine x_getR 147 4 inX7 rfl (by decide) wd_929 h34 dX7_commandSteeple_144 rfl ?_
      refine x_iload_n 148 2 dX7_commandSteeple_147 rfl rfl ?_
      refine x_iconst 149 (2 : Int32) dX7_commandSteeple_148 rfl (by decide) ?_
      obtain ⟨v36, h35, hF⟩ := b1_inv hF
      refine x_callS (As := [.ref r33, .int p1, .int (2 : Int32)]) (rest := []) 152 0 0 (mX7_bestOf hst r33 p1 (2 : Int32) σ n v36 h35) qyX7_bestOf wd_1110 wd_1111 rfl rfl (by decide) (Nat.le_of_ble_eq_true rfl) (by decide) dX7_commandSteeple_149 rfl rfl rfl rfl ?_
      refine x_bipush 154 (10 : Int32) dX7_commandSteeple_152 rfl (by decide) ?_
      refine x_iload_n 155 3 dX7_commandSteeple_154 rfl rfl ?_
      refine x_imul 156 dX7_commandSteeple_155 rfl ?_
      refine x_iload 158 4 dX7_commandSteeple_156 rfl rfl ?_
      refine x_bipush 160 (100 : Int32) dX7_commandSteeple_158 rfl (by decide) ?_
      refine x_idiv 161 (by decide) dX7_commandSteeple_160 rfl ?_
      refine x_iadd 162 dX7_commandSteeple_161 rfl ?_
      rcases ite_inv hF with ⟨hc, hF⟩ | ⟨hc, hF⟩
      · refine x_icmp_lt 169 165 dX7_commandSteeple_162 (by decide) rfl (fun _ => ?_) (fun q => absurd hc q)
        refine x_iconst 170 (0 : Int32) dX7_commandSteeple_169 rfl (by decide) ?_
        have e1 := Option.some.inj hF
        subst e1
        refine x_sub [] [] rfl ?_
        exact hJ
      · refine x_icmp_lt 169 165 dX7_commandSteeple_162 (by decide) rfl (fun q => absurd q hc) (fun _ => ?_)
        refine x_iconst 166 (1 : Int32) dX7_commandSteeple_165 rfl (by decide) ?_
        refine x_goto 170 dX7_commandSteeple_166 (by decide) ?_
        have e1 := Option.some.inj hF
        subst e1
        refine x_sub [] [] rfl ?_
        exact hJ
    · refine x_if_ne 169 143 dX7_commandSteeple_140 (by decide) rfl (fun _ => ?_) (fun q => absurd q hc)
      refine x_iconst 170 (0 : Int32) dX7_commandSteeple_169 rfl (by decide) ?_
      have e1 := Option.some.inj hF
      subst e1
      refine x_sub [] [] rfl ?_
      exact hJ
  have h15z := i32_ne (z := 1) h15 (by decide)
  have h24z := i32_ne (z := 5) h24 (by decide)
  have h31z := i32_ne (z := 6) h31 (by decide)
  exact x_lookup (134) 135 dX7_commandSteeple_1 (by decide) (lk_3 h15z h24z h31z) (by decide) hK
def rmX7_command : Room := { frames := 7, cells := 0, slots := 0, locals := 165 }
theorem qyX7_command : qY yX7_command cX7_command 6 (some .boolean) 2 := ⟨wd_1195, wd_32, by decide +kernel, by decide +kernel, by decide +kernel⟩
set_option maxHeartbeats 4000000 in
set_option maxRecDepth 100000 in
theorem mX7_command_L182 {l : Launch} {G : qG} (hst : l.stackTraces = false) (a0 : Nat) (a2 : Int32) (n : Option Nat) (r : qR) : ∀ (q : Nat) (y5 : Int32) (σ : qH) (so : qH), FX7_command_L182 a0 a2 q y5 σ = some so → qX l G RX7 "command" cX7_command 6 (some .boolean) [] rmX7_command 0 0 r 0 0 so n 208 [(2, .int a2)] [] → qX l G RX7 "command" cX7_command 6 (some .boolean) [] rmX7_command 0 0 r 0 0 σ n 182 [(0, .ref a0), (2, .int a2), (5, .int y5)] [] := by
  intro q
  induction q with
  | zero => intro y5 σ so hF; rw [FX7_command_L182] at hF; cases hF
  | succ q ih =>
    intro y5 σ so hF hJ
    rw [FX7_command_L182] at hF
    refine x_iload 184 2 dX7_command_182 rfl rfl ?_
    refine x_iload_n 185 1 dX7_command_184 rfl rfl ?_
    rcases ite_inv hF with ⟨hc, hF⟩ | ⟨hc, hF⟩
    · refine x_icmp_ge 208 188 dX7_command_185 (by decide) rfl (fun _ => ?_) (fun q => absurd hc q)
      have e1 := Option.some.inj hF
      subst e1
      refine x_sub [(2, .int a2)] [1] rfl ?_
      exact hJ
    · refine x_icmp_ge 208 188 dX7_command_185 (by decide) rfl (fun q => absurd q hc) (fun _ => ?_)
      refine x_iload_n 189 1 dX7_command_188 rfl rfl ?_
      refine x_bipush 191 (10 : Int32) dX7_command_189 rfl (by decide) ?_
      rcases ite_inv hF with ⟨hc, hF⟩ | ⟨hc, hF⟩
      · refine x_icmp_ge 208 194 dX7_command_191 (by decide) rfl (fun _ => ?_) (fun q => absurd hc q)
        have e1 := Option.some.inj hF
        subst e1
        refine x_sub [(2, .int a2)] [1] rfl ?_
        exact hJ
      · refine x_icmp_ge 208 194 dX7_command_191 (by decide) rfl (fun q => absurd q hc) (fun _ => ?_)
        refine x_aload_n 195 0 dX7_command_194 rfl rfl ?_
        obtain ⟨r34, h35, hF⟩ := b1_inv hF
        refine x_getR 198 4 inX7 rfl (by decide) wd_929 h35 dX7_command_195 rfl ?_
        obtain ⟨v37, s38, h36, hF⟩ := b2_inv hF
        refine x_callS (As := [.ref r34]) (rest := []) 201 0 0 (mX7_eveningOn hst r34 σ n v37 s38 h36) qyX7_eveningOn wd_1024 wd_1025 rfl rfl (by decide) (Nat.le_of_ble_eq_true rfl) (by decide) dX7_command_198 rfl rfl rfl rfl ?_
        refine x_pop 202 rfl dX7_command_201 rfl ?_
        refine x_iinc 205 5 2 (y5 + (1 : Int32)) [(5, .int (y5 + (1 : Int32))), (0, .ref a0), (2, .int a2)] dX7_command_202 rfl rfl rfl (by decide) rfl ?_
        refine x_goto 182 dX7_command_205 (by decide) ?_
        refine x_sub [(0, .ref a0), (2, .int a2), (5, .int (y5 + (1 : Int32)))] [1, 2, 0] rfl ?_
        exact ih _ _ _ hF hJ
theorem kX7_command {b : Nat} {p0 : Int32} {p1 : Int32} {σ : qH} {o : Int32 × qH} (h : FX7_command b p0 p1 σ = some o) : ∃ fs : List Value, True ∧ σ b = some (.inr (5, fs)) := by
  unfold FX7_command at h
  obtain ⟨_, h1, _⟩ := b1_inv h
  obtain ⟨fs, h2⟩ := gC_inv h1
  exact ⟨fs, trivial, h2⟩
set_option maxHeartbeats 4000000 in
set_option maxRecDepth 100000 in
theorem mX7_command {l : Launch} {G : qG} (hst : l.stackTraces = false) (b : Nat) (p0 : Int32) (p1 : Int32) (σ : qH) (n : Option Nat) (ro : Int32) (so : qH) (hF : FX7_command b p0 p1 σ = some (ro, so)) : qM l G yX7_command cX7_command 6 (some .boolean) rmX7_command [.ref b, .int p0, .int p1] σ n (.inl (some (.int ro), so, n)) := by
  refine q_body (own := RX7) (nm := "command") (ls := [(0, .ref b), (1, .int p0), (2, .int p1)]) hst (by decide +kernel) rfl rfl (Nat.le_of_ble_eq_true rfl) rfl rfl rfl ?_
  unfold FX7_command at hF
  obtain ⟨_, hC, hF⟩ := b1_inv hF
  refine x_iload_n 1 2 dX7_command_0 rfl rfl ?_
  refine x_sipush 4 (10000 : Int32) dX7_command_1 rfl (by decide) ?_
  refine x_idiv 5 (by decide) dX7_command_4 rfl ?_
  refine x_istore_n 6 3 [(3, .int (p1 / (10000 : Int32))), (0, .ref b), (1, .int p0), (2, .int p1)] dX7_command_5 rfl rfl (by decide) rfl ?_
  refine x_iload_n 7 3 dX7_command_6 rfl rfl ?_
  refine x_bipush 9 (10 : Int32) dX7_command_7 rfl (by decide) ?_
  refine x_irem 10 (by decide) dX7_command_9 rfl ?_
  refine x_istore 12 4 [(4, .int (irm p1 (10 : Int32))), (3, .int (p1 / (10000 : Int32))), (0, .ref b), (1, .int p0), (2, .int p1)] dX7_command_10 rfl (by decide) rfl ?_
  refine x_iload_n 13 3 dX7_command_12 rfl rfl ?_
  rcases ite_inv hF with ⟨h9, hF⟩ | ⟨h9, hF⟩
  · have hK : qX l G RX7 "command" cX7_command 6 (some .boolean) [] rmX7_command 0 0 (.inl (some (.int ro), so, n)) 0 0 σ n 64 [(4, .int (irm p1 (10 : Int32))), (3, .int (p1 / (10000 : Int32))), (0, .ref b), (1, .int p0), (2, .int p1)] [] := by
      refine x_iload_n 65 1 dX7_command_64 rfl rfl ?_
      obtain ⟨v2, h1, hF⟩ := b1_inv hF
      refine x_callS (As := [.int (p1 / (10000 : Int32))]) (rest := []) 68 0 0 (mX7_isSteeple hst (p1 / (10000 : Int32)) σ n v2 h1) qyX7_isSteeple wd_1095 wd_1096 rfl rfl (by decide) (Nat.le_of_ble_eq_true rfl) (by decide) dX7_command_65 rfl rfl rfl rfl ?_
      obtain ⟨x3, s4, h8, hF⟩ := b2_inv hF
      have hJ : qX l G RX7 "command" cX7_command 6 (some .boolean) [] rmX7_command 0 0 (.inl (some (.int ro), so, n)) 0 0 s4 n 98 [] [.int x3] := by
        obtain ⟨hz, hF⟩ := ite_none hF
        cases hF
        exact x_zret rfl (by rcases hz with h | h <;> rw [h] <;> rfl) rfl (by decide) (by decide) dX7_command_98
      have hF := h8
      rcases ite_inv hF with ⟨hc, hF⟩ | ⟨hc, hF⟩
      · refine x_if_eq 97 71 dX7_command_68 (by decide) rfl (fun _ => ?_) (fun q => absurd hc q)
        refine x_iconst 98 (0 : Int32) dX7_command_97 rfl (by decide) ?_
        obtain ⟨e1, e2⟩ := so2 hF
        subst e1
        subst e2
        refine x_sub [] [] rfl ?_
        exact hJ
      · refine x_if_eq 97 71 dX7_command_68 (by decide) rfl (fun q => absurd q hc) (fun _ => ?_)
        refine x_aload_n 72 2 dX7_command_71 rfl rfl ?_
        refine x_iload_n 73 3 dX7_command_72 rfl rfl ?_
        refine x_iload_n 74 1 dX7_command_73 rfl rfl ?_
        refine x_iload_n 75 4 dX7_command_74 rfl rfl ?_
        refine x_sipush 78 (1000 : Int32) dX7_command_75 rfl (by decide) ?_
        refine x_idiv 79 (by decide) dX7_command_78 rfl ?_
        refine x_bipush 81 (10 : Int32) dX7_command_79 rfl (by decide) ?_
        refine x_irem 82 (by decide) dX7_command_81 rfl ?_
        refine x_iload_n 83 4 dX7_command_82 rfl rfl ?_
        refine x_sipush 86 (1000 : Int32) dX7_command_83 rfl (by decide) ?_
        refine x_irem 87 (by decide) dX7_command_86 rfl ?_
        obtain ⟨v6, s7, h5, hF⟩ := b2_inv hF
        obtain ⟨fs, hb⟩ : ∃ fs : List Value, True ∧ σ b = some (.inr (5, fs)) := kX7_commandSteeple h5
        refine x_callV (As := [.int p0, .int (p1 / (10000 : Int32)), .int (irm (p1 / (1000 : Int32)) (10 : Int32)), .int (irm p1 (1000 : Int32))]) (rest := []) 90 0 0 (mX7_commandSteeple hst b p0 (p1 / (10000 : Int32)) (irm (p1 / (1000 : Int32)) (10 : Int32)) (irm p1 (1000 : Int32)) σ n v6 s7 h5) qyX7_commandSteeple wd_1196 wd_1198 wd_24 hb.2 rfl rfl rfl (by decide) (Nat.le_of_ble_eq_true rfl) (by decide) dX7_command_87 rfl rfl rfl rfl ?_
        rcases ite_inv hF with ⟨hc, hF⟩ | ⟨hc, hF⟩
        · refine x_if_eq 97 93 dX7_command_90 (by decide) rfl (fun _ => ?_) (fun q => absurd hc q)
          refine x_iconst 98 (0 : Int32) dX7_command_97 rfl (by decide) ?_
          obtain ⟨e1, e2⟩ := so2 hF
          subst e1
          subst e2
          refine x_sub [] [] rfl ?_
          exact hJ
        · refine x_if_eq 97 93 dX7_command_90 (by decide) rfl (fun q => absurd q hc) (fun _ => ?_)
          refine x_iconst 94 (1 : Int32) dX7_command_93 rfl (by decide) ?_
          refine x_goto 98 dX7_command_94 (by decide) ?_
          obtain ⟨e1, e2⟩ := so2 hF
          subst e1
          subst e2
          refine x_sub [] [] rfl ?_
          exact hJ
    rcases h9 with h9 | h9 | h9 | h9
    · exact x_tableIn (51) 64 dX7_command_13 (by rw [h9]; decide) (by rw [h9]; decide) (by rw [h9]; decide) (by decide) hK
    · exact x_tableIn (51) 64 dX7_command_13 (by rw [h9]; decide) (by rw [h9]; decide) (by rw [h9]; decide) (by decide) hK
    · exact x_tableIn (51) 64 dX7_command_13 (by rw [h9]; decide) (by rw [h9]; decide) (by rw [h9]; decide) (by decide) hK
    · exact x_tableIn (51) 64 dX7_command_13 (by rw [h9]; decide) (by rw [h9]; decide) (by rw [h9]; decide) (by decide) hK
  rcases ite_inv hF with ⟨h22, hF⟩ | ⟨h22, hF⟩
  · have hK : qX l G RX7 "command" cX7_command 6 (some .boolean) [] rmX7_command 0 0 (.inl (some (.int ro), so, n)) 0 0 σ n 99 [(4, .int (irm p1 (10 : Int32))), (3, .int (p1 / (10000 : Int32))), (0, .ref b), (1, .int p0), (2, .int p1)] [] := by
      refine x_iload_n 100 4 dX7_command_99 rfl rfl ?_
      refine x_sipush 103 (1000 : Int32) dX7_command_100 rfl (by decide) ?_
      refine x_irem 104 (by decide) dX7_command_103 rfl ?_
      obtain ⟨x10, s11, h21, hF⟩ := b2_inv hF
      have hJ : qX l G RX7 "command" cX7_command 6 (some .boolean) [] rmX7_command 0 0 (.inl (some (.int ro), so, n)) 0 0 s11 n 142 [] [.int x10] := by
        obtain ⟨hz, hF⟩ := ite_none hF
        cases hF
        exact x_zret rfl (by rcases hz with h | h <;> rw [h] <;> rfl) rfl (by decide) (by decide) dX7_command_142
      have hF := h21
      rcases ite_inv hF with ⟨hc, hF⟩ | ⟨hc, hF⟩
      · refine x_if_ne 141 107 dX7_command_104 (by decide) rfl (fun q => absurd hc q) (fun _ => ?_)
        refine x_aload_n 108 2 dX7_command_107 rfl rfl ?_
        obtain ⟨r12, h13, hF⟩ := b1_inv hF
        refine x_getR 111 4 inX7 rfl (by decide) wd_929 h13 dX7_command_108 rfl ?_
        refine x_iload_n 112 4 dX7_command_111 rfl rfl ?_
        refine x_sipush 115 (1000 : Int32) dX7_command_112 rfl (by decide) ?_
        refine x_idiv 116 (by decide) dX7_command_115 rfl ?_
        obtain ⟨v15, h14, hF⟩ := b1_inv hF
        refine x_callS (As := [.ref r12, .int (p1 / (1000 : Int32))]) (rest := []) 119 0 0 (mX7_isMeasure hst r12 (p1 / (1000 : Int32)) σ n v15 h14) qyX7_isMeasure wd_1015 wd_1016 rfl rfl (by decide) (Nat.le_of_ble_eq_true rfl) (by decide) dX7_command_116 rfl rfl rfl rfl ?_
        rcases ite_inv hF with ⟨hc, hF⟩ | ⟨hc, hF⟩
        · refine x_if_eq 141 122 dX7_command_119 (by decide) rfl (fun _ => ?_) (fun q => absurd hc q)
          refine x_iconst 142 (0 : Int32) dX7_command_141 rfl (by decide) ?_
          obtain ⟨e1, e2⟩ := so2 hF
          subst e1
          subst e2
          refine x_sub [] [] rfl ?_
          exact hJ
        · refine x_if_eq 141 122 dX7_command_119 (by decide) rfl (fun q => absurd q hc) (fun _ => ?_)
          refine x_aload_n 123 2 dX7_command_122 rfl rfl ?_
          obtain ⟨r16, h17, hF⟩ := b1_inv hF
          refine x_getR 126 4 inX7 rfl (by decide) wd_929 h17 dX7_command_123 rfl ?_
          refine x_iload_n 127 4 dX7_command_126 rfl rfl ?_
          refine x_sipush 130 (1000 : Int32) dX7_command_127 rfl (by decide) ?_
          refine x_idiv 131 (by decide) dX7_command_130 rfl ?_
          obtain ⟨v19, s20, h18, hF⟩ := b2_inv hF
          refine x_callS (As := [.ref r16, .int (p1 / (1000 : Int32))]) (rest := []) 134 0 0 (mX7_dropOn hst r16 (p1 / (1000 : Int32)) σ n v19 s20 h18) qyX7_dropOn wd_1018 wd_1019 rfl rfl (by decide) (Nat.le_of_ble_eq_true rfl) (by decide) dX7_command_131 rfl rfl rfl rfl ?_
          rcases ite_inv hF with ⟨hc, hF⟩ | ⟨hc, hF⟩
          · refine x_if_lt 141 137 dX7_command_134 (by decide) rfl (fun _ => ?_) (fun q => absurd hc q)
            refine x_iconst 142 (0 : Int32) dX7_command_141 rfl (by decide) ?_
            obtain ⟨e1, e2⟩ := so2 hF
            subst e1
            subst e2
            refine x_sub [] [] rfl ?_
            exact hJ
          · refine x_if_lt 141 137 dX7_command_134 (by decide) rfl (fun q => absurd q hc) (fun _ => ?_)
            refine x_iconst 138 (1 : Int32) dX7_command_137 rfl (by decide) ?_
            refine x_goto 142 dX7_command_138 (by decide) ?_
            obtain ⟨e1, e2⟩ := so2 hF
            subst e1
            subst e2
            refine x_sub [] [] rfl ?_
            exact hJ
      · refine x_if_ne 141 107 dX7_command_104 (by decide) rfl (fun _ => ?_) (fun q => absurd q hc)
        refine x_iconst 142 (0 : Int32) dX7_command_141 rfl (by decide) ?_
        obtain ⟨e1, e2⟩ := so2 hF
        subst e1
        subst e2
        refine x_sub [] [] rfl ?_
        exact hJ
    · exact x_tableIn (86) 99 dX7_command_13 (by rw [h22]; decide) (by rw [h22]; decide) (by rw [h22]; decide) (by decide) hK
  rcases ite_inv hF with ⟨h33, hF⟩ | ⟨h33, hF⟩
  · have hK : qX l G RX7 "command" cX7_command 6 (some .boolean) [] rmX7_command 0 0 (.inl (some (.int ro), so, n)) 0 0 σ n 143 [(4, .int (irm p1 (10 : Int32))), (3, .int (p1 / (10000 : Int32))), (0, .ref b), (1, .int p0), (2, .int p1)] [] := by
      refine x_iload_n 144 4 dX7_command_143 rfl rfl ?_
      refine x_sipush 147 (10000 : Int32) dX7_command_144 rfl (by decide) ?_
      refine x_irem 148 (by decide) dX7_command_147 rfl ?_
      refine x_bipush 150 (10 : Int32) dX7_command_148 rfl (by decide) ?_
      obtain ⟨x23, s24, h32, hF⟩ := b2_inv hF
      have hJ : qX l G RX7 "command" cX7_command 6 (some .boolean) [] rmX7_command 0 0 (.inl (some (.int ro), so, n)) 0 0 s24 n 178 [] [.int x23] := by
        obtain ⟨hz, hF⟩ := ite_none hF
        cases hF
        exact x_zret rfl (by rcases hz with h | h <;> rw [h] <;> rfl) rfl (by decide) (by decide) dX7_command_178
      have hF := h32
      rcases ite_inv hF with ⟨hc, hF⟩ | ⟨hc, hF⟩
      · refine x_icmp_ge 177 153 dX7_command_150 (by decide) rfl (fun _ => ?_) (fun q => absurd hc q)
        refine x_iconst 178 (0 : Int32) dX7_command_177 rfl (by decide) ?_
        obtain ⟨e1, e2⟩ := so2 hF
        subst e1
        subst e2
        refine x_sub [] [] rfl ?_
        exact hJ
      · refine x_icmp_ge 177 153 dX7_command_150 (by decide) rfl (fun q => absurd q hc) (fun _ => ?_)
        refine x_iload_n 154 1 dX7_command_153 rfl rfl ?_
        obtain ⟨v26, h25, hF⟩ := b1_inv hF
        refine x_callS (As := [.int (p1 / (10000 : Int32))]) (rest := []) 157 0 0 (mX7_isTeller hst (p1 / (10000 : Int32)) σ n v26 h25) qyX7_isTeller wd_1086 wd_1087 rfl rfl (by decide) (Nat.le_of_ble_eq_true rfl) (by decide) dX7_command_154 rfl rfl rfl rfl ?_
        rcases ite_inv hF with ⟨hc, hF⟩ | ⟨hc, hF⟩
        · refine x_if_eq 177 160 dX7_command_157 (by decide) rfl (fun _ => ?_) (fun q => absurd hc q)
          refine x_iconst 178 (0 : Int32) dX7_command_177 rfl (by decide) ?_
          obtain ⟨e1, e2⟩ := so2 hF
          subst e1
          subst e2
          refine x_sub [] [] rfl ?_
          exact hJ
        · refine x_if_eq 177 160 dX7_command_157 (by decide) rfl (fun q => absurd q hc) (fun _ => ?_)
          refine x_aload_n 161 2 dX7_command_160 rfl rfl ?_
          obtain ⟨r27, h28, hF⟩ := b1_inv hF
          refine x_getR 164 4 inX7 rfl (by decide) wd_929 h28 dX7_command_161 rfl ?_
          refine x_iload_n 165 1 dX7_command_164 rfl rfl ?_
          refine x_iload 167 0 dX7_command_165 rfl rfl ?_
          obtain ⟨v30, s31, h29, hF⟩ := b2_inv hF
          refine x_callS (As := [.ref r27, .int (p1 / (10000 : Int32)), .int (irm p1 (10 : Int32))]) (rest := []) 170 0 0 (mX7_trustOn hst r27 (p1 / (10000 : Int32)) (irm p1 (10 : Int32)) σ n v30 s31 h29) qyX7_trustOn wd_1021 wd_1022 rfl rfl (by decide) (Nat.le_of_ble_eq_true rfl) (by decide) dX7_command_167 rfl rfl rfl rfl ?_
          rcases ite_inv hF with ⟨hc, hF⟩ | ⟨hc, hF⟩
          · refine x_if_lt 177 173 dX7_command_170 (by decide) rfl (fun _ => ?_) (fun q => absurd hc q)
            refine x_iconst 178 (0 : Int32) dX7_command_177 rfl (by decide) ?_
            obtain ⟨e1, e2⟩ := so2 hF
            subst e1
            subst e2
            refine x_sub [] [] rfl ?_
            exact hJ
          · refine x_if_lt 177 173 dX7_command_170 (by decide) rfl (fun q => absurd q hc) (fun _ => ?_)
            refine x_iconst 174 (1 : Int32) dX7_command_173 rfl (by decide) ?_
            refine x_goto 178 dX7_command_174 (by decide) ?_
            obtain ⟨e1, e2⟩ := so2 hF
            subst e1
            subst e2
            refine x_sub [] [] rfl ?_
            exact hJ
    · exact x_tableIn (130) 143 dX7_command_13 (by rw [h33]; decide) (by rw [h33]; decide) (by rw [h33]; decide) (by decide) hK
  rcases ite_inv hF with ⟨h43, hF⟩ | ⟨h43, hF⟩
  · have hK : qX l G RX7 "command" cX7_command 6 (some .boolean) [] rmX7_command 0 0 (.inl (some (.int ro), so, n)) 0 0 σ n 179 [(4, .int (irm p1 (10 : Int32))), (3, .int (p1 / (10000 : Int32))), (0, .ref b), (1, .int p0), (2, .int p1)] [] := by
      refine x_iconst 180 (0 : Int32) dX7_command_179 rfl (by decide) ?_
      refine x_istore 182 5 [(5, .int (0 : Int32)), (4, .int (irm p1 (10 : Int32))), (3, .int (p1 / (10000 : Int32))), (0, .ref b), (1, .int p0), (2, .int p1)] dX7_command_180 rfl (by decide) rfl ?_
      obtain ⟨s39, h42, hF⟩ := b1_inv hF
      have hJ : qX l G RX7 "command" cX7_command 6 (some .boolean) [] rmX7_command 0 0 (.inl (some (.int ro), so, n)) 0 0 s39 n 208 [(2, .int p1)] [] := by
        refine x_iload_n 209 0 dX7_command_208 rfl rfl ?_
        refine x_bipush 211 (10 : Int32) dX7_command_209 rfl (by decide) ?_
        obtain ⟨x40, h41, hF⟩ := b1_inv hF
        have hJ : qX l G RX7 "command" cX7_command 6 (some .boolean) [] rmX7_command 0 0 (.inl (some (.int ro), so, n)) 0 0 s39 n 219 [] [.int x40] := by
          obtain ⟨hz, hF⟩ := ite_none hF
          cases hF
          exact x_zret rfl (by rcases hz with h | h <;> rw [h] <;> rfl) rfl (by decide) (by decide) dX7_command_219
        have hF := h41
        rcases ite_inv hF with ⟨hc, hF⟩ | ⟨hc, hF⟩
        · refine x_icmp_ge 218 214 dX7_command_211 (by decide) rfl (fun _ => ?_) (fun q => absurd hc q)
          refine x_iconst 219 (0 : Int32) dX7_command_218 rfl (by decide) ?_
          have e1 := Option.some.inj hF
          subst e1
          refine x_sub [] [] rfl ?_
          exact hJ
        · refine x_icmp_ge 218 214 dX7_command_211 (by decide) rfl (fun q => absurd q hc) (fun _ => ?_)
          refine x_iconst 215 (1 : Int32) dX7_command_214 rfl (by decide) ?_
          refine x_goto 219 dX7_command_215 (by decide) ?_
          have e1 := Option.some.inj hF
          subst e1
          refine x_sub [] [] rfl ?_
          exact hJ
      refine x_sub [(0, .ref b), (2, .int p1), (5, .int (0 : Int32))] [3, 5, 0] rfl ?_
      exact mX7_command_L182 hst b p1 n _ qfuel (0 : Int32) σ s39 h42 hJ
    · exact x_tableIn (166) 179 dX7_command_13 (by rw [h43]; decide) (by rw [h43]; decide) (by rw [h43]; decide) (by decide) hK
  rcases ite_inv hF with ⟨h52, hF⟩ | ⟨h52, hF⟩
  · have hK : qX l G RX7 "command" cX7_command 6 (some .boolean) [] rmX7_command 0 0 (.inl (some (.int ro), so, n)) 0 0 σ n 220 [(4, .int (irm p1 (10 : Int32))), (3, .int (p1 / (10000 : Int32))), (0, .ref b), (1, .int p0), (2, .int p1)] [] := by
      refine x_iload_n 221 4 dX7_command_220 rfl rfl ?_
      refine x_sipush 224 (10000 : Int32) dX7_command_221 rfl (by decide) ?_
      refine x_irem 225 (by decide) dX7_command_224 rfl ?_
      refine x_bipush 227 (10 : Int32) dX7_command_225 rfl (by decide) ?_
      obtain ⟨x44, h51, hF⟩ := b1_inv hF
      have hJ : qX l G RX7 "command" cX7_command 6 (some .boolean) [] rmX7_command 0 0 (.inl (some (.int ro), so, n)) 0 0 σ n 256 [] [.int x44] := by
        obtain ⟨hz, hF⟩ := ite_none hF
        cases hF
        exact x_zret rfl (by rcases hz with h | h <;> rw [h] <;> rfl) rfl (by decide) (by decide) dX7_command_256
      have hF := h51
      rcases ite_inv hF with ⟨hc, hF⟩ | ⟨hc, hF⟩
      · refine x_icmp_ge 255 230 dX7_command_227 (by decide) rfl (fun _ => ?_) (fun q => absurd hc q)
        refine x_iconst 256 (0 : Int32) dX7_command_255 rfl (by decide) ?_
        have e1 := Option.some.inj hF
        subst e1
        refine x_sub [] [] rfl ?_
        exact hJ
      · refine x_icmp_ge 255 230 dX7_command_227 (by decide) rfl (fun q => absurd q hc) (fun _ => ?_)
        refine x_iload_n 231 1 dX7_command_230 rfl rfl ?_
        obtain ⟨v46, h45, hF⟩ := b1_inv hF
        refine x_callS (As := [.int (p1 / (10000 : Int32))]) (rest := []) 234 0 0 (mX7_isTeller hst (p1 / (10000 : Int32)) σ n v46 h45) qyX7_isTeller wd_1086 wd_1087 rfl rfl (by decide) (Nat.le_of_ble_eq_true rfl) (by decide) dX7_command_231 rfl rfl rfl rfl ?_
        rcases ite_inv hF with ⟨hc, hF⟩ | ⟨hc, hF⟩
        · refine x_if_eq 255 237 dX7_command_234 (by decide) rfl (fun _ => ?_) (fun q => absurd hc q)
          refine x_iconst 256 (0 : Int32) dX7_command_255 rfl (by decide) ?_
          have e1 := Option.some.inj hF
          subst e1
          refine x_sub [] [] rfl ?_
          exact hJ
        · refine x_if_eq 255 237 dX7_command_234 (by decide) rfl (fun q => absurd q hc) (fun _ => ?_)
          refine x_aload_n 238 2 dX7_command_237 rfl rfl ?_
          obtain ⟨r47, h48, hF⟩ := b1_inv hF
          refine x_getR 241 4 inX7 rfl (by decide) wd_929 h48 dX7_command_238 rfl ?_
          refine x_bipush 243 (9 : Int32) dX7_command_241 rfl (by decide) ?_
          refine x_iload_n 244 1 dX7_command_243 rfl rfl ?_
          refine x_iadd 245 dX7_command_244 rfl ?_
          obtain ⟨v49, h50, hF⟩ := b1_inv hF
          refine x_aI 246 h50 dX7_command_245 rfl ?_
          refine x_iload 248 0 dX7_command_246 rfl rfl ?_
          rcases ite_inv hF with ⟨hc, hF⟩ | ⟨hc, hF⟩
          · refine x_icmp_lt 255 251 dX7_command_248 (by decide) rfl (fun _ => ?_) (fun q => absurd hc q)
            refine x_iconst 256 (0 : Int32) dX7_command_255 rfl (by decide) ?_
            have e1 := Option.some.inj hF
            subst e1
            refine x_sub [] [] rfl ?_
            exact hJ
          · refine x_icmp_lt 255 251 dX7_command_248 (by decide) rfl (fun q => absurd q hc) (fun _ => ?_)
            refine x_iconst 252 (1 : Int32) dX7_command_251 rfl (by decide) ?_
            refine x_goto 256 dX7_command_252 (by decide) ?_
            have e1 := Option.some.inj hF
            subst e1
            refine x_sub [] [] rfl ?_
            exact hJ
    · exact x_tableIn (207) 220 dX7_command_13 (by rw [h52]; decide) (by rw [h52]; decide) (by rw [h52]; decide) (by decide) hK
  rcases ite_inv hF with ⟨h59, hF⟩ | ⟨h59, hF⟩
  · have hK : qX l G RX7 "command" cX7_command 6 (some .boolean) [] rmX7_command 0 0 (.inl (some (.int ro), so, n)) 0 0 σ n 257 [(4, .int (irm p1 (10 : Int32))), (3, .int (p1 / (10000 : Int32))), (0, .ref b), (1, .int p0), (2, .int p1)] [] := by
      refine x_iload_n 258 4 dX7_command_257 rfl rfl ?_
      refine x_bipush 260 (100 : Int32) dX7_command_258 rfl (by decide) ?_
      obtain ⟨x53, h58, hF⟩ := b1_inv hF
      have hJ : qX l G RX7 "command" cX7_command 6 (some .boolean) [] rmX7_command 0 0 (.inl (some (.int ro), so, n)) 0 0 σ n 280 [] [.int x53] := by
        obtain ⟨hz, hF⟩ := ite_none hF
        cases hF
        exact x_zret rfl (by rcases hz with h | h <;> rw [h] <;> rfl) rfl (by decide) (by decide) dX7_command_280
      have hF := h58
      rcases ite_inv hF with ⟨hc, hF⟩ | ⟨hc, hF⟩
      · refine x_icmp_ge 279 263 dX7_command_260 (by decide) rfl (fun _ => ?_) (fun q => absurd hc q)
        refine x_iconst 280 (0 : Int32) dX7_command_279 rfl (by decide) ?_
        have e1 := Option.some.inj hF
        subst e1
        refine x_sub [] [] rfl ?_
        exact hJ
      · refine x_icmp_ge 279 263 dX7_command_260 (by decide) rfl (fun q => absurd q hc) (fun _ => ?_)
        refine x_aload_n 264 2 dX7_command_263 rfl rfl ?_
        obtain ⟨r54, h55, hF⟩ := b1_inv hF
        refine x_getR 267 4 inX7 rfl (by decide) wd_929 h55 dX7_command_264 rfl ?_
        refine x_iconst 268 (0 : Int32) dX7_command_267 rfl (by decide) ?_
        obtain ⟨v57, h56, hF⟩ := b1_inv hF
        refine x_callS (As := [.ref r54, .int (0 : Int32)]) (rest := []) 271 0 0 (mX7_pairs hst r54 (0 : Int32) σ n v57 h56) qyX7_pairs wd_1068 wd_1069 rfl rfl (by decide) (Nat.le_of_ble_eq_true rfl) (by decide) dX7_command_268 rfl rfl rfl rfl ?_
        refine x_iload_n 272 4 dX7_command_271 rfl rfl ?_
        rcases ite_inv hF with ⟨hc, hF⟩ | ⟨hc, hF⟩
        · refine x_icmp_gt 279 275 dX7_command_272 (by decide) rfl (fun _ => ?_) (fun q => absurd hc q)
          refine x_iconst 280 (0 : Int32) dX7_command_279 rfl (by decide) ?_
          have e1 := Option.some.inj hF
          subst e1
          refine x_sub [] [] rfl ?_
          exact hJ
        · refine x_icmp_gt 279 275 dX7_command_272 (by decide) rfl (fun q => absurd q hc) (fun _ => ?_)
          refine x_iconst 276 (1 : Int32) dX7_command_275 rfl (by decide) ?_
          refine x_goto 280 dX7_command_276 (by decide) ?_
          have e1 := Option.some.inj hF
          subst e1
          refine x_sub [] [] rfl ?_
          exact hJ
    · exact x_tableIn (244) 257 dX7_command_13 (by rw [h59]; decide) (by rw [h59]; decide) (by rw [h59]; decide) (by decide) hK
  have hK : qX l G RX7 "command" cX7_command 6 (some .boolean) [] rmX7_command 0 0 (.inl (some (.int ro), so, n)) 0 0 σ n 281 [(4, .int (irm p1 (10 : Int32))), (3, .int (p1 / (10000 : Int32))), (0, .ref b), (1, .int p0), (2, .int p1)] [] := by
    refine x_iconst 282 (0 : Int32) dX7_command_281 rfl (by decide) ?_
    cases hF
    exact x_zret rfl rfl rfl (by decide) (by decide) dX7_command_282
  have h60 : ¬ p0 = (1 : Int32) := fun z => h9 (by simp [z])
  have h61 : ¬ p0 = (5 : Int32) := fun z => h9 (by simp [z])
  have h62 : ¬ p0 = (6 : Int32) := fun z => h9 (by simp [z])
  have h63 : ¬ p0 = (7 : Int32) := fun z => h9 (by simp [z])
  have h60z := i32_ne (z := 1) h60 (by decide)
  have h61z := i32_ne (z := 5) h61 (by decide)
  have h62z := i32_ne (z := 6) h62 (by decide)
  have h63z := i32_ne (z := 7) h63 (by decide)
  have h22z := i32_ne (z := 2) h22 (by decide)
  have h33z := i32_ne (z := 3) h33 (by decide)
  have h43z := i32_ne (z := 4) h43 (by decide)
  have h52z := i32_ne (z := 8) h52 (by decide)
  have h59z := i32_ne (z := 9) h59 (by decide)
  exact x_tableOut 281 dX7_command_13 (by omega) (by decide) hK
def rmX7_runScript : Room := { frames := 8, cells := 0, slots := 0, locals := 190 }
theorem qyX7_runScript : qY yX7_runScript cX7_runScript 8 (some .int) 2 := ⟨wd_1188, wd_32, by decide +kernel, by decide +kernel, by decide +kernel⟩
set_option maxHeartbeats 4000000 in
set_option maxRecDepth 100000 in
theorem mX7_runScript_L6 {l : Launch} {G : qG} (hst : l.stackTraces = false) (a0 : Nat) (a1 : Int32) (a2 : Int64) (σ : qH) (n : Option Nat) (r : qR) : ∀ (q : Nat) (y4 : Int64) (y6 : Int32) (o4 : Int64), FX7_runScript_L6 a0 a1 a2 σ q y4 y6 = some o4 → qX l G RX7 "runScript" cX7_runScript 8 (some .int) [] rmX7_runScript 0 0 r 0 0 σ n 32 [(0, .ref a0), (1, .int a1), (2, .long a2), (4, .long o4)] [] → qX l G RX7 "runScript" cX7_runScript 8 (some .int) [] rmX7_runScript 0 0 r 0 0 σ n 6 [(0, .ref a0), (1, .int a1), (2, .long a2), (4, .long y4), (6, .int y6)] [] := by
  intro q
  induction q with
  | zero => intro y4 y6 o4 hF; rw [FX7_runScript_L6] at hF; cases hF
  | succ q ih =>
    intro y4 y6 o4 hF hJ
    rw [FX7_runScript_L6] at hF
    refine x_iload 8 4 dX7_runScript_6 rfl rfl ?_
    refine x_iload_n 9 1 dX7_runScript_8 rfl rfl ?_
    rcases ite_inv hF with ⟨hc, hF⟩ | ⟨hc, hF⟩
    · refine x_icmp_ge 32 12 dX7_runScript_9 (by decide) rfl (fun _ => ?_) (fun q => absurd hc q)
      have e1 := Option.some.inj hF
      subst e1
      refine x_sub [(0, .ref a0), (1, .int a1), (2, .long a2), (4, .long y4)] [0, 1, 2, 3] rfl ?_
      exact hJ
    · refine x_icmp_ge 32 12 dX7_runScript_9 (by decide) rfl (fun q => absurd q hc) (fun _ => ?_)
      refine x_iload 14 4 dX7_runScript_12 rfl rfl ?_
      refine x_iconst 15 (3 : Int32) dX7_runScript_14 rfl (by decide) ?_
      rcases ite_inv hF with ⟨hc, hF⟩ | ⟨hc, hF⟩
      · refine x_icmp_ge 32 18 dX7_runScript_15 (by decide) rfl (fun _ => ?_) (fun q => absurd hc q)
        have e1 := Option.some.inj hF
        subst e1
        refine x_sub [(0, .ref a0), (1, .int a1), (2, .long a2), (4, .long y4)] [0, 1, 2, 3] rfl ?_
        exact hJ
      · refine x_icmp_ge 32 18 dX7_runScript_15 (by decide) rfl (fun q => absurd q hc) (fun _ => ?_)
        refine x_lload 20 3 dX7_runScript_18 rfl rfl ?_
        refine x_ldc2 23 (1000000 : Int64) wd_1189 dX7_runScript_20 rfl ?_
        refine x_lmul 24 dX7_runScript_23 rfl ?_
        refine x_lstore 26 4 [(4, .long (y4 * (1000000 : Int64))), (0, .ref a0), (1, .int a1), (2, .long a2), (6, .int y6)] dX7_runScript_24 rfl (by decide) rfl ?_
        refine x_iinc 29 6 4 (y6 + (1 : Int32)) [(6, .int (y6 + (1 : Int32))), (4, .long (y4 * (1000000 : Int64))), (0, .ref a0), (1, .int a1), (2, .long a2)] dX7_runScript_26 rfl rfl rfl (by decide) rfl ?_
        refine x_goto 6 dX7_runScript_29 (by decide) ?_
        refine x_sub [(0, .ref a0), (1, .int a1), (2, .long a2), (4, .long (y4 * (1000000 : Int64))), (6, .int (y6 + (1 : Int32)))] [2, 3, 4, 1, 0] rfl ?_
        exact ih _ _ _ hF hJ
set_option maxHeartbeats 4000000 in
set_option maxRecDepth 100000 in
theorem mX7_runScript_L86 {l : Launch} {G : qG} (hst : l.stackTraces = false) (a0 : Nat) (a1 : Int32) (a2 : Int64) (n : Option Nat) (rf : Int32 × qH → qR) (hrf : ∀ v : Int32, ∀ σ : qH, rf (v, σ) = .inl (some (.int v), σ, n)) : ∀ (q : Nat) (y4 : Int64) (y6 : Int32) (σ : qH) (o : Int32 × qH), FX7_runScript_L86 a0 a1 a2 q y4 y6 σ = some o → qX l G RX7 "runScript" cX7_runScript 8 (some .int) [] rmX7_runScript 0 0 (rf o) 0 0 σ n 86 [(0, .ref a0), (1, .int a1), (2, .long a2), (4, .long y4), (6, .int y6)] [] := by
  intro q
  induction q with
  | zero => intro y4 y6 σ o hF; rw [FX7_runScript_L86] at hF; cases hF
  | succ q ih =>
    intro y4 y6 σ o hF
    rw [FX7_runScript_L86] at hF
    refine x_iload 88 4 dX7_runScript_86 rfl rfl ?_
    refine x_iload_n 89 1 dX7_runScript_88 rfl rfl ?_
    rcases ite_inv hF with ⟨hc, hF⟩ | ⟨hc, hF⟩
    · refine x_icmp_ge 137 92 dX7_runScript_89 (by decide) rfl (fun _ => ?_) (fun q => absurd hc q)
      refine x_iconst 138 (-1 : Int32) dX7_runScript_137 rfl (by decide) ?_
      cases hF
      exact x_iret rfl (hrf _ _) (by decide) (by decide) dX7_runScript_138
    · refine x_icmp_ge 137 92 dX7_runScript_89 (by decide) rfl (fun q => absurd q hc) (fun _ => ?_)
      refine x_lload 94 3 dX7_runScript_92 rfl rfl ?_
      refine x_ldc2 97 (1000000 : Int64) wd_1189 dX7_runScript_94 rfl ?_
      refine x_ldiv 98 (by decide) dX7_runScript_97 rfl ?_
      refine x_lstore 100 4 [(4, .long (y4 / (1000000 : Int64))), (0, .ref a0), (1, .int a1), (2, .long a2), (6, .int y6)] dX7_runScript_98 rfl (by decide) rfl ?_
      refine x_lload_n 101 3 dX7_runScript_100 rfl rfl ?_
      refine x_lload 103 0 dX7_runScript_101 rfl rfl ?_
      obtain ⟨h16, hF⟩ := ite_else hF
      refine x_ldiv 104 h16 dX7_runScript_103 rfl ?_
      refine x_ldc2 107 (1000000 : Int64) wd_1189 dX7_runScript_104 rfl ?_
      refine x_lrem 108 (by decide) dX7_runScript_107 rfl ?_
      refine x_l2i 109 dX7_runScript_108 rfl ?_
      refine x_istore 111 7 [(7, .int ((lrm (a2 / (y4 / (1000000 : Int64))) (1000000 : Int64))).toInt32), (4, .long (y4 / (1000000 : Int64))), (0, .ref a0), (1, .int a1), (2, .long a2), (6, .int y6)] dX7_runScript_109 rfl (by decide) rfl ?_
      refine x_aload_n 112 2 dX7_runScript_111 rfl rfl ?_
      refine x_iload 114 0 dX7_runScript_112 rfl rfl ?_
      refine x_ldc 116 (100000 : Int32) wd_1191 dX7_runScript_114 rfl ?_
      refine x_idiv 117 (by decide) dX7_runScript_116 rfl ?_
      refine x_iload 119 0 dX7_runScript_117 rfl rfl ?_
      refine x_ldc 121 (100000 : Int32) wd_1191 dX7_runScript_119 rfl ?_
      refine x_irem 122 (by decide) dX7_runScript_121 rfl ?_
      obtain ⟨v18, s19, h17, hF⟩ := b2_inv hF
      obtain ⟨fs, hb⟩ : ∃ fs : List Value, True ∧ σ a0 = some (.inr (5, fs)) := kX7_command h17
      refine x_callV (As := [.int (((lrm (a2 / (y4 / (1000000 : Int64))) (1000000 : Int64))).toInt32 / (100000 : Int32)), .int (irm ((lrm (a2 / (y4 / (1000000 : Int64))) (1000000 : Int64))).toInt32 (100000 : Int32))]) (rest := []) 125 0 0 (mX7_command hst a0 (((lrm (a2 / (y4 / (1000000 : Int64))) (1000000 : Int64))).toInt32 / (100000 : Int32)) (irm ((lrm (a2 / (y4 / (1000000 : Int64))) (1000000 : Int64))).toInt32 (100000 : Int32)) σ n v18 s19 h17) qyX7_command wd_1192 wd_1194 wd_23 hb.2 rfl rfl rfl (by decide) (Nat.le_of_ble_eq_true rfl) (by decide) dX7_runScript_122 rfl rfl rfl rfl ?_
      rcases ite_inv hF with ⟨hc, hF⟩ | ⟨hc, hF⟩
      · refine x_if_ne 131 128 dX7_runScript_125 (by decide) rfl (fun q => absurd hc q) (fun _ => ?_)
        refine x_iload 130 5 dX7_runScript_128 rfl rfl ?_
        cases hF
        exact x_iret rfl (hrf _ _) (by decide) (by decide) dX7_runScript_130
      · refine x_if_ne 131 128 dX7_runScript_125 (by decide) rfl (fun _ => ?_) (fun q => absurd q hc)
        refine x_iinc 134 6 5 (y6 + (1 : Int32)) [(6, .int (y6 + (1 : Int32))), (7, .int ((lrm (a2 / (y4 / (1000000 : Int64))) (1000000 : Int64))).toInt32), (4, .long (y4 / (1000000 : Int64))), (0, .ref a0), (1, .int a1), (2, .long a2)] dX7_runScript_131 rfl rfl rfl (by decide) rfl ?_
        refine x_goto 86 dX7_runScript_134 (by decide) ?_
        refine x_sub [(0, .ref a0), (1, .int a1), (2, .long a2), (4, .long (y4 / (1000000 : Int64))), (6, .int (y6 + (1 : Int32)))] [3, 4, 5, 2, 0] rfl ?_
        exact ih _ _ _ _ hF
theorem kX7_runScript {b : Nat} {p0 : Int32} {p1 : Int64} {σ : qH} {o : Int32 × qH} (h : FX7_runScript b p0 p1 σ = some o) : ∃ fs : List Value, True ∧ σ b = some (.inr (5, fs)) := by
  unfold FX7_runScript at h
  obtain ⟨_, h1, _⟩ := b1_inv h
  obtain ⟨fs, h2⟩ := gC_inv h1
  exact ⟨fs, trivial, h2⟩
set_option maxHeartbeats 4000000 in
set_option maxRecDepth 100000 in
theorem mX7_runScript {l : Launch} {G : qG} (hst : l.stackTraces = false) (b : Nat) (p0 : Int32) (p1 : Int64) (σ : qH) (n : Option Nat) (ro : Int32) (so : qH) (hF : FX7_runScript b p0 p1 σ = some (ro, so)) : qM l G yX7_runScript cX7_runScript 8 (some .int) rmX7_runScript [.ref b, .int p0, .long p1] σ n (.inl (some (.int ro), so, n)) := by
  refine q_body (own := RX7) (nm := "runScript") (ls := [(0, .ref b), (1, .int p0), (2, .long p1)]) hst (by decide +kernel) rfl rfl (Nat.le_of_ble_eq_true rfl) rfl rfl rfl ?_
  unfold FX7_runScript at hF
  obtain ⟨_, hC, hF⟩ := b1_inv hF
  refine x_lconst 1 (1 : Int64) dX7_runScript_0 rfl (by decide) ?_
  refine x_lstore 3 4 [(4, .long (1 : Int64)), (0, .ref b), (1, .int p0), (2, .long p1)] dX7_runScript_1 rfl (by decide) rfl ?_
  refine x_iconst 4 (0 : Int32) dX7_runScript_3 rfl (by decide) ?_
  refine x_istore 6 6 [(6, .int (0 : Int32)), (4, .long (1 : Int64)), (0, .ref b), (1, .int p0), (2, .long p1)] dX7_runScript_4 rfl (by decide) rfl ?_
  obtain ⟨x1, h21, hF⟩ := b1_inv hF
  have hJ : qX l G RX7 "runScript" cX7_runScript 8 (some .int) [] rmX7_runScript 0 0 (.inl (some (.int ro), so, n)) 0 0 σ n 32 [(0, .ref b), (1, .int p0), (2, .long p1), (4, .long x1)] [] := by
    refine x_aload_n 33 0 dX7_runScript_32 rfl rfl ?_
    refine x_iload_n 34 1 dX7_runScript_33 rfl rfl ?_
    refine x_i2l 35 dX7_runScript_34 rfl ?_
    refine x_lconst 36 (1 : Int64) dX7_runScript_35 rfl (by decide) ?_
    refine x_ldc2 39 (3 : Int64) wd_1190 dX7_runScript_36 rfl ?_
    obtain ⟨v3, h2, hF⟩ := b1_inv hF
    refine x_callS (As := [.long (p0).toInt64, .long (1 : Int64), .long (3 : Int64)]) (rest := [.ref b]) 42 0 0 (mX7_in hst (p0).toInt64 (1 : Int64) (3 : Int64) σ n v3 h2) qyX7_in wd_968 wd_969 rfl rfl (by decide) (Nat.le_of_ble_eq_true rfl) (by decide) dX7_runScript_39 rfl rfl rfl rfl ?_
    obtain ⟨x4, h20, hF⟩ := b1_inv hF
    have hJ : qX l G RX7 "runScript" cX7_runScript 8 (some .int) [] rmX7_runScript 0 0 (.inl (some (.int ro), so, n)) 0 0 σ n 62 [(0, .ref b), (1, .int p0), (2, .long p1), (4, .long x1)] [.int x4, .ref b] := by
      obtain ⟨v8, s9, h7, hF⟩ := b2_inv hF
      obtain ⟨fs, hb⟩ : ∃ fs : List Value, True ∧ σ b = some (.inr (5, fs)) := kX7_refused h7
      refine x_callV (As := [.int x4]) (rest := []) 65 0 0 (mX7_refused hst b x4 σ n v8 s9 h7) qyX7_refused wd_971 wd_973 wd_16 hb.2 rfl rfl rfl (by decide) (Nat.le_of_ble_eq_true rfl) (by decide) dX7_runScript_62 rfl rfl rfl rfl ?_
      rcases ite_inv hF with ⟨hc, hF⟩ | ⟨hc, hF⟩
      · refine x_if_eq 70 68 dX7_runScript_65 (by decide) rfl (fun _ => ?_) (fun q => absurd hc q)
        refine x_aload_n 71 0 dX7_runScript_70 rfl rfl ?_
        obtain ⟨r10, h11, hF⟩ := b1_inv hF
        refine x_getR 74 3 inX7 rfl (by decide) wd_928 h11 dX7_runScript_71 rfl ?_
        refine x_iconst 75 (0 : Int32) dX7_runScript_74 rfl (by decide) ?_
        refine x_aload_n 76 0 dX7_runScript_75 rfl rfl ?_
        obtain ⟨r12, h13, hF⟩ := b1_inv hF
        refine x_getR 79 4 inX7 rfl (by decide) wd_929 h13 dX7_runScript_76 rfl ?_
        refine x_iconst 80 (0 : Int32) dX7_runScript_79 rfl (by decide) ?_
        obtain ⟨s15, h14, hF⟩ := b1_inv hF
        refine x_callS (As := [.ref r10, .int (0 : Int32), .ref r12, .int (0 : Int32)]) (rest := []) 83 0 0 (mX7_copyState hst r10 (0 : Int32) r12 (0 : Int32) s9 n s15 h14) qyX7_copyState wd_1061 wd_1062 rfl rfl (by decide) (Nat.le_of_ble_eq_true rfl) (by decide) dX7_runScript_80 rfl rfl rfl rfl ?_
        refine x_iconst 84 (0 : Int32) dX7_runScript_83 rfl (by decide) ?_
        refine x_istore 86 6 [(6, .int (0 : Int32)), (0, .ref b), (1, .int p0), (2, .long p1), (4, .long x1)] dX7_runScript_84 rfl (by decide) rfl ?_
        refine x_sub [(0, .ref b), (1, .int p0), (2, .long p1), (4, .long x1), (6, .int (0 : Int32))] [1, 2, 3, 4, 0] rfl ?_
        exact mX7_runScript_L86 hst b p0 p1 n (fun v9 : Int32 × qH => .inl (some (.int v9.1), v9.2, n)) (fun _ _ => rfl) qfuel x1 (0 : Int32) s15 _ hF
      · refine x_if_eq 70 68 dX7_runScript_65 (by decide) rfl (fun q => absurd q hc) (fun _ => ?_)
        refine x_iconst 69 (0 : Int32) dX7_runScript_68 rfl (by decide) ?_
        cases hF
        exact x_iret rfl rfl (by decide) (by decide) dX7_runScript_69
    have hF := h20
    rcases ite_inv hF with ⟨hc, hF⟩ | ⟨hc, hF⟩
    · refine x_if_eq 61 45 dX7_runScript_42 (by decide) rfl (fun _ => ?_) (fun q => absurd hc q)
      refine x_iconst 62 (1 : Int32) dX7_runScript_61 rfl (by decide) ?_
      have e1 := Option.some.inj hF
      subst e1
      exact hJ
    · refine x_if_eq 61 45 dX7_runScript_42 (by decide) rfl (fun q => absurd q hc) (fun _ => ?_)
      refine x_lload_n 46 2 dX7_runScript_45 rfl rfl ?_
      refine x_lconst 47 (0 : Int64) dX7_runScript_46 rfl (by decide) ?_
      refine x_lload 49 3 dX7_runScript_47 rfl rfl ?_
      refine x_lconst 50 (1 : Int64) dX7_runScript_49 rfl (by decide) ?_
      refine x_lsub 51 dX7_runScript_50 rfl ?_
      obtain ⟨v6, h5, hF⟩ := b1_inv hF
      refine x_callS (As := [.long p1, .long (0 : Int64), .long (x1 - (1 : Int64))]) (rest := [.ref b]) 54 0 0 (mX7_in hst p1 (0 : Int64) (x1 - (1 : Int64)) σ n v6 h5) qyX7_in wd_968 wd_969 rfl rfl (by decide) (Nat.le_of_ble_eq_true rfl) (by decide) dX7_runScript_51 rfl rfl rfl rfl ?_
      rcases ite_inv hF with ⟨hc, hF⟩ | ⟨hc, hF⟩
      · refine x_if_eq 61 57 dX7_runScript_54 (by decide) rfl (fun _ => ?_) (fun q => absurd hc q)
        refine x_iconst 62 (1 : Int32) dX7_runScript_61 rfl (by decide) ?_
        have e1 := Option.some.inj hF
        subst e1
        exact hJ
      · refine x_if_eq 61 57 dX7_runScript_54 (by decide) rfl (fun q => absurd q hc) (fun _ => ?_)
        refine x_iconst 58 (0 : Int32) dX7_runScript_57 rfl (by decide) ?_
        refine x_goto 62 dX7_runScript_58 (by decide) ?_
        have e1 := Option.some.inj hF
        subst e1
        exact hJ
  refine x_sub [(0, .ref b), (1, .int p0), (2, .long p1), (4, .long (1 : Int64)), (6, .int (0 : Int32))] [2, 3, 4, 1, 0] rfl ?_
  exact mX7_runScript_L6 hst b p0 p1 σ n _ qfuel (1 : Int64) (0 : Int32) x1 h21 hJ
def rmX7_turnOf : Room := { frames := 5, cells := 0, slots := 0, locals := 117 }
theorem qyX7_turnOf : qY yX7_turnOf cX7_turnOf 7 (none) 3 := ⟨wd_1208, wd_32, by decide +kernel, by decide +kernel, by decide +kernel⟩
set_option maxHeartbeats 4000000 in
set_option maxRecDepth 100000 in
theorem mX7_turnOf {l : Launch} {G : qG} (hst : l.stackTraces = false) (p0 : Nat) (p1 : Int32) (p2 : Int32) (σ : qH) (n : Option Nat) (so : qH) (hF : FX7_turnOf p0 p1 p2 σ = some so) : qM l G yX7_turnOf cX7_turnOf 7 (none) rmX7_turnOf [.ref p0, .int p1, .int p2] σ n (.inl (none, so, n)) := by
  refine q_body (own := RX7) (nm := "turnOf") (ls := [(0, .ref p0), (1, .int p1), (2, .int p2)]) hst (by decide +kernel) rfl rfl (Nat.le_of_ble_eq_true rfl) rfl rfl rfl ?_
  unfold FX7_turnOf at hF
  refine x_iload_n 1 2 dX7_turnOf_0 rfl rfl ?_
  refine x_iconst 2 (3 : Int32) dX7_turnOf_1 rfl (by decide) ?_
  refine x_irem 3 (by decide) dX7_turnOf_2 rfl ?_
  refine x_istore_n 4 3 [(3, .int (irm p2 (3 : Int32))), (0, .ref p0), (1, .int p1), (2, .int p2)] dX7_turnOf_3 rfl rfl (by decide) rfl ?_
  refine x_iload_n 5 3 dX7_turnOf_4 rfl rfl ?_
  refine x_iconst 6 (4 : Int32) dX7_turnOf_5 rfl (by decide) ?_
  refine x_idiv 7 (by decide) dX7_turnOf_6 rfl ?_
  refine x_bipush 9 (6 : Int32) dX7_turnOf_7 rfl (by decide) ?_
  refine x_irem 10 (by decide) dX7_turnOf_9 rfl ?_
  refine x_istore 12 4 [(4, .int (irm (p2 / (4 : Int32)) (6 : Int32))), (3, .int (irm p2 (3 : Int32))), (0, .ref p0), (1, .int p1), (2, .int p2)] dX7_turnOf_10 rfl (by decide) rfl ?_
  refine x_iload_n 13 3 dX7_turnOf_12 rfl rfl ?_
  refine x_bipush 15 (9 : Int32) dX7_turnOf_13 rfl (by decide) ?_
  obtain ⟨s1, h36, hF⟩ := b1_inv hF
  have hJ : qX l G RX7 "turnOf" cX7_turnOf 7 (none) [] rmX7_turnOf 0 0 (.inl (none, so, n)) 0 0 s1 n 299 [] [] := by
    cases hF
    exact x_vret rfl rfl (by decide) (by decide) dX7_turnOf_299
  have hF := h36
  rcases ite_inv hF with ⟨hc, hF⟩ | ⟨hc, hF⟩
  · refine x_icmp_ge 196 18 dX7_turnOf_15 (by decide) rfl (fun _ => ?_) (fun q => absurd hc q)
    refine x_iload_n 197 3 dX7_turnOf_196 rfl rfl ?_
    refine x_bipush 199 (9 : Int32) dX7_turnOf_197 rfl (by decide) ?_
    rcases ite_inv hF with ⟨hc, hF⟩ | ⟨hc, hF⟩
    · refine x_icmp_ne 225 202 dX7_turnOf_199 (by decide) rfl (fun q => absurd hc q) (fun _ => ?_)
      refine x_aload_n 203 2 dX7_turnOf_202 rfl rfl ?_
      refine x_iload_n 204 4 dX7_turnOf_203 rfl rfl ?_
      refine x_bipush 206 (16 : Int32) dX7_turnOf_204 rfl (by decide) ?_
      refine x_irem 207 (by decide) dX7_turnOf_206 rfl ?_
      obtain ⟨v3, h2, hF⟩ := b1_inv hF
      refine x_callS (As := [.ref p0, .int (irm p2 (16 : Int32))]) (rest := []) 210 0 0 (mX7_isMeasure hst p0 (irm p2 (16 : Int32)) σ n v3 h2) qyX7_isMeasure wd_1015 wd_1016 rfl rfl (by decide) (Nat.le_of_ble_eq_true rfl) (by decide) dX7_turnOf_207 rfl rfl rfl rfl ?_
      rcases ite_inv hF with ⟨hc, hF⟩ | ⟨hc, hF⟩
      · refine x_if_eq 299 213 dX7_turnOf_210 (by decide) rfl (fun _ => ?_) (fun q => absurd hc q)
        have e1 := Option.some.inj hF
        subst e1
        refine x_sub [] [] rfl ?_
        exact hJ
      · refine x_if_eq 299 213 dX7_turnOf_210 (by decide) rfl (fun q => absurd q hc) (fun _ => ?_)
        refine x_aload_n 214 2 dX7_turnOf_213 rfl rfl ?_
        refine x_iload_n 215 4 dX7_turnOf_214 rfl rfl ?_
        refine x_bipush 217 (16 : Int32) dX7_turnOf_215 rfl (by decide) ?_
        refine x_irem 218 (by decide) dX7_turnOf_217 rfl ?_
        obtain ⟨v5, s6, h4, hF⟩ := b2_inv hF
        refine x_callS (As := [.ref p0, .int (irm p2 (16 : Int32))]) (rest := []) 221 0 0 (mX7_dropOn hst p0 (irm p2 (16 : Int32)) σ n v5 s6 h4) qyX7_dropOn wd_1018 wd_1019 rfl rfl (by decide) (Nat.le_of_ble_eq_true rfl) (by decide) dX7_turnOf_218 rfl rfl rfl rfl ?_
        refine x_pop 222 rfl dX7_turnOf_221 rfl ?_
        refine x_goto 299 dX7_turnOf_222 (by decide) ?_
        have e1 := Option.some.inj hF
        subst e1
        refine x_sub [] [] rfl ?_
        exact hJ
    · refine x_icmp_ne 225 202 dX7_turnOf_199 (by decide) rfl (fun _ => ?_) (fun q => absurd q hc)
      refine x_iload_n 226 3 dX7_turnOf_225 rfl rfl ?_
      refine x_bipush 228 (13 : Int32) dX7_turnOf_226 rfl (by decide) ?_
      rcases ite_inv hF with ⟨hc, hF⟩ | ⟨hc, hF⟩
      · refine x_icmp_ge 239 231 dX7_turnOf_228 (by decide) rfl (fun _ => ?_) (fun q => absurd hc q)
        refine x_iload_n 240 3 dX7_turnOf_239 rfl rfl ?_
        refine x_bipush 242 (13 : Int32) dX7_turnOf_240 rfl (by decide) ?_
        rcases ite_inv hF with ⟨hc, hF⟩ | ⟨hc, hF⟩
        · refine x_icmp_le 264 245 dX7_turnOf_242 (by decide) rfl (fun _ => ?_) (fun q => absurd hc q)
          refine x_iload_n 265 4 dX7_turnOf_264 rfl rfl ?_
          refine x_bipush 267 (8 : Int32) dX7_turnOf_265 rfl (by decide) ?_
          refine x_idiv 268 (by decide) dX7_turnOf_267 rfl ?_
          refine x_iconst 269 (2 : Int32) dX7_turnOf_268 rfl (by decide) ?_
          refine x_irem 270 (by decide) dX7_turnOf_269 rfl ?_
          rcases ite_inv hF with ⟨hc, hF⟩ | ⟨hc, hF⟩
          · refine x_if_ne 286 273 dX7_turnOf_270 (by decide) rfl (fun q => absurd hc q) (fun _ => ?_)
            refine x_aload_n 274 2 dX7_turnOf_273 rfl rfl ?_
            refine x_iconst 275 (0 : Int32) dX7_turnOf_274 rfl (by decide) ?_
            refine x_iload_n 276 4 dX7_turnOf_275 rfl rfl ?_
            refine x_bipush 278 (6 : Int32) dX7_turnOf_276 rfl (by decide) ?_
            refine x_irem 279 (by decide) dX7_turnOf_278 rfl ?_
            obtain ⟨v8, s9, h7, hF⟩ := b2_inv hF
            refine x_callS (As := [.ref p0, .int (0 : Int32), .int (irm p2 (6 : Int32))]) (rest := []) 282 0 0 (mX7_change hst p0 (0 : Int32) (irm p2 (6 : Int32)) σ n v8 s9 h7) qyX7_change wd_1152 wd_1153 rfl rfl (by decide) (Nat.le_of_ble_eq_true rfl) (by decide) dX7_turnOf_279 rfl rfl rfl rfl ?_
            refine x_pop 283 rfl dX7_turnOf_282 rfl ?_
            refine x_goto 299 dX7_turnOf_283 (by decide) ?_
            have e1 := Option.some.inj hF
            subst e1
            refine x_sub [] [] rfl ?_
            exact hJ
          · refine x_if_ne 286 273 dX7_turnOf_270 (by decide) rfl (fun _ => ?_) (fun q => absurd q hc)
            refine x_aload_n 287 2 dX7_turnOf_286 rfl rfl ?_
            refine x_iconst 288 (1 : Int32) dX7_turnOf_287 rfl (by decide) ?_
            refine x_iload_n 289 4 dX7_turnOf_288 rfl rfl ?_
            refine x_bipush 291 (16 : Int32) dX7_turnOf_289 rfl (by decide) ?_
            refine x_idiv 292 (by decide) dX7_turnOf_291 rfl ?_
            refine x_bipush 294 (51 : Int32) dX7_turnOf_292 rfl (by decide) ?_
            refine x_irem 295 (by decide) dX7_turnOf_294 rfl ?_
            obtain ⟨v11, s12, h10, hF⟩ := b2_inv hF
            refine x_callS (As := [.ref p0, .int (1 : Int32), .int (irm (p2 / (16 : Int32)) (51 : Int32))]) (rest := []) 298 0 0 (mX7_change hst p0 (1 : Int32) (irm (p2 / (16 : Int32)) (51 : Int32)) σ n v11 s12 h10) qyX7_change wd_1152 wd_1153 rfl rfl (by decide) (Nat.le_of_ble_eq_true rfl) (by decide) dX7_turnOf_295 rfl rfl rfl rfl ?_
            refine x_pop 299 rfl dX7_turnOf_298 rfl ?_
            have e1 := Option.some.inj hF
            subst e1
            refine x_sub [] [] rfl ?_
            exact hJ
        · refine x_icmp_le 264 245 dX7_turnOf_242 (by decide) rfl (fun q => absurd q hc) (fun _ => ?_)
          refine x_aload_n 246 2 dX7_turnOf_245 rfl rfl ?_
          refine x_iload_n 247 1 dX7_turnOf_246 rfl rfl ?_
          refine x_iconst 248 (1 : Int32) dX7_turnOf_247 rfl (by decide) ?_
          refine x_iload_n 249 4 dX7_turnOf_248 rfl rfl ?_
          refine x_bipush 251 (32 : Int32) dX7_turnOf_249 rfl (by decide) ?_
          refine x_idiv 252 (by decide) dX7_turnOf_251 rfl ?_
          refine x_sipush 255 (999 : Int32) dX7_turnOf_252 rfl (by decide) ?_
          refine x_irem 256 (by decide) dX7_turnOf_255 rfl ?_
          refine x_iadd 257 dX7_turnOf_256 rfl ?_
          obtain ⟨v14, s15, h13, hF⟩ := b2_inv hF
          refine x_callS (As := [.ref p0, .int (irm p2 (3 : Int32)), .int ((1 : Int32) + (irm (p2 / (32 : Int32)) (999 : Int32)))]) (rest := []) 260 0 0 (mX7_surveyOn hst p0 (irm p2 (3 : Int32)) ((1 : Int32) + (irm (p2 / (32 : Int32)) (999 : Int32))) σ n v14 s15 h13) qyX7_surveyOn wd_1048 wd_1049 rfl rfl (by decide) (Nat.le_of_ble_eq_true rfl) (by decide) dX7_turnOf_257 rfl rfl rfl rfl ?_
          refine x_pop 261 rfl dX7_turnOf_260 rfl ?_
          refine x_goto 299 dX7_turnOf_261 (by decide) ?_
          have e1 := Option.some.inj hF
          subst e1
          refine x_sub [] [] rfl ?_
          exact hJ
      · refine x_icmp_ge 239 231 dX7_turnOf_228 (by decide) rfl (fun q => absurd q hc) (fun _ => ?_)
        refine x_aload_n 232 2 dX7_turnOf_231 rfl rfl ?_
        obtain ⟨v17, s18, h16, hF⟩ := b2_inv hF
        refine x_callS (As := [.ref p0]) (rest := []) 235 0 0 (mX7_eveningOn hst p0 σ n v17 s18 h16) qyX7_eveningOn wd_1024 wd_1025 rfl rfl (by decide) (Nat.le_of_ble_eq_true rfl) (by decide) dX7_turnOf_232 rfl rfl rfl rfl ?_
        refine x_pop 236 rfl dX7_turnOf_235 rfl ?_
        refine x_goto 299 dX7_turnOf_236 (by decide) ?_
        have e1 := Option.some.inj hF
        subst e1
        refine x_sub [] [] rfl ?_
        exact hJ
  · refine x_icmp_ge 196 18 dX7_turnOf_15 (by decide) rfl (fun q => absurd q hc) (fun _ => ?_)
    refine x_iload_n 19 3 dX7_turnOf_18 rfl rfl ?_
    refine x_iconst 20 (4 : Int32) dX7_turnOf_19 rfl (by decide) ?_
    obtain ⟨x19, h35, hF⟩ := b1_inv hF
    have hJ : qX l G RX7 "turnOf" cX7_turnOf 7 (none) [] rmX7_turnOf 0 0 (.inl (none, so, n)) 0 0 σ n 63 [(0, .ref p0), (1, .int p1), (2, .int p2), (3, .int (irm p2 (3 : Int32))), (4, .int (irm (p2 / (4 : Int32)) (6 : Int32)))] [.int x19] := by
      refine x_istore 65 5 [(5, .int x19), (0, .ref p0), (1, .int p1), (2, .int p2), (3, .int (irm p2 (3 : Int32))), (4, .int (irm (p2 / (4 : Int32)) (6 : Int32)))] dX7_turnOf_63 rfl (by decide) rfl ?_
      refine x_iload_n 66 2 dX7_turnOf_65 rfl rfl ?_
      refine x_iconst 67 (4 : Int32) dX7_turnOf_66 rfl (by decide) ?_
      obtain ⟨x20, h34, hF⟩ := b1_inv hF
      have hJ : qX l G RX7 "turnOf" cX7_turnOf 7 (none) [] rmX7_turnOf 0 0 (.inl (none, so, n)) 0 0 σ n 113 [(0, .ref p0), (1, .int p1), (2, .int p2), (3, .int (irm p2 (3 : Int32))), (4, .int (irm (p2 / (4 : Int32)) (6 : Int32))), (5, .int x19)] [.int x20] := by
        refine x_istore 115 6 [(6, .int x20), (0, .ref p0), (1, .int p1), (2, .int p2), (3, .int (irm p2 (3 : Int32))), (4, .int (irm (p2 / (4 : Int32)) (6 : Int32))), (5, .int x19)] dX7_turnOf_113 rfl (by decide) rfl ?_
        refine x_aload_n 116 1 dX7_turnOf_115 rfl rfl ?_
        refine x_iconst 117 (0 : Int32) dX7_turnOf_116 rfl (by decide) ?_
        obtain ⟨v21, h22, hF⟩ := b1_inv hF
        refine x_aI 118 h22 dX7_turnOf_117 rfl ?_
        refine x_bipush 120 (16 : Int32) dX7_turnOf_118 rfl (by decide) ?_
        obtain ⟨s23, h33, hF⟩ := b1_inv hF
        have hJ : qX l G RX7 "turnOf" cX7_turnOf 7 (none) [] rmX7_turnOf 0 0 (.inl (none, so, n)) 0 0 s23 n 193 [] [] := by
          refine x_goto 299 dX7_turnOf_193 (by decide) ?_
          have e1 := Option.some.inj hF
          subst e1
          exact hJ
        have hF := h33
        rcases ite_inv hF with ⟨hc, hF⟩ | ⟨hc, hF⟩
        · refine x_icmp_ge 193 123 dX7_turnOf_120 (by decide) rfl (fun _ => ?_) (fun q => absurd hc q)
          have e1 := Option.some.inj hF
          subst e1
          refine x_sub [] [] rfl ?_
          exact hJ
        · refine x_icmp_ge 193 123 dX7_turnOf_120 (by decide) rfl (fun q => absurd q hc) (fun _ => ?_)
          refine x_aload_n 124 1 dX7_turnOf_123 rfl rfl ?_
          refine x_iload_n 125 4 dX7_turnOf_124 rfl rfl ?_
          refine x_iload 127 5 dX7_turnOf_125 rfl rfl ?_
          refine x_iload_n 128 2 dX7_turnOf_127 rfl rfl ?_
          refine x_iconst 129 (4 : Int32) dX7_turnOf_128 rfl (by decide) ?_
          obtain ⟨x24, h32, hF⟩ := b1_inv hF
          have hJ : qX l G RX7 "turnOf" cX7_turnOf 7 (none) [] rmX7_turnOf 0 0 (.inl (none, so, n)) 0 0 σ n 147 [(1, .int p1), (2, .int p2), (5, .int x19), (6, .int x20)] [.int x24, .int (irm (p2 / (4 : Int32)) (6 : Int32)), .int (irm p2 (3 : Int32)), .ref p0] := by
            refine x_iload 149 2 dX7_turnOf_147 rfl rfl ?_
            refine x_iload 151 3 dX7_turnOf_149 rfl rfl ?_
            refine x_iload_n 152 0 dX7_turnOf_151 rfl rfl ?_
            refine x_bipush 154 (6 : Int32) dX7_turnOf_152 rfl (by decide) ?_
            obtain ⟨x25, h31, hF⟩ := b1_inv hF
            have hJ : qX l G RX7 "turnOf" cX7_turnOf 7 (none) [] rmX7_turnOf 0 0 (.inl (none, so, n)) 0 0 σ n 172 [(1, .int p1), (2, .int p2)] [.int x25, .int x20, .int x19, .int x24, .int (irm (p2 / (4 : Int32)) (6 : Int32)), .int (irm p2 (3 : Int32)), .ref p0] := by
              refine x_iload_n 173 0 dX7_turnOf_172 rfl rfl ?_
              refine x_bipush 175 (6 : Int32) dX7_turnOf_173 rfl (by decide) ?_
              obtain ⟨x26, h30, hF⟩ := b1_inv hF
              have hJ : qX l G RX7 "turnOf" cX7_turnOf 7 (none) [] rmX7_turnOf 0 0 (.inl (none, so, n)) 0 0 σ n 189 [] [.int x26, .int x25, .int x20, .int x19, .int x24, .int (irm (p2 / (4 : Int32)) (6 : Int32)), .int (irm p2 (3 : Int32)), .ref p0] := by
                obtain ⟨v28, s29, h27, hF⟩ := b2_inv hF
                refine x_callS (As := [.ref p0, .int (irm p2 (3 : Int32)), .int (irm (p2 / (4 : Int32)) (6 : Int32)), .int x24, .int x19, .int x20, .int x25, .int x26]) (rest := []) 192 0 0 (mX7_measureOn hst p0 (irm p2 (3 : Int32)) (irm (p2 / (4 : Int32)) (6 : Int32)) x24 x19 x20 x25 x26 σ n v28 s29 h27) qyX7_measureOn wd_1008 wd_1009 rfl rfl (by decide) (Nat.le_of_ble_eq_true rfl) (by decide) dX7_turnOf_189 rfl rfl rfl rfl ?_
                refine x_pop 193 rfl dX7_turnOf_192 rfl ?_
                have e1 := Option.some.inj hF
                subst e1
                exact hJ
              have hF := h30
              rcases ite_inv hF with ⟨hc, hF⟩ | ⟨hc, hF⟩
              · refine x_icmp_ge 188 178 dX7_turnOf_175 (by decide) rfl (fun _ => ?_) (fun q => absurd hc q)
                refine x_iconst 189 (0 : Int32) dX7_turnOf_188 rfl (by decide) ?_
                have e1 := Option.some.inj hF
                subst e1
                refine x_sub [] [] rfl ?_
                exact hJ
              · refine x_icmp_ge 188 178 dX7_turnOf_175 (by decide) rfl (fun q => absurd q hc) (fun _ => ?_)
                refine x_iload_n 179 1 dX7_turnOf_178 rfl rfl ?_
                refine x_bipush 181 (8 : Int32) dX7_turnOf_179 rfl (by decide) ?_
                refine x_idiv 182 (by decide) dX7_turnOf_181 rfl ?_
                refine x_bipush 184 (21 : Int32) dX7_turnOf_182 rfl (by decide) ?_
                refine x_irem 185 (by decide) dX7_turnOf_184 rfl ?_
                refine x_goto 189 dX7_turnOf_185 (by decide) ?_
                have e1 := Option.some.inj hF
                subst e1
                refine x_sub [] [] rfl ?_
                exact hJ
            have hF := h31
            rcases ite_inv hF with ⟨hc, hF⟩ | ⟨hc, hF⟩
            · refine x_icmp_ge 171 157 dX7_turnOf_154 (by decide) rfl (fun _ => ?_) (fun q => absurd hc q)
              refine x_iconst 172 (0 : Int32) dX7_turnOf_171 rfl (by decide) ?_
              have e1 := Option.some.inj hF
              subst e1
              refine x_sub [(1, .int p1), (2, .int p2)] [0, 1] rfl ?_
              exact hJ
            · refine x_icmp_ge 171 157 dX7_turnOf_154 (by decide) rfl (fun q => absurd q hc) (fun _ => ?_)
              refine x_iconst 158 (1 : Int32) dX7_turnOf_157 rfl (by decide) ?_
              refine x_iload_n 159 1 dX7_turnOf_158 rfl rfl ?_
              refine x_sipush 162 (256 : Int32) dX7_turnOf_159 rfl (by decide) ?_
              refine x_idiv 163 (by decide) dX7_turnOf_162 rfl ?_
              refine x_sipush 166 (400 : Int32) dX7_turnOf_163 rfl (by decide) ?_
              refine x_irem 167 (by decide) dX7_turnOf_166 rfl ?_
              refine x_iadd 168 dX7_turnOf_167 rfl ?_
              refine x_goto 172 dX7_turnOf_168 (by decide) ?_
              have e1 := Option.some.inj hF
              subst e1
              refine x_sub [(1, .int p1), (2, .int p2)] [0, 1] rfl ?_
              exact hJ
          have hF := h32
          rcases ite_inv hF with ⟨hc, hF⟩ | ⟨hc, hF⟩
          · refine x_icmp_ge 136 132 dX7_turnOf_129 (by decide) rfl (fun _ => ?_) (fun q => absurd hc q)
            refine x_iload_n 137 2 dX7_turnOf_136 rfl rfl ?_
            refine x_bipush 139 (6 : Int32) dX7_turnOf_137 rfl (by decide) ?_
            rcases ite_inv hF with ⟨hc, hF⟩ | ⟨hc, hF⟩
            · refine x_icmp_ge 146 142 dX7_turnOf_139 (by decide) rfl (fun _ => ?_) (fun q => absurd hc q)
              refine x_iconst 147 (2 : Int32) dX7_turnOf_146 rfl (by decide) ?_
              have e1 := Option.some.inj hF
              subst e1
              refine x_sub [(1, .int p1), (2, .int p2), (5, .int x19), (6, .int x20)] [2, 3, 6, 0] rfl ?_
              exact hJ
            · refine x_icmp_ge 146 142 dX7_turnOf_139 (by decide) rfl (fun q => absurd q hc) (fun _ => ?_)
              refine x_iconst 143 (1 : Int32) dX7_turnOf_142 rfl (by decide) ?_
              refine x_goto 147 dX7_turnOf_143 (by decide) ?_
              have e1 := Option.some.inj hF
              subst e1
              refine x_sub [(1, .int p1), (2, .int p2), (5, .int x19), (6, .int x20)] [2, 3, 6, 0] rfl ?_
              exact hJ
          · refine x_icmp_ge 136 132 dX7_turnOf_129 (by decide) rfl (fun q => absurd q hc) (fun _ => ?_)
            refine x_iconst 133 (0 : Int32) dX7_turnOf_132 rfl (by decide) ?_
            refine x_goto 147 dX7_turnOf_133 (by decide) ?_
            have e1 := Option.some.inj hF
            subst e1
            refine x_sub [(1, .int p1), (2, .int p2), (5, .int x19), (6, .int x20)] [2, 3, 6, 0] rfl ?_
            exact hJ
      have hF := h34
      rcases ite_inv hF with ⟨hc, hF⟩ | ⟨hc, hF⟩
      · refine x_icmp_ge 83 70 dX7_turnOf_67 (by decide) rfl (fun _ => ?_) (fun q => absurd hc q)
        refine x_iload_n 84 2 dX7_turnOf_83 rfl rfl ?_
        refine x_bipush 86 (6 : Int32) dX7_turnOf_84 rfl (by decide) ?_
        rcases ite_inv hF with ⟨hc, hF⟩ | ⟨hc, hF⟩
        · refine x_icmp_ge 102 89 dX7_turnOf_86 (by decide) rfl (fun _ => ?_) (fun q => absurd hc q)
          refine x_iload 104 0 dX7_turnOf_102 rfl rfl ?_
          refine x_iload_n 105 3 dX7_turnOf_104 rfl rfl ?_
          refine x_sipush 108 (256 : Int32) dX7_turnOf_105 rfl (by decide) ?_
          refine x_idiv 109 (by decide) dX7_turnOf_108 rfl ?_
          refine x_bipush 111 (90 : Int32) dX7_turnOf_109 rfl (by decide) ?_
          refine x_irem 112 (by decide) dX7_turnOf_111 rfl ?_
          refine x_iadd 113 dX7_turnOf_112 rfl ?_
          have e1 := Option.some.inj hF
          subst e1
          refine x_sub [(0, .ref p0), (1, .int p1), (2, .int p2), (3, .int (irm p2 (3 : Int32))), (4, .int (irm (p2 / (4 : Int32)) (6 : Int32))), (5, .int x19)] [1, 2, 3, 4, 5, 0] rfl ?_
          exact hJ
        · refine x_icmp_ge 102 89 dX7_turnOf_86 (by decide) rfl (fun q => absurd q hc) (fun _ => ?_)
          refine x_iconst 90 (1 : Int32) dX7_turnOf_89 rfl (by decide) ?_
          refine x_iload_n 91 3 dX7_turnOf_90 rfl rfl ?_
          refine x_sipush 94 (288 : Int32) dX7_turnOf_91 rfl (by decide) ?_
          refine x_idiv 95 (by decide) dX7_turnOf_94 rfl ?_
          refine x_bipush 97 (60 : Int32) dX7_turnOf_95 rfl (by decide) ?_
          refine x_irem 98 (by decide) dX7_turnOf_97 rfl ?_
          refine x_iadd 99 dX7_turnOf_98 rfl ?_
          refine x_goto 113 dX7_turnOf_99 (by decide) ?_
          have e1 := Option.some.inj hF
          subst e1
          refine x_sub [(0, .ref p0), (1, .int p1), (2, .int p2), (3, .int (irm p2 (3 : Int32))), (4, .int (irm (p2 / (4 : Int32)) (6 : Int32))), (5, .int x19)] [1, 2, 3, 4, 5, 0] rfl ?_
          exact hJ
      · refine x_icmp_ge 83 70 dX7_turnOf_67 (by decide) rfl (fun q => absurd q hc) (fun _ => ?_)
        refine x_iconst 71 (1 : Int32) dX7_turnOf_70 rfl (by decide) ?_
        refine x_iload_n 72 3 dX7_turnOf_71 rfl rfl ?_
        refine x_sipush 75 (640 : Int32) dX7_turnOf_72 rfl (by decide) ?_
        refine x_idiv 76 (by decide) dX7_turnOf_75 rfl ?_
        refine x_bipush 78 (40 : Int32) dX7_turnOf_76 rfl (by decide) ?_
        refine x_irem 79 (by decide) dX7_turnOf_78 rfl ?_
        refine x_iadd 80 dX7_turnOf_79 rfl ?_
        refine x_goto 113 dX7_turnOf_80 (by decide) ?_
        have e1 := Option.some.inj hF
        subst e1
        refine x_sub [(0, .ref p0), (1, .int p1), (2, .int p2), (3, .int (irm p2 (3 : Int32))), (4, .int (irm (p2 / (4 : Int32)) (6 : Int32))), (5, .int x19)] [1, 2, 3, 4, 5, 0] rfl ?_
        exact hJ
    have hF := h35
    rcases ite_inv hF with ⟨hc, hF⟩ | ⟨hc, hF⟩
    · refine x_icmp_ge 35 23 dX7_turnOf_20 (by decide) rfl (fun _ => ?_) (fun q => absurd hc q)
      refine x_iload_n 36 3 dX7_turnOf_35 rfl rfl ?_
      refine x_bipush 38 (6 : Int32) dX7_turnOf_36 rfl (by decide) ?_
      rcases ite_inv hF with ⟨hc, hF⟩ | ⟨hc, hF⟩
      · refine x_icmp_ge 53 41 dX7_turnOf_38 (by decide) rfl (fun _ => ?_) (fun q => absurd hc q)
        refine x_iconst 54 (1 : Int32) dX7_turnOf_53 rfl (by decide) ?_
        refine x_iload_n 55 4 dX7_turnOf_54 rfl rfl ?_
        refine x_bipush 57 (32 : Int32) dX7_turnOf_55 rfl (by decide) ?_
        refine x_idiv 58 (by decide) dX7_turnOf_57 rfl ?_
        refine x_sipush 61 (900 : Int32) dX7_turnOf_58 rfl (by decide) ?_
        refine x_irem 62 (by decide) dX7_turnOf_61 rfl ?_
        refine x_iadd 63 dX7_turnOf_62 rfl ?_
        have e1 := Option.some.inj hF
        subst e1
        refine x_sub [(0, .ref p0), (1, .int p1), (2, .int p2), (3, .int (irm p2 (3 : Int32))), (4, .int (irm (p2 / (4 : Int32)) (6 : Int32)))] [2, 3, 4, 1, 0] rfl ?_
        exact hJ
      · refine x_icmp_ge 53 41 dX7_turnOf_38 (by decide) rfl (fun q => absurd q hc) (fun _ => ?_)
        refine x_iconst 42 (1 : Int32) dX7_turnOf_41 rfl (by decide) ?_
        refine x_iload_n 43 4 dX7_turnOf_42 rfl rfl ?_
        refine x_bipush 45 (32 : Int32) dX7_turnOf_43 rfl (by decide) ?_
        refine x_idiv 46 (by decide) dX7_turnOf_45 rfl ?_
        refine x_bipush 48 (9 : Int32) dX7_turnOf_46 rfl (by decide) ?_
        refine x_irem 49 (by decide) dX7_turnOf_48 rfl ?_
        refine x_iadd 50 dX7_turnOf_49 rfl ?_
        refine x_goto 63 dX7_turnOf_50 (by decide) ?_
        have e1 := Option.some.inj hF
        subst e1
        refine x_sub [(0, .ref p0), (1, .int p1), (2, .int p2), (3, .int (irm p2 (3 : Int32))), (4, .int (irm (p2 / (4 : Int32)) (6 : Int32)))] [2, 3, 4, 1, 0] rfl ?_
        exact hJ
    · refine x_icmp_ge 35 23 dX7_turnOf_20 (by decide) rfl (fun q => absurd q hc) (fun _ => ?_)
      refine x_iconst 24 (1 : Int32) dX7_turnOf_23 rfl (by decide) ?_
      refine x_iload_n 25 4 dX7_turnOf_24 rfl rfl ?_
      refine x_bipush 27 (32 : Int32) dX7_turnOf_25 rfl (by decide) ?_
      refine x_idiv 28 (by decide) dX7_turnOf_27 rfl ?_
      refine x_bipush 30 (20 : Int32) dX7_turnOf_28 rfl (by decide) ?_
      refine x_irem 31 (by decide) dX7_turnOf_30 rfl ?_
      refine x_iadd 32 dX7_turnOf_31 rfl ?_
      refine x_goto 63 dX7_turnOf_32 (by decide) ?_
      have e1 := Option.some.inj hF
      subst e1
      refine x_sub [(0, .ref p0), (1, .int p1), (2, .int p2), (3, .int (irm p2 (3 : Int32))), (4, .int (irm (p2 / (4 : Int32)) (6 : Int32)))] [2, 3, 4, 1, 0] rfl ?_
      exact hJ
def rmX7_simulate : Room := { frames := 6, cells := 0, slots := 0, locals := 143 }
theorem qyX7_simulate : qY yX7_simulate cX7_simulate 8 (some .int) 2 := ⟨wd_1203, wd_32, by decide +kernel, by decide +kernel, by decide +kernel⟩
set_option maxHeartbeats 4000000 in
set_option maxRecDepth 100000 in
theorem mX7_simulate_L45 {l : Launch} {G : qG} (hst : l.stackTraces = false) (a0 : Nat) (a3 : Int32) (n : Option Nat) (r : qR) : ∀ (q : Nat) (y4 : Int64) (y6 : Int32) (σ : qH) (so : qH), FX7_simulate_L45 a0 a3 q y4 y6 σ = some so → qX l G RX7 "simulate" cX7_simulate 8 (some .int) [] rmX7_simulate 0 0 r 0 0 so n 94 [(0, .ref a0)] [] → qX l G RX7 "simulate" cX7_simulate 8 (some .int) [] rmX7_simulate 0 0 r 0 0 σ n 45 [(0, .ref a0), (3, .int a3), (4, .long y4), (6, .int y6)] [] := by
  intro q
  induction q with
  | zero => intro y4 y6 σ so hF; rw [FX7_simulate_L45] at hF; cases hF
  | succ q ih =>
    intro y4 y6 σ so hF hJ
    rw [FX7_simulate_L45] at hF
    refine x_iload 47 3 dX7_simulate_45 rfl rfl ?_
    refine x_iload_n 48 1 dX7_simulate_47 rfl rfl ?_
    rcases ite_inv hF with ⟨hc, hF⟩ | ⟨hc, hF⟩
    · refine x_icmp_ge 94 51 dX7_simulate_48 (by decide) rfl (fun _ => ?_) (fun q => absurd hc q)
      have e1 := Option.some.inj hF
      subst e1
      refine x_sub [(0, .ref a0)] [0] rfl ?_
      exact hJ
    · refine x_icmp_ge 94 51 dX7_simulate_48 (by decide) rfl (fun q => absurd q hc) (fun _ => ?_)
      refine x_lload 53 2 dX7_simulate_51 rfl rfl ?_
      refine x_ldc2 56 (6364136223846793005 : Int64) wd_1204 dX7_simulate_53 rfl ?_
      refine x_lmul 57 dX7_simulate_56 rfl ?_
      refine x_ldc2 60 (1442695040888963407 : Int64) wd_1205 dX7_simulate_57 rfl ?_
      refine x_ladd 61 dX7_simulate_60 rfl ?_
      refine x_lstore 63 4 [(4, .long ((y4 * (6364136223846793005 : Int64)) + (1442695040888963407 : Int64))), (0, .ref a0), (3, .int a3), (6, .int y6)] dX7_simulate_61 rfl (by decide) rfl ?_
      refine x_lload 65 0 dX7_simulate_63 rfl rfl ?_
      refine x_bipush 67 (33 : Int32) dX7_simulate_65 rfl (by decide) ?_
      refine x_lushr 68 dX7_simulate_67 rfl ?_
      refine x_l2i 69 dX7_simulate_68 rfl ?_
      refine x_istore 71 7 [(7, .int ((lus ((y4 * (6364136223846793005 : Int64)) + (1442695040888963407 : Int64)) (33 : Int32))).toInt32), (4, .long ((y4 * (6364136223846793005 : Int64)) + (1442695040888963407 : Int64))), (0, .ref a0), (3, .int a3), (6, .int y6)] dX7_simulate_69 rfl (by decide) rfl ?_
      refine x_aload_n 72 2 dX7_simulate_71 rfl rfl ?_
      obtain ⟨r13, h14, hF⟩ := b1_inv hF
      refine x_getR 75 4 inX7 rfl (by decide) wd_929 h14 dX7_simulate_72 rfl ?_
      refine x_iload 77 0 dX7_simulate_75 rfl rfl ?_
      refine x_bipush 79 (16 : Int32) dX7_simulate_77 rfl (by decide) ?_
      refine x_irem 80 (by decide) dX7_simulate_79 rfl ?_
      refine x_iload 82 0 dX7_simulate_80 rfl rfl ?_
      refine x_bipush 84 (16 : Int32) dX7_simulate_82 rfl (by decide) ?_
      refine x_idiv 85 (by decide) dX7_simulate_84 rfl ?_
      obtain ⟨s16, h15, hF⟩ := b1_inv hF
      refine x_callS (As := [.ref r13, .int (irm ((lus ((y4 * (6364136223846793005 : Int64)) + (1442695040888963407 : Int64)) (33 : Int32))).toInt32 (16 : Int32)), .int (((lus ((y4 * (6364136223846793005 : Int64)) + (1442695040888963407 : Int64)) (33 : Int32))).toInt32 / (16 : Int32))]) (rest := []) 88 0 0 (mX7_turnOf hst r13 (irm ((lus ((y4 * (6364136223846793005 : Int64)) + (1442695040888963407 : Int64)) (33 : Int32))).toInt32 (16 : Int32)) (((lus ((y4 * (6364136223846793005 : Int64)) + (1442695040888963407 : Int64)) (33 : Int32))).toInt32 / (16 : Int32)) σ n s16 h15) qyX7_turnOf wd_1206 wd_1207 rfl rfl (by decide) (Nat.le_of_ble_eq_true rfl) (by decide) dX7_simulate_85 rfl rfl rfl rfl ?_
      refine x_iinc 91 6 4 (y6 + (1 : Int32)) [(6, .int (y6 + (1 : Int32))), (7, .int ((lus ((y4 * (6364136223846793005 : Int64)) + (1442695040888963407 : Int64)) (33 : Int32))).toInt32), (4, .long ((y4 * (6364136223846793005 : Int64)) + (1442695040888963407 : Int64))), (0, .ref a0), (3, .int a3)] dX7_simulate_88 rfl rfl rfl (by decide) rfl ?_
      refine x_goto 45 dX7_simulate_91 (by decide) ?_
      refine x_sub [(0, .ref a0), (3, .int a3), (4, .long ((y4 * (6364136223846793005 : Int64)) + (1442695040888963407 : Int64))), (6, .int (y6 + (1 : Int32)))] [3, 4, 2, 0] rfl ?_
      exact ih _ _ _ _ hF hJ
theorem kX7_simulate {b : Nat} {p0 : Int64} {p1 : Int32} {σ : qH} {o : Int32 × qH} (h : FX7_simulate b p0 p1 σ = some o) : ∃ fs : List Value, True ∧ σ b = some (.inr (5, fs)) := by
  unfold FX7_simulate at h
  obtain ⟨_, h1, _⟩ := b1_inv h
  obtain ⟨fs, h2⟩ := gC_inv h1
  exact ⟨fs, trivial, h2⟩
set_option maxHeartbeats 4000000 in
set_option maxRecDepth 100000 in
theorem mX7_simulate {l : Launch} {G : qG} (hst : l.stackTraces = false) (b : Nat) (p0 : Int64) (p1 : Int32) (σ : qH) (n : Option Nat) (ro : Int32) (so : qH) (hF : FX7_simulate b p0 p1 σ = some (ro, so)) : qM l G yX7_simulate cX7_simulate 8 (some .int) rmX7_simulate [.ref b, .long p0, .int p1] σ n (.inl (some (.int ro), so, n)) := by
  refine q_body (own := RX7) (nm := "simulate") (ls := [(0, .ref b), (1, .long p0), (3, .int p1)]) hst (by decide +kernel) rfl rfl (Nat.le_of_ble_eq_true rfl) rfl rfl rfl ?_
  unfold FX7_simulate at hF
  obtain ⟨_, hC, hF⟩ := b1_inv hF
  refine x_aload_n 1 0 dX7_simulate_0 rfl rfl ?_
  refine x_iload_n 2 2 dX7_simulate_1 rfl rfl ?_
  refine x_i2l 3 dX7_simulate_2 rfl ?_
  refine x_lconst 4 (1 : Int64) dX7_simulate_3 rfl (by decide) ?_
  refine x_ldc2 7 (60 : Int64) wd_1006 dX7_simulate_4 rfl ?_
  obtain ⟨v2, h1, hF⟩ := b1_inv hF
  refine x_callS (As := [.long (p1).toInt64, .long (1 : Int64), .long (60 : Int64)]) (rest := [.ref b]) 10 0 0 (mX7_in hst (p1).toInt64 (1 : Int64) (60 : Int64) σ n v2 h1) qyX7_in wd_968 wd_969 rfl rfl (by decide) (Nat.le_of_ble_eq_true rfl) (by decide) dX7_simulate_7 rfl rfl rfl rfl ?_
  obtain ⟨x3, h35, hF⟩ := b1_inv hF
  have hJ : qX l G RX7 "simulate" cX7_simulate 8 (some .int) [] rmX7_simulate 0 0 (.inl (some (.int ro), so, n)) 0 0 σ n 18 [(0, .ref b), (1, .long p0), (3, .int p1)] [.int x3, .ref b] := by
    obtain ⟨v5, s6, h4, hF⟩ := b2_inv hF
    obtain ⟨fs, hb⟩ : ∃ fs : List Value, True ∧ σ b = some (.inr (5, fs)) := kX7_refused h4
    refine x_callV (As := [.int x3]) (rest := []) 21 0 0 (mX7_refused hst b x3 σ n v5 s6 h4) qyX7_refused wd_971 wd_973 wd_16 hb.2 rfl rfl rfl (by decide) (Nat.le_of_ble_eq_true rfl) (by decide) dX7_simulate_18 rfl rfl rfl rfl ?_
    rcases ite_inv hF with ⟨hc, hF⟩ | ⟨hc, hF⟩
    · refine x_if_eq 26 24 dX7_simulate_21 (by decide) rfl (fun _ => ?_) (fun q => absurd hc q)
      refine x_aload_n 27 0 dX7_simulate_26 rfl rfl ?_
      obtain ⟨r7, h8, hF⟩ := b1_inv hF
      refine x_getR 30 3 inX7 rfl (by decide) wd_928 h8 dX7_simulate_27 rfl ?_
      refine x_iconst 31 (0 : Int32) dX7_simulate_30 rfl (by decide) ?_
      refine x_aload_n 32 0 dX7_simulate_31 rfl rfl ?_
      obtain ⟨r9, h10, hF⟩ := b1_inv hF
      refine x_getR 35 4 inX7 rfl (by decide) wd_929 h10 dX7_simulate_32 rfl ?_
      refine x_iconst 36 (0 : Int32) dX7_simulate_35 rfl (by decide) ?_
      obtain ⟨s12, h11, hF⟩ := b1_inv hF
      refine x_callS (As := [.ref r7, .int (0 : Int32), .ref r9, .int (0 : Int32)]) (rest := []) 39 0 0 (mX7_copyState hst r7 (0 : Int32) r9 (0 : Int32) s6 n s12 h11) qyX7_copyState wd_1061 wd_1062 rfl rfl (by decide) (Nat.le_of_ble_eq_true rfl) (by decide) dX7_simulate_36 rfl rfl rfl rfl ?_
      refine x_lload_n 40 1 dX7_simulate_39 rfl rfl ?_
      refine x_lstore 42 4 [(4, .long p0), (0, .ref b), (1, .long p0), (3, .int p1)] dX7_simulate_40 rfl (by decide) rfl ?_
      refine x_iconst 43 (0 : Int32) dX7_simulate_42 rfl (by decide) ?_
      refine x_istore 45 6 [(6, .int (0 : Int32)), (4, .long p0), (0, .ref b), (1, .long p0), (3, .int p1)] dX7_simulate_43 rfl (by decide) rfl ?_
      obtain ⟨s17, h34, hF⟩ := b1_inv hF
      have hJ : qX l G RX7 "simulate" cX7_simulate 8 (some .int) [] rmX7_simulate 0 0 (.inl (some (.int ro), so, n)) 0 0 s17 n 94 [(0, .ref b)] [] := by
        refine x_sipush 97 (10000 : Int32) dX7_simulate_94 rfl (by decide) ?_
        refine x_aload_n 98 0 dX7_simulate_97 rfl rfl ?_
        obtain ⟨r18, h19, hF⟩ := b1_inv hF
        refine x_getR 101 4 inX7 rfl (by decide) wd_929 h19 dX7_simulate_98 rfl ?_
        refine x_iconst 102 (0 : Int32) dX7_simulate_101 rfl (by decide) ?_
        obtain ⟨v20, h21, hF⟩ := b1_inv hF
        refine x_aI 103 h21 dX7_simulate_102 rfl ?_
        refine x_imul 104 dX7_simulate_103 rfl ?_
        refine x_bipush 106 (100 : Int32) dX7_simulate_104 rfl (by decide) ?_
        refine x_aload_n 107 0 dX7_simulate_106 rfl rfl ?_
        obtain ⟨r22, h23, hF⟩ := b1_inv hF
        refine x_getR 110 4 inX7 rfl (by decide) wd_929 h23 dX7_simulate_107 rfl ?_
        obtain ⟨v25, h24, hF⟩ := b1_inv hF
        refine x_callS (As := [.ref r22]) (rest := [.int (100 : Int32), .int ((10000 : Int32) * v20)]) 113 0 0 (mX7_allTrust hst r22 s17 n v25 h24) qyX7_allTrust wd_1071 wd_1072 rfl rfl (by decide) (Nat.le_of_ble_eq_true rfl) (by decide) dX7_simulate_110 rfl rfl rfl rfl ?_
        refine x_imul 114 dX7_simulate_113 rfl ?_
        refine x_iadd 115 dX7_simulate_114 rfl ?_
        refine x_aload_n 116 0 dX7_simulate_115 rfl rfl ?_
        obtain ⟨r26, h27, hF⟩ := b1_inv hF
        refine x_getR 119 4 inX7 rfl (by decide) wd_929 h27 dX7_simulate_116 rfl ?_
        refine x_iconst 120 (5 : Int32) dX7_simulate_119 rfl (by decide) ?_
        obtain ⟨v28, h29, hF⟩ := b1_inv hF
        refine x_aI 121 h29 dX7_simulate_120 rfl ?_
        refine x_aload_n 122 0 dX7_simulate_121 rfl rfl ?_
        obtain ⟨r30, h31, hF⟩ := b1_inv hF
        refine x_getR 125 3 inX7 rfl (by decide) wd_928 h31 dX7_simulate_122 rfl ?_
        refine x_iconst 126 (5 : Int32) dX7_simulate_125 rfl (by decide) ?_
        obtain ⟨v32, h33, hF⟩ := b1_inv hF
        refine x_aI 127 h33 dX7_simulate_126 rfl ?_
        refine x_isub 128 dX7_simulate_127 rfl ?_
        refine x_bipush 130 (100 : Int32) dX7_simulate_128 rfl (by decide) ?_
        refine x_irem 131 (by decide) dX7_simulate_130 rfl ?_
        refine x_iadd 132 dX7_simulate_131 rfl ?_
        cases hF
        exact x_iret rfl rfl (by decide) (by decide) dX7_simulate_132
      refine x_sub [(0, .ref b), (3, .int p1), (4, .long p0), (6, .int (0 : Int32))] [2, 4, 1, 0] rfl ?_
      exact mX7_simulate_L45 hst b p1 n _ qfuel p0 (0 : Int32) s12 s17 h34 hJ
    · refine x_if_eq 26 24 dX7_simulate_21 (by decide) rfl (fun q => absurd q hc) (fun _ => ?_)
      refine x_iconst 25 (0 : Int32) dX7_simulate_24 rfl (by decide) ?_
      cases hF
      exact x_iret rfl rfl (by decide) (by decide) dX7_simulate_25
  have hF := h35
  rcases ite_inv hF with ⟨hc, hF⟩ | ⟨hc, hF⟩
  · refine x_if_eq 17 13 dX7_simulate_10 (by decide) rfl (fun _ => ?_) (fun q => absurd hc q)
    refine x_iconst 18 (1 : Int32) dX7_simulate_17 rfl (by decide) ?_
    have e1 := Option.some.inj hF
    subst e1
    exact hJ
  · refine x_if_eq 17 13 dX7_simulate_10 (by decide) rfl (fun q => absurd q hc) (fun _ => ?_)
    refine x_iconst 14 (0 : Int32) dX7_simulate_13 rfl (by decide) ?_
    refine x_goto 18 dX7_simulate_14 (by decide) ?_
    have e1 := Option.some.inj hF
    subst e1
    exact hJ
def rmX7_save : Room := { frames := 1, cells := 0, slots := 0, locals := 25 }
theorem qyX7_save : qY yX7_save cX7_save 2 (some .int) 1 := ⟨wd_1212, wd_32, by decide +kernel, by decide +kernel, by decide +kernel⟩
theorem kX7_save {b : Nat} {p0 : Int32} {σ : qH} {o : Int32 × qH} (h : FX7_save b p0 σ = some o) : ∃ fs : List Value, True ∧ σ b = some (.inr (5, fs)) := by
  unfold FX7_save at h
  obtain ⟨_, h1, _⟩ := b1_inv h
  obtain ⟨fs, h2⟩ := gC_inv h1
  exact ⟨fs, trivial, h2⟩
set_option maxHeartbeats 4000000 in
set_option maxRecDepth 100000 in
theorem mX7_save {l : Launch} {G : qG} (hst : l.stackTraces = false) (b : Nat) (p0 : Int32) (σ : qH) (n : Option Nat) (ro : Int32) (so : qH) (hF : FX7_save b p0 σ = some (ro, so)) : qM l G yX7_save cX7_save 2 (some .int) rmX7_save [.ref b, .int p0] σ n (.inl (some (.int ro), so, n)) := by
  refine q_body (own := RX7) (nm := "save") (ls := [(0, .ref b), (1, .int p0)]) hst (by decide +kernel) rfl rfl (Nat.le_of_ble_eq_true rfl) rfl rfl rfl ?_
  unfold FX7_save at hF
  obtain ⟨_, hC, hF⟩ := b1_inv hF
  refine x_aload_n 1 0 dX7_save_0 rfl rfl ?_
  refine x_iload_n 2 1 dX7_save_1 rfl rfl ?_
  refine x_i2l 3 dX7_save_2 rfl ?_
  refine x_lconst 4 (0 : Int64) dX7_save_3 rfl (by decide) ?_
  refine x_lconst 5 (1 : Int64) dX7_save_4 rfl (by decide) ?_
  obtain ⟨v2, h1, hF⟩ := b1_inv hF
  refine x_callS (As := [.long (p0).toInt64, .long (0 : Int64), .long (1 : Int64)]) (rest := [.ref b]) 8 0 0 (mX7_in hst (p0).toInt64 (0 : Int64) (1 : Int64) σ n v2 h1) qyX7_in wd_968 wd_969 rfl rfl (by decide) (Nat.le_of_ble_eq_true rfl) (by decide) dX7_save_5 rfl rfl rfl rfl ?_
  obtain ⟨x3, h21, hF⟩ := b1_inv hF
  have hJ : qX l G RX7 "save" cX7_save 2 (some .int) [] rmX7_save 0 0 (.inl (some (.int ro), so, n)) 0 0 σ n 16 [(0, .ref b), (1, .int p0)] [.int x3, .ref b] := by
    obtain ⟨v5, s6, h4, hF⟩ := b2_inv hF
    obtain ⟨fs, hb⟩ : ∃ fs : List Value, True ∧ σ b = some (.inr (5, fs)) := kX7_refused h4
    refine x_callV (As := [.int x3]) (rest := []) 19 0 0 (mX7_refused hst b x3 σ n v5 s6 h4) qyX7_refused wd_971 wd_973 wd_16 hb.2 rfl rfl rfl (by decide) (Nat.le_of_ble_eq_true rfl) (by decide) dX7_save_16 rfl rfl rfl rfl ?_
    rcases ite_inv hF with ⟨hc, hF⟩ | ⟨hc, hF⟩
    · refine x_if_eq 24 22 dX7_save_19 (by decide) rfl (fun _ => ?_) (fun q => absurd hc q)
      refine x_aload_n 25 0 dX7_save_24 rfl rfl ?_
      obtain ⟨r7, h8, hF⟩ := b1_inv hF
      refine x_getR 28 3 inX7 rfl (by decide) wd_928 h8 dX7_save_25 rfl ?_
      refine x_iconst 29 (0 : Int32) dX7_save_28 rfl (by decide) ?_
      refine x_aload_n 30 0 dX7_save_29 rfl rfl ?_
      obtain ⟨r9, h10, hF⟩ := b1_inv hF
      refine x_getR 33 7 inX7 rfl (by decide) wd_932 h10 dX7_save_30 rfl ?_
      refine x_sipush 36 (142 : Int32) dX7_save_33 rfl (by decide) ?_
      refine x_iload_n 37 1 dX7_save_36 rfl rfl ?_
      refine x_imul 38 dX7_save_37 rfl ?_
      obtain ⟨s12, h11, hF⟩ := b1_inv hF
      refine x_callS (As := [.ref r7, .int (0 : Int32), .ref r9, .int ((142 : Int32) * p0)]) (rest := []) 41 0 0 (mX7_copyState hst r7 (0 : Int32) r9 ((142 : Int32) * p0) s6 n s12 h11) qyX7_copyState wd_1061 wd_1062 rfl rfl (by decide) (Nat.le_of_ble_eq_true rfl) (by decide) dX7_save_38 rfl rfl rfl rfl ?_
      refine x_aload_n 42 0 dX7_save_41 rfl rfl ?_
      obtain ⟨r13, h14, hF⟩ := b1_inv hF
      refine x_getR 45 8 inX7 rfl (by decide) wd_933 h14 dX7_save_42 rfl ?_
      refine x_iload_n 46 1 dX7_save_45 rfl rfl ?_
      refine x_iconst 47 (1 : Int32) dX7_save_46 rfl (by decide) ?_
      obtain ⟨s15, h16, hF⟩ := b1_inv hF
      refine x_sZ 48 h16 dX7_save_47 rfl ?_
      refine x_aload_n 49 0 dX7_save_48 rfl rfl ?_
      obtain ⟨r17, h18, hF⟩ := b1_inv hF
      refine x_getR 52 3 inX7 rfl (by decide) wd_928 h18 dX7_save_49 rfl ?_
      refine x_iconst 53 (0 : Int32) dX7_save_52 rfl (by decide) ?_
      obtain ⟨v19, h20, hF⟩ := b1_inv hF
      refine x_aI 54 h20 dX7_save_53 rfl ?_
      cases hF
      exact x_iret rfl rfl (by decide) (by decide) dX7_save_54
    · refine x_if_eq 24 22 dX7_save_19 (by decide) rfl (fun q => absurd q hc) (fun _ => ?_)
      refine x_iconst 23 (0 : Int32) dX7_save_22 rfl (by decide) ?_
      cases hF
      exact x_iret rfl rfl (by decide) (by decide) dX7_save_23
  have hF := h21
  rcases ite_inv hF with ⟨hc, hF⟩ | ⟨hc, hF⟩
  · refine x_if_eq 15 11 dX7_save_8 (by decide) rfl (fun _ => ?_) (fun q => absurd hc q)
    refine x_iconst 16 (1 : Int32) dX7_save_15 rfl (by decide) ?_
    have e1 := Option.some.inj hF
    subst e1
    exact hJ
  · refine x_if_eq 15 11 dX7_save_8 (by decide) rfl (fun q => absurd q hc) (fun _ => ?_)
    refine x_iconst 12 (0 : Int32) dX7_save_11 rfl (by decide) ?_
    refine x_goto 16 dX7_save_12 (by decide) ?_
    have e1 := Option.some.inj hF
    subst e1
    exact hJ
def rmX7_restore : Room := { frames := 1, cells := 0, slots := 0, locals := 25 }
theorem qyX7_restore : qY yX7_restore cX7_restore 2 (some .int) 1 := ⟨wd_1216, wd_32, by decide +kernel, by decide +kernel, by decide +kernel⟩
theorem kX7_restore {b : Nat} {p0 : Int32} {σ : qH} {o : Int32 × qH} (h : FX7_restore b p0 σ = some o) : ∃ fs : List Value, True ∧ σ b = some (.inr (5, fs)) := by
  unfold FX7_restore at h
  obtain ⟨_, h1, _⟩ := b1_inv h
  obtain ⟨fs, h2⟩ := gC_inv h1
  exact ⟨fs, trivial, h2⟩
set_option maxHeartbeats 4000000 in
set_option maxRecDepth 100000 in
theorem mX7_restore {l : Launch} {G : qG} (hst : l.stackTraces = false) (b : Nat) (p0 : Int32) (σ : qH) (n : Option Nat) (ro : Int32) (so : qH) (hF : FX7_restore b p0 σ = some (ro, so)) : qM l G yX7_restore cX7_restore 2 (some .int) rmX7_restore [.ref b, .int p0] σ n (.inl (some (.int ro), so, n)) := by
  refine q_body (own := RX7) (nm := "restore") (ls := [(0, .ref b), (1, .int p0)]) hst (by decide +kernel) rfl rfl (Nat.le_of_ble_eq_true rfl) rfl rfl rfl ?_
  unfold FX7_restore at hF
  obtain ⟨_, hC, hF⟩ := b1_inv hF
  refine x_aload_n 1 0 dX7_restore_0 rfl rfl ?_
  refine x_iload_n 2 1 dX7_restore_1 rfl rfl ?_
  refine x_i2l 3 dX7_restore_2 rfl ?_
  refine x_lconst 4 (0 : Int64) dX7_restore_3 rfl (by decide) ?_
  refine x_lconst 5 (1 : Int64) dX7_restore_4 rfl (by decide) ?_
  obtain ⟨v2, h1, hF⟩ := b1_inv hF
  refine x_callS (As := [.long (p0).toInt64, .long (0 : Int64), .long (1 : Int64)]) (rest := [.ref b]) 8 0 0 (mX7_in hst (p0).toInt64 (0 : Int64) (1 : Int64) σ n v2 h1) qyX7_in wd_968 wd_969 rfl rfl (by decide) (Nat.le_of_ble_eq_true rfl) (by decide) dX7_restore_5 rfl rfl rfl rfl ?_
  obtain ⟨x3, h23, hF⟩ := b1_inv hF
  have hJ : qX l G RX7 "restore" cX7_restore 2 (some .int) [] rmX7_restore 0 0 (.inl (some (.int ro), so, n)) 0 0 σ n 29 [(0, .ref b), (1, .int p0)] [.int x3, .ref b] := by
    obtain ⟨v9, s10, h8, hF⟩ := b2_inv hF
    obtain ⟨fs, hb⟩ : ∃ fs : List Value, True ∧ σ b = some (.inr (5, fs)) := kX7_refused h8
    refine x_callV (As := [.int x3]) (rest := []) 32 0 0 (mX7_refused hst b x3 σ n v9 s10 h8) qyX7_refused wd_971 wd_973 wd_16 hb.2 rfl rfl rfl (by decide) (Nat.le_of_ble_eq_true rfl) (by decide) dX7_restore_29 rfl rfl rfl rfl ?_
    rcases ite_inv hF with ⟨hc, hF⟩ | ⟨hc, hF⟩
    · refine x_if_eq 37 35 dX7_restore_32 (by decide) rfl (fun _ => ?_) (fun q => absurd hc q)
      refine x_aload_n 38 0 dX7_restore_37 rfl rfl ?_
      obtain ⟨r11, h12, hF⟩ := b1_inv hF
      refine x_getR 41 7 inX7 rfl (by decide) wd_932 h12 dX7_restore_38 rfl ?_
      refine x_sipush 44 (142 : Int32) dX7_restore_41 rfl (by decide) ?_
      refine x_iload_n 45 1 dX7_restore_44 rfl rfl ?_
      refine x_imul 46 dX7_restore_45 rfl ?_
      refine x_aload_n 47 0 dX7_restore_46 rfl rfl ?_
      obtain ⟨r13, h14, hF⟩ := b1_inv hF
      refine x_getR 50 3 inX7 rfl (by decide) wd_928 h14 dX7_restore_47 rfl ?_
      refine x_iconst 51 (0 : Int32) dX7_restore_50 rfl (by decide) ?_
      obtain ⟨s16, h15, hF⟩ := b1_inv hF
      refine x_callS (As := [.ref r11, .int ((142 : Int32) * p0), .ref r13, .int (0 : Int32)]) (rest := []) 54 0 0 (mX7_copyState hst r11 ((142 : Int32) * p0) r13 (0 : Int32) s10 n s16 h15) qyX7_copyState wd_1061 wd_1062 rfl rfl (by decide) (Nat.le_of_ble_eq_true rfl) (by decide) dX7_restore_51 rfl rfl rfl rfl ?_
      refine x_aload_n 55 0 dX7_restore_54 rfl rfl ?_
      refine x_iconst 56 (0 : Int32) dX7_restore_55 rfl (by decide) ?_
      obtain ⟨s17, h18, hF⟩ := b1_inv hF
      refine x_put 59 6 inX7 tyX7 tyX7_ok nmX7 rfl (by decide) wd_931 rfl (tX7_6) rfl rfl h18 dX7_restore_56 rfl ?_
      refine x_aload_n 60 0 dX7_restore_59 rfl rfl ?_
      obtain ⟨r19, h20, hF⟩ := b1_inv hF
      refine x_getR 63 3 inX7 rfl (by decide) wd_928 h20 dX7_restore_60 rfl ?_
      refine x_iconst 64 (0 : Int32) dX7_restore_63 rfl (by decide) ?_
      obtain ⟨v21, h22, hF⟩ := b1_inv hF
      refine x_aI 65 h22 dX7_restore_64 rfl ?_
      cases hF
      exact x_iret rfl rfl (by decide) (by decide) dX7_restore_65
    · refine x_if_eq 37 35 dX7_restore_32 (by decide) rfl (fun q => absurd q hc) (fun _ => ?_)
      refine x_iconst 36 (0 : Int32) dX7_restore_35 rfl (by decide) ?_
      cases hF
      exact x_iret rfl rfl (by decide) (by decide) dX7_restore_36
  have hF := h23
  rcases ite_inv hF with ⟨hc, hF⟩ | ⟨hc, hF⟩
  · refine x_if_ne 15 11 dX7_restore_8 (by decide) rfl (fun q => absurd hc q) (fun _ => ?_)
    refine x_iconst 12 (1 : Int32) dX7_restore_11 rfl (by decide) ?_
    refine x_goto 29 dX7_restore_12 (by decide) ?_
    have e1 := Option.some.inj hF
    subst e1
    exact hJ
  · refine x_if_ne 15 11 dX7_restore_8 (by decide) rfl (fun _ => ?_) (fun q => absurd q hc)
    refine x_aload_n 16 0 dX7_restore_15 rfl rfl ?_
    obtain ⟨r4, h5, hF⟩ := b1_inv hF
    refine x_getR 19 8 inX7 rfl (by decide) wd_933 h5 dX7_restore_16 rfl ?_
    refine x_iload_n 20 1 dX7_restore_19 rfl rfl ?_
    obtain ⟨v6, h7, hF⟩ := b1_inv hF
    refine x_aZ 21 h7 dX7_restore_20 rfl ?_
    rcases ite_inv hF with ⟨hc, hF⟩ | ⟨hc, hF⟩
    · refine x_if_ne 28 24 dX7_restore_21 (by decide) rfl (fun q => absurd hc q) (fun _ => ?_)
      refine x_iconst 25 (2 : Int32) dX7_restore_24 rfl (by decide) ?_
      refine x_goto 29 dX7_restore_25 (by decide) ?_
      have e1 := Option.some.inj hF
      subst e1
      exact hJ
    · refine x_if_ne 28 24 dX7_restore_21 (by decide) rfl (fun _ => ?_) (fun q => absurd q hc)
      refine x_iconst 29 (0 : Int32) dX7_restore_28 rfl (by decide) ?_
      have e1 := Option.some.inj hF
      subst e1
      exact hJ
