def rmX5_isFull : Room := { frames := 0, cells := 0, slots := 0, locals := 0 }
theorem qyX5_isFull : qY yX5_isFull cX5_isFull 1 (some .boolean) 0 := ⟨wd_266, wd_21, by decide +kernel, by decide +kernel, by decide +kernel⟩
theorem kX5_isFull {b : Nat} {σ : qH} {o : Int32} (h : FX5_isFull b σ = some o) : ∃ fs : List Value, True ∧ σ b = some (.inr (3, fs)) := by
  unfold FX5_isFull at h
  obtain ⟨_, h1, _⟩ := b1_inv h
  obtain ⟨fs, h2⟩ := gC_inv h1
  exact ⟨fs, trivial, h2⟩
set_option maxHeartbeats 4000000 in
set_option maxRecDepth 100000 in
theorem mX5_isFull {l : Launch} {G : qG} (hst : l.stackTraces = false) (b : Nat) (σ : qH) (n : Option Nat) (ro : Int32) (hF : FX5_isFull b σ = some ro) : qM l G yX5_isFull cX5_isFull 1 (some .boolean) rmX5_isFull [.ref b] σ n (.inl (some (.int ro), σ, n)) := by
  refine q_body (own := RX5) (nm := "isFull") (ls := [(0, .ref b)]) hst (by decide +kernel) rfl rfl (Nat.le_of_ble_eq_true rfl) rfl rfl rfl ?_
  unfold FX5_isFull at hF
  obtain ⟨_, hC, hF⟩ := b1_inv hF
  refine x_aload_n 1 0 dX5_isFull_0 rfl rfl ?_
  obtain ⟨v1, h2, hF⟩ := b1_inv hF
  refine x_getI 4 1 inX5 rfl (by decide) wd_116 h2 dX5_isFull_1 rfl ?_
  refine x_bipush 6 (120 : Int32) dX5_isFull_4 rfl (by decide) ?_
  obtain ⟨x3, h4, hF⟩ := b1_inv hF
  have hJ : qX l G RX5 "isFull" cX5_isFull 1 (some .boolean) [] rmX5_isFull 0 0 (.inl (some (.int ro), σ, n)) 0 0 σ n 14 [] [.int x3] := by
    obtain ⟨hz, hF⟩ := ite_none hF
    cases hF
    exact x_zret rfl (by rcases hz with h | h <;> rw [h] <;> rfl) rfl (by decide) (by decide) dX5_isFull_14
  have hF := h4
  rcases ite_inv hF with ⟨hc, hF⟩ | ⟨hc, hF⟩
  · refine x_icmp_lt 13 9 dX5_isFull_6 (by decide) rfl (fun _ => ?_) (fun q => absurd hc q)
    refine x_iconst 14 (0 : Int32) dX5_isFull_13 rfl (by decide) ?_
    have e1 := Option.some.inj hF
    subst e1
    refine x_sub [] [] rfl ?_
    exact hJ
  · refine x_icmp_lt 13 9 dX5_isFull_6 (by decide) rfl (fun q => absurd q hc) (fun _ => ?_)
    refine x_iconst 10 (1 : Int32) dX5_isFull_9 rfl (by decide) ?_
    refine x_goto 14 dX5_isFull_10 (by decide) ?_
    have e1 := Option.some.inj hF
    subst e1
    refine x_sub [] [] rfl ?_
    exact hJ
def rmX5_add : Room := { frames := 0, cells := 0, slots := 0, locals := 0 }
theorem qyX5_add : qY yX5_add cX5_add 2 (some .int) 1 := ⟨wd_286, wd_21, by decide +kernel, by decide +kernel, by decide +kernel⟩
theorem kX5_add {b : Nat} {p0 : Int32} {σ : qH} {o : Int32 × qH} (h : FX5_add b p0 σ = some o) : ∃ fs : List Value, True ∧ σ b = some (.inr (3, fs)) := by
  unfold FX5_add at h
  obtain ⟨_, h1, _⟩ := b1_inv h
  obtain ⟨fs, h2⟩ := gC_inv h1
  exact ⟨fs, trivial, h2⟩
set_option maxHeartbeats 4000000 in
set_option maxRecDepth 100000 in
theorem mX5_add {l : Launch} {G : qG} (hst : l.stackTraces = false) (b : Nat) (p0 : Int32) (σ : qH) (n : Option Nat) (ro : Int32) (so : qH) (hF : FX5_add b p0 σ = some (ro, so)) : qM l G yX5_add cX5_add 2 (some .int) rmX5_add [.ref b, .int p0] σ n (.inl (some (.int ro), so, n)) := by
  refine q_body (own := RX5) (nm := "add") (ls := [(0, .ref b), (1, .int p0)]) hst (by decide +kernel) rfl rfl (Nat.le_of_ble_eq_true rfl) rfl rfl rfl ?_
  unfold FX5_add at hF
  obtain ⟨_, hC, hF⟩ := b1_inv hF
  refine x_aload_n 1 0 dX5_add_0 rfl rfl ?_
  obtain ⟨r1, h2, hF⟩ := b1_inv hF
  refine x_getR 4 0 inX5 rfl (by decide) wd_115 h2 dX5_add_1 rfl ?_
  refine x_aload_n 5 0 dX5_add_4 rfl rfl ?_
  obtain ⟨v3, h4, hF⟩ := b1_inv hF
  refine x_getI 8 1 inX5 rfl (by decide) wd_116 h4 dX5_add_5 rfl ?_
  refine x_iload_n 9 1 dX5_add_8 rfl rfl ?_
  obtain ⟨s5, h6, hF⟩ := b1_inv hF
  refine x_sI 10 h6 dX5_add_9 rfl ?_
  refine x_aload_n 11 0 dX5_add_10 rfl rfl ?_
  refine x_dup 12 rfl dX5_add_11 rfl ?_
  obtain ⟨v7, h8, hF⟩ := b1_inv hF
  refine x_getI 15 1 inX5 rfl (by decide) wd_116 h8 dX5_add_12 rfl ?_
  refine x_iconst 16 (1 : Int32) dX5_add_15 rfl (by decide) ?_
  refine x_iadd 17 dX5_add_16 rfl ?_
  obtain ⟨s9, h10, hF⟩ := b1_inv hF
  refine x_put 20 1 inX5 tyX5 tyX5_ok nmX5 rfl (by decide) wd_116 rfl (tX5_1) rfl rfl h10 dX5_add_17 rfl ?_
  refine x_aload_n 21 0 dX5_add_20 rfl rfl ?_
  obtain ⟨v11, h12, hF⟩ := b1_inv hF
  refine x_getI 24 1 inX5 rfl (by decide) wd_116 h12 dX5_add_21 rfl ?_
  cases hF
  exact x_iret rfl rfl (by decide) (by decide) dX5_add_24
def rmX5_signHere : Room := { frames := 0, cells := 0, slots := 0, locals := 0 }
theorem qyX5_signHere : qY yX5_signHere cX5_signHere 1 (some .int) 0 := ⟨wd_307, wd_21, by decide +kernel, by decide +kernel, by decide +kernel⟩
theorem kX5_signHere {b : Nat} {σ : qH} {o : Int32} (h : FX5_signHere b σ = some o) : ∃ fs : List Value, True ∧ σ b = some (.inr (3, fs)) := by
  unfold FX5_signHere at h
  obtain ⟨_, h1, _⟩ := b1_inv h
  obtain ⟨fs, h2⟩ := gC_inv h1
  exact ⟨fs, trivial, h2⟩
set_option maxHeartbeats 4000000 in
set_option maxRecDepth 100000 in
theorem mX5_signHere {l : Launch} {G : qG} (hst : l.stackTraces = false) (b : Nat) (σ : qH) (n : Option Nat) (ro : Int32) (hF : FX5_signHere b σ = some ro) : qM l G yX5_signHere cX5_signHere 1 (some .int) rmX5_signHere [.ref b] σ n (.inl (some (.int ro), σ, n)) := by
  refine q_body (own := RX5) (nm := "signHere") (ls := [(0, .ref b)]) hst (by decide +kernel) rfl rfl (Nat.le_of_ble_eq_true rfl) rfl rfl rfl ?_
  unfold FX5_signHere at hF
  obtain ⟨_, hC, hF⟩ := b1_inv hF
  refine x_aload_n 1 0 dX5_signHere_0 rfl rfl ?_
  obtain ⟨v1, h2, hF⟩ := b1_inv hF
  refine x_getI 4 2 inX5 rfl (by decide) wd_117 h2 dX5_signHere_1 rfl ?_
  refine x_aload_n 5 0 dX5_signHere_4 rfl rfl ?_
  obtain ⟨v3, h4, hF⟩ := b1_inv hF
  refine x_getI 8 1 inX5 rfl (by decide) wd_116 h4 dX5_signHere_5 rfl ?_
  obtain ⟨x5, h12, hF⟩ := b1_inv hF
  have hJ : qX l G RX5 "signHere" cX5_signHere 1 (some .int) [] rmX5_signHere 0 0 (.inl (some (.int ro), σ, n)) 0 0 σ n 24 [] [.int x5] := by
    cases hF
    exact x_iret rfl rfl (by decide) (by decide) dX5_signHere_24
  have hF := h12
  rcases ite_inv hF with ⟨hc, hF⟩ | ⟨hc, hF⟩
  · refine x_icmp_ge 23 11 dX5_signHere_8 (by decide) rfl (fun _ => ?_) (fun q => absurd hc q)
    refine x_iconst 24 (-1 : Int32) dX5_signHere_23 rfl (by decide) ?_
    have e1 := Option.some.inj hF
    subst e1
    refine x_sub [] [] rfl ?_
    exact hJ
  · refine x_icmp_ge 23 11 dX5_signHere_8 (by decide) rfl (fun q => absurd q hc) (fun _ => ?_)
    refine x_aload_n 12 0 dX5_signHere_11 rfl rfl ?_
    obtain ⟨r6, h7, hF⟩ := b1_inv hF
    refine x_getR 15 0 inX5 rfl (by decide) wd_115 h7 dX5_signHere_12 rfl ?_
    refine x_aload_n 16 0 dX5_signHere_15 rfl rfl ?_
    obtain ⟨v8, h9, hF⟩ := b1_inv hF
    refine x_getI 19 2 inX5 rfl (by decide) wd_117 h9 dX5_signHere_16 rfl ?_
    obtain ⟨v10, h11, hF⟩ := b1_inv hF
    refine x_aI 20 h11 dX5_signHere_19 rfl ?_
    refine x_goto 24 dX5_signHere_20 (by decide) ?_
    have e1 := Option.some.inj hF
    subst e1
    refine x_sub [] [] rfl ?_
    exact hJ
def rmX5_readHead : Room := { frames := 1, cells := 0, slots := 0, locals := 20 }
theorem qyX5_readHead : qY yX5_readHead cX5_readHead 1 (some .boolean) 0 := ⟨wd_303, wd_21, by decide +kernel, by decide +kernel, by decide +kernel⟩
theorem kX5_readHead {b : Nat} {σ : qH} {o : Int32 × qH} (h : FX5_readHead b σ = some o) : ∃ fs : List Value, True ∧ σ b = some (.inr (3, fs)) := by
  unfold FX5_readHead at h
  obtain ⟨_, h1, _⟩ := b1_inv h
  obtain ⟨fs, h2⟩ := gC_inv h1
  exact ⟨fs, trivial, h2⟩
set_option maxHeartbeats 4000000 in
set_option maxRecDepth 100000 in
theorem mX5_readHead {l : Launch} {G : qG} (hst : l.stackTraces = false) (b : Nat) (σ : qH) (n : Option Nat) (ro : Int32) (so : qH) (hF : FX5_readHead b σ = some (ro, so)) : qM l G yX5_readHead cX5_readHead 1 (some .boolean) rmX5_readHead [.ref b] σ n (.inl (some (.int ro), so, n)) := by
  refine q_body (own := RX5) (nm := "readHead") (ls := [(0, .ref b)]) hst (by decide +kernel) rfl rfl (Nat.le_of_ble_eq_true rfl) rfl rfl rfl ?_
  unfold FX5_readHead at hF
  obtain ⟨_, hC, hF⟩ := b1_inv hF
  refine x_aload_n 1 0 dX5_readHead_0 rfl rfl ?_
  refine x_iconst 2 (0 : Int32) dX5_readHead_1 rfl (by decide) ?_
  obtain ⟨s1, h2, hF⟩ := b1_inv hF
  refine x_put 5 2 inX5 tyX5 tyX5_ok nmX5 rfl (by decide) wd_117 rfl (tX5_2) rfl rfl h2 dX5_readHead_2 rfl ?_
  refine x_aload_n 6 0 dX5_readHead_5 rfl rfl ?_
  obtain ⟨v4, h3, hF⟩ := b1_inv hF
  obtain ⟨fs, hb⟩ : ∃ fs : List Value, True ∧ s1 b = some (.inr (3, fs)) := kX5_signHere h3
  refine x_callV (As := []) (rest := []) 9 0 0 (mX5_signHere hst b s1 n v4 h3) qyX5_signHere wd_304 wd_306 wd_1 hb.2 rfl rfl rfl (by decide) (Nat.le_of_ble_eq_true rfl) (by decide) dX5_readHead_6 rfl rfl rfl rfl ?_
  refine x_bipush 11 (80 : Int32) dX5_readHead_9 rfl (by decide) ?_
  rcases ite_inv hF with ⟨hc, hF⟩ | ⟨hc, hF⟩
  · refine x_icmp_eq 16 14 dX5_readHead_11 (by decide) rfl (fun _ => ?_) (fun q => absurd hc q)
    refine x_aload_n 17 0 dX5_readHead_16 rfl rfl ?_
    refine x_iconst 18 (1 : Int32) dX5_readHead_17 rfl (by decide) ?_
    obtain ⟨s5, h6, hF⟩ := b1_inv hF
    refine x_put 21 2 inX5 tyX5 tyX5_ok nmX5 rfl (by decide) wd_117 rfl (tX5_2) rfl rfl h6 dX5_readHead_18 rfl ?_
    refine x_iconst 22 (1 : Int32) dX5_readHead_21 rfl (by decide) ?_
    cases hF
    exact x_zret rfl rfl rfl (by decide) (by decide) dX5_readHead_22
  · refine x_icmp_eq 16 14 dX5_readHead_11 (by decide) rfl (fun q => absurd q hc) (fun _ => ?_)
    refine x_iconst 15 (0 : Int32) dX5_readHead_14 rfl (by decide) ?_
    cases hF
    exact x_zret rfl rfl rfl (by decide) (by decide) dX5_readHead_15
def rmX5_leadsInto : Room := { frames := 0, cells := 0, slots := 0, locals := 0 }
theorem qyX5_leadsInto : qY yX5_leadsInto cX5_leadsInto 7 (some .boolean) 4 := ⟨wd_324, wd_21, by decide +kernel, by decide +kernel, by decide +kernel⟩
set_option maxHeartbeats 4000000 in
set_option maxRecDepth 100000 in
theorem mX5_leadsInto_L9 {l : Launch} {G : qG} (hst : l.stackTraces = false) (a1 : Int32) (a2 : Int32) (a3 : Int32) (σ : qH) (n : Option Nat) (r : qR) : ∀ (q : Nat) (y4 : Int32) (y5 : Int32) (y6 : Int32) (o4 : Int32) (o5 : Int32), FX5_leadsInto_L9 a1 a2 a3 σ q y4 y5 y6 = some (o4, o5) → qX l G RX5 "leadsInto" cX5_leadsInto 7 (some .boolean) [] rmX5_leadsInto 0 0 r 0 0 σ n 38 [(2, .int a2), (3, .int a3), (4, .int o4), (5, .int o5)] [] → qX l G RX5 "leadsInto" cX5_leadsInto 7 (some .boolean) [] rmX5_leadsInto 0 0 r 0 0 σ n 9 [(1, .int a1), (2, .int a2), (3, .int a3), (4, .int y4), (5, .int y5), (6, .int y6)] [] := by
  intro q
  induction q with
  | zero => intro y4 y5 y6 o4 o5 hF; rw [FX5_leadsInto_L9] at hF; cases hF
  | succ q ih =>
    intro y4 y5 y6 o4 o5 hF hJ
    rw [FX5_leadsInto_L9] at hF
    refine x_iload 11 5 dX5_leadsInto_9 rfl rfl ?_
    refine x_iload_n 12 0 dX5_leadsInto_11 rfl rfl ?_
    rcases ite_inv hF with ⟨hc, hF⟩ | ⟨hc, hF⟩
    · refine x_icmp_ge 38 15 dX5_leadsInto_12 (by decide) rfl (fun _ => ?_) (fun q => absurd hc q)
      obtain ⟨e1, e2⟩ := so2 hF
      subst e1
      subst e2
      refine x_sub [(2, .int a2), (3, .int a3), (4, .int y4), (5, .int y5)] [1, 2, 3, 4] rfl ?_
      exact hJ
    · refine x_icmp_ge 38 15 dX5_leadsInto_12 (by decide) rfl (fun q => absurd q hc) (fun _ => ?_)
      refine x_bipush 17 (10 : Int32) dX5_leadsInto_15 rfl (by decide) ?_
      refine x_iload 19 3 dX5_leadsInto_17 rfl rfl ?_
      refine x_imul 20 dX5_leadsInto_19 rfl ?_
      refine x_istore 22 4 [(4, .int ((10 : Int32) * y4)), (1, .int a1), (2, .int a2), (3, .int a3), (5, .int y5), (6, .int y6)] dX5_leadsInto_20 rfl (by decide) rfl ?_
      refine x_bipush 24 (10 : Int32) dX5_leadsInto_22 rfl (by decide) ?_
      refine x_iload 26 4 dX5_leadsInto_24 rfl rfl ?_
      refine x_imul 27 dX5_leadsInto_26 rfl ?_
      refine x_bipush 29 (9 : Int32) dX5_leadsInto_27 rfl (by decide) ?_
      refine x_iadd 30 dX5_leadsInto_29 rfl ?_
      refine x_istore 32 5 [(5, .int (((10 : Int32) * y5) + (9 : Int32))), (4, .int ((10 : Int32) * y4)), (1, .int a1), (2, .int a2), (3, .int a3), (6, .int y6)] dX5_leadsInto_30 rfl (by decide) rfl ?_
      refine x_iinc 35 6 5 (y6 + (1 : Int32)) [(6, .int (y6 + (1 : Int32))), (5, .int (((10 : Int32) * y5) + (9 : Int32))), (4, .int ((10 : Int32) * y4)), (1, .int a1), (2, .int a2), (3, .int a3)] dX5_leadsInto_32 rfl rfl rfl (by decide) rfl ?_
      refine x_goto 9 dX5_leadsInto_35 (by decide) ?_
      refine x_sub [(1, .int a1), (2, .int a2), (3, .int a3), (4, .int ((10 : Int32) * y4)), (5, .int (((10 : Int32) * y5) + (9 : Int32))), (6, .int (y6 + (1 : Int32)))] [3, 4, 5, 2, 1, 0] rfl ?_
      exact ih _ _ _ _ _ hF hJ
set_option maxHeartbeats 4000000 in
set_option maxRecDepth 100000 in
theorem mX5_leadsInto {l : Launch} {G : qG} (hst : l.stackTraces = false) (p0 : Int32) (p1 : Int32) (p2 : Int32) (p3 : Int32) (σ : qH) (n : Option Nat) (ro : Int32) (hF : FX5_leadsInto p0 p1 p2 p3 σ = some ro) : qM l G yX5_leadsInto cX5_leadsInto 7 (some .boolean) rmX5_leadsInto [.int p0, .int p1, .int p2, .int p3] σ n (.inl (some (.int ro), σ, n)) := by
  refine q_body (own := RX5) (nm := "leadsInto") (ls := [(0, .int p0), (1, .int p1), (2, .int p2), (3, .int p3)]) hst (by decide +kernel) rfl rfl (Nat.le_of_ble_eq_true rfl) rfl rfl rfl ?_
  unfold FX5_leadsInto at hF
  refine x_iload_n 1 0 dX5_leadsInto_0 rfl rfl ?_
  refine x_istore 3 4 [(4, .int p0), (0, .int p0), (1, .int p1), (2, .int p2), (3, .int p3)] dX5_leadsInto_1 rfl (by decide) rfl ?_
  refine x_iload_n 4 1 dX5_leadsInto_3 rfl rfl ?_
  refine x_istore 6 5 [(5, .int p0), (4, .int p0), (0, .int p0), (1, .int p1), (2, .int p2), (3, .int p3)] dX5_leadsInto_4 rfl (by decide) rfl ?_
  refine x_iconst 7 (0 : Int32) dX5_leadsInto_6 rfl (by decide) ?_
  refine x_istore 9 6 [(6, .int (0 : Int32)), (5, .int p0), (4, .int p0), (0, .int p0), (1, .int p1), (2, .int p2), (3, .int p3)] dX5_leadsInto_7 rfl (by decide) rfl ?_
  obtain ⟨x1, x2, h5, hF⟩ := b2_inv hF
  have hJ : qX l G RX5 "leadsInto" cX5_leadsInto 7 (some .boolean) [] rmX5_leadsInto 0 0 (.inl (some (.int ro), σ, n)) 0 0 σ n 38 [(2, .int p2), (3, .int p3), (4, .int x1), (5, .int x2)] [] := by
    refine x_iload 40 2 dX5_leadsInto_38 rfl rfl ?_
    refine x_iload_n 41 1 dX5_leadsInto_40 rfl rfl ?_
    obtain ⟨x3, h4, hF⟩ := b1_inv hF
    have hJ : qX l G RX5 "leadsInto" cX5_leadsInto 7 (some .boolean) [] rmX5_leadsInto 0 0 (.inl (some (.int ro), σ, n)) 0 0 σ n 55 [] [.int x3] := by
      obtain ⟨hz, hF⟩ := ite_none hF
      cases hF
      exact x_zret rfl (by rcases hz with h | h <;> rw [h] <;> rfl) rfl (by decide) (by decide) dX5_leadsInto_55
    have hF := h4
    rcases ite_inv hF with ⟨hc, hF⟩ | ⟨hc, hF⟩
    · refine x_icmp_gt 54 44 dX5_leadsInto_41 (by decide) rfl (fun _ => ?_) (fun q => absurd hc q)
      refine x_iconst 55 (0 : Int32) dX5_leadsInto_54 rfl (by decide) ?_
      have e1 := Option.some.inj hF
      subst e1
      refine x_sub [] [] rfl ?_
      exact hJ
    · refine x_icmp_gt 54 44 dX5_leadsInto_41 (by decide) rfl (fun q => absurd q hc) (fun _ => ?_)
      refine x_iload_n 45 0 dX5_leadsInto_44 rfl rfl ?_
      refine x_iload 47 3 dX5_leadsInto_45 rfl rfl ?_
      rcases ite_inv hF with ⟨hc, hF⟩ | ⟨hc, hF⟩
      · refine x_icmp_gt 54 50 dX5_leadsInto_47 (by decide) rfl (fun _ => ?_) (fun q => absurd hc q)
        refine x_iconst 55 (0 : Int32) dX5_leadsInto_54 rfl (by decide) ?_
        have e1 := Option.some.inj hF
        subst e1
        refine x_sub [] [] rfl ?_
        exact hJ
      · refine x_icmp_gt 54 50 dX5_leadsInto_47 (by decide) rfl (fun q => absurd q hc) (fun _ => ?_)
        refine x_iconst 51 (1 : Int32) dX5_leadsInto_50 rfl (by decide) ?_
        refine x_goto 55 dX5_leadsInto_51 (by decide) ?_
        have e1 := Option.some.inj hF
        subst e1
        refine x_sub [] [] rfl ?_
        exact hJ
  refine x_sub [(1, .int p1), (2, .int p2), (3, .int p3), (4, .int p0), (5, .int p0), (6, .int (0 : Int32))] [4, 5, 6, 2, 1, 0] rfl ?_
  exact mX5_leadsInto_L9 hst p1 p2 p3 σ n _ qfuel p0 p0 (0 : Int32) x1 x2 h5 hJ
def rmX5_readNumber : Room := { frames := 1, cells := 0, slots := 0, locals := 26 }
theorem qyX5_readNumber : qY yX5_readNumber cX5_readNumber 7 (some .int) 3 := ⟨wd_321, wd_21, by decide +kernel, by decide +kernel, by decide +kernel⟩
set_option maxHeartbeats 4000000 in
set_option maxRecDepth 100000 in
theorem mX5_readNumber_L8 {l : Launch} {G : qG} (hst : l.stackTraces = false) (a0 : Nat) (a2 : Int32) (a3 : Int32) (n : Option Nat) (rf : Int32 × qH → qR) (hrf : ∀ v : Int32, ∀ σ : qH, rf (v, σ) = .inl (some (.int v), σ, n)) : ∀ (q : Nat) (y4 : Int32) (y5 : Int32) (σ : qH) (o : Int32 × qH), FX5_readNumber_L8 a0 a2 a3 q y4 y5 σ = some o → qX l G RX5 "readNumber" cX5_readNumber 7 (some .int) [] rmX5_readNumber 0 0 (rf o) 0 0 σ n 8 [(0, .ref a0), (2, .int a2), (3, .int a3), (4, .int y4), (5, .int y5)] [] := by
  intro q
  induction q with
  | zero => intro y4 y5 σ o hF; rw [FX5_readNumber_L8] at hF; cases hF
  | succ q ih =>
    intro y4 y5 σ o hF
    rw [FX5_readNumber_L8] at hF
    refine x_iload 10 4 dX5_readNumber_8 rfl rfl ?_
    rcases ite_inv hF with ⟨hc, hF⟩ | ⟨hc, hF⟩
    · refine x_if_lt 85 13 dX5_readNumber_10 (by decide) rfl (fun _ => ?_) (fun q => absurd hc q)
      refine x_iload 87 3 dX5_readNumber_85 rfl rfl ?_
      cases hF
      exact x_iret rfl (hrf _ _) (by decide) (by decide) dX5_readNumber_87
    · refine x_if_lt 85 13 dX5_readNumber_10 (by decide) rfl (fun q => absurd q hc) (fun _ => ?_)
      refine x_aload_n 14 0 dX5_readNumber_13 rfl rfl ?_
      obtain ⟨v2, h1, hF⟩ := b1_inv hF
      obtain ⟨fs, hb⟩ : ∃ fs : List Value, True ∧ σ a0 = some (.inr (3, fs)) := kX5_signHere h1
      refine x_callV (As := []) (rest := []) 17 0 0 (mX5_signHere hst a0 σ n v2 h1) qyX5_signHere wd_304 wd_306 wd_1 hb.2 rfl rfl rfl (by decide) (Nat.le_of_ble_eq_true rfl) (by decide) dX5_readNumber_14 rfl rfl rfl rfl ?_
      refine x_istore 19 6 [(6, .int v2), (0, .ref a0), (2, .int a2), (3, .int a3), (4, .int y4), (5, .int y5)] dX5_readNumber_17 rfl (by decide) rfl ?_
      refine x_iload 21 0 dX5_readNumber_19 rfl rfl ?_
      refine x_bipush 23 (48 : Int32) dX5_readNumber_21 rfl (by decide) ?_
      rcases ite_inv hF with ⟨hc, hF⟩ | ⟨hc, hF⟩
      · refine x_icmp_lt 54 26 dX5_readNumber_23 (by decide) rfl (fun _ => ?_) (fun q => absurd hc q)
        refine x_iconst 55 (-1 : Int32) dX5_readNumber_54 rfl (by decide) ?_
        cases hF
        exact x_iret rfl (hrf _ _) (by decide) (by decide) dX5_readNumber_55
      · refine x_icmp_lt 54 26 dX5_readNumber_23 (by decide) rfl (fun q => absurd q hc) (fun _ => ?_)
        refine x_iload 28 0 dX5_readNumber_26 rfl rfl ?_
        refine x_bipush 30 (57 : Int32) dX5_readNumber_28 rfl (by decide) ?_
        rcases ite_inv hF with ⟨hc, hF⟩ | ⟨hc, hF⟩
        · refine x_icmp_gt 54 33 dX5_readNumber_30 (by decide) rfl (fun _ => ?_) (fun q => absurd hc q)
          refine x_iconst 55 (-1 : Int32) dX5_readNumber_54 rfl (by decide) ?_
          cases hF
          exact x_iret rfl (hrf _ _) (by decide) (by decide) dX5_readNumber_55
        · refine x_icmp_gt 54 33 dX5_readNumber_30 (by decide) rfl (fun q => absurd q hc) (fun _ => ?_)
          refine x_bipush 35 (10 : Int32) dX5_readNumber_33 rfl (by decide) ?_
          refine x_iload 37 4 dX5_readNumber_35 rfl rfl ?_
          refine x_imul 38 dX5_readNumber_37 rfl ?_
          refine x_iload 40 0 dX5_readNumber_38 rfl rfl ?_
          refine x_iadd 41 dX5_readNumber_40 rfl ?_
          refine x_bipush 43 (48 : Int32) dX5_readNumber_41 rfl (by decide) ?_
          refine x_isub 44 dX5_readNumber_43 rfl ?_
          refine x_iload 46 5 dX5_readNumber_44 rfl rfl ?_
          refine x_iload_n 47 2 dX5_readNumber_46 rfl rfl ?_
          refine x_iload_n 48 3 dX5_readNumber_47 rfl rfl ?_
          obtain ⟨v4, h3, hF⟩ := b1_inv hF
          refine x_callS (As := [.int ((((10 : Int32) * y4) + v2) - (48 : Int32)), .int y5, .int a2, .int a3]) (rest := []) 51 0 0 (mX5_leadsInto hst ((((10 : Int32) * y4) + v2) - (48 : Int32)) y5 a2 a3 σ n v4 h3) qyX5_leadsInto wd_322 wd_323 rfl rfl (by decide) (Nat.le_of_ble_eq_true rfl) (by decide) dX5_readNumber_48 rfl rfl rfl rfl ?_
          rcases ite_inv hF with ⟨hc, hF⟩ | ⟨hc, hF⟩
          · refine x_if_ne 56 54 dX5_readNumber_51 (by decide) rfl (fun q => absurd hc q) (fun _ => ?_)
            refine x_iconst 55 (-1 : Int32) dX5_readNumber_54 rfl (by decide) ?_
            cases hF
            exact x_iret rfl (hrf _ _) (by decide) (by decide) dX5_readNumber_55
          · refine x_if_ne 56 54 dX5_readNumber_51 (by decide) rfl (fun _ => ?_) (fun q => absurd q hc)
            refine x_bipush 58 (10 : Int32) dX5_readNumber_56 rfl (by decide) ?_
            refine x_iload 60 4 dX5_readNumber_58 rfl rfl ?_
            refine x_imul 61 dX5_readNumber_60 rfl ?_
            refine x_iload 63 0 dX5_readNumber_61 rfl rfl ?_
            refine x_iadd 64 dX5_readNumber_63 rfl ?_
            refine x_bipush 66 (48 : Int32) dX5_readNumber_64 rfl (by decide) ?_
            refine x_isub 67 dX5_readNumber_66 rfl ?_
            refine x_istore 69 4 [(4, .int ((((10 : Int32) * y4) + v2) - (48 : Int32))), (6, .int v2), (0, .ref a0), (2, .int a2), (3, .int a3), (5, .int y5)] dX5_readNumber_67 rfl (by decide) rfl ?_
            refine x_aload_n 70 2 dX5_readNumber_69 rfl rfl ?_
            refine x_dup 71 rfl dX5_readNumber_70 rfl ?_
            obtain ⟨v5, h6, hF⟩ := b1_inv hF
            refine x_getI 74 2 inX5 rfl (by decide) wd_117 h6 dX5_readNumber_71 rfl ?_
            refine x_iconst 75 (1 : Int32) dX5_readNumber_74 rfl (by decide) ?_
            refine x_iadd 76 dX5_readNumber_75 rfl ?_
            obtain ⟨s7, h8, hF⟩ := b1_inv hF
            refine x_put 79 2 inX5 tyX5 tyX5_ok nmX5 rfl (by decide) wd_117 rfl (tX5_2) rfl rfl h8 dX5_readNumber_76 rfl ?_
            refine x_iinc 82 5 5 (y5 + (-1 : Int32)) [(5, .int (y5 + (-1 : Int32))), (4, .int ((((10 : Int32) * y4) + v2) - (48 : Int32))), (6, .int v2), (0, .ref a0), (2, .int a2), (3, .int a3)] dX5_readNumber_79 rfl rfl rfl (by decide) rfl ?_
            refine x_goto 8 dX5_readNumber_82 (by decide) ?_
            refine x_sub [(0, .ref a0), (2, .int a2), (3, .int a3), (4, .int ((((10 : Int32) * y4) + v2) - (48 : Int32))), (5, .int (y5 + (-1 : Int32)))] [3, 4, 5, 1, 0] rfl ?_
            exact ih _ _ _ _ hF
theorem kX5_readNumber {b : Nat} {p0 : Int32} {p1 : Int32} {p2 : Int32} {σ : qH} {o : Int32 × qH} (h : FX5_readNumber b p0 p1 p2 σ = some o) : ∃ fs : List Value, True ∧ σ b = some (.inr (3, fs)) := by
  unfold FX5_readNumber at h
  obtain ⟨_, h1, _⟩ := b1_inv h
  obtain ⟨fs, h2⟩ := gC_inv h1
  exact ⟨fs, trivial, h2⟩
set_option maxHeartbeats 4000000 in
set_option maxRecDepth 100000 in
theorem mX5_readNumber {l : Launch} {G : qG} (hst : l.stackTraces = false) (b : Nat) (p0 : Int32) (p1 : Int32) (p2 : Int32) (σ : qH) (n : Option Nat) (ro : Int32) (so : qH) (hF : FX5_readNumber b p0 p1 p2 σ = some (ro, so)) : qM l G yX5_readNumber cX5_readNumber 7 (some .int) rmX5_readNumber [.ref b, .int p0, .int p1, .int p2] σ n (.inl (some (.int ro), so, n)) := by
  refine q_body (own := RX5) (nm := "readNumber") (ls := [(0, .ref b), (1, .int p0), (2, .int p1), (3, .int p2)]) hst (by decide +kernel) rfl rfl (Nat.le_of_ble_eq_true rfl) rfl rfl rfl ?_
  unfold FX5_readNumber at hF
  obtain ⟨_, hC, hF⟩ := b1_inv hF
  refine x_iconst 1 (0 : Int32) dX5_readNumber_0 rfl (by decide) ?_
  refine x_istore 3 4 [(4, .int (0 : Int32)), (0, .ref b), (1, .int p0), (2, .int p1), (3, .int p2)] dX5_readNumber_1 rfl (by decide) rfl ?_
  refine x_iload_n 4 2 dX5_readNumber_3 rfl rfl ?_
  refine x_iconst 5 (1 : Int32) dX5_readNumber_4 rfl (by decide) ?_
  refine x_isub 6 dX5_readNumber_5 rfl ?_
  refine x_istore 8 5 [(5, .int (p0 - (1 : Int32))), (4, .int (0 : Int32)), (0, .ref b), (1, .int p0), (2, .int p1), (3, .int p2)] dX5_readNumber_6 rfl (by decide) rfl ?_
  refine x_sub [(0, .ref b), (2, .int p1), (3, .int p2), (4, .int (0 : Int32)), (5, .int (p0 - (1 : Int32)))] [2, 4, 5, 1, 0] rfl ?_
  exact mX5_readNumber_L8 hst b p1 p2 n (fun v9 : Int32 × qH => .inl (some (.int v9.1), v9.2, n)) (fun _ _ => rfl) qfuel (0 : Int32) (p0 - (1 : Int32)) σ _ hF
def rmX5_readNumbers : Room := { frames := 2, cells := 0, slots := 0, locals := 52 }
theorem qyX5_readNumbers : qY yX5_readNumbers cX5_readNumbers 3 (some .boolean) 1 := ⟨wd_317, wd_21, by decide +kernel, by decide +kernel, by decide +kernel⟩
set_option maxHeartbeats 4000000 in
set_option maxRecDepth 100000 in
theorem mX5_readNumbers_L12 {l : Launch} {G : qG} (hst : l.stackTraces = false) (a0 : Nat) (a1 : Nat) (n : Option Nat) (rf : Int32 × qH → qR) (hrf : ∀ v : Int32, ∀ σ : qH, rf (v, σ) = .inl (some (.int v), σ, n)) : ∀ (q : Nat) (y2 : Int32) (σ : qH) (o : Int32 × qH), FX5_readNumbers_L12 a0 a1 q y2 σ = some o → qX l G RX5 "readNumbers" cX5_readNumbers 3 (some .boolean) [] rmX5_readNumbers 0 0 (rf o) 0 0 σ n 12 [(0, .ref a0), (1, .ref a1), (2, .int y2)] [] := by
  intro q
  induction q with
  | zero => intro y2 σ o hF; rw [FX5_readNumbers_L12] at hF; cases hF
  | succ q ih =>
    intro y2 σ o hF
    rw [FX5_readNumbers_L12] at hF
    refine x_iload_n 13 2 dX5_readNumbers_12 rfl rfl ?_
    refine x_bipush 15 (6 : Int32) dX5_readNumbers_13 rfl (by decide) ?_
    rcases ite_inv hF with ⟨hc, hF⟩ | ⟨hc, hF⟩
    · refine x_icmp_ge 75 18 dX5_readNumbers_15 (by decide) rfl (fun _ => ?_) (fun q => absurd hc q)
      refine x_iconst 76 (1 : Int32) dX5_readNumbers_75 rfl (by decide) ?_
      cases hF
      exact x_zret rfl rfl (hrf _ _) (by decide) (by decide) dX5_readNumbers_76
    · refine x_icmp_ge 75 18 dX5_readNumbers_15 (by decide) rfl (fun q => absurd q hc) (fun _ => ?_)
      refine x_iconst 19 (3 : Int32) dX5_readNumbers_18 rfl (by decide) ?_
      refine x_iload_n 20 2 dX5_readNumbers_19 rfl rfl ?_
      refine x_imul 21 dX5_readNumbers_20 rfl ?_
      refine x_iconst 22 (2 : Int32) dX5_readNumbers_21 rfl (by decide) ?_
      refine x_iadd 23 dX5_readNumbers_22 rfl ?_
      refine x_aload_n 24 1 dX5_readNumbers_23 rfl rfl ?_
      obtain ⟨v5, h6, hF⟩ := b1_inv hF
      refine x_aL 25 h6 dX5_readNumbers_24 rfl ?_
      rcases ite_inv hF with ⟨hc, hF⟩ | ⟨hc, hF⟩
      · refine x_icmp_ge 75 28 dX5_readNumbers_25 (by decide) rfl (fun _ => ?_) (fun q => absurd hc q)
        refine x_iconst 76 (1 : Int32) dX5_readNumbers_75 rfl (by decide) ?_
        cases hF
        exact x_zret rfl rfl (hrf _ _) (by decide) (by decide) dX5_readNumbers_76
      · refine x_icmp_ge 75 28 dX5_readNumbers_25 (by decide) rfl (fun q => absurd q hc) (fun _ => ?_)
        refine x_aload_n 29 0 dX5_readNumbers_28 rfl rfl ?_
        obtain ⟨r7, h8, hF⟩ := b1_inv hF
        refine x_getR 32 4 inX5 rfl (by decide) wd_119 h8 dX5_readNumbers_29 rfl ?_
        refine x_iload_n 33 2 dX5_readNumbers_32 rfl rfl ?_
        refine x_aload_n 34 0 dX5_readNumbers_33 rfl rfl ?_
        refine x_aload_n 35 1 dX5_readNumbers_34 rfl rfl ?_
        refine x_iconst 36 (3 : Int32) dX5_readNumbers_35 rfl (by decide) ?_
        refine x_iload_n 37 2 dX5_readNumbers_36 rfl rfl ?_
        refine x_imul 38 dX5_readNumbers_37 rfl ?_
        obtain ⟨v9, h10, hF⟩ := b1_inv hF
        refine x_aI 39 h10 dX5_readNumbers_38 rfl ?_
        refine x_aload_n 40 1 dX5_readNumbers_39 rfl rfl ?_
        refine x_iconst 41 (3 : Int32) dX5_readNumbers_40 rfl (by decide) ?_
        refine x_iload_n 42 2 dX5_readNumbers_41 rfl rfl ?_
        refine x_imul 43 dX5_readNumbers_42 rfl ?_
        refine x_iconst 44 (1 : Int32) dX5_readNumbers_43 rfl (by decide) ?_
        refine x_iadd 45 dX5_readNumbers_44 rfl ?_
        obtain ⟨v11, h12, hF⟩ := b1_inv hF
        refine x_aI 46 h12 dX5_readNumbers_45 rfl ?_
        refine x_aload_n 47 1 dX5_readNumbers_46 rfl rfl ?_
        refine x_iconst 48 (3 : Int32) dX5_readNumbers_47 rfl (by decide) ?_
        refine x_iload_n 49 2 dX5_readNumbers_48 rfl rfl ?_
        refine x_imul 50 dX5_readNumbers_49 rfl ?_
        refine x_iconst 51 (2 : Int32) dX5_readNumbers_50 rfl (by decide) ?_
        refine x_iadd 52 dX5_readNumbers_51 rfl ?_
        obtain ⟨v13, h14, hF⟩ := b1_inv hF
        refine x_aI 53 h14 dX5_readNumbers_52 rfl ?_
        obtain ⟨v16, s17, h15, hF⟩ := b2_inv hF
        obtain ⟨fs, hb⟩ : ∃ fs : List Value, True ∧ σ a0 = some (.inr (3, fs)) := kX5_readNumber h15
        refine x_callV (As := [.int v9, .int v11, .int v13]) (rest := [.int y2, .ref r7]) 56 0 0 (mX5_readNumber hst a0 v9 v11 v13 σ n v16 s17 h15) qyX5_readNumber wd_318 wd_320 wd_3 hb.2 rfl rfl rfl (by decide) (Nat.le_of_ble_eq_true rfl) (by decide) dX5_readNumbers_53 rfl rfl rfl rfl ?_
        obtain ⟨s18, h19, hF⟩ := b1_inv hF
        refine x_sI 57 h19 dX5_readNumbers_56 rfl ?_
        refine x_aload_n 58 0 dX5_readNumbers_57 rfl rfl ?_
        obtain ⟨r20, h21, hF⟩ := b1_inv hF
        refine x_getR 61 4 inX5 rfl (by decide) wd_119 h21 dX5_readNumbers_58 rfl ?_
        refine x_iload_n 62 2 dX5_readNumbers_61 rfl rfl ?_
        obtain ⟨v22, h23, hF⟩ := b1_inv hF
        refine x_aI 63 h23 dX5_readNumbers_62 rfl ?_
        refine x_iconst 64 (-1 : Int32) dX5_readNumbers_63 rfl (by decide) ?_
        rcases ite_inv hF with ⟨hc, hF⟩ | ⟨hc, hF⟩
        · refine x_icmp_ne 69 67 dX5_readNumbers_64 (by decide) rfl (fun q => absurd hc q) (fun _ => ?_)
          refine x_iconst 68 (0 : Int32) dX5_readNumbers_67 rfl (by decide) ?_
          cases hF
          exact x_zret rfl rfl (hrf _ _) (by decide) (by decide) dX5_readNumbers_68
        · refine x_icmp_ne 69 67 dX5_readNumbers_64 (by decide) rfl (fun _ => ?_) (fun q => absurd q hc)
          refine x_iinc 72 2 2 (y2 + (1 : Int32)) [(2, .int (y2 + (1 : Int32))), (0, .ref a0), (1, .ref a1)] dX5_readNumbers_69 rfl rfl rfl (by decide) rfl ?_
          refine x_goto 12 dX5_readNumbers_72 (by decide) ?_
          refine x_sub [(0, .ref a0), (1, .ref a1), (2, .int (y2 + (1 : Int32)))] [1, 2, 0] rfl ?_
          exact ih _ _ _ hF
theorem kX5_readNumbers {b : Nat} {p0 : Nat} {σ : qH} {o : Int32 × qH} (h : FX5_readNumbers b p0 σ = some o) : ∃ fs : List Value, True ∧ σ b = some (.inr (3, fs)) := by
  unfold FX5_readNumbers at h
  obtain ⟨_, h1, _⟩ := b1_inv h
  obtain ⟨fs, h2⟩ := gC_inv h1
  exact ⟨fs, trivial, h2⟩
set_option maxHeartbeats 4000000 in
set_option maxRecDepth 100000 in
theorem mX5_readNumbers {l : Launch} {G : qG} (hst : l.stackTraces = false) (b : Nat) (p0 : Nat) (σ : qH) (n : Option Nat) (ro : Int32) (so : qH) (hF : FX5_readNumbers b p0 σ = some (ro, so)) : qM l G yX5_readNumbers cX5_readNumbers 3 (some .boolean) rmX5_readNumbers [.ref b, .ref p0] σ n (.inl (some (.int ro), so, n)) := by
  refine q_body (own := RX5) (nm := "readNumbers") (ls := [(0, .ref b), (1, .ref p0)]) hst (by decide +kernel) rfl rfl (Nat.le_of_ble_eq_true rfl) rfl rfl rfl ?_
  unfold FX5_readNumbers at hF
  obtain ⟨_, hC, hF⟩ := b1_inv hF
  refine x_aload_n 1 0 dX5_readNumbers_0 rfl rfl ?_
  refine x_dup 2 rfl dX5_readNumbers_1 rfl ?_
  obtain ⟨v1, h2, hF⟩ := b1_inv hF
  refine x_getI 5 2 inX5 rfl (by decide) wd_117 h2 dX5_readNumbers_2 rfl ?_
  refine x_iconst 6 (1 : Int32) dX5_readNumbers_5 rfl (by decide) ?_
  refine x_iadd 7 dX5_readNumbers_6 rfl ?_
  obtain ⟨s3, h4, hF⟩ := b1_inv hF
  refine x_put 10 2 inX5 tyX5 tyX5_ok nmX5 rfl (by decide) wd_117 rfl (tX5_2) rfl rfl h4 dX5_readNumbers_7 rfl ?_
  refine x_iconst 11 (0 : Int32) dX5_readNumbers_10 rfl (by decide) ?_
  refine x_istore_n 12 2 [(2, .int (0 : Int32)), (0, .ref b), (1, .ref p0)] dX5_readNumbers_11 rfl rfl (by decide) rfl ?_
  refine x_sub [(0, .ref b), (1, .ref p0), (2, .int (0 : Int32))] [1, 2, 0] rfl ?_
  exact mX5_readNumbers_L12 hst b p0 n (fun v9 : Int32 × qH => .inl (some (.int v9.1), v9.2, n)) (fun _ _ => rfl) qfuel (0 : Int32) s3 _ hF
def rmX5_readCommand : Room := { frames := 3, cells := 0, slots := 0, locals := 74 }
theorem qyX5_readCommand : qY yX5_readCommand cX5_readCommand 1 (some .boolean) 0 := ⟨wd_311, wd_21, by decide +kernel, by decide +kernel, by decide +kernel⟩
theorem kX5_readCommand {tst : Nat → Nat} {b : Nat} {σ : qH} {o : Int32 × qH} (h : FX5_readCommand tst b σ = some o) : ∃ fs : List Value, True ∧ σ b = some (.inr (3, fs)) := by
  unfold FX5_readCommand at h
  obtain ⟨_, h1, _⟩ := b1_inv h
  obtain ⟨fs, h2⟩ := gC_inv h1
  exact ⟨fs, trivial, h2⟩
set_option maxHeartbeats 4000000 in
set_option maxRecDepth 100000 in
theorem mX5_readCommand {l : Launch} {G : qG} (hst : l.stackTraces = false) (b : Nat) (σ : qH) (n : Option Nat) (ro : Int32) (so : qH) (hF : FX5_readCommand (G.2.2.2.1) b σ = some (ro, so)) : qM l G yX5_readCommand cX5_readCommand 1 (some .boolean) rmX5_readCommand [.ref b] σ n (.inl (some (.int ro), so, n)) := by
  refine q_body (own := RX5) (nm := "readCommand") (ls := [(0, .ref b)]) hst (by decide +kernel) rfl rfl (Nat.le_of_ble_eq_true rfl) rfl rfl rfl ?_
  unfold FX5_readCommand at hF
  obtain ⟨_, hC, hF⟩ := b1_inv hF
  refine x_aload_n 1 0 dX5_readCommand_0 rfl rfl ?_
  refine x_aload_n 2 0 dX5_readCommand_1 rfl rfl ?_
  obtain ⟨v2, h1, hF⟩ := b1_inv hF
  obtain ⟨fs, hb⟩ : ∃ fs : List Value, True ∧ σ b = some (.inr (3, fs)) := kX5_signHere h1
  refine x_callV (As := []) (rest := [.ref b]) 5 0 0 (mX5_signHere hst b σ n v2 h1) qyX5_signHere wd_304 wd_306 wd_1 hb.2 rfl rfl rfl (by decide) (Nat.le_of_ble_eq_true rfl) (by decide) dX5_readCommand_2 rfl rfl rfl rfl ?_
  obtain ⟨s3, h4, hF⟩ := b1_inv hF
  refine x_put 8 3 inX5 tyX5 tyX5_ok nmX5 rfl (by decide) wd_118 rfl (tX5_3) rfl rfl h4 dX5_readCommand_5 rfl ?_
  refine x_aload_n 9 0 dX5_readCommand_8 rfl rfl ?_
  obtain ⟨v5, h6, hF⟩ := b1_inv hF
  refine x_getI 12 3 inX5 rfl (by decide) wd_118 h6 dX5_readCommand_9 rfl ?_
  rcases ite_inv hF with ⟨h10, hF⟩ | ⟨h10, hF⟩
  · have hK : qX l G RX5 "readCommand" cX5_readCommand 1 (some .boolean) [] rmX5_readCommand 0 0 (.inl (some (.int ro), so, n)) 0 0 s3 n 132 [(0, .ref b)] [] := by
      refine x_aload_n 133 0 dX5_readCommand_132 rfl rfl ?_
      refine x_getstatic 136 ("DROP", 3) (by decide) wd_329 dX5_readCommand_133 rfl ?_
      obtain ⟨v8, s9, h7, hF⟩ := b2_inv hF
      obtain ⟨fs, hb⟩ : ∃ fs : List Value, True ∧ s3 b = some (.inr (3, fs)) := kX5_readNumbers h7
      refine x_callV (As := [.ref ((G.2.2.2.1) 3)]) (rest := []) 139 0 0 (mX5_readNumbers hst b ((G.2.2.2.1) 3) s3 n v8 s9 h7) qyX5_readNumbers wd_314 wd_316 wd_2 hb.2 rfl rfl rfl (by decide) (Nat.le_of_ble_eq_true rfl) (by decide) dX5_readCommand_136 rfl rfl rfl rfl ?_
      obtain ⟨hz, hF⟩ := ite_none hF
      cases hF
      exact x_zret rfl (by rcases hz with h | h <;> rw [h] <;> rfl) rfl (by decide) (by decide) dX5_readCommand_139
    · exact x_tableIn (120) 132 dX5_readCommand_12 (by rw [h10]; decide) (by rw [h10]; decide) (by rw [h10]; decide) (by decide) hK
  rcases ite_inv hF with ⟨h14, hF⟩ | ⟨h14, hF⟩
  · have hK : qX l G RX5 "readCommand" cX5_readCommand 1 (some .boolean) [] rmX5_readCommand 0 0 (.inl (some (.int ro), so, n)) 0 0 s3 n 116 [(0, .ref b)] [] := by
      refine x_aload_n 117 0 dX5_readCommand_116 rfl rfl ?_
      refine x_getstatic 120 ("POOL", 1) (by decide) wd_325 dX5_readCommand_117 rfl ?_
      obtain ⟨v12, s13, h11, hF⟩ := b2_inv hF
      obtain ⟨fs, hb⟩ : ∃ fs : List Value, True ∧ s3 b = some (.inr (3, fs)) := kX5_readNumbers h11
      refine x_callV (As := [.ref ((G.2.2.2.1) 1)]) (rest := []) 123 0 0 (mX5_readNumbers hst b ((G.2.2.2.1) 1) s3 n v12 s13 h11) qyX5_readNumbers wd_314 wd_316 wd_2 hb.2 rfl rfl rfl (by decide) (Nat.le_of_ble_eq_true rfl) (by decide) dX5_readCommand_120 rfl rfl rfl rfl ?_
      obtain ⟨hz, hF⟩ := ite_none hF
      cases hF
      exact x_zret rfl (by rcases hz with h | h <;> rw [h] <;> rfl) rfl (by decide) (by decide) dX5_readCommand_123
    · exact x_tableIn (104) 116 dX5_readCommand_12 (by rw [h14]; decide) (by rw [h14]; decide) (by rw [h14]; decide) (by decide) hK
  rcases ite_inv hF with ⟨h18, hF⟩ | ⟨h18, hF⟩
  · have hK : qX l G RX5 "readCommand" cX5_readCommand 1 (some .boolean) [] rmX5_readCommand 0 0 (.inl (some (.int ro), so, n)) 0 0 s3 n 148 [(0, .ref b)] [] := by
      refine x_aload_n 149 0 dX5_readCommand_148 rfl rfl ?_
      refine x_getstatic 152 ("EVENING", 5) (by decide) wd_333 dX5_readCommand_149 rfl ?_
      obtain ⟨v16, s17, h15, hF⟩ := b2_inv hF
      obtain ⟨fs, hb⟩ : ∃ fs : List Value, True ∧ s3 b = some (.inr (3, fs)) := kX5_readNumbers h15
      refine x_callV (As := [.ref ((G.2.2.2.1) 5)]) (rest := []) 155 0 0 (mX5_readNumbers hst b ((G.2.2.2.1) 5) s3 n v16 s17 h15) qyX5_readNumbers wd_314 wd_316 wd_2 hb.2 rfl rfl rfl (by decide) (Nat.le_of_ble_eq_true rfl) (by decide) dX5_readCommand_152 rfl rfl rfl rfl ?_
      obtain ⟨hz, hF⟩ := ite_none hF
      cases hF
      exact x_zret rfl (by rcases hz with h | h <;> rw [h] <;> rfl) rfl (by decide) (by decide) dX5_readCommand_155
    · exact x_tableIn (136) 148 dX5_readCommand_12 (by rw [h18]; decide) (by rw [h18]; decide) (by rw [h18]; decide) (by decide) hK
  rcases ite_inv hF with ⟨h22, hF⟩ | ⟨h22, hF⟩
  · have hK : qX l G RX5 "readCommand" cX5_readCommand 1 (some .boolean) [] rmX5_readCommand 0 0 (.inl (some (.int ro), so, n)) 0 0 s3 n 108 [(0, .ref b)] [] := by
      refine x_aload_n 109 0 dX5_readCommand_108 rfl rfl ?_
      refine x_getstatic 112 ("SHADOW", 0) (by decide) wd_312 dX5_readCommand_109 rfl ?_
      obtain ⟨v20, s21, h19, hF⟩ := b2_inv hF
      obtain ⟨fs, hb⟩ : ∃ fs : List Value, True ∧ s3 b = some (.inr (3, fs)) := kX5_readNumbers h19
      refine x_callV (As := [.ref ((G.2.2.2.1) 0)]) (rest := []) 115 0 0 (mX5_readNumbers hst b ((G.2.2.2.1) 0) s3 n v20 s21 h19) qyX5_readNumbers wd_314 wd_316 wd_2 hb.2 rfl rfl rfl (by decide) (Nat.le_of_ble_eq_true rfl) (by decide) dX5_readCommand_112 rfl rfl rfl rfl ?_
      obtain ⟨hz, hF⟩ := ite_none hF
      cases hF
      exact x_zret rfl (by rcases hz with h | h <;> rw [h] <;> rfl) rfl (by decide) (by decide) dX5_readCommand_115
    · exact x_tableIn (96) 108 dX5_readCommand_12 (by rw [h22]; decide) (by rw [h22]; decide) (by rw [h22]; decide) (by decide) hK
  rcases ite_inv hF with ⟨h26, hF⟩ | ⟨h26, hF⟩
  · have hK : qX l G RX5 "readCommand" cX5_readCommand 1 (some .boolean) [] rmX5_readCommand 0 0 (.inl (some (.int ro), so, n)) 0 0 s3 n 140 [(0, .ref b)] [] := by
      refine x_aload_n 141 0 dX5_readCommand_140 rfl rfl ?_
      refine x_getstatic 144 ("TRUST", 4) (by decide) wd_331 dX5_readCommand_141 rfl ?_
      obtain ⟨v24, s25, h23, hF⟩ := b2_inv hF
      obtain ⟨fs, hb⟩ : ∃ fs : List Value, True ∧ s3 b = some (.inr (3, fs)) := kX5_readNumbers h23
      refine x_callV (As := [.ref ((G.2.2.2.1) 4)]) (rest := []) 147 0 0 (mX5_readNumbers hst b ((G.2.2.2.1) 4) s3 n v24 s25 h23) qyX5_readNumbers wd_314 wd_316 wd_2 hb.2 rfl rfl rfl (by decide) (Nat.le_of_ble_eq_true rfl) (by decide) dX5_readCommand_144 rfl rfl rfl rfl ?_
      obtain ⟨hz, hF⟩ := ite_none hF
      cases hF
      exact x_zret rfl (by rcases hz with h | h <;> rw [h] <;> rfl) rfl (by decide) (by decide) dX5_readCommand_147
    · exact x_tableIn (128) 140 dX5_readCommand_12 (by rw [h26]; decide) (by rw [h26]; decide) (by rw [h26]; decide) (by decide) hK
  rcases ite_inv hF with ⟨h30, hF⟩ | ⟨h30, hF⟩
  · have hK : qX l G RX5 "readCommand" cX5_readCommand 1 (some .boolean) [] rmX5_readCommand 0 0 (.inl (some (.int ro), so, n)) 0 0 s3 n 156 [(0, .ref b)] [] := by
      refine x_aload_n 157 0 dX5_readCommand_156 rfl rfl ?_
      refine x_getstatic 160 ("SURVEY", 6) (by decide) wd_335 dX5_readCommand_157 rfl ?_
      obtain ⟨v28, s29, h27, hF⟩ := b2_inv hF
      obtain ⟨fs, hb⟩ : ∃ fs : List Value, True ∧ s3 b = some (.inr (3, fs)) := kX5_readNumbers h27
      refine x_callV (As := [.ref ((G.2.2.2.1) 6)]) (rest := []) 163 0 0 (mX5_readNumbers hst b ((G.2.2.2.1) 6) s3 n v28 s29 h27) qyX5_readNumbers wd_314 wd_316 wd_2 hb.2 rfl rfl rfl (by decide) (Nat.le_of_ble_eq_true rfl) (by decide) dX5_readCommand_160 rfl rfl rfl rfl ?_
      obtain ⟨hz, hF⟩ := ite_none hF
      cases hF
      exact x_zret rfl (by rcases hz with h | h <;> rw [h] <;> rfl) rfl (by decide) (by decide) dX5_readCommand_163
    · exact x_tableIn (144) 156 dX5_readCommand_12 (by rw [h30]; decide) (by rw [h30]; decide) (by rw [h30]; decide) (by decide) hK
  rcases ite_inv hF with ⟨h34, hF⟩ | ⟨h34, hF⟩
  · have hK : qX l G RX5 "readCommand" cX5_readCommand 1 (some .boolean) [] rmX5_readCommand 0 0 (.inl (some (.int ro), so, n)) 0 0 s3 n 124 [(0, .ref b)] [] := by
      refine x_aload_n 125 0 dX5_readCommand_124 rfl rfl ?_
      refine x_getstatic 128 ("WORD", 2) (by decide) wd_327 dX5_readCommand_125 rfl ?_
      obtain ⟨v32, s33, h31, hF⟩ := b2_inv hF
      obtain ⟨fs, hb⟩ : ∃ fs : List Value, True ∧ s3 b = some (.inr (3, fs)) := kX5_readNumbers h31
      refine x_callV (As := [.ref ((G.2.2.2.1) 2)]) (rest := []) 131 0 0 (mX5_readNumbers hst b ((G.2.2.2.1) 2) s3 n v32 s33 h31) qyX5_readNumbers wd_314 wd_316 wd_2 hb.2 rfl rfl rfl (by decide) (Nat.le_of_ble_eq_true rfl) (by decide) dX5_readCommand_128 rfl rfl rfl rfl ?_
      obtain ⟨hz, hF⟩ := ite_none hF
      cases hF
      exact x_zret rfl (by rcases hz with h | h <;> rw [h] <;> rfl) rfl (by decide) (by decide) dX5_readCommand_131
    · exact x_tableIn (112) 124 dX5_readCommand_12 (by rw [h34]; decide) (by rw [h34]; decide) (by rw [h34]; decide) (by decide) hK
  have hK : qX l G RX5 "readCommand" cX5_readCommand 1 (some .boolean) [] rmX5_readCommand 0 0 (.inl (some (.int ro), so, n)) 0 0 s3 n 164 [(0, .ref b)] [] := by
    refine x_iconst 165 (0 : Int32) dX5_readCommand_164 rfl (by decide) ?_
    cases hF
    exact x_zret rfl rfl rfl (by decide) (by decide) dX5_readCommand_165
  by_cases h35 : v5 = (101 : Int32)
  · exact x_tableIn (152) 164 dX5_readCommand_12 (by rw [h35]; decide) (by rw [h35]; decide) (by rw [h35]; decide) (by decide) hK
  by_cases h36 : v5 = (102 : Int32)
  · exact x_tableIn (152) 164 dX5_readCommand_12 (by rw [h36]; decide) (by rw [h36]; decide) (by rw [h36]; decide) (by decide) hK
  by_cases h37 : v5 = (103 : Int32)
  · exact x_tableIn (152) 164 dX5_readCommand_12 (by rw [h37]; decide) (by rw [h37]; decide) (by rw [h37]; decide) (by decide) hK
  by_cases h38 : v5 = (104 : Int32)
  · exact x_tableIn (152) 164 dX5_readCommand_12 (by rw [h38]; decide) (by rw [h38]; decide) (by rw [h38]; decide) (by decide) hK
  by_cases h39 : v5 = (105 : Int32)
  · exact x_tableIn (152) 164 dX5_readCommand_12 (by rw [h39]; decide) (by rw [h39]; decide) (by rw [h39]; decide) (by decide) hK
  by_cases h40 : v5 = (106 : Int32)
  · exact x_tableIn (152) 164 dX5_readCommand_12 (by rw [h40]; decide) (by rw [h40]; decide) (by rw [h40]; decide) (by decide) hK
  by_cases h41 : v5 = (107 : Int32)
  · exact x_tableIn (152) 164 dX5_readCommand_12 (by rw [h41]; decide) (by rw [h41]; decide) (by rw [h41]; decide) (by decide) hK
  by_cases h42 : v5 = (108 : Int32)
  · exact x_tableIn (152) 164 dX5_readCommand_12 (by rw [h42]; decide) (by rw [h42]; decide) (by rw [h42]; decide) (by decide) hK
  by_cases h43 : v5 = (109 : Int32)
  · exact x_tableIn (152) 164 dX5_readCommand_12 (by rw [h43]; decide) (by rw [h43]; decide) (by rw [h43]; decide) (by decide) hK
  by_cases h44 : v5 = (110 : Int32)
  · exact x_tableIn (152) 164 dX5_readCommand_12 (by rw [h44]; decide) (by rw [h44]; decide) (by rw [h44]; decide) (by decide) hK
  by_cases h45 : v5 = (112 : Int32)
  · exact x_tableIn (152) 164 dX5_readCommand_12 (by rw [h45]; decide) (by rw [h45]; decide) (by rw [h45]; decide) (by decide) hK
  by_cases h46 : v5 = (114 : Int32)
  · exact x_tableIn (152) 164 dX5_readCommand_12 (by rw [h46]; decide) (by rw [h46]; decide) (by rw [h46]; decide) (by decide) hK
  by_cases h47 : v5 = (117 : Int32)
  · exact x_tableIn (152) 164 dX5_readCommand_12 (by rw [h47]; decide) (by rw [h47]; decide) (by rw [h47]; decide) (by decide) hK
  have h10z := i32_ne (z := 100) h10 (by decide)
  have h14z := i32_ne (z := 111) h14 (by decide)
  have h18z := i32_ne (z := 113) h18 (by decide)
  have h22z := i32_ne (z := 115) h22 (by decide)
  have h26z := i32_ne (z := 116) h26 (by decide)
  have h30z := i32_ne (z := 118) h30 (by decide)
  have h34z := i32_ne (z := 119) h34 (by decide)
  have h35z := i32_ne (z := 101) h35 (by decide)
  have h36z := i32_ne (z := 102) h36 (by decide)
  have h37z := i32_ne (z := 103) h37 (by decide)
  have h38z := i32_ne (z := 104) h38 (by decide)
  have h39z := i32_ne (z := 105) h39 (by decide)
  have h40z := i32_ne (z := 106) h40 (by decide)
  have h41z := i32_ne (z := 107) h41 (by decide)
  have h42z := i32_ne (z := 108) h42 (by decide)
  have h43z := i32_ne (z := 109) h43 (by decide)
  have h44z := i32_ne (z := 110) h44 (by decide)
  have h45z := i32_ne (z := 112) h45 (by decide)
  have h46z := i32_ne (z := 114) h46 (by decide)
  have h47z := i32_ne (z := 117) h47 (by decide)
  exact x_tableOut 164 dX5_readCommand_12 (by omega) (by decide) hK
def rmX5_findError : Room := { frames := 4, cells := 0, slots := 0, locals := 94 }
theorem qyX5_findError : qY yX5_findError cX5_findError 2 (some .int) 0 := ⟨wd_299, wd_21, by decide +kernel, by decide +kernel, by decide +kernel⟩
set_option maxHeartbeats 4000000 in
set_option maxRecDepth 100000 in
theorem mX5_findError_L14 {l : Launch} {G : qG} (hst : l.stackTraces = false) (a0 : Nat) (n : Option Nat) (rf : Int32 × qH → qR) (hrf : ∀ v : Int32, ∀ σ : qH, rf (v, σ) = .inl (some (.int v), σ, n)) : ∀ (q : Nat) (y1 : Int32) (σ : qH) (o : Int32 × qH), FX5_findError_L14 (G.2.2.2.1) a0 q y1 σ = some o → qX l G RX5 "findError" cX5_findError 2 (some .int) [] rmX5_findError 0 0 (rf o) 0 0 σ n 14 [(0, .ref a0), (1, .int y1)] [] := by
  intro q
  induction q with
  | zero => intro y1 σ o hF; rw [FX5_findError_L14] at hF; cases hF
  | succ q ih =>
    intro y1 σ o hF
    rw [FX5_findError_L14] at hF
    refine x_iload_n 15 1 dX5_findError_14 rfl rfl ?_
    refine x_bipush 17 (120 : Int32) dX5_findError_15 rfl (by decide) ?_
    rcases ite_inv hF with ⟨hc, hF⟩ | ⟨hc, hF⟩
    · refine x_icmp_ge 49 20 dX5_findError_17 (by decide) rfl (fun _ => ?_) (fun q => absurd hc q)
      refine x_iconst 50 (-1 : Int32) dX5_findError_49 rfl (by decide) ?_
      cases hF
      exact x_iret rfl (hrf _ _) (by decide) (by decide) dX5_findError_50
    · refine x_icmp_ge 49 20 dX5_findError_17 (by decide) rfl (fun q => absurd q hc) (fun _ => ?_)
      refine x_aload_n 21 0 dX5_findError_20 rfl rfl ?_
      obtain ⟨v6, h7, hF⟩ := b1_inv hF
      refine x_getI 24 2 inX5 rfl (by decide) wd_117 h7 dX5_findError_21 rfl ?_
      refine x_aload_n 25 0 dX5_findError_24 rfl rfl ?_
      obtain ⟨v8, h9, hF⟩ := b1_inv hF
      refine x_getI 28 1 inX5 rfl (by decide) wd_116 h9 dX5_findError_25 rfl ?_
      rcases ite_inv hF with ⟨hc, hF⟩ | ⟨hc, hF⟩
      · refine x_icmp_ge 49 31 dX5_findError_28 (by decide) rfl (fun _ => ?_) (fun q => absurd hc q)
        refine x_iconst 50 (-1 : Int32) dX5_findError_49 rfl (by decide) ?_
        cases hF
        exact x_iret rfl (hrf _ _) (by decide) (by decide) dX5_findError_50
      · refine x_icmp_ge 49 31 dX5_findError_28 (by decide) rfl (fun q => absurd q hc) (fun _ => ?_)
        refine x_aload_n 32 0 dX5_findError_31 rfl rfl ?_
        obtain ⟨v11, s12, h10, hF⟩ := b2_inv hF
        obtain ⟨fs, hb⟩ : ∃ fs : List Value, True ∧ σ a0 = some (.inr (3, fs)) := kX5_readCommand h10
        refine x_callV (As := []) (rest := []) 35 0 0 (mX5_readCommand hst a0 σ n v11 s12 h10) qyX5_readCommand wd_308 wd_309 wd_310 hb.2 rfl rfl rfl (by decide) (Nat.le_of_ble_eq_true rfl) (by decide) dX5_findError_32 rfl rfl rfl rfl ?_
        rcases ite_inv hF with ⟨hc, hF⟩ | ⟨hc, hF⟩
        · refine x_if_ne 43 38 dX5_findError_35 (by decide) rfl (fun q => absurd hc q) (fun _ => ?_)
          refine x_aload_n 39 0 dX5_findError_38 rfl rfl ?_
          obtain ⟨v13, h14, hF⟩ := b1_inv hF
          refine x_getI 42 2 inX5 rfl (by decide) wd_117 h14 dX5_findError_39 rfl ?_
          cases hF
          exact x_iret rfl (hrf _ _) (by decide) (by decide) dX5_findError_42
        · refine x_if_ne 43 38 dX5_findError_35 (by decide) rfl (fun _ => ?_) (fun q => absurd q hc)
          refine x_iinc 46 1 1 (y1 + (1 : Int32)) [(1, .int (y1 + (1 : Int32))), (0, .ref a0)] dX5_findError_43 rfl rfl rfl (by decide) rfl ?_
          refine x_goto 14 dX5_findError_46 (by decide) ?_
          refine x_sub [(0, .ref a0), (1, .int (y1 + (1 : Int32)))] [1, 0] rfl ?_
          exact ih _ _ _ hF
theorem kX5_findError {tst : Nat → Nat} {b : Nat} {σ : qH} {o : Int32 × qH} (h : FX5_findError tst b σ = some o) : ∃ fs : List Value, True ∧ σ b = some (.inr (3, fs)) := by
  unfold FX5_findError at h
  obtain ⟨_, h1, _⟩ := b1_inv h
  obtain ⟨fs, h2⟩ := gC_inv h1
  exact ⟨fs, trivial, h2⟩
set_option maxHeartbeats 4000000 in
set_option maxRecDepth 100000 in
theorem mX5_findError {l : Launch} {G : qG} (hst : l.stackTraces = false) (b : Nat) (σ : qH) (n : Option Nat) (ro : Int32) (so : qH) (hF : FX5_findError (G.2.2.2.1) b σ = some (ro, so)) : qM l G yX5_findError cX5_findError 2 (some .int) rmX5_findError [.ref b] σ n (.inl (some (.int ro), so, n)) := by
  refine q_body (own := RX5) (nm := "findError") (ls := [(0, .ref b)]) hst (by decide +kernel) rfl rfl (Nat.le_of_ble_eq_true rfl) rfl rfl rfl ?_
  unfold FX5_findError at hF
  obtain ⟨_, hC, hF⟩ := b1_inv hF
  refine x_aload_n 1 0 dX5_findError_0 rfl rfl ?_
  obtain ⟨v2, s3, h1, hF⟩ := b2_inv hF
  obtain ⟨fs, hb⟩ : ∃ fs : List Value, True ∧ σ b = some (.inr (3, fs)) := kX5_readHead h1
  refine x_callV (As := []) (rest := []) 4 0 0 (mX5_readHead hst b σ n v2 s3 h1) qyX5_readHead wd_300 wd_301 wd_302 hb.2 rfl rfl rfl (by decide) (Nat.le_of_ble_eq_true rfl) (by decide) dX5_findError_1 rfl rfl rfl rfl ?_
  rcases ite_inv hF with ⟨hc, hF⟩ | ⟨hc, hF⟩
  · refine x_if_ne 12 7 dX5_findError_4 (by decide) rfl (fun q => absurd hc q) (fun _ => ?_)
    refine x_aload_n 8 0 dX5_findError_7 rfl rfl ?_
    obtain ⟨v4, h5, hF⟩ := b1_inv hF
    refine x_getI 11 2 inX5 rfl (by decide) wd_117 h5 dX5_findError_8 rfl ?_
    cases hF
    exact x_iret rfl rfl (by decide) (by decide) dX5_findError_11
  · refine x_if_ne 12 7 dX5_findError_4 (by decide) rfl (fun _ => ?_) (fun q => absurd q hc)
    refine x_iconst 13 (0 : Int32) dX5_findError_12 rfl (by decide) ?_
    refine x_istore_n 14 1 [(1, .int (0 : Int32)), (0, .ref b)] dX5_findError_13 rfl rfl (by decide) rfl ?_
    refine x_sub [(0, .ref b), (1, .int (0 : Int32))] [1, 0] rfl ?_
    exact mX5_findError_L14 hst b n (fun v9 : Int32 × qH => .inl (some (.int v9.1), v9.2, n)) (fun _ _ => rfl) qfuel (0 : Int32) s3 _ hF
def rmX1_forget : Room := { frames := 0, cells := 0, slots := 0, locals := 0 }
theorem qyX1_forget : qY yX1_forget cX1_forget 1 (none) 0 := ⟨wd_342, wd_20, by decide +kernel, by decide +kernel, by decide +kernel⟩
theorem kX1_forget {b : Nat} {σ : qH} {o : qH} (h : FX1_forget b σ = some o) : ∃ fs : List Value, True ∧ σ b = some (.inr (1, fs)) := by
  unfold FX1_forget at h
  obtain ⟨_, h1, _⟩ := b1_inv h
  obtain ⟨fs, h2⟩ := gC_inv h1
  exact ⟨fs, trivial, h2⟩
set_option maxHeartbeats 4000000 in
set_option maxRecDepth 100000 in
theorem mX1_forget {l : Launch} {G : qG} (hst : l.stackTraces = false) (b : Nat) (σ : qH) (n : Option Nat) (so : qH) (hF : FX1_forget b σ = some so) : qM l G yX1_forget cX1_forget 1 (none) rmX1_forget [.ref b] σ n (.inl (none, so, n)) := by
  refine q_body (own := RX1) (nm := "forget") (ls := [(0, .ref b)]) hst (by decide +kernel) rfl rfl (Nat.le_of_ble_eq_true rfl) rfl rfl rfl ?_
  unfold FX1_forget at hF
  obtain ⟨_, hC, hF⟩ := b1_inv hF
  refine x_aload_n 1 0 dX1_forget_0 rfl rfl ?_
  refine x_iconst 2 (0 : Int32) dX1_forget_1 rfl (by decide) ?_
  obtain ⟨s1, h2, hF⟩ := b1_inv hF
  refine x_put 5 2 inX1 tyX1 tyX1_ok nmX1 rfl (by decide) wd_100 rfl (tX1_2) rfl rfl h2 dX1_forget_2 rfl ?_
  cases hF
  exact x_vret rfl rfl (by decide) (by decide) dX1_forget_5
def rmX5_number : Room := { frames := 0, cells := 0, slots := 0, locals := 0 }
theorem qyX5_number : qY yX5_number cX5_number 2 (some .int) 1 := ⟨wd_352, wd_21, by decide +kernel, by decide +kernel, by decide +kernel⟩
theorem kX5_number {b : Nat} {p0 : Int32} {σ : qH} {o : Int32} (h : FX5_number b p0 σ = some o) : ∃ fs : List Value, True ∧ σ b = some (.inr (3, fs)) := by
  unfold FX5_number at h
  obtain ⟨_, h1, _⟩ := b1_inv h
  obtain ⟨fs, h2⟩ := gC_inv h1
  exact ⟨fs, trivial, h2⟩
set_option maxHeartbeats 4000000 in
set_option maxRecDepth 100000 in
theorem mX5_number {l : Launch} {G : qG} (hst : l.stackTraces = false) (b : Nat) (p0 : Int32) (σ : qH) (n : Option Nat) (ro : Int32) (hF : FX5_number b p0 σ = some ro) : qM l G yX5_number cX5_number 2 (some .int) rmX5_number [.ref b, .int p0] σ n (.inl (some (.int ro), σ, n)) := by
  refine q_body (own := RX5) (nm := "number") (ls := [(0, .ref b), (1, .int p0)]) hst (by decide +kernel) rfl rfl (Nat.le_of_ble_eq_true rfl) rfl rfl rfl ?_
  unfold FX5_number at hF
  obtain ⟨_, hC, hF⟩ := b1_inv hF
  refine x_aload_n 1 0 dX5_number_0 rfl rfl ?_
  obtain ⟨r1, h2, hF⟩ := b1_inv hF
  refine x_getR 4 4 inX5 rfl (by decide) wd_119 h2 dX5_number_1 rfl ?_
  refine x_iload_n 5 1 dX5_number_4 rfl rfl ?_
  obtain ⟨v3, h4, hF⟩ := b1_inv hF
  refine x_aI 6 h4 dX5_number_5 rfl ?_
  cases hF
  exact x_iret rfl rfl (by decide) (by decide) dX5_number_6
def rmX5_command : Room := { frames := 0, cells := 0, slots := 0, locals := 0 }
theorem qyX5_command : qY yX5_command cX5_command 1 (some .int) 0 := ⟨wd_356, wd_21, by decide +kernel, by decide +kernel, by decide +kernel⟩
theorem kX5_command {b : Nat} {σ : qH} {o : Int32} (h : FX5_command b σ = some o) : ∃ fs : List Value, True ∧ σ b = some (.inr (3, fs)) := by
  unfold FX5_command at h
  obtain ⟨_, h1, _⟩ := b1_inv h
  obtain ⟨fs, h2⟩ := gC_inv h1
  exact ⟨fs, trivial, h2⟩
set_option maxHeartbeats 4000000 in
set_option maxRecDepth 100000 in
theorem mX5_command {l : Launch} {G : qG} (hst : l.stackTraces = false) (b : Nat) (σ : qH) (n : Option Nat) (ro : Int32) (hF : FX5_command b σ = some ro) : qM l G yX5_command cX5_command 1 (some .int) rmX5_command [.ref b] σ n (.inl (some (.int ro), σ, n)) := by
  refine q_body (own := RX5) (nm := "command") (ls := [(0, .ref b)]) hst (by decide +kernel) rfl rfl (Nat.le_of_ble_eq_true rfl) rfl rfl rfl ?_
  unfold FX5_command at hF
  obtain ⟨_, hC, hF⟩ := b1_inv hF
  refine x_aload_n 1 0 dX5_command_0 rfl rfl ?_
  obtain ⟨v1, h2, hF⟩ := b1_inv hF
  refine x_getI 4 3 inX5 rfl (by decide) wd_118 h2 dX5_command_1 rfl ?_
  cases hF
  exact x_iret rfl rfl (by decide) (by decide) dX5_command_4
def rmX0_noteChanges : Room := { frames := 2, cells := 0, slots := 0, locals := 44 }
theorem qyX0_noteChanges : qY yX0_noteChanges cX0_noteChanges 4 (none) 2 := ⟨wd_649, wd_22, by decide +kernel, by decide +kernel, by decide +kernel⟩
set_option maxHeartbeats 4000000 in
set_option maxRecDepth 100000 in
theorem mX0_noteChanges_L10 {l : Launch} {G : qG} (hst : l.stackTraces = false) (a0 : Nat) (a1 : Nat) (a2 : Int32) (n : Option Nat) (r : qR) : ∀ (q : Nat) (y3 : Int32) (σ : qH) (so : qH), FX0_noteChanges_L10 a0 a1 a2 q y3 σ = some so → qX l G RX0 "noteChanges" cX0_noteChanges 4 (none) [] rmX0_noteChanges 0 0 r 0 0 so n 75 [] [] → qX l G RX0 "noteChanges" cX0_noteChanges 4 (none) [] rmX0_noteChanges 0 0 r 0 0 σ n 10 [(0, .ref a0), (1, .ref a1), (2, .int a2), (3, .int y3)] [] := by
  intro q
  induction q with
  | zero => intro y3 σ so hF; rw [FX0_noteChanges_L10] at hF; cases hF
  | succ q ih =>
    intro y3 σ so hF hJ
    rw [FX0_noteChanges_L10] at hF
    refine x_iload_n 11 3 dX0_noteChanges_10 rfl rfl ?_
    refine x_aload_n 12 1 dX0_noteChanges_11 rfl rfl ?_
    obtain ⟨v6, h5, hF⟩ := b1_inv hF
    obtain ⟨fs, hb⟩ : ∃ fs : List Value, True ∧ σ a1 = some (.inr (2, fs)) := kX2_count h5
    refine x_callV (As := []) (rest := [.int y3]) 15 0 0 (mX2_count hst a1 σ n v6 h5) qyX2_count wd_651 wd_484 wd_485 hb.2 rfl rfl rfl (by decide) (Nat.le_of_ble_eq_true rfl) (by decide) dX0_noteChanges_12 rfl rfl rfl rfl ?_
    rcases ite_inv hF with ⟨hc, hF⟩ | ⟨hc, hF⟩
    · refine x_icmp_ge 75 18 dX0_noteChanges_15 (by decide) rfl (fun _ => ?_) (fun q => absurd hc q)
      have e1 := Option.some.inj hF
      subst e1
      refine x_sub [] [] rfl ?_
      exact hJ
    · refine x_icmp_ge 75 18 dX0_noteChanges_15 (by decide) rfl (fun q => absurd q hc) (fun _ => ?_)
      refine x_aload_n 19 1 dX0_noteChanges_18 rfl rfl ?_
      refine x_iload_n 20 3 dX0_noteChanges_19 rfl rfl ?_
      refine x_iload_n 21 2 dX0_noteChanges_20 rfl rfl ?_
      obtain ⟨v8, h7, hF⟩ := b1_inv hF
      obtain ⟨fs, hb⟩ : ∃ fs : List Value, True ∧ σ a1 = some (.inr (2, fs)) := kX2_isOf h7
      refine x_callV (As := [.int y3, .int a2]) (rest := []) 24 0 0 (mX2_isOf hst a1 y3 a2 σ n v8 h7) qyX2_isOf wd_652 wd_461 wd_462 hb.2 rfl rfl rfl (by decide) (Nat.le_of_ble_eq_true rfl) (by decide) dX0_noteChanges_21 rfl rfl rfl rfl ?_
      obtain ⟨s9, h30, hF⟩ := b1_inv hF
      have hJ : qX l G RX0 "noteChanges" cX0_noteChanges 4 (none) [] rmX0_noteChanges 0 0 r 0 0 s9 n 69 [(0, .ref a0), (1, .ref a1), (2, .int a2), (3, .int y3)] [] := by
        refine x_iinc 72 3 3 (y3 + (1 : Int32)) [(3, .int (y3 + (1 : Int32))), (0, .ref a0), (1, .ref a1), (2, .int a2)] dX0_noteChanges_69 rfl rfl rfl (by decide) rfl ?_
        refine x_goto 10 dX0_noteChanges_72 (by decide) ?_
        refine x_sub [(0, .ref a0), (1, .ref a1), (2, .int a2), (3, .int (y3 + (1 : Int32)))] [1, 2, 3, 0] rfl ?_
        exact ih _ _ _ hF hJ
      have hF := h30
      rcases ite_inv hF with ⟨hc, hF⟩ | ⟨hc, hF⟩
      · refine x_if_eq 69 27 dX0_noteChanges_24 (by decide) rfl (fun _ => ?_) (fun q => absurd hc q)
        have e1 := Option.some.inj hF
        subst e1
        exact hJ
      · refine x_if_eq 69 27 dX0_noteChanges_24 (by decide) rfl (fun q => absurd q hc) (fun _ => ?_)
        refine x_aload_n 28 0 dX0_noteChanges_27 rfl rfl ?_
        obtain ⟨r10, h11, hF⟩ := b1_inv hF
        refine x_getR 31 0 inX0 rfl (by decide) wd_137 h11 dX0_noteChanges_28 rfl ?_
        refine x_aload_n 32 1 dX0_noteChanges_31 rfl rfl ?_
        refine x_iload_n 33 3 dX0_noteChanges_32 rfl rfl ?_
        refine x_bipush 35 (7 : Int32) dX0_noteChanges_33 rfl (by decide) ?_
        obtain ⟨v13, h12, hF⟩ := b1_inv hF
        obtain ⟨fs, hb⟩ : ∃ fs : List Value, True ∧ σ a1 = some (.inr (2, fs)) := kX2_number h12
        refine x_callV (As := [.int y3, .int (7 : Int32)]) (rest := [.ref r10]) 38 0 0 (mX2_number hst a1 y3 (7 : Int32) σ n v13 h12) qyX2_number wd_653 wd_437 wd_438 hb.2 rfl rfl rfl (by decide) (Nat.le_of_ble_eq_true rfl) (by decide) dX0_noteChanges_35 rfl rfl rfl rfl ?_
        refine x_dup2 39 rfl rfl dX0_noteChanges_38 rfl ?_
        obtain ⟨v14, h15, hF⟩ := b1_inv hF
        refine x_aI 40 h15 dX0_noteChanges_39 rfl ?_
        refine x_aload_n 41 1 dX0_noteChanges_40 rfl rfl ?_
        refine x_iload_n 42 3 dX0_noteChanges_41 rfl rfl ?_
        obtain ⟨v17, h16, hF⟩ := b1_inv hF
        obtain ⟨fs, hb⟩ : ∃ fs : List Value, True ∧ σ a1 = some (.inr (2, fs)) := kX2_weight h16
        refine x_callV (As := [.int y3]) (rest := [.int v14, .int v13, .ref r10]) 45 0 0 (mX2_weight hst a1 y3 σ n v17 h16) qyX2_weight wd_654 wd_449 wd_450 hb.2 rfl rfl rfl (by decide) (Nat.le_of_ble_eq_true rfl) (by decide) dX0_noteChanges_42 rfl rfl rfl rfl ?_
        refine x_iadd 46 dX0_noteChanges_45 rfl ?_
        obtain ⟨s18, h19, hF⟩ := b1_inv hF
        refine x_sI 47 h19 dX0_noteChanges_46 rfl ?_
        refine x_aload_n 48 0 dX0_noteChanges_47 rfl rfl ?_
        obtain ⟨r20, h21, hF⟩ := b1_inv hF
        refine x_getR 51 0 inX0 rfl (by decide) wd_137 h21 dX0_noteChanges_48 rfl ?_
        refine x_aload_n 52 1 dX0_noteChanges_51 rfl rfl ?_
        refine x_iload_n 53 3 dX0_noteChanges_52 rfl rfl ?_
        refine x_bipush 55 (8 : Int32) dX0_noteChanges_53 rfl (by decide) ?_
        obtain ⟨v23, h22, hF⟩ := b1_inv hF
        obtain ⟨fs, hb⟩ : ∃ fs : List Value, True ∧ s18 a1 = some (.inr (2, fs)) := kX2_number h22
        refine x_callV (As := [.int y3, .int (8 : Int32)]) (rest := [.ref r20]) 58 0 0 (mX2_number hst a1 y3 (8 : Int32) s18 n v23 h22) qyX2_number wd_653 wd_437 wd_438 hb.2 rfl rfl rfl (by decide) (Nat.le_of_ble_eq_true rfl) (by decide) dX0_noteChanges_55 rfl rfl rfl rfl ?_
        refine x_iconst 59 (1 : Int32) dX0_noteChanges_58 rfl (by decide) ?_
        refine x_iadd 60 dX0_noteChanges_59 rfl ?_
        refine x_dup2 61 rfl rfl dX0_noteChanges_60 rfl ?_
        obtain ⟨v24, h25, hF⟩ := b1_inv hF
        refine x_aI 62 h25 dX0_noteChanges_61 rfl ?_
        refine x_aload_n 63 1 dX0_noteChanges_62 rfl rfl ?_
        refine x_iload_n 64 3 dX0_noteChanges_63 rfl rfl ?_
        obtain ⟨v27, h26, hF⟩ := b1_inv hF
        obtain ⟨fs, hb⟩ : ∃ fs : List Value, True ∧ s18 a1 = some (.inr (2, fs)) := kX2_weight h26
        refine x_callV (As := [.int y3]) (rest := [.int v24, .int (v23 + (1 : Int32)), .ref r20]) 67 0 0 (mX2_weight hst a1 y3 s18 n v27 h26) qyX2_weight wd_654 wd_449 wd_450 hb.2 rfl rfl rfl (by decide) (Nat.le_of_ble_eq_true rfl) (by decide) dX0_noteChanges_64 rfl rfl rfl rfl ?_
        refine x_isub 68 dX0_noteChanges_67 rfl ?_
        obtain ⟨s28, h29, hF⟩ := b1_inv hF
        refine x_sI 69 h29 dX0_noteChanges_68 rfl ?_
        have e1 := Option.some.inj hF
        subst e1
        exact hJ
theorem kX0_noteChanges {b : Nat} {p0 : Nat} {p1 : Int32} {σ : qH} {o : qH} (h : FX0_noteChanges b p0 p1 σ = some o) : ∃ fs : List Value, True ∧ σ b = some (.inr (0, fs)) := by
  unfold FX0_noteChanges at h
  obtain ⟨_, h1, _⟩ := b1_inv h
  obtain ⟨fs, h2⟩ := gC_inv h1
  exact ⟨fs, trivial, h2⟩
set_option maxHeartbeats 4000000 in
set_option maxRecDepth 100000 in
theorem mX0_noteChanges {l : Launch} {G : qG} (hst : l.stackTraces = false) (b : Nat) (p0 : Nat) (p1 : Int32) (σ : qH) (n : Option Nat) (so : qH) (hF : FX0_noteChanges b p0 p1 σ = some so) : qM l G yX0_noteChanges cX0_noteChanges 4 (none) rmX0_noteChanges [.ref b, .ref p0, .int p1] σ n (.inl (none, so, n)) := by
  refine q_body (own := RX0) (nm := "noteChanges") (ls := [(0, .ref b), (1, .ref p0), (2, .int p1)]) hst (by decide +kernel) rfl rfl (Nat.le_of_ble_eq_true rfl) rfl rfl rfl ?_
  unfold FX0_noteChanges at hF
  obtain ⟨_, hC, hF⟩ := b1_inv hF
  refine x_aload_n 1 0 dX0_noteChanges_0 rfl rfl ?_
  obtain ⟨r1, h2, hF⟩ := b1_inv hF
  refine x_getR 4 0 inX0 rfl (by decide) wd_137 h2 dX0_noteChanges_1 rfl ?_
  refine x_iconst 5 (0 : Int32) dX0_noteChanges_4 rfl (by decide) ?_
  obtain ⟨s4, h3, hF⟩ := b1_inv hF
  refine x_callS (As := [.ref r1, .int (0 : Int32)]) (rest := []) 8 0 0 (mJ7_fill_53178 hst r1 (0 : Int32) σ n s4 h3) qyJ7_fill_53178 wd_650 wd_52 rfl rfl (by decide) (Nat.le_of_ble_eq_true rfl) (by decide) dX0_noteChanges_5 rfl rfl rfl rfl ?_
  refine x_iconst 9 (0 : Int32) dX0_noteChanges_8 rfl (by decide) ?_
  refine x_istore_n 10 3 [(3, .int (0 : Int32)), (0, .ref b), (1, .ref p0), (2, .int p1)] dX0_noteChanges_9 rfl rfl (by decide) rfl ?_
  obtain ⟨s31, h32, hF⟩ := b1_inv hF
  have hJ : qX l G RX0 "noteChanges" cX0_noteChanges 4 (none) [] rmX0_noteChanges 0 0 (.inl (none, so, n)) 0 0 s31 n 75 [] [] := by
    cases hF
    exact x_vret rfl rfl (by decide) (by decide) dX0_noteChanges_75
  refine x_sub [(0, .ref b), (1, .ref p0), (2, .int p1), (3, .int (0 : Int32))] [1, 2, 3, 0] rfl ?_
  exact mX0_noteChanges_L10 hst b p0 p1 n _ qfuel (0 : Int32) s4 s31 h32 hJ
def rmX0_countByHeights : Room := { frames := 3, cells := 0, slots := 0, locals := 67 }
theorem qyX0_countByHeights : qY yX0_countByHeights cX0_countByHeights 5 (none) 2 := ⟨wd_645, wd_22, by decide +kernel, by decide +kernel, by decide +kernel⟩
set_option maxHeartbeats 4000000 in
set_option maxRecDepth 100000 in
theorem mX0_countByHeights_L16 {l : Launch} {G : qG} (hst : l.stackTraces = false) (a0 : Nat) (n : Option Nat) (r : qR) : ∀ (q : Nat) (y3 : Int32) (y4 : Int32) (σ : qH) (so : qH), FX0_countByHeights_L16 a0 q y3 y4 σ = some so → qX l G RX0 "countByHeights" cX0_countByHeights 5 (none) [] rmX0_countByHeights 0 0 r 0 0 so n 93 [] [] → qX l G RX0 "countByHeights" cX0_countByHeights 5 (none) [] rmX0_countByHeights 0 0 r 0 0 σ n 16 [(0, .ref a0), (3, .int y3), (4, .int y4)] [] := by
  intro q
  induction q with
  | zero => intro y3 y4 σ so hF; rw [FX0_countByHeights_L16] at hF; cases hF
  | succ q ih =>
    intro y3 y4 σ so hF hJ
    rw [FX0_countByHeights_L16] at hF
    refine x_iload 18 2 dX0_countByHeights_16 rfl rfl ?_
    refine x_sipush 21 (999 : Int32) dX0_countByHeights_18 rfl (by decide) ?_
    rcases ite_inv hF with ⟨hc, hF⟩ | ⟨hc, hF⟩
    · refine x_icmp_gt 93 24 dX0_countByHeights_21 (by decide) rfl (fun _ => ?_) (fun q => absurd hc q)
      have e1 := Option.some.inj hF
      subst e1
      refine x_sub [] [] rfl ?_
      exact hJ
    · refine x_icmp_gt 93 24 dX0_countByHeights_21 (by decide) rfl (fun q => absurd q hc) (fun _ => ?_)
      refine x_iload_n 25 1 dX0_countByHeights_24 rfl rfl ?_
      refine x_aload_n 26 0 dX0_countByHeights_25 rfl rfl ?_
      obtain ⟨r5, h6, hF⟩ := b1_inv hF
      refine x_getR 29 0 inX0 rfl (by decide) wd_137 h6 dX0_countByHeights_26 rfl ?_
      refine x_iload 31 2 dX0_countByHeights_29 rfl rfl ?_
      obtain ⟨v7, h8, hF⟩ := b1_inv hF
      refine x_aI 32 h8 dX0_countByHeights_31 rfl ?_
      refine x_iadd 33 dX0_countByHeights_32 rfl ?_
      refine x_istore_n 34 3 [(3, .int (y3 + v7)), (0, .ref a0), (4, .int y4)] dX0_countByHeights_33 rfl rfl (by decide) rfl ?_
      refine x_iload_n 35 0 dX0_countByHeights_34 rfl rfl ?_
      refine x_aload_n 36 1 dX0_countByHeights_35 rfl rfl ?_
      obtain ⟨v9, h10, hF⟩ := b1_inv hF
      refine x_getI 39 3 inX0 rfl (by decide) wd_140 h10 dX0_countByHeights_36 rfl ?_
      obtain ⟨s11, h24, hF⟩ := b1_inv hF
      have hJ : qX l G RX0 "countByHeights" cX0_countByHeights 5 (none) [] rmX0_countByHeights 0 0 r 0 0 s11 n 87 [(0, .ref a0), (3, .int (y3 + v7)), (4, .int y4)] [] := by
        refine x_iinc 90 4 2 (y4 + (1 : Int32)) [(4, .int (y4 + (1 : Int32))), (0, .ref a0), (3, .int (y3 + v7))] dX0_countByHeights_87 rfl rfl rfl (by decide) rfl ?_
        refine x_goto 16 dX0_countByHeights_90 (by decide) ?_
        refine x_sub [(0, .ref a0), (3, .int (y3 + v7)), (4, .int (y4 + (1 : Int32)))] [1, 2, 0] rfl ?_
        exact ih _ _ _ _ hF hJ
      have hF := h24
      rcases ite_inv hF with ⟨hc, hF⟩ | ⟨hc, hF⟩
      · refine x_icmp_le 62 42 dX0_countByHeights_39 (by decide) rfl (fun _ => ?_) (fun q => absurd hc q)
        refine x_iload_n 63 0 dX0_countByHeights_62 rfl rfl ?_
        refine x_aload_n 64 1 dX0_countByHeights_63 rfl rfl ?_
        obtain ⟨v12, h13, hF⟩ := b1_inv hF
        refine x_getI 67 3 inX0 rfl (by decide) wd_140 h13 dX0_countByHeights_64 rfl ?_
        rcases ite_inv hF with ⟨hc, hF⟩ | ⟨hc, hF⟩
        · refine x_icmp_ne 87 70 dX0_countByHeights_67 (by decide) rfl (fun q => absurd hc q) (fun _ => ?_)
          refine x_aload_n 71 1 dX0_countByHeights_70 rfl rfl ?_
          obtain ⟨v14, h15, hF⟩ := b1_inv hF
          refine x_getI 74 2 inX0 rfl (by decide) wd_139 h15 dX0_countByHeights_71 rfl ?_
          refine x_iload 76 2 dX0_countByHeights_74 rfl rfl ?_
          refine x_iconst 77 (1 : Int32) dX0_countByHeights_76 rfl (by decide) ?_
          refine x_isub 78 dX0_countByHeights_77 rfl ?_
          rcases ite_inv hF with ⟨hc, hF⟩ | ⟨hc, hF⟩
          · refine x_icmp_ne 87 81 dX0_countByHeights_78 (by decide) rfl (fun q => absurd hc q) (fun _ => ?_)
            refine x_aload_n 82 1 dX0_countByHeights_81 rfl rfl ?_
            refine x_iload 84 2 dX0_countByHeights_82 rfl rfl ?_
            obtain ⟨s16, h17, hF⟩ := b1_inv hF
            refine x_put 87 2 inX0 tyX0 tyX0_ok nmX0 rfl (by decide) wd_139 rfl (tX0_2) rfl rfl h17 dX0_countByHeights_84 rfl ?_
            have e1 := Option.some.inj hF
            subst e1
            refine x_sub [(0, .ref a0), (3, .int (y3 + v7)), (4, .int y4)] [1, 0, 2] rfl ?_
            exact hJ
          · refine x_icmp_ne 87 81 dX0_countByHeights_78 (by decide) rfl (fun _ => ?_) (fun q => absurd q hc)
            have e1 := Option.some.inj hF
            subst e1
            refine x_sub [(0, .ref a0), (3, .int (y3 + v7)), (4, .int y4)] [1, 0, 2] rfl ?_
            exact hJ
        · refine x_icmp_ne 87 70 dX0_countByHeights_67 (by decide) rfl (fun _ => ?_) (fun q => absurd q hc)
          have e1 := Option.some.inj hF
          subst e1
          refine x_sub [(0, .ref a0), (3, .int (y3 + v7)), (4, .int y4)] [1, 0, 2] rfl ?_
          exact hJ
      · refine x_icmp_le 62 42 dX0_countByHeights_39 (by decide) rfl (fun q => absurd q hc) (fun _ => ?_)
        refine x_aload_n 43 1 dX0_countByHeights_42 rfl rfl ?_
        refine x_iload_n 44 0 dX0_countByHeights_43 rfl rfl ?_
        obtain ⟨s18, h19, hF⟩ := b1_inv hF
        refine x_put 47 3 inX0 tyX0 tyX0_ok nmX0 rfl (by decide) wd_140 rfl (tX0_3) rfl rfl h19 dX0_countByHeights_44 rfl ?_
        refine x_aload_n 48 1 dX0_countByHeights_47 rfl rfl ?_
        refine x_iload 50 2 dX0_countByHeights_48 rfl rfl ?_
        obtain ⟨s20, h21, hF⟩ := b1_inv hF
        refine x_put 53 1 inX0 tyX0 tyX0_ok nmX0 rfl (by decide) wd_138 rfl (tX0_1) rfl rfl h21 dX0_countByHeights_50 rfl ?_
        refine x_aload_n 54 1 dX0_countByHeights_53 rfl rfl ?_
        refine x_iload 56 2 dX0_countByHeights_54 rfl rfl ?_
        obtain ⟨s22, h23, hF⟩ := b1_inv hF
        refine x_put 59 2 inX0 tyX0 tyX0_ok nmX0 rfl (by decide) wd_139 rfl (tX0_2) rfl rfl h23 dX0_countByHeights_56 rfl ?_
        refine x_goto 87 dX0_countByHeights_59 (by decide) ?_
        have e1 := Option.some.inj hF
        subst e1
        refine x_sub [(0, .ref a0), (3, .int (y3 + v7)), (4, .int y4)] [1, 0, 2] rfl ?_
        exact hJ
theorem kX0_countByHeights {b : Nat} {p0 : Nat} {p1 : Int32} {σ : qH} {o : qH} (h : FX0_countByHeights b p0 p1 σ = some o) : ∃ fs : List Value, True ∧ σ b = some (.inr (0, fs)) := by
  unfold FX0_countByHeights at h
  obtain ⟨_, h1, _⟩ := b1_inv h
  obtain ⟨fs, h2⟩ := gC_inv h1
  exact ⟨fs, trivial, h2⟩
set_option maxHeartbeats 4000000 in
set_option maxRecDepth 100000 in
theorem mX0_countByHeights {l : Launch} {G : qG} (hst : l.stackTraces = false) (b : Nat) (p0 : Nat) (p1 : Int32) (σ : qH) (n : Option Nat) (so : qH) (hF : FX0_countByHeights b p0 p1 σ = some so) : qM l G yX0_countByHeights cX0_countByHeights 5 (none) rmX0_countByHeights [.ref b, .ref p0, .int p1] σ n (.inl (none, so, n)) := by
  refine q_body (own := RX0) (nm := "countByHeights") (ls := [(0, .ref b), (1, .ref p0), (2, .int p1)]) hst (by decide +kernel) rfl rfl (Nat.le_of_ble_eq_true rfl) rfl rfl rfl ?_
  unfold FX0_countByHeights at hF
  obtain ⟨_, hC, hF⟩ := b1_inv hF
  refine x_aload_n 1 0 dX0_countByHeights_0 rfl rfl ?_
  refine x_aload_n 2 1 dX0_countByHeights_1 rfl rfl ?_
  refine x_iload_n 3 2 dX0_countByHeights_2 rfl rfl ?_
  obtain ⟨s2, h1, hF⟩ := b1_inv hF
  obtain ⟨fs, hb⟩ : ∃ fs : List Value, True ∧ σ b = some (.inr (0, fs)) := kX0_noteChanges h1
  refine x_callV (As := [.ref p0, .int p1]) (rest := []) 6 0 0 (mX0_noteChanges hst b p0 p1 σ n s2 h1) qyX0_noteChanges wd_646 wd_648 wd_11 hb.2 rfl rfl rfl (by decide) (Nat.le_of_ble_eq_true rfl) (by decide) dX0_countByHeights_3 rfl rfl rfl rfl ?_
  refine x_aload_n 7 0 dX0_countByHeights_6 rfl rfl ?_
  refine x_iconst 8 (-1 : Int32) dX0_countByHeights_7 rfl (by decide) ?_
  obtain ⟨s3, h4, hF⟩ := b1_inv hF
  refine x_put 11 3 inX0 tyX0 tyX0_ok nmX0 rfl (by decide) wd_140 rfl (tX0_3) rfl rfl h4 dX0_countByHeights_8 rfl ?_
  refine x_iconst 12 (0 : Int32) dX0_countByHeights_11 rfl (by decide) ?_
  refine x_istore_n 13 3 [(3, .int (0 : Int32)), (0, .ref b), (1, .ref p0), (2, .int p1)] dX0_countByHeights_12 rfl rfl (by decide) rfl ?_
  refine x_iconst 14 (1 : Int32) dX0_countByHeights_13 rfl (by decide) ?_
  refine x_istore 16 4 [(4, .int (1 : Int32)), (3, .int (0 : Int32)), (0, .ref b), (1, .ref p0), (2, .int p1)] dX0_countByHeights_14 rfl (by decide) rfl ?_
  obtain ⟨s25, h26, hF⟩ := b1_inv hF
  have hJ : qX l G RX0 "countByHeights" cX0_countByHeights 5 (none) [] rmX0_countByHeights 0 0 (.inl (none, so, n)) 0 0 s25 n 93 [] [] := by
    cases hF
    exact x_vret rfl rfl (by decide) (by decide) dX0_countByHeights_93
  refine x_sub [(0, .ref b), (3, .int (0 : Int32)), (4, .int (1 : Int32))] [2, 1, 0] rfl ?_
  exact mX0_countByHeights_L16 hst b n _ qfuel (0 : Int32) (1 : Int32) s3 s25 h26 hJ
def rmX0_tryLowest : Room := { frames := 0, cells := 0, slots := 0, locals := 0 }
theorem qyX0_tryLowest : qY yX0_tryLowest cX0_tryLowest 3 (none) 2 := ⟨wd_663, wd_22, by decide +kernel, by decide +kernel, by decide +kernel⟩
theorem kX0_tryLowest {b : Nat} {p0 : Int32} {p1 : Int32} {σ : qH} {o : qH} (h : FX0_tryLowest b p0 p1 σ = some o) : ∃ fs : List Value, True ∧ σ b = some (.inr (0, fs)) := by
  unfold FX0_tryLowest at h
  obtain ⟨_, h1, _⟩ := b1_inv h
  obtain ⟨fs, h2⟩ := gC_inv h1
  exact ⟨fs, trivial, h2⟩
set_option maxHeartbeats 4000000 in
set_option maxRecDepth 100000 in
theorem mX0_tryLowest {l : Launch} {G : qG} (hst : l.stackTraces = false) (b : Nat) (p0 : Int32) (p1 : Int32) (σ : qH) (n : Option Nat) (so : qH) (hF : FX0_tryLowest b p0 p1 σ = some so) : qM l G yX0_tryLowest cX0_tryLowest 3 (none) rmX0_tryLowest [.ref b, .int p0, .int p1] σ n (.inl (none, so, n)) := by
  refine q_body (own := RX0) (nm := "tryLowest") (ls := [(0, .ref b), (1, .int p0), (2, .int p1)]) hst (by decide +kernel) rfl rfl (Nat.le_of_ble_eq_true rfl) rfl rfl rfl ?_
  unfold FX0_tryLowest at hF
  obtain ⟨_, hC, hF⟩ := b1_inv hF
  refine x_iload_n 1 2 dX0_tryLowest_0 rfl rfl ?_
  refine x_aload_n 2 0 dX0_tryLowest_1 rfl rfl ?_
  obtain ⟨v1, h2, hF⟩ := b1_inv hF
  refine x_getI 5 3 inX0 rfl (by decide) wd_140 h2 dX0_tryLowest_2 rfl ?_
  obtain ⟨s3, h16, hF⟩ := b1_inv hF
  have hJ : qX l G RX0 "tryLowest" cX0_tryLowest 3 (none) [] rmX0_tryLowest 0 0 (.inl (none, so, n)) 0 0 s3 n 34 [] [] := by
    cases hF
    exact x_vret rfl rfl (by decide) (by decide) dX0_tryLowest_34
  have hF := h16
  rcases ite_inv hF with ⟨hc, hF⟩ | ⟨hc, hF⟩
  · refine x_icmp_gt 24 8 dX0_tryLowest_5 (by decide) rfl (fun _ => ?_) (fun q => absurd hc q)
    refine x_aload_n 25 0 dX0_tryLowest_24 rfl rfl ?_
    refine x_iload_n 26 2 dX0_tryLowest_25 rfl rfl ?_
    obtain ⟨s4, h5, hF⟩ := b1_inv hF
    refine x_put 29 3 inX0 tyX0 tyX0_ok nmX0 rfl (by decide) wd_140 rfl (tX0_3) rfl rfl h5 dX0_tryLowest_26 rfl ?_
    refine x_aload_n 30 0 dX0_tryLowest_29 rfl rfl ?_
    refine x_iload_n 31 1 dX0_tryLowest_30 rfl rfl ?_
    obtain ⟨s6, h7, hF⟩ := b1_inv hF
    refine x_put 34 1 inX0 tyX0 tyX0_ok nmX0 rfl (by decide) wd_138 rfl (tX0_1) rfl rfl h7 dX0_tryLowest_31 rfl ?_
    have e1 := Option.some.inj hF
    subst e1
    refine x_sub [] [] rfl ?_
    exact hJ
  · refine x_icmp_gt 24 8 dX0_tryLowest_5 (by decide) rfl (fun q => absurd q hc) (fun _ => ?_)
    refine x_iload_n 9 2 dX0_tryLowest_8 rfl rfl ?_
    refine x_aload_n 10 0 dX0_tryLowest_9 rfl rfl ?_
    obtain ⟨v8, h9, hF⟩ := b1_inv hF
    refine x_getI 13 3 inX0 rfl (by decide) wd_140 h9 dX0_tryLowest_10 rfl ?_
    rcases ite_inv hF with ⟨hc, hF⟩ | ⟨hc, hF⟩
    · refine x_icmp_ne 34 16 dX0_tryLowest_13 (by decide) rfl (fun q => absurd hc q) (fun _ => ?_)
      refine x_iload_n 17 1 dX0_tryLowest_16 rfl rfl ?_
      refine x_aload_n 18 0 dX0_tryLowest_17 rfl rfl ?_
      obtain ⟨v10, h11, hF⟩ := b1_inv hF
      refine x_getI 21 1 inX0 rfl (by decide) wd_138 h11 dX0_tryLowest_18 rfl ?_
      rcases ite_inv hF with ⟨hc, hF⟩ | ⟨hc, hF⟩
      · refine x_icmp_ge 34 24 dX0_tryLowest_21 (by decide) rfl (fun _ => ?_) (fun q => absurd hc q)
        have e1 := Option.some.inj hF
        subst e1
        refine x_sub [] [] rfl ?_
        exact hJ
      · refine x_icmp_ge 34 24 dX0_tryLowest_21 (by decide) rfl (fun q => absurd q hc) (fun _ => ?_)
        refine x_aload_n 25 0 dX0_tryLowest_24 rfl rfl ?_
        refine x_iload_n 26 2 dX0_tryLowest_25 rfl rfl ?_
        obtain ⟨s12, h13, hF⟩ := b1_inv hF
        refine x_put 29 3 inX0 tyX0 tyX0_ok nmX0 rfl (by decide) wd_140 rfl (tX0_3) rfl rfl h13 dX0_tryLowest_26 rfl ?_
        refine x_aload_n 30 0 dX0_tryLowest_29 rfl rfl ?_
        refine x_iload_n 31 1 dX0_tryLowest_30 rfl rfl ?_
        obtain ⟨s14, h15, hF⟩ := b1_inv hF
        refine x_put 34 1 inX0 tyX0 tyX0_ok nmX0 rfl (by decide) wd_138 rfl (tX0_1) rfl rfl h15 dX0_tryLowest_31 rfl ?_
        have e1 := Option.some.inj hF
        subst e1
        refine x_sub [] [] rfl ?_
        exact hJ
    · refine x_icmp_ne 34 16 dX0_tryLowest_13 (by decide) rfl (fun _ => ?_) (fun q => absurd q hc)
      have e1 := Option.some.inj hF
      subst e1
      refine x_sub [] [] rfl ?_
      exact hJ
def rmX0_countByEnds : Room := { frames := 3, cells := 0, slots := 0, locals := 69 }
theorem qyX0_countByEnds : qY yX0_countByEnds cX0_countByEnds 6 (none) 3 := ⟨wd_658, wd_22, by decide +kernel, by decide +kernel, by decide +kernel⟩
set_option maxHeartbeats 4000000 in
set_option maxRecDepth 100000 in
theorem mX0_countByEnds_L19 {l : Launch} {G : qG} (hst : l.stackTraces = false) (a0 : Nat) (a1 : Nat) (a2 : Int32) (a3 : Int32) (n : Option Nat) (r : qR) : ∀ (q : Nat) (y4 : Int32) (σ : qH) (so : qH), FX0_countByEnds_L19 a0 a1 a2 a3 q y4 σ = some so → qX l G RX0 "countByEnds" cX0_countByEnds 6 (none) [] rmX0_countByEnds 0 0 r 0 0 so n 74 [(0, .ref a0), (1, .ref a1), (2, .int a2), (3, .int a3)] [] → qX l G RX0 "countByEnds" cX0_countByEnds 6 (none) [] rmX0_countByEnds 0 0 r 0 0 σ n 19 [(0, .ref a0), (1, .ref a1), (2, .int a2), (3, .int a3), (4, .int y4)] [] := by
  intro q
  induction q with
  | zero => intro y4 σ so hF; rw [FX0_countByEnds_L19] at hF; cases hF
  | succ q ih =>
    intro y4 σ so hF hJ
    rw [FX0_countByEnds_L19] at hF
    refine x_iload 21 4 dX0_countByEnds_19 rfl rfl ?_
    refine x_aload_n 22 1 dX0_countByEnds_21 rfl rfl ?_
    obtain ⟨v8, h7, hF⟩ := b1_inv hF
    obtain ⟨fs, hb⟩ : ∃ fs : List Value, True ∧ σ a1 = some (.inr (2, fs)) := kX2_count h7
    refine x_callV (As := []) (rest := [.int y4]) 25 0 0 (mX2_count hst a1 σ n v8 h7) qyX2_count wd_651 wd_484 wd_485 hb.2 rfl rfl rfl (by decide) (Nat.le_of_ble_eq_true rfl) (by decide) dX0_countByEnds_22 rfl rfl rfl rfl ?_
    rcases ite_inv hF with ⟨hc, hF⟩ | ⟨hc, hF⟩
    · refine x_icmp_ge 74 28 dX0_countByEnds_25 (by decide) rfl (fun _ => ?_) (fun q => absurd hc q)
      have e1 := Option.some.inj hF
      subst e1
      refine x_sub [(0, .ref a0), (1, .ref a1), (2, .int a2), (3, .int a3)] [0, 1, 2, 3] rfl ?_
      exact hJ
    · refine x_icmp_ge 74 28 dX0_countByEnds_25 (by decide) rfl (fun q => absurd q hc) (fun _ => ?_)
      refine x_iload 30 4 dX0_countByEnds_28 rfl rfl ?_
      refine x_iload_n 31 3 dX0_countByEnds_30 rfl rfl ?_
      obtain ⟨s9, h18, hF⟩ := b1_inv hF
      have hJ : qX l G RX0 "countByEnds" cX0_countByEnds 6 (none) [] rmX0_countByEnds 0 0 r 0 0 s9 n 68 [(0, .ref a0), (1, .ref a1), (2, .int a2), (3, .int a3), (4, .int y4)] [] := by
        refine x_iinc 71 4 4 (y4 + (1 : Int32)) [(4, .int (y4 + (1 : Int32))), (0, .ref a0), (1, .ref a1), (2, .int a2), (3, .int a3)] dX0_countByEnds_68 rfl rfl rfl (by decide) rfl ?_
        refine x_goto 19 dX0_countByEnds_71 (by decide) ?_
        refine x_sub [(0, .ref a0), (1, .ref a1), (2, .int a2), (3, .int a3), (4, .int (y4 + (1 : Int32)))] [1, 2, 3, 4, 0] rfl ?_
        exact ih _ _ _ hF hJ
      have hF := h18
      rcases ite_inv hF with ⟨hc, hF⟩ | ⟨hc, hF⟩
      · refine x_icmp_eq 68 34 dX0_countByEnds_31 (by decide) rfl (fun _ => ?_) (fun q => absurd hc q)
        have e1 := Option.some.inj hF
        subst e1
        exact hJ
      · refine x_icmp_eq 68 34 dX0_countByEnds_31 (by decide) rfl (fun q => absurd q hc) (fun _ => ?_)
        refine x_aload_n 35 1 dX0_countByEnds_34 rfl rfl ?_
        refine x_iload 37 4 dX0_countByEnds_35 rfl rfl ?_
        refine x_iload_n 38 2 dX0_countByEnds_37 rfl rfl ?_
        obtain ⟨v11, h10, hF⟩ := b1_inv hF
        obtain ⟨fs, hb⟩ : ∃ fs : List Value, True ∧ σ a1 = some (.inr (2, fs)) := kX2_isOf h10
        refine x_callV (As := [.int y4, .int a2]) (rest := []) 41 0 0 (mX2_isOf hst a1 y4 a2 σ n v11 h10) qyX2_isOf wd_652 wd_461 wd_462 hb.2 rfl rfl rfl (by decide) (Nat.le_of_ble_eq_true rfl) (by decide) dX0_countByEnds_38 rfl rfl rfl rfl ?_
        rcases ite_inv hF with ⟨hc, hF⟩ | ⟨hc, hF⟩
        · refine x_if_eq 68 44 dX0_countByEnds_41 (by decide) rfl (fun _ => ?_) (fun q => absurd hc q)
          have e1 := Option.some.inj hF
          subst e1
          exact hJ
        · refine x_if_eq 68 44 dX0_countByEnds_41 (by decide) rfl (fun q => absurd q hc) (fun _ => ?_)
          refine x_aload_n 45 1 dX0_countByEnds_44 rfl rfl ?_
          refine x_iload 47 4 dX0_countByEnds_45 rfl rfl ?_
          refine x_bipush 49 (7 : Int32) dX0_countByEnds_47 rfl (by decide) ?_
          obtain ⟨v13, h12, hF⟩ := b1_inv hF
          obtain ⟨fs, hb⟩ : ∃ fs : List Value, True ∧ σ a1 = some (.inr (2, fs)) := kX2_number h12
          refine x_callV (As := [.int y4, .int (7 : Int32)]) (rest := []) 52 0 0 (mX2_number hst a1 y4 (7 : Int32) σ n v13 h12) qyX2_number wd_653 wd_437 wd_438 hb.2 rfl rfl rfl (by decide) (Nat.le_of_ble_eq_true rfl) (by decide) dX0_countByEnds_49 rfl rfl rfl rfl ?_
          refine x_istore 54 5 [(5, .int v13), (0, .ref a0), (1, .ref a1), (2, .int a2), (3, .int a3), (4, .int y4)] dX0_countByEnds_52 rfl (by decide) rfl ?_
          refine x_aload_n 55 1 dX0_countByEnds_54 rfl rfl ?_
          refine x_iload 57 0 dX0_countByEnds_55 rfl rfl ?_
          refine x_aload_n 58 2 dX0_countByEnds_57 rfl rfl ?_
          refine x_iload_n 59 3 dX0_countByEnds_58 rfl rfl ?_
          refine x_iload 61 0 dX0_countByEnds_59 rfl rfl ?_
          refine x_iload_n 62 4 dX0_countByEnds_61 rfl rfl ?_
          obtain ⟨v15, h14, hF⟩ := b1_inv hF
          obtain ⟨fs, hb⟩ : ∃ fs : List Value, True ∧ σ a1 = some (.inr (2, fs)) := kX2_voteOf h14
          refine x_callV (As := [.int a2, .int v13, .int a3]) (rest := [.int v13, .ref a0]) 65 0 0 (mX2_voteOf hst a1 a2 v13 a3 σ n v15 h14) qyX2_voteOf wd_659 wd_632 wd_633 hb.2 rfl rfl rfl (by decide) (Nat.le_of_ble_eq_true rfl) (by decide) dX0_countByEnds_62 rfl rfl rfl rfl ?_
          obtain ⟨s17, h16, hF⟩ := b1_inv hF
          obtain ⟨fs, hb⟩ : ∃ fs : List Value, True ∧ σ a0 = some (.inr (0, fs)) := kX0_tryLowest h16
          refine x_callV (As := [.int v13, .int v15]) (rest := []) 68 0 0 (mX0_tryLowest hst a0 v13 v15 σ n s17 h16) qyX0_tryLowest wd_660 wd_662 wd_12 hb.2 rfl rfl rfl (by decide) (Nat.le_of_ble_eq_true rfl) (by decide) dX0_countByEnds_65 rfl rfl rfl rfl ?_
          have e1 := Option.some.inj hF
          subst e1
          refine x_sub [(0, .ref a0), (1, .ref a1), (2, .int a2), (3, .int a3), (4, .int y4)] [1, 2, 3, 4, 5] rfl ?_
          exact hJ
set_option maxHeartbeats 4000000 in
set_option maxRecDepth 100000 in
theorem mX0_countByEnds_L84 {l : Launch} {G : qG} (hst : l.stackTraces = false) (a0 : Nat) (a1 : Nat) (a2 : Int32) (a3 : Int32) (n : Option Nat) (r : qR) : ∀ (q : Nat) (y4 : Int32) (σ : qH) (so : qH), FX0_countByEnds_L84 a0 a1 a2 a3 q y4 σ = some so → qX l G RX0 "countByEnds" cX0_countByEnds 6 (none) [] rmX0_countByEnds 0 0 r 0 0 so n 166 [] [] → qX l G RX0 "countByEnds" cX0_countByEnds 6 (none) [] rmX0_countByEnds 0 0 r 0 0 σ n 84 [(0, .ref a0), (1, .ref a1), (2, .int a2), (3, .int a3), (4, .int y4)] [] := by
  intro q
  induction q with
  | zero => intro y4 σ so hF; rw [FX0_countByEnds_L84] at hF; cases hF
  | succ q ih =>
    intro y4 σ so hF hJ
    rw [FX0_countByEnds_L84] at hF
    refine x_iload 86 4 dX0_countByEnds_84 rfl rfl ?_
    refine x_aload_n 87 1 dX0_countByEnds_86 rfl rfl ?_
    obtain ⟨v23, h22, hF⟩ := b1_inv hF
    obtain ⟨fs, hb⟩ : ∃ fs : List Value, True ∧ σ a1 = some (.inr (2, fs)) := kX2_count h22
    refine x_callV (As := []) (rest := [.int y4]) 90 0 0 (mX2_count hst a1 σ n v23 h22) qyX2_count wd_651 wd_484 wd_485 hb.2 rfl rfl rfl (by decide) (Nat.le_of_ble_eq_true rfl) (by decide) dX0_countByEnds_87 rfl rfl rfl rfl ?_
    rcases ite_inv hF with ⟨hc, hF⟩ | ⟨hc, hF⟩
    · refine x_icmp_ge 166 93 dX0_countByEnds_90 (by decide) rfl (fun _ => ?_) (fun q => absurd hc q)
      have e1 := Option.some.inj hF
      subst e1
      refine x_sub [] [] rfl ?_
      exact hJ
    · refine x_icmp_ge 166 93 dX0_countByEnds_90 (by decide) rfl (fun q => absurd q hc) (fun _ => ?_)
      refine x_aload_n 94 1 dX0_countByEnds_93 rfl rfl ?_
      refine x_iload 96 4 dX0_countByEnds_94 rfl rfl ?_
      refine x_bipush 98 (8 : Int32) dX0_countByEnds_96 rfl (by decide) ?_
      obtain ⟨v25, h24, hF⟩ := b1_inv hF
      obtain ⟨fs, hb⟩ : ∃ fs : List Value, True ∧ σ a1 = some (.inr (2, fs)) := kX2_number h24
      refine x_callV (As := [.int y4, .int (8 : Int32)]) (rest := []) 101 0 0 (mX2_number hst a1 y4 (8 : Int32) σ n v25 h24) qyX2_number wd_653 wd_437 wd_438 hb.2 rfl rfl rfl (by decide) (Nat.le_of_ble_eq_true rfl) (by decide) dX0_countByEnds_98 rfl rfl rfl rfl ?_
      refine x_istore 103 5 [(5, .int v25), (0, .ref a0), (1, .ref a1), (2, .int a2), (3, .int a3), (4, .int y4)] dX0_countByEnds_101 rfl (by decide) rfl ?_
      refine x_iload 105 5 dX0_countByEnds_103 rfl rfl ?_
      refine x_iload_n 106 4 dX0_countByEnds_105 rfl rfl ?_
      obtain ⟨s26, h39, hF⟩ := b1_inv hF
      have hJ : qX l G RX0 "countByEnds" cX0_countByEnds 6 (none) [] rmX0_countByEnds 0 0 r 0 0 s26 n 160 [(0, .ref a0), (1, .ref a1), (2, .int a2), (3, .int a3), (4, .int y4)] [] := by
        refine x_iinc 163 4 4 (y4 + (1 : Int32)) [(4, .int (y4 + (1 : Int32))), (0, .ref a0), (1, .ref a1), (2, .int a2), (3, .int a3)] dX0_countByEnds_160 rfl rfl rfl (by decide) rfl ?_
        refine x_goto 84 dX0_countByEnds_163 (by decide) ?_
        refine x_sub [(0, .ref a0), (1, .ref a1), (2, .int a2), (3, .int a3), (4, .int (y4 + (1 : Int32)))] [1, 2, 3, 4, 0] rfl ?_
        exact ih _ _ _ hF hJ
      have hF := h39
      rcases ite_inv hF with ⟨hc, hF⟩ | ⟨hc, hF⟩
      · refine x_icmp_eq 160 109 dX0_countByEnds_106 (by decide) rfl (fun _ => ?_) (fun q => absurd hc q)
        have e1 := Option.some.inj hF
        subst e1
        refine x_sub [(0, .ref a0), (1, .ref a1), (2, .int a2), (3, .int a3), (4, .int y4)] [1, 2, 3, 4, 5] rfl ?_
        exact hJ
      · refine x_icmp_eq 160 109 dX0_countByEnds_106 (by decide) rfl (fun q => absurd q hc) (fun _ => ?_)
        refine x_aload_n 110 2 dX0_countByEnds_109 rfl rfl ?_
        refine x_iload 112 5 dX0_countByEnds_110 rfl rfl ?_
        refine x_iload_n 113 3 dX0_countByEnds_112 rfl rfl ?_
        obtain ⟨v28, h27, hF⟩ := b1_inv hF
        obtain ⟨fs, hb⟩ : ∃ fs : List Value, True ∧ σ a1 = some (.inr (2, fs)) := kX2_isOf h27
        refine x_callV (As := [.int y4, .int a2]) (rest := []) 116 0 0 (mX2_isOf hst a1 y4 a2 σ n v28 h27) qyX2_isOf wd_652 wd_461 wd_462 hb.2 rfl rfl rfl (by decide) (Nat.le_of_ble_eq_true rfl) (by decide) dX0_countByEnds_113 rfl rfl rfl rfl ?_
        rcases ite_inv hF with ⟨hc, hF⟩ | ⟨hc, hF⟩
        · refine x_if_eq 160 119 dX0_countByEnds_116 (by decide) rfl (fun _ => ?_) (fun q => absurd hc q)
          have e1 := Option.some.inj hF
          subst e1
          refine x_sub [(0, .ref a0), (1, .ref a1), (2, .int a2), (3, .int a3), (4, .int y4)] [1, 2, 3, 4, 5] rfl ?_
          exact hJ
        · refine x_if_eq 160 119 dX0_countByEnds_116 (by decide) rfl (fun q => absurd q hc) (fun _ => ?_)
          refine x_aload_n 120 1 dX0_countByEnds_119 rfl rfl ?_
          obtain ⟨v29, h30, hF⟩ := b1_inv hF
          refine x_getI 123 1 inX0 rfl (by decide) wd_138 h30 dX0_countByEnds_120 rfl ?_
          refine x_iload 125 0 dX0_countByEnds_123 rfl rfl ?_
          rcases ite_inv hF with ⟨hc, hF⟩ | ⟨hc, hF⟩
          · refine x_icmp_gt 160 128 dX0_countByEnds_125 (by decide) rfl (fun _ => ?_) (fun q => absurd hc q)
            have e1 := Option.some.inj hF
            subst e1
            refine x_sub [(0, .ref a0), (1, .ref a1), (2, .int a2), (3, .int a3), (4, .int y4)] [1, 2, 3, 4, 5] rfl ?_
            exact hJ
          · refine x_icmp_gt 160 128 dX0_countByEnds_125 (by decide) rfl (fun q => absurd q hc) (fun _ => ?_)
            refine x_iload 130 0 dX0_countByEnds_128 rfl rfl ?_
            refine x_aload_n 131 1 dX0_countByEnds_130 rfl rfl ?_
            obtain ⟨v31, h32, hF⟩ := b1_inv hF
            refine x_getI 134 2 inX0 rfl (by decide) wd_139 h32 dX0_countByEnds_131 rfl ?_
            rcases ite_inv hF with ⟨hc, hF⟩ | ⟨hc, hF⟩
            · refine x_icmp_ge 160 137 dX0_countByEnds_134 (by decide) rfl (fun _ => ?_) (fun q => absurd hc q)
              have e1 := Option.some.inj hF
              subst e1
              refine x_sub [(0, .ref a0), (1, .ref a1), (2, .int a2), (3, .int a3), (4, .int y4)] [1, 2, 3, 4, 5] rfl ?_
              exact hJ
            · refine x_icmp_ge 160 137 dX0_countByEnds_134 (by decide) rfl (fun q => absurd q hc) (fun _ => ?_)
              refine x_aload_n 138 2 dX0_countByEnds_137 rfl rfl ?_
              refine x_iload_n 139 3 dX0_countByEnds_138 rfl rfl ?_
              refine x_iload 141 0 dX0_countByEnds_139 rfl rfl ?_
              refine x_iconst 142 (1 : Int32) dX0_countByEnds_141 rfl (by decide) ?_
              refine x_iadd 143 dX0_countByEnds_142 rfl ?_
              refine x_iload_n 144 4 dX0_countByEnds_143 rfl rfl ?_
              obtain ⟨v34, h33, hF⟩ := b1_inv hF
              obtain ⟨fs, hb⟩ : ∃ fs : List Value, True ∧ σ a1 = some (.inr (2, fs)) := kX2_voteOf h33
              refine x_callV (As := [.int a2, .int (v25 + (1 : Int32)), .int a3]) (rest := []) 147 0 0 (mX2_voteOf hst a1 a2 (v25 + (1 : Int32)) a3 σ n v34 h33) qyX2_voteOf wd_659 wd_632 wd_633 hb.2 rfl rfl rfl (by decide) (Nat.le_of_ble_eq_true rfl) (by decide) dX0_countByEnds_144 rfl rfl rfl rfl ?_
              refine x_aload_n 148 1 dX0_countByEnds_147 rfl rfl ?_
              obtain ⟨v35, h36, hF⟩ := b1_inv hF
              refine x_getI 151 3 inX0 rfl (by decide) wd_140 h36 dX0_countByEnds_148 rfl ?_
              rcases ite_inv hF with ⟨hc, hF⟩ | ⟨hc, hF⟩
              · refine x_icmp_ge 160 154 dX0_countByEnds_151 (by decide) rfl (fun _ => ?_) (fun q => absurd hc q)
                have e1 := Option.some.inj hF
                subst e1
                refine x_sub [(0, .ref a0), (1, .ref a1), (2, .int a2), (3, .int a3), (4, .int y4)] [1, 2, 3, 4, 5] rfl ?_
                exact hJ
              · refine x_icmp_ge 160 154 dX0_countByEnds_151 (by decide) rfl (fun q => absurd q hc) (fun _ => ?_)
                refine x_aload_n 155 1 dX0_countByEnds_154 rfl rfl ?_
                refine x_iload 157 0 dX0_countByEnds_155 rfl rfl ?_
                obtain ⟨s37, h38, hF⟩ := b1_inv hF
                refine x_put 160 2 inX0 tyX0 tyX0_ok nmX0 rfl (by decide) wd_139 rfl (tX0_2) rfl rfl h38 dX0_countByEnds_157 rfl ?_
                have e1 := Option.some.inj hF
                subst e1
                refine x_sub [(0, .ref a0), (1, .ref a1), (2, .int a2), (3, .int a3), (4, .int y4)] [1, 2, 3, 4, 5] rfl ?_
                exact hJ
theorem kX0_countByEnds {b : Nat} {p0 : Nat} {p1 : Int32} {p2 : Int32} {σ : qH} {o : qH} (h : FX0_countByEnds b p0 p1 p2 σ = some o) : ∃ fs : List Value, True ∧ σ b = some (.inr (0, fs)) := by
  unfold FX0_countByEnds at h
  obtain ⟨_, h1, _⟩ := b1_inv h
  obtain ⟨fs, h2⟩ := gC_inv h1
  exact ⟨fs, trivial, h2⟩
set_option maxHeartbeats 4000000 in
set_option maxRecDepth 100000 in
theorem mX0_countByEnds {l : Launch} {G : qG} (hst : l.stackTraces = false) (b : Nat) (p0 : Nat) (p1 : Int32) (p2 : Int32) (σ : qH) (n : Option Nat) (so : qH) (hF : FX0_countByEnds b p0 p1 p2 σ = some so) : qM l G yX0_countByEnds cX0_countByEnds 6 (none) rmX0_countByEnds [.ref b, .ref p0, .int p1, .int p2] σ n (.inl (none, so, n)) := by
  refine q_body (own := RX0) (nm := "countByEnds") (ls := [(0, .ref b), (1, .ref p0), (2, .int p1), (3, .int p2)]) hst (by decide +kernel) rfl rfl (Nat.le_of_ble_eq_true rfl) rfl rfl rfl ?_
  unfold FX0_countByEnds at hF
  obtain ⟨_, hC, hF⟩ := b1_inv hF
  refine x_aload_n 1 0 dX0_countByEnds_0 rfl rfl ?_
  refine x_iconst 2 (1 : Int32) dX0_countByEnds_1 rfl (by decide) ?_
  obtain ⟨s1, h2, hF⟩ := b1_inv hF
  refine x_put 5 1 inX0 tyX0 tyX0_ok nmX0 rfl (by decide) wd_138 rfl (tX0_1) rfl rfl h2 dX0_countByEnds_2 rfl ?_
  refine x_aload_n 6 0 dX0_countByEnds_5 rfl rfl ?_
  refine x_aload_n 7 1 dX0_countByEnds_6 rfl rfl ?_
  refine x_iload_n 8 2 dX0_countByEnds_7 rfl rfl ?_
  refine x_iconst 9 (1 : Int32) dX0_countByEnds_8 rfl (by decide) ?_
  refine x_iload_n 10 3 dX0_countByEnds_9 rfl rfl ?_
  obtain ⟨v4, h3, hF⟩ := b1_inv hF
  obtain ⟨fs, hb⟩ : ∃ fs : List Value, True ∧ s1 p0 = some (.inr (2, fs)) := kX2_voteOf h3
  refine x_callV (As := [.int p1, .int (1 : Int32), .int p2]) (rest := [.ref b]) 13 0 0 (mX2_voteOf hst p0 p1 (1 : Int32) p2 s1 n v4 h3) qyX2_voteOf wd_659 wd_632 wd_633 hb.2 rfl rfl rfl (by decide) (Nat.le_of_ble_eq_true rfl) (by decide) dX0_countByEnds_10 rfl rfl rfl rfl ?_
  obtain ⟨s5, h6, hF⟩ := b1_inv hF
  refine x_put 16 3 inX0 tyX0 tyX0_ok nmX0 rfl (by decide) wd_140 rfl (tX0_3) rfl rfl h6 dX0_countByEnds_13 rfl ?_
  refine x_iconst 17 (0 : Int32) dX0_countByEnds_16 rfl (by decide) ?_
  refine x_istore 19 4 [(4, .int (0 : Int32)), (0, .ref b), (1, .ref p0), (2, .int p1), (3, .int p2)] dX0_countByEnds_17 rfl (by decide) rfl ?_
  obtain ⟨s19, h42, hF⟩ := b1_inv hF
  have hJ : qX l G RX0 "countByEnds" cX0_countByEnds 6 (none) [] rmX0_countByEnds 0 0 (.inl (none, so, n)) 0 0 s19 n 74 [(0, .ref b), (1, .ref p0), (2, .int p1), (3, .int p2)] [] := by
    refine x_aload_n 75 0 dX0_countByEnds_74 rfl rfl ?_
    refine x_sipush 78 (999 : Int32) dX0_countByEnds_75 rfl (by decide) ?_
    obtain ⟨s20, h21, hF⟩ := b1_inv hF
    refine x_put 81 2 inX0 tyX0 tyX0_ok nmX0 rfl (by decide) wd_139 rfl (tX0_2) rfl rfl h21 dX0_countByEnds_78 rfl ?_
    refine x_iconst 82 (0 : Int32) dX0_countByEnds_81 rfl (by decide) ?_
    refine x_istore 84 4 [(4, .int (0 : Int32)), (0, .ref b), (1, .ref p0), (2, .int p1), (3, .int p2)] dX0_countByEnds_82 rfl (by decide) rfl ?_
    obtain ⟨s40, h41, hF⟩ := b1_inv hF
    have hJ : qX l G RX0 "countByEnds" cX0_countByEnds 6 (none) [] rmX0_countByEnds 0 0 (.inl (none, so, n)) 0 0 s40 n 166 [] [] := by
      cases hF
      exact x_vret rfl rfl (by decide) (by decide) dX0_countByEnds_166
    refine x_sub [(0, .ref b), (1, .ref p0), (2, .int p1), (3, .int p2), (4, .int (0 : Int32))] [1, 2, 3, 4, 0] rfl ?_
    exact mX0_countByEnds_L84 hst b p0 p1 p2 n _ qfuel (0 : Int32) s20 s40 h41 hJ
  refine x_sub [(0, .ref b), (1, .ref p0), (2, .int p1), (3, .int p2), (4, .int (0 : Int32))] [1, 2, 3, 4, 0] rfl ?_
  exact mX0_countByEnds_L19 hst b p0 p1 p2 n _ qfuel (0 : Int32) s5 s19 h42 hJ
def rmX0_told : Room := { frames := 0, cells := 0, slots := 0, locals := 0 }
theorem qyX0_told : qY yX0_told cX0_told 2 (some .int) 1 := ⟨wd_667, wd_22, by decide +kernel, by decide +kernel, by decide +kernel⟩
theorem kX0_told {b : Nat} {p0 : Int32} {σ : qH} {o : Int32} (h : FX0_told b p0 σ = some o) : ∃ fs : List Value, True ∧ σ b = some (.inr (0, fs)) := by
  unfold FX0_told at h
  obtain ⟨_, h1, _⟩ := b1_inv h
  obtain ⟨fs, h2⟩ := gC_inv h1
  exact ⟨fs, trivial, h2⟩
set_option maxHeartbeats 4000000 in
set_option maxRecDepth 100000 in
theorem mX0_told {l : Launch} {G : qG} (hst : l.stackTraces = false) (b : Nat) (p0 : Int32) (σ : qH) (n : Option Nat) (ro : Int32) (hF : FX0_told b p0 σ = some ro) : qM l G yX0_told cX0_told 2 (some .int) rmX0_told [.ref b, .int p0] σ n (.inl (some (.int ro), σ, n)) := by
  refine q_body (own := RX0) (nm := "told") (ls := [(0, .ref b), (1, .int p0)]) hst (by decide +kernel) rfl rfl (Nat.le_of_ble_eq_true rfl) rfl rfl rfl ?_
  unfold FX0_told at hF
  obtain ⟨_, hC, hF⟩ := b1_inv hF
  refine x_iload_n 1 1 dX0_told_0 rfl rfl ?_
  rcases ite_inv hF with ⟨h3, hF⟩ | ⟨h3, hF⟩
  · have hK : qX l G RX0 "told" cX0_told 2 (some .int) [] rmX0_told 0 0 (.inl (some (.int ro), σ, n)) 0 0 σ n 28 [(0, .ref b), (1, .int p0)] [] := by
      refine x_aload_n 29 0 dX0_told_28 rfl rfl ?_
      obtain ⟨v1, h2, hF⟩ := b1_inv hF
      refine x_getI 32 1 inX0 rfl (by decide) wd_138 h2 dX0_told_29 rfl ?_
      cases hF
      exact x_iret rfl rfl (by decide) (by decide) dX0_told_32
    · exact x_lookup (27) 28 dX0_told_1 (by decide) (by rw [h3]; decide) (by decide) hK
  rcases ite_inv hF with ⟨h6, hF⟩ | ⟨h6, hF⟩
  · have hK : qX l G RX0 "told" cX0_told 2 (some .int) [] rmX0_told 0 0 (.inl (some (.int ro), σ, n)) 0 0 σ n 33 [(0, .ref b), (1, .int p0)] [] := by
      refine x_aload_n 34 0 dX0_told_33 rfl rfl ?_
      obtain ⟨v4, h5, hF⟩ := b1_inv hF
      refine x_getI 37 2 inX0 rfl (by decide) wd_139 h5 dX0_told_34 rfl ?_
      cases hF
      exact x_iret rfl rfl (by decide) (by decide) dX0_told_37
    · exact x_lookup (32) 33 dX0_told_1 (by decide) (by rw [h6]; decide) (by decide) hK
  have hK : qX l G RX0 "told" cX0_told 2 (some .int) [] rmX0_told 0 0 (.inl (some (.int ro), σ, n)) 0 0 σ n 38 [(0, .ref b), (1, .int p0)] [] := by
    refine x_aload_n 39 0 dX0_told_38 rfl rfl ?_
    obtain ⟨v7, h8, hF⟩ := b1_inv hF
    refine x_getI 42 3 inX0 rfl (by decide) wd_140 h8 dX0_told_39 rfl ?_
    cases hF
    exact x_iret rfl rfl (by decide) (by decide) dX0_told_42
  have h3z := i32_ne (z := 0) h3 (by decide)
  have h6z := i32_ne (z := 1) h6 (by decide)
  exact x_lookup (37) 38 dX0_told_1 (by decide) (lk_2 h3z h6z) (by decide) hK
def rmX1_remember : Room := { frames := 2, cells := 0, slots := 0, locals := 48 }
theorem qyX1_remember : qY yX1_remember cX1_remember 2 (none) 1 := ⟨wd_692, wd_20, by decide +kernel, by decide +kernel, by decide +kernel⟩
theorem kX1_remember {b : Nat} {p0 : Nat} {σ : qH} {o : qH} (h : FX1_remember b p0 σ = some o) : ∃ fs : List Value, True ∧ σ b = some (.inr (1, fs)) := by
  unfold FX1_remember at h
  obtain ⟨_, h1, _⟩ := b1_inv h
  obtain ⟨fs, h2⟩ := gC_inv h1
  exact ⟨fs, trivial, h2⟩
set_option maxHeartbeats 4000000 in
set_option maxRecDepth 100000 in
theorem mX1_remember {l : Launch} {G : qG} (hst : l.stackTraces = false) (b : Nat) (p0 : Nat) (σ : qH) (n : Option Nat) (so : qH) (hF : FX1_remember b p0 σ = some so) : qM l G yX1_remember cX1_remember 2 (none) rmX1_remember [.ref b, .ref p0] σ n (.inl (none, so, n)) := by
  refine q_body (own := RX1) (nm := "remember") (ls := [(0, .ref b), (1, .ref p0)]) hst (by decide +kernel) rfl rfl (Nat.le_of_ble_eq_true rfl) rfl rfl rfl ?_
  unfold FX1_remember at hF
  obtain ⟨_, hC, hF⟩ := b1_inv hF
  refine x_aload_n 1 0 dX1_remember_0 rfl rfl ?_
  obtain ⟨r1, h2, hF⟩ := b1_inv hF
  refine x_getR 4 0 inX1 rfl (by decide) wd_98 h2 dX1_remember_1 rfl ?_
  refine x_aload_n 5 0 dX1_remember_4 rfl rfl ?_
  obtain ⟨v3, h4, hF⟩ := b1_inv hF
  refine x_getI 8 1 inX1 rfl (by decide) wd_99 h4 dX1_remember_5 rfl ?_
  obtain ⟨r5, h6, hF⟩ := b1_inv hF
  refine x_aQ 9 h6 dX1_remember_8 rfl ?_
  refine x_aload_n 10 1 dX1_remember_9 rfl rfl ?_
  obtain ⟨s8, h7, hF⟩ := b1_inv hF
  obtain ⟨fs, hb⟩ : ∃ fs : List Value, True ∧ σ r5 = some (.inr (2, fs)) := kX2_takeFrom h7
  refine x_callV (As := [.ref p0]) (rest := []) 13 0 0 (mX2_takeFrom hst r5 p0 σ n s8 h7) qyX2_takeFrom wd_693 wd_694 wd_695 hb.2 rfl rfl rfl (by decide) (Nat.le_of_ble_eq_true rfl) (by decide) dX1_remember_10 rfl rfl rfl rfl ?_
  refine x_aload_n 14 0 dX1_remember_13 rfl rfl ?_
  refine x_aload_n 15 0 dX1_remember_14 rfl rfl ?_
  obtain ⟨v9, h10, hF⟩ := b1_inv hF
  refine x_getI 18 1 inX1 rfl (by decide) wd_99 h10 dX1_remember_15 rfl ?_
  refine x_iconst 19 (1 : Int32) dX1_remember_18 rfl (by decide) ?_
  refine x_iadd 20 dX1_remember_19 rfl ?_
  refine x_bipush 22 (14 : Int32) dX1_remember_20 rfl (by decide) ?_
  obtain ⟨x11, h22, hF⟩ := b1_inv hF
  have hJ : qX l G RX1 "remember" cX1_remember 2 (none) [] rmX1_remember 0 0 (.inl (none, so, n)) 0 0 s8 n 35 [(0, .ref b)] [.int x11, .ref b] := by
    obtain ⟨s14, h15, hF⟩ := b1_inv hF
    refine x_put 38 1 inX1 tyX1 tyX1_ok nmX1 rfl (by decide) wd_99 rfl (tX1_1) rfl rfl h15 dX1_remember_35 rfl ?_
    refine x_aload_n 39 0 dX1_remember_38 rfl rfl ?_
    refine x_bipush 41 (14 : Int32) dX1_remember_39 rfl (by decide) ?_
    refine x_aload_n 42 0 dX1_remember_41 rfl rfl ?_
    obtain ⟨v16, h17, hF⟩ := b1_inv hF
    refine x_getI 45 2 inX1 rfl (by decide) wd_100 h17 dX1_remember_42 rfl ?_
    refine x_iconst 46 (1 : Int32) dX1_remember_45 rfl (by decide) ?_
    refine x_iadd 47 dX1_remember_46 rfl ?_
    obtain ⟨v19, h18, hF⟩ := b1_inv hF
    refine x_callS (As := [.int (14 : Int32), .int (v16 + (1 : Int32))]) (rest := [.ref b]) 50 0 0 (mJ9_min_7cf53 hst (14 : Int32) (v16 + (1 : Int32)) s14 n v19 h18) qyJ9_min_7cf53 wd_697 wd_394 rfl rfl (by decide) (Nat.le_of_ble_eq_true rfl) (by decide) dX1_remember_47 rfl rfl rfl rfl ?_
    obtain ⟨s20, h21, hF⟩ := b1_inv hF
    refine x_put 53 2 inX1 tyX1 tyX1_ok nmX1 rfl (by decide) wd_100 rfl (tX1_2) rfl rfl h21 dX1_remember_50 rfl ?_
    cases hF
    exact x_vret rfl rfl (by decide) (by decide) dX1_remember_53
  have hF := h22
  rcases ite_inv hF with ⟨hc, hF⟩ | ⟨hc, hF⟩
  · refine x_icmp_ge 34 25 dX1_remember_22 (by decide) rfl (fun _ => ?_) (fun q => absurd hc q)
    refine x_iconst 35 (0 : Int32) dX1_remember_34 rfl (by decide) ?_
    have e1 := Option.some.inj hF
    subst e1
    refine x_sub [(0, .ref b)] [0] rfl ?_
    exact hJ
  · refine x_icmp_ge 34 25 dX1_remember_22 (by decide) rfl (fun q => absurd q hc) (fun _ => ?_)
    refine x_aload_n 26 0 dX1_remember_25 rfl rfl ?_
    obtain ⟨v12, h13, hF⟩ := b1_inv hF
    refine x_getI 29 1 inX1 rfl (by decide) wd_99 h13 dX1_remember_26 rfl ?_
    refine x_iconst 30 (1 : Int32) dX1_remember_29 rfl (by decide) ?_
    refine x_iadd 31 dX1_remember_30 rfl ?_
    refine x_goto 35 dX1_remember_31 (by decide) ?_
    have e1 := Option.some.inj hF
    subst e1
    refine x_sub [(0, .ref b)] [0] rfl ?_
    exact hJ
def rmX1_isEmpty : Room := { frames := 0, cells := 0, slots := 0, locals := 0 }
theorem qyX1_isEmpty : qY yX1_isEmpty cX1_isEmpty 1 (some .boolean) 0 := ⟨wd_741, wd_20, by decide +kernel, by decide +kernel, by decide +kernel⟩
theorem kX1_isEmpty {b : Nat} {σ : qH} {o : Int32} (h : FX1_isEmpty b σ = some o) : ∃ fs : List Value, True ∧ σ b = some (.inr (1, fs)) := by
  unfold FX1_isEmpty at h
  obtain ⟨_, h1, _⟩ := b1_inv h
  obtain ⟨fs, h2⟩ := gC_inv h1
  exact ⟨fs, trivial, h2⟩
set_option maxHeartbeats 4000000 in
set_option maxRecDepth 100000 in
theorem mX1_isEmpty {l : Launch} {G : qG} (hst : l.stackTraces = false) (b : Nat) (σ : qH) (n : Option Nat) (ro : Int32) (hF : FX1_isEmpty b σ = some ro) : qM l G yX1_isEmpty cX1_isEmpty 1 (some .boolean) rmX1_isEmpty [.ref b] σ n (.inl (some (.int ro), σ, n)) := by
  refine q_body (own := RX1) (nm := "isEmpty") (ls := [(0, .ref b)]) hst (by decide +kernel) rfl rfl (Nat.le_of_ble_eq_true rfl) rfl rfl rfl ?_
  unfold FX1_isEmpty at hF
  obtain ⟨_, hC, hF⟩ := b1_inv hF
  refine x_aload_n 1 0 dX1_isEmpty_0 rfl rfl ?_
  obtain ⟨v1, h2, hF⟩ := b1_inv hF
  refine x_getI 4 2 inX1 rfl (by decide) wd_100 h2 dX1_isEmpty_1 rfl ?_
  obtain ⟨x3, h4, hF⟩ := b1_inv hF
  have hJ : qX l G RX1 "isEmpty" cX1_isEmpty 1 (some .boolean) [] rmX1_isEmpty 0 0 (.inl (some (.int ro), σ, n)) 0 0 σ n 12 [] [.int x3] := by
    obtain ⟨hz, hF⟩ := ite_none hF
    cases hF
    exact x_zret rfl (by rcases hz with h | h <;> rw [h] <;> rfl) rfl (by decide) (by decide) dX1_isEmpty_12
  have hF := h4
  rcases ite_inv hF with ⟨hc, hF⟩ | ⟨hc, hF⟩
  · refine x_if_ne 11 7 dX1_isEmpty_4 (by decide) rfl (fun q => absurd hc q) (fun _ => ?_)
    refine x_iconst 8 (1 : Int32) dX1_isEmpty_7 rfl (by decide) ?_
    refine x_goto 12 dX1_isEmpty_8 (by decide) ?_
    have e1 := Option.some.inj hF
    subst e1
    refine x_sub [] [] rfl ?_
    exact hJ
  · refine x_if_ne 11 7 dX1_isEmpty_4 (by decide) rfl (fun _ => ?_) (fun q => absurd q hc)
    refine x_iconst 12 (0 : Int32) dX1_isEmpty_11 rfl (by decide) ?_
    have e1 := Option.some.inj hF
    subst e1
    refine x_sub [] [] rfl ?_
    exact hJ
def rmX1_takeBack : Room := { frames := 2, cells := 0, slots := 0, locals := 48 }
theorem qyX1_takeBack : qY yX1_takeBack cX1_takeBack 2 (some .int) 1 := ⟨wd_746, wd_20, by decide +kernel, by decide +kernel, by decide +kernel⟩
theorem kX1_takeBack {b : Nat} {p0 : Nat} {σ : qH} {o : Int32 × qH} (h : FX1_takeBack b p0 σ = some o) : ∃ fs : List Value, True ∧ σ b = some (.inr (1, fs)) := by
  unfold FX1_takeBack at h
  obtain ⟨_, h1, _⟩ := b1_inv h
  obtain ⟨fs, h2⟩ := gC_inv h1
  exact ⟨fs, trivial, h2⟩
set_option maxHeartbeats 4000000 in
set_option maxRecDepth 100000 in
theorem mX1_takeBack {l : Launch} {G : qG} (hst : l.stackTraces = false) (b : Nat) (p0 : Nat) (σ : qH) (n : Option Nat) (ro : Int32) (so : qH) (hF : FX1_takeBack b p0 σ = some (ro, so)) : qM l G yX1_takeBack cX1_takeBack 2 (some .int) rmX1_takeBack [.ref b, .ref p0] σ n (.inl (some (.int ro), so, n)) := by
  refine q_body (own := RX1) (nm := "takeBack") (ls := [(0, .ref b), (1, .ref p0)]) hst (by decide +kernel) rfl rfl (Nat.le_of_ble_eq_true rfl) rfl rfl rfl ?_
  unfold FX1_takeBack at hF
  obtain ⟨_, hC, hF⟩ := b1_inv hF
  refine x_aload_n 1 0 dX1_takeBack_0 rfl rfl ?_
  refine x_aload_n 2 0 dX1_takeBack_1 rfl rfl ?_
  obtain ⟨v1, h2, hF⟩ := b1_inv hF
  refine x_getI 5 1 inX1 rfl (by decide) wd_99 h2 dX1_takeBack_2 rfl ?_
  obtain ⟨x3, h22, hF⟩ := b1_inv hF
  have hJ : qX l G RX1 "takeBack" cX1_takeBack 2 (some .int) [] rmX1_takeBack 0 0 (.inl (some (.int ro), so, n)) 0 0 σ n 19 [(0, .ref b), (1, .ref p0)] [.int x3, .ref b] := by
    obtain ⟨s6, h7, hF⟩ := b1_inv hF
    refine x_put 22 1 inX1 tyX1 tyX1_ok nmX1 rfl (by decide) wd_99 rfl (tX1_1) rfl rfl h7 dX1_takeBack_19 rfl ?_
    refine x_aload_n 23 0 dX1_takeBack_22 rfl rfl ?_
    refine x_dup 24 rfl dX1_takeBack_23 rfl ?_
    obtain ⟨v8, h9, hF⟩ := b1_inv hF
    refine x_getI 27 2 inX1 rfl (by decide) wd_100 h9 dX1_takeBack_24 rfl ?_
    refine x_iconst 28 (1 : Int32) dX1_takeBack_27 rfl (by decide) ?_
    refine x_isub 29 dX1_takeBack_28 rfl ?_
    obtain ⟨s10, h11, hF⟩ := b1_inv hF
    refine x_put 32 2 inX1 tyX1 tyX1_ok nmX1 rfl (by decide) wd_100 rfl (tX1_2) rfl rfl h11 dX1_takeBack_29 rfl ?_
    refine x_aload_n 33 1 dX1_takeBack_32 rfl rfl ?_
    refine x_aload_n 34 0 dX1_takeBack_33 rfl rfl ?_
    obtain ⟨r12, h13, hF⟩ := b1_inv hF
    refine x_getR 37 0 inX1 rfl (by decide) wd_98 h13 dX1_takeBack_34 rfl ?_
    refine x_aload_n 38 0 dX1_takeBack_37 rfl rfl ?_
    obtain ⟨v14, h15, hF⟩ := b1_inv hF
    refine x_getI 41 1 inX1 rfl (by decide) wd_99 h15 dX1_takeBack_38 rfl ?_
    obtain ⟨r16, h17, hF⟩ := b1_inv hF
    refine x_aQ 42 h17 dX1_takeBack_41 rfl ?_
    obtain ⟨s19, h18, hF⟩ := b1_inv hF
    obtain ⟨fs, hb⟩ : ∃ fs : List Value, True ∧ s10 p0 = some (.inr (2, fs)) := kX2_takeFrom h18
    refine x_callV (As := [.ref r16]) (rest := []) 45 0 0 (mX2_takeFrom hst p0 r16 s10 n s19 h18) qyX2_takeFrom wd_693 wd_694 wd_695 hb.2 rfl rfl rfl (by decide) (Nat.le_of_ble_eq_true rfl) (by decide) dX1_takeBack_42 rfl rfl rfl rfl ?_
    refine x_aload_n 46 0 dX1_takeBack_45 rfl rfl ?_
    obtain ⟨v20, h21, hF⟩ := b1_inv hF
    refine x_getI 49 2 inX1 rfl (by decide) wd_100 h21 dX1_takeBack_46 rfl ?_
    cases hF
    exact x_iret rfl rfl (by decide) (by decide) dX1_takeBack_49
  have hF := h22
  rcases ite_inv hF with ⟨hc, hF⟩ | ⟨hc, hF⟩
  · refine x_if_le 17 8 dX1_takeBack_5 (by decide) rfl (fun _ => ?_) (fun q => absurd hc q)
    refine x_bipush 19 (13 : Int32) dX1_takeBack_17 rfl (by decide) ?_
    have e1 := Option.some.inj hF
    subst e1
    exact hJ
  · refine x_if_le 17 8 dX1_takeBack_5 (by decide) rfl (fun q => absurd q hc) (fun _ => ?_)
    refine x_aload_n 9 0 dX1_takeBack_8 rfl rfl ?_
    obtain ⟨v4, h5, hF⟩ := b1_inv hF
    refine x_getI 12 1 inX1 rfl (by decide) wd_99 h5 dX1_takeBack_9 rfl ?_
    refine x_iconst 13 (1 : Int32) dX1_takeBack_12 rfl (by decide) ?_
    refine x_isub 14 dX1_takeBack_13 rfl ?_
    refine x_goto 19 dX1_takeBack_14 (by decide) ?_
    have e1 := Option.some.inj hF
    subst e1
    exact hJ
def rmX0_lowest : Room := { frames := 0, cells := 0, slots := 0, locals := 0 }
theorem qyX0_lowest : qY yX0_lowest cX0_lowest 1 (some .int) 0 := ⟨wd_765, wd_22, by decide +kernel, by decide +kernel, by decide +kernel⟩
theorem kX0_lowest {b : Nat} {σ : qH} {o : Int32} (h : FX0_lowest b σ = some o) : ∃ fs : List Value, True ∧ σ b = some (.inr (0, fs)) := by
  unfold FX0_lowest at h
  obtain ⟨_, h1, _⟩ := b1_inv h
  obtain ⟨fs, h2⟩ := gC_inv h1
  exact ⟨fs, trivial, h2⟩
set_option maxHeartbeats 4000000 in
set_option maxRecDepth 100000 in
theorem mX0_lowest {l : Launch} {G : qG} (hst : l.stackTraces = false) (b : Nat) (σ : qH) (n : Option Nat) (ro : Int32) (hF : FX0_lowest b σ = some ro) : qM l G yX0_lowest cX0_lowest 1 (some .int) rmX0_lowest [.ref b] σ n (.inl (some (.int ro), σ, n)) := by
  refine q_body (own := RX0) (nm := "lowest") (ls := [(0, .ref b)]) hst (by decide +kernel) rfl rfl (Nat.le_of_ble_eq_true rfl) rfl rfl rfl ?_
  unfold FX0_lowest at hF
  obtain ⟨_, hC, hF⟩ := b1_inv hF
  refine x_aload_n 1 0 dX0_lowest_0 rfl rfl ?_
  obtain ⟨v1, h2, hF⟩ := b1_inv hF
  refine x_getI 4 1 inX0 rfl (by decide) wd_138 h2 dX0_lowest_1 rfl ?_
  cases hF
  exact x_iret rfl rfl (by decide) (by decide) dX0_lowest_4
def rmX3_limit : Room := { frames := 0, cells := 0, slots := 0, locals := 0 }
theorem qyX3_limit : qY yX3_limit cX3_limit 4 (some .long) 1 := ⟨wd_836, wd_31, by decide +kernel, by decide +kernel, by decide +kernel⟩
set_option maxHeartbeats 4000000 in
set_option maxRecDepth 100000 in
theorem mX3_limit_L4 {l : Launch} {G : qG} (hst : l.stackTraces = false) (a0 : Int32) (σ : qH) (n : Option Nat) (r : qR) : ∀ (q : Nat) (y1 : Int64) (y3 : Int32) (o1 : Int64), FX3_limit_L4 a0 σ q y1 y3 = some o1 → qX l G RX3 "limit" cX3_limit 4 (some .long) [] rmX3_limit 0 0 r 0 0 σ n 21 [(1, .long o1)] [] → qX l G RX3 "limit" cX3_limit 4 (some .long) [] rmX3_limit 0 0 r 0 0 σ n 4 [(0, .int a0), (1, .long y1), (3, .int y3)] [] := by
  intro q
  induction q with
  | zero => intro y1 y3 o1 hF; rw [FX3_limit_L4] at hF; cases hF
  | succ q ih =>
    intro y1 y3 o1 hF hJ
    rw [FX3_limit_L4] at hF
    refine x_iload_n 5 2 dX3_limit_4 rfl rfl ?_
    refine x_iload_n 6 0 dX3_limit_5 rfl rfl ?_
    rcases ite_inv hF with ⟨hc, hF⟩ | ⟨hc, hF⟩
    · refine x_icmp_ge 21 9 dX3_limit_6 (by decide) rfl (fun _ => ?_) (fun q => absurd hc q)
      have e1 := Option.some.inj hF
      subst e1
      refine x_sub [(1, .long y1)] [1] rfl ?_
      exact hJ
    · refine x_icmp_ge 21 9 dX3_limit_6 (by decide) rfl (fun q => absurd q hc) (fun _ => ?_)
      refine x_lload_n 10 1 dX3_limit_9 rfl rfl ?_
      refine x_ldc2 13 (1000000 : Int64) wd_837 dX3_limit_10 rfl ?_
      refine x_lmul 14 dX3_limit_13 rfl ?_
      refine x_lstore_n 15 1 [(1, .long (y1 * (1000000 : Int64))), (0, .int a0), (3, .int y3)] dX3_limit_14 rfl rfl (by decide) rfl ?_
      refine x_iinc 18 3 2 (y3 + (1 : Int32)) [(3, .int (y3 + (1 : Int32))), (1, .long (y1 * (1000000 : Int64))), (0, .int a0)] dX3_limit_15 rfl rfl rfl (by decide) rfl ?_
      refine x_goto 4 dX3_limit_18 (by decide) ?_
      refine x_sub [(0, .int a0), (1, .long (y1 * (1000000 : Int64))), (3, .int (y3 + (1 : Int32)))] [2, 1, 0] rfl ?_
      exact ih _ _ _ hF hJ
set_option maxHeartbeats 4000000 in
set_option maxRecDepth 100000 in
theorem mX3_limit {l : Launch} {G : qG} (hst : l.stackTraces = false) (p0 : Int32) (σ : qH) (n : Option Nat) (ro : Int64) (hF : FX3_limit p0 σ = some ro) : qM l G yX3_limit cX3_limit 4 (some .long) rmX3_limit [.int p0] σ n (.inl (some (.long ro), σ, n)) := by
  refine q_body (own := RX3) (nm := "limit") (ls := [(0, .int p0)]) hst (by decide +kernel) rfl rfl (Nat.le_of_ble_eq_true rfl) rfl rfl rfl ?_
  unfold FX3_limit at hF
  refine x_lconst 1 (1 : Int64) dX3_limit_0 rfl (by decide) ?_
  refine x_lstore_n 2 1 [(1, .long (1 : Int64)), (0, .int p0)] dX3_limit_1 rfl rfl (by decide) rfl ?_
  refine x_iconst 3 (0 : Int32) dX3_limit_2 rfl (by decide) ?_
  refine x_istore_n 4 3 [(3, .int (0 : Int32)), (1, .long (1 : Int64)), (0, .int p0)] dX3_limit_3 rfl rfl (by decide) rfl ?_
  obtain ⟨x1, h2, hF⟩ := b1_inv hF
  have hJ : qX l G RX3 "limit" cX3_limit 4 (some .long) [] rmX3_limit 0 0 (.inl (some (.long ro), σ, n)) 0 0 σ n 21 [(1, .long x1)] [] := by
    refine x_lload_n 22 0 dX3_limit_21 rfl rfl ?_
    cases hF
    exact x_lret rfl rfl (by decide) (by decide) dX3_limit_22
  refine x_sub [(0, .int p0), (1, .long (1 : Int64)), (3, .int (0 : Int32))] [2, 1, 0] rfl ?_
  exact mX3_limit_L4 hst p0 σ n _ qfuel (1 : Int64) (0 : Int32) x1 h2 hJ
def rmX3_group : Room := { frames := 0, cells := 0, slots := 0, locals := 0 }
theorem qyX3_group : qY yX3_group cX3_group 6 (some .int) 2 := ⟨wd_840, wd_31, by decide +kernel, by decide +kernel, by decide +kernel⟩
set_option maxHeartbeats 4000000 in
set_option maxRecDepth 100000 in
theorem mX3_group_L5 {l : Launch} {G : qG} (hst : l.stackTraces = false) (a2 : Int32) (σ : qH) (n : Option Nat) (r : qR) : ∀ (q : Nat) (y3 : Int64) (y5 : Int32) (o3 : Int64), FX3_group_L5 a2 σ q y3 y5 = some o3 → qX l G RX3 "group" cX3_group 6 (some .int) [] rmX3_group 0 0 r 0 0 σ n 23 [(3, .long o3)] [] → qX l G RX3 "group" cX3_group 6 (some .int) [] rmX3_group 0 0 r 0 0 σ n 5 [(2, .int a2), (3, .long y3), (5, .int y5)] [] := by
  intro q
  induction q with
  | zero => intro y3 y5 o3 hF; rw [FX3_group_L5] at hF; cases hF
  | succ q ih =>
    intro y3 y5 o3 hF hJ
    rw [FX3_group_L5] at hF
    refine x_iload 7 2 dX3_group_5 rfl rfl ?_
    refine x_iload_n 8 0 dX3_group_7 rfl rfl ?_
    rcases ite_inv hF with ⟨hc, hF⟩ | ⟨hc, hF⟩
    · refine x_icmp_ge 23 11 dX3_group_8 (by decide) rfl (fun _ => ?_) (fun q => absurd hc q)
      have e1 := Option.some.inj hF
      subst e1
      refine x_sub [(3, .long y3)] [1] rfl ?_
      exact hJ
    · refine x_icmp_ge 23 11 dX3_group_8 (by decide) rfl (fun q => absurd q hc) (fun _ => ?_)
      refine x_lload_n 12 1 dX3_group_11 rfl rfl ?_
      refine x_ldc2 15 (1000000 : Int64) wd_837 dX3_group_12 rfl ?_
      refine x_ldiv 16 (by decide) dX3_group_15 rfl ?_
      refine x_lstore_n 17 3 [(3, .long (y3 / (1000000 : Int64))), (2, .int a2), (5, .int y5)] dX3_group_16 rfl rfl (by decide) rfl ?_
      refine x_iinc 20 5 2 (y5 + (1 : Int32)) [(5, .int (y5 + (1 : Int32))), (3, .long (y3 / (1000000 : Int64))), (2, .int a2)] dX3_group_17 rfl rfl rfl (by decide) rfl ?_
      refine x_goto 5 dX3_group_20 (by decide) ?_
      refine x_sub [(2, .int a2), (3, .long (y3 / (1000000 : Int64))), (5, .int (y5 + (1 : Int32)))] [2, 1, 0] rfl ?_
      exact ih _ _ _ hF hJ
set_option maxHeartbeats 4000000 in
set_option maxRecDepth 100000 in
theorem mX3_group {l : Launch} {G : qG} (hst : l.stackTraces = false) (p0 : Int64) (p1 : Int32) (σ : qH) (n : Option Nat) (ro : Int32) (hF : FX3_group p0 p1 σ = some ro) : qM l G yX3_group cX3_group 6 (some .int) rmX3_group [.long p0, .int p1] σ n (.inl (some (.int ro), σ, n)) := by
  refine q_body (own := RX3) (nm := "group") (ls := [(0, .long p0), (2, .int p1)]) hst (by decide +kernel) rfl rfl (Nat.le_of_ble_eq_true rfl) rfl rfl rfl ?_
  unfold FX3_group at hF
  refine x_lload_n 1 0 dX3_group_0 rfl rfl ?_
  refine x_lstore_n 2 3 [(3, .long p0), (0, .long p0), (2, .int p1)] dX3_group_1 rfl rfl (by decide) rfl ?_
  refine x_iconst 3 (0 : Int32) dX3_group_2 rfl (by decide) ?_
  refine x_istore 5 5 [(5, .int (0 : Int32)), (3, .long p0), (0, .long p0), (2, .int p1)] dX3_group_3 rfl (by decide) rfl ?_
  obtain ⟨x1, h2, hF⟩ := b1_inv hF
  have hJ : qX l G RX3 "group" cX3_group 6 (some .int) [] rmX3_group 0 0 (.inl (some (.int ro), σ, n)) 0 0 σ n 23 [(3, .long x1)] [] := by
    refine x_lload_n 24 0 dX3_group_23 rfl rfl ?_
    refine x_ldc2 27 (1000000 : Int64) wd_837 dX3_group_24 rfl ?_
    refine x_lrem 28 (by decide) dX3_group_27 rfl ?_
    refine x_l2i 29 dX3_group_28 rfl ?_
    cases hF
    exact x_iret rfl rfl (by decide) (by decide) dX3_group_29
  refine x_sub [(2, .int p1), (3, .long p0), (5, .int (0 : Int32))] [3, 1, 0] rfl ?_
  exact mX3_group_L5 hst p1 σ n _ qfuel p0 (0 : Int32) x1 h2 hJ
def rmX3_passEvenings : Room := { frames := 4, cells := 0, slots := 0, locals := 91 }
theorem qyX3_passEvenings : qY yX3_passEvenings cX3_passEvenings 3 (some .boolean) 2 := ⟨wd_850, wd_31, by decide +kernel, by decide +kernel, by decide +kernel⟩
set_option maxHeartbeats 4000000 in
set_option maxRecDepth 100000 in
theorem mX3_passEvenings_L2 {l : Launch} {G : qG} (hst : l.stackTraces = false) (a0 : Nat) (a1 : Int32) (n : Option Nat) (r : qR) : ∀ (q : Nat) (y2 : Int32) (σ : qH) (so : qH), FX3_passEvenings_L2 a0 a1 q y2 σ = some so → qX l G RX3 "passEvenings" cX3_passEvenings 3 (some .boolean) [] rmX3_passEvenings 0 0 r 0 0 so n 18 [] [] → qX l G RX3 "passEvenings" cX3_passEvenings 3 (some .boolean) [] rmX3_passEvenings 0 0 r 0 0 σ n 2 [(0, .ref a0), (1, .int a1), (2, .int y2)] [] := by
  intro q
  induction q with
  | zero => intro y2 σ so hF; rw [FX3_passEvenings_L2] at hF; cases hF
  | succ q ih =>
    intro y2 σ so hF hJ
    rw [FX3_passEvenings_L2] at hF
    refine x_iload_n 3 2 dX3_passEvenings_2 rfl rfl ?_
    refine x_iload_n 4 1 dX3_passEvenings_3 rfl rfl ?_
    rcases ite_inv hF with ⟨hc, hF⟩ | ⟨hc, hF⟩
    · refine x_icmp_ge 18 7 dX3_passEvenings_4 (by decide) rfl (fun _ => ?_) (fun q => absurd hc q)
      have e1 := Option.some.inj hF
      subst e1
      refine x_sub [] [] rfl ?_
      exact hJ
    · refine x_icmp_ge 18 7 dX3_passEvenings_4 (by decide) rfl (fun q => absurd q hc) (fun _ => ?_)
      refine x_aload_n 8 0 dX3_passEvenings_7 rfl rfl ?_
      obtain ⟨v2, s3, h1, hF⟩ := b2_inv hF
      obtain ⟨fs, hb⟩ : ∃ fs : List Value, True ∧ σ a0 = some (.inr (2, fs)) := kX2_passEvening h1
      refine x_callV (As := []) (rest := []) 11 0 0 (mX2_passEvening hst a0 σ n v2 s3 h1) qyX2_passEvening wd_851 wd_429 wd_430 hb.2 rfl rfl rfl (by decide) (Nat.le_of_ble_eq_true rfl) (by decide) dX3_passEvenings_8 rfl rfl rfl rfl ?_
      refine x_pop 12 rfl dX3_passEvenings_11 rfl ?_
      refine x_iinc 15 2 2 (y2 + (1 : Int32)) [(2, .int (y2 + (1 : Int32))), (0, .ref a0), (1, .int a1)] dX3_passEvenings_12 rfl rfl rfl (by decide) rfl ?_
      refine x_goto 2 dX3_passEvenings_15 (by decide) ?_
      refine x_sub [(0, .ref a0), (1, .int a1), (2, .int (y2 + (1 : Int32)))] [1, 2, 0] rfl ?_
      exact ih _ _ _ hF hJ
set_option maxHeartbeats 4000000 in
set_option maxRecDepth 100000 in
theorem mX3_passEvenings {l : Launch} {G : qG} (hst : l.stackTraces = false) (p0 : Nat) (p1 : Int32) (σ : qH) (n : Option Nat) (ro : Int32) (so : qH) (hF : FX3_passEvenings p0 p1 σ = some (ro, so)) : qM l G yX3_passEvenings cX3_passEvenings 3 (some .boolean) rmX3_passEvenings [.ref p0, .int p1] σ n (.inl (some (.int ro), so, n)) := by
  refine q_body (own := RX3) (nm := "passEvenings") (ls := [(0, .ref p0), (1, .int p1)]) hst (by decide +kernel) rfl rfl (Nat.le_of_ble_eq_true rfl) rfl rfl rfl ?_
  unfold FX3_passEvenings at hF
  refine x_iconst 1 (0 : Int32) dX3_passEvenings_0 rfl (by decide) ?_
  refine x_istore_n 2 2 [(2, .int (0 : Int32)), (0, .ref p0), (1, .int p1)] dX3_passEvenings_1 rfl rfl (by decide) rfl ?_
  obtain ⟨s4, h5, hF⟩ := b1_inv hF
  have hJ : qX l G RX3 "passEvenings" cX3_passEvenings 3 (some .boolean) [] rmX3_passEvenings 0 0 (.inl (some (.int ro), so, n)) 0 0 s4 n 18 [] [] := by
    refine x_iconst 19 (1 : Int32) dX3_passEvenings_18 rfl (by decide) ?_
    cases hF
    exact x_zret rfl rfl rfl (by decide) (by decide) dX3_passEvenings_19
  refine x_sub [(0, .ref p0), (1, .int p1), (2, .int (0 : Int32))] [1, 2, 0] rfl ?_
  exact mX3_passEvenings_L2 hst p0 p1 n _ qfuel (0 : Int32) σ s4 h5 hJ
def rmX3_lowestIsAtMost : Room := { frames := 4, cells := 0, slots := 0, locals := 94 }
theorem qyX3_lowestIsAtMost : qY yX3_lowestIsAtMost cX3_lowestIsAtMost 4 (some .boolean) 4 := ⟨wd_855, wd_31, by decide +kernel, by decide +kernel, by decide +kernel⟩
set_option maxHeartbeats 4000000 in
set_option maxRecDepth 100000 in
theorem mX3_lowestIsAtMost {l : Launch} {G : qG} (hst : l.stackTraces = false) (p0 : Nat) (p1 : Nat) (p2 : Int32) (p3 : Int32) (σ : qH) (n : Option Nat) (ro : Int32) (so : qH) (hF : FX3_lowestIsAtMost p0 p1 p2 p3 σ = some (ro, so)) : qM l G yX3_lowestIsAtMost cX3_lowestIsAtMost 4 (some .boolean) rmX3_lowestIsAtMost [.ref p0, .ref p1, .int p2, .int p3] σ n (.inl (some (.int ro), so, n)) := by
  refine q_body (own := RX3) (nm := "lowestIsAtMost") (ls := [(0, .ref p0), (1, .ref p1), (2, .int p2), (3, .int p3)]) hst (by decide +kernel) rfl rfl (Nat.le_of_ble_eq_true rfl) rfl rfl rfl ?_
  unfold FX3_lowestIsAtMost at hF
  refine x_iload_n 1 2 dX3_lowestIsAtMost_0 rfl rfl ?_
  obtain ⟨v2, h1, hF⟩ := b1_inv hF
  refine x_callS (As := [.int p2]) (rest := []) 4 0 0 (mX2_isSteeple hst p2 σ n v2 h1) qyX2_isSteeple wd_856 wd_362 rfl rfl (by decide) (Nat.le_of_ble_eq_true rfl) (by decide) dX3_lowestIsAtMost_1 rfl rfl rfl rfl ?_
  rcases ite_inv hF with ⟨hc, hF⟩ | ⟨hc, hF⟩
  · refine x_if_ne 9 7 dX3_lowestIsAtMost_4 (by decide) rfl (fun q => absurd hc q) (fun _ => ?_)
    refine x_iconst 8 (0 : Int32) dX3_lowestIsAtMost_7 rfl (by decide) ?_
    cases hF
    exact x_zret rfl rfl rfl (by decide) (by decide) dX3_lowestIsAtMost_8
  · refine x_if_ne 9 7 dX3_lowestIsAtMost_4 (by decide) rfl (fun _ => ?_) (fun q => absurd q hc)
    refine x_aload_n 10 1 dX3_lowestIsAtMost_9 rfl rfl ?_
    refine x_aload_n 11 0 dX3_lowestIsAtMost_10 rfl rfl ?_
    refine x_iload_n 12 2 dX3_lowestIsAtMost_11 rfl rfl ?_
    refine x_iconst 13 (-1 : Int32) dX3_lowestIsAtMost_12 rfl (by decide) ?_
    obtain ⟨s4, h3, hF⟩ := b1_inv hF
    obtain ⟨fs, hb⟩ : ∃ fs : List Value, True ∧ σ p1 = some (.inr (0, fs)) := kX0_countByEnds h3
    refine x_callV (As := [.ref p0, .int p2, .int (-1 : Int32)]) (rest := []) 16 0 0 (mX0_countByEnds hst p1 p0 p2 (-1 : Int32) σ n s4 h3) qyX0_countByEnds wd_857 wd_656 wd_657 hb.2 rfl rfl rfl (by decide) (Nat.le_of_ble_eq_true rfl) (by decide) dX3_lowestIsAtMost_13 rfl rfl rfl rfl ?_
    refine x_aload_n 17 1 dX3_lowestIsAtMost_16 rfl rfl ?_
    obtain ⟨v6, h5, hF⟩ := b1_inv hF
    obtain ⟨fs, hb⟩ : ∃ fs : List Value, True ∧ s4 p1 = some (.inr (0, fs)) := kX0_lowest h5
    refine x_callV (As := []) (rest := []) 20 0 0 (mX0_lowest hst p1 s4 n v6 h5) qyX0_lowest wd_858 wd_763 wd_764 hb.2 rfl rfl rfl (by decide) (Nat.le_of_ble_eq_true rfl) (by decide) dX3_lowestIsAtMost_17 rfl rfl rfl rfl ?_
    refine x_iload_n 21 3 dX3_lowestIsAtMost_20 rfl rfl ?_
    obtain ⟨x7, h8, hF⟩ := b1_inv hF
    have hJ : qX l G RX3 "lowestIsAtMost" cX3_lowestIsAtMost 4 (some .boolean) [] rmX3_lowestIsAtMost 0 0 (.inl (some (.int ro), so, n)) 0 0 s4 n 29 [] [.int x7] := by
      obtain ⟨hz, hF⟩ := ite_none hF
      cases hF
      exact x_zret rfl (by rcases hz with h | h <;> rw [h] <;> rfl) rfl (by decide) (by decide) dX3_lowestIsAtMost_29
    have hF := h8
    rcases ite_inv hF with ⟨hc, hF⟩ | ⟨hc, hF⟩
    · refine x_icmp_gt 28 24 dX3_lowestIsAtMost_21 (by decide) rfl (fun _ => ?_) (fun q => absurd hc q)
      refine x_iconst 29 (0 : Int32) dX3_lowestIsAtMost_28 rfl (by decide) ?_
      have e1 := Option.some.inj hF
      subst e1
      refine x_sub [] [] rfl ?_
      exact hJ
    · refine x_icmp_gt 28 24 dX3_lowestIsAtMost_21 (by decide) rfl (fun q => absurd q hc) (fun _ => ?_)
      refine x_iconst 25 (1 : Int32) dX3_lowestIsAtMost_24 rfl (by decide) ?_
      refine x_goto 29 dX3_lowestIsAtMost_25 (by decide) ?_
      have e1 := Option.some.inj hF
      subst e1
      refine x_sub [] [] rfl ?_
      exact hJ
def rmX0_most : Room := { frames := 0, cells := 0, slots := 0, locals := 0 }
theorem qyX0_most : qY yX0_most cX0_most 1 (some .int) 0 := ⟨wd_865, wd_22, by decide +kernel, by decide +kernel, by decide +kernel⟩
theorem kX0_most {b : Nat} {σ : qH} {o : Int32} (h : FX0_most b σ = some o) : ∃ fs : List Value, True ∧ σ b = some (.inr (0, fs)) := by
  unfold FX0_most at h
  obtain ⟨_, h1, _⟩ := b1_inv h
  obtain ⟨fs, h2⟩ := gC_inv h1
  exact ⟨fs, trivial, h2⟩
set_option maxHeartbeats 4000000 in
set_option maxRecDepth 100000 in
theorem mX0_most {l : Launch} {G : qG} (hst : l.stackTraces = false) (b : Nat) (σ : qH) (n : Option Nat) (ro : Int32) (hF : FX0_most b σ = some ro) : qM l G yX0_most cX0_most 1 (some .int) rmX0_most [.ref b] σ n (.inl (some (.int ro), σ, n)) := by
  refine q_body (own := RX0) (nm := "most") (ls := [(0, .ref b)]) hst (by decide +kernel) rfl rfl (Nat.le_of_ble_eq_true rfl) rfl rfl rfl ?_
  unfold FX0_most at hF
  obtain ⟨_, hC, hF⟩ := b1_inv hF
  refine x_aload_n 1 0 dX0_most_0 rfl rfl ?_
  obtain ⟨v1, h2, hF⟩ := b1_inv hF
  refine x_getI 4 3 inX0 rfl (by decide) wd_140 h2 dX0_most_1 rfl ?_
  cases hF
  exact x_iret rfl rfl (by decide) (by decide) dX0_most_4
def rmX3_mostIsAtLeast : Room := { frames := 4, cells := 0, slots := 0, locals := 94 }
theorem qyX3_mostIsAtLeast : qY yX3_mostIsAtLeast cX3_mostIsAtLeast 4 (some .boolean) 4 := ⟨wd_861, wd_31, by decide +kernel, by decide +kernel, by decide +kernel⟩
set_option maxHeartbeats 4000000 in
set_option maxRecDepth 100000 in
theorem mX3_mostIsAtLeast {l : Launch} {G : qG} (hst : l.stackTraces = false) (p0 : Nat) (p1 : Nat) (p2 : Int32) (p3 : Int32) (σ : qH) (n : Option Nat) (ro : Int32) (so : qH) (hF : FX3_mostIsAtLeast p0 p1 p2 p3 σ = some (ro, so)) : qM l G yX3_mostIsAtLeast cX3_mostIsAtLeast 4 (some .boolean) rmX3_mostIsAtLeast [.ref p0, .ref p1, .int p2, .int p3] σ n (.inl (some (.int ro), so, n)) := by
  refine q_body (own := RX3) (nm := "mostIsAtLeast") (ls := [(0, .ref p0), (1, .ref p1), (2, .int p2), (3, .int p3)]) hst (by decide +kernel) rfl rfl (Nat.le_of_ble_eq_true rfl) rfl rfl rfl ?_
  unfold FX3_mostIsAtLeast at hF
  refine x_iload_n 1 2 dX3_mostIsAtLeast_0 rfl rfl ?_
  obtain ⟨v2, h1, hF⟩ := b1_inv hF
  refine x_callS (As := [.int p2]) (rest := []) 4 0 0 (mX2_isSteeple hst p2 σ n v2 h1) qyX2_isSteeple wd_856 wd_362 rfl rfl (by decide) (Nat.le_of_ble_eq_true rfl) (by decide) dX3_mostIsAtLeast_1 rfl rfl rfl rfl ?_
  rcases ite_inv hF with ⟨hc, hF⟩ | ⟨hc, hF⟩
  · refine x_if_ne 9 7 dX3_mostIsAtLeast_4 (by decide) rfl (fun q => absurd hc q) (fun _ => ?_)
    refine x_iconst 8 (0 : Int32) dX3_mostIsAtLeast_7 rfl (by decide) ?_
    cases hF
    exact x_zret rfl rfl rfl (by decide) (by decide) dX3_mostIsAtLeast_8
  · refine x_if_ne 9 7 dX3_mostIsAtLeast_4 (by decide) rfl (fun _ => ?_) (fun q => absurd q hc)
    refine x_aload_n 10 1 dX3_mostIsAtLeast_9 rfl rfl ?_
    refine x_aload_n 11 0 dX3_mostIsAtLeast_10 rfl rfl ?_
    refine x_iload_n 12 2 dX3_mostIsAtLeast_11 rfl rfl ?_
    refine x_iconst 13 (-1 : Int32) dX3_mostIsAtLeast_12 rfl (by decide) ?_
    obtain ⟨s4, h3, hF⟩ := b1_inv hF
    obtain ⟨fs, hb⟩ : ∃ fs : List Value, True ∧ σ p1 = some (.inr (0, fs)) := kX0_countByEnds h3
    refine x_callV (As := [.ref p0, .int p2, .int (-1 : Int32)]) (rest := []) 16 0 0 (mX0_countByEnds hst p1 p0 p2 (-1 : Int32) σ n s4 h3) qyX0_countByEnds wd_857 wd_656 wd_657 hb.2 rfl rfl rfl (by decide) (Nat.le_of_ble_eq_true rfl) (by decide) dX3_mostIsAtLeast_13 rfl rfl rfl rfl ?_
    refine x_aload_n 17 1 dX3_mostIsAtLeast_16 rfl rfl ?_
    obtain ⟨v6, h5, hF⟩ := b1_inv hF
    obtain ⟨fs, hb⟩ : ∃ fs : List Value, True ∧ s4 p1 = some (.inr (0, fs)) := kX0_most h5
    refine x_callV (As := []) (rest := []) 20 0 0 (mX0_most hst p1 s4 n v6 h5) qyX0_most wd_862 wd_863 wd_864 hb.2 rfl rfl rfl (by decide) (Nat.le_of_ble_eq_true rfl) (by decide) dX3_mostIsAtLeast_17 rfl rfl rfl rfl ?_
    refine x_iload_n 21 3 dX3_mostIsAtLeast_20 rfl rfl ?_
    obtain ⟨x7, h8, hF⟩ := b1_inv hF
    have hJ : qX l G RX3 "mostIsAtLeast" cX3_mostIsAtLeast 4 (some .boolean) [] rmX3_mostIsAtLeast 0 0 (.inl (some (.int ro), so, n)) 0 0 s4 n 29 [] [.int x7] := by
      obtain ⟨hz, hF⟩ := ite_none hF
      cases hF
      exact x_zret rfl (by rcases hz with h | h <;> rw [h] <;> rfl) rfl (by decide) (by decide) dX3_mostIsAtLeast_29
    have hF := h8
    rcases ite_inv hF with ⟨hc, hF⟩ | ⟨hc, hF⟩
    · refine x_icmp_lt 28 24 dX3_mostIsAtLeast_21 (by decide) rfl (fun _ => ?_) (fun q => absurd hc q)
      refine x_iconst 29 (0 : Int32) dX3_mostIsAtLeast_28 rfl (by decide) ?_
      have e1 := Option.some.inj hF
      subst e1
      refine x_sub [] [] rfl ?_
      exact hJ
    · refine x_icmp_lt 28 24 dX3_mostIsAtLeast_21 (by decide) rfl (fun q => absurd q hc) (fun _ => ?_)
      refine x_iconst 25 (1 : Int32) dX3_mostIsAtLeast_24 rfl (by decide) ?_
      refine x_goto 29 dX3_mostIsAtLeast_25 (by decide) ?_
      have e1 := Option.some.inj hF
      subst e1
      refine x_sub [] [] rfl ?_
      exact hJ
def rmX3_succeeds : Room := { frames := 5, cells := 0, slots := 0, locals := 118 }
theorem qyX3_succeeds : qY yX3_succeeds cX3_succeeds 6 (some .boolean) 3 := ⟨wd_843, wd_31, by decide +kernel, by decide +kernel, by decide +kernel⟩
set_option maxHeartbeats 4000000 in
set_option maxRecDepth 100000 in
theorem mX3_succeeds {l : Launch} {G : qG} (hst : l.stackTraces = false) (p0 : Nat) (p1 : Nat) (p2 : Int32) (σ : qH) (n : Option Nat) (ro : Int32) (so : qH) (hF : FX3_succeeds p0 p1 p2 σ = some (ro, so)) : qM l G yX3_succeeds cX3_succeeds 6 (some .boolean) rmX3_succeeds [.ref p0, .ref p1, .int p2] σ n (.inl (some (.int ro), so, n)) := by
  refine q_body (own := RX3) (nm := "succeeds") (ls := [(0, .ref p0), (1, .ref p1), (2, .int p2)]) hst (by decide +kernel) rfl rfl (Nat.le_of_ble_eq_true rfl) rfl rfl rfl ?_
  unfold FX3_succeeds at hF
  refine x_iload_n 1 2 dX3_succeeds_0 rfl rfl ?_
  refine x_sipush 4 (10000 : Int32) dX3_succeeds_1 rfl (by decide) ?_
  refine x_idiv 5 (by decide) dX3_succeeds_4 rfl ?_
  refine x_bipush 7 (10 : Int32) dX3_succeeds_5 rfl (by decide) ?_
  refine x_irem 8 (by decide) dX3_succeeds_7 rfl ?_
  refine x_istore_n 9 3 [(3, .int (irm (p2 / (10000 : Int32)) (10 : Int32))), (0, .ref p0), (1, .ref p1), (2, .int p2)] dX3_succeeds_8 rfl rfl (by decide) rfl ?_
  refine x_iload_n 10 3 dX3_succeeds_9 rfl rfl ?_
  refine x_bipush 12 (10 : Int32) dX3_succeeds_10 rfl (by decide) ?_
  refine x_irem 13 (by decide) dX3_succeeds_12 rfl ?_
  refine x_istore 15 4 [(4, .int (irm p2 (10 : Int32))), (3, .int (irm (p2 / (10000 : Int32)) (10 : Int32))), (0, .ref p0), (1, .ref p1), (2, .int p2)] dX3_succeeds_13 rfl (by decide) rfl ?_
  refine x_iload_n 16 4 dX3_succeeds_15 rfl rfl ?_
  refine x_sipush 19 (1000 : Int32) dX3_succeeds_16 rfl (by decide) ?_
  refine x_irem 20 (by decide) dX3_succeeds_19 rfl ?_
  refine x_istore 22 5 [(5, .int (irm p2 (1000 : Int32))), (4, .int (irm p2 (10 : Int32))), (3, .int (irm (p2 / (10000 : Int32)) (10 : Int32))), (0, .ref p0), (1, .ref p1), (2, .int p2)] dX3_succeeds_20 rfl (by decide) rfl ?_
  refine x_iload_n 23 5 dX3_succeeds_22 rfl rfl ?_
  refine x_ldc 25 (100000 : Int32) wd_844 dX3_succeeds_23 rfl ?_
  refine x_idiv 26 (by decide) dX3_succeeds_25 rfl ?_
  rcases ite_inv hF with ⟨h4, hF⟩ | ⟨h4, hF⟩
  · have hK : qX l G RX3 "succeeds" cX3_succeeds 6 (some .boolean) [] rmX3_succeeds 0 0 (.inl (some (.int ro), so, n)) 0 0 σ n 76 [(5, .int (irm p2 (1000 : Int32))), (4, .int (irm p2 (10 : Int32))), (3, .int (irm (p2 / (10000 : Int32)) (10 : Int32))), (0, .ref p0), (1, .ref p1), (2, .int p2)] [] := by
      refine x_aload_n 77 3 dX3_succeeds_76 rfl rfl ?_
      refine x_iload_n 78 2 dX3_succeeds_77 rfl rfl ?_
      refine x_iload_n 79 5 dX3_succeeds_78 rfl rfl ?_
      refine x_sipush 82 (1000 : Int32) dX3_succeeds_79 rfl (by decide) ?_
      refine x_idiv 83 (by decide) dX3_succeeds_82 rfl ?_
      refine x_bipush 85 (10 : Int32) dX3_succeeds_83 rfl (by decide) ?_
      refine x_irem 86 (by decide) dX3_succeeds_85 rfl ?_
      refine x_iconst 87 (2 : Int32) dX3_succeeds_86 rfl (by decide) ?_
      refine x_iload 89 0 dX3_succeeds_87 rfl rfl ?_
      refine x_iload 91 0 dX3_succeeds_89 rfl rfl ?_
      refine x_iconst 92 (0 : Int32) dX3_succeeds_91 rfl (by decide) ?_
      refine x_iconst 93 (0 : Int32) dX3_succeeds_92 rfl (by decide) ?_
      obtain ⟨v2, s3, h1, hF⟩ := b2_inv hF
      obtain ⟨fs, hb⟩ : ∃ fs : List Value, True ∧ σ p0 = some (.inr (2, fs)) := kX2_tryMeasure h1
      refine x_callV (As := [.int (irm (p2 / (10000 : Int32)) (10 : Int32)), .int (irm (p2 / (1000 : Int32)) (10 : Int32)), .int (2 : Int32), .int (irm p2 (1000 : Int32)), .int (irm p2 (1000 : Int32)), .int (0 : Int32), .int (0 : Int32)]) (rest := []) 96 0 0 (mX2_tryMeasure hst p0 (irm (p2 / (10000 : Int32)) (10 : Int32)) (irm (p2 / (1000 : Int32)) (10 : Int32)) (2 : Int32) (irm p2 (1000 : Int32)) (irm p2 (1000 : Int32)) (0 : Int32) (0 : Int32) σ n v2 s3 h1) qyX2_tryMeasure wd_845 wd_358 wd_359 hb.2 rfl rfl rfl (by decide) (Nat.le_of_ble_eq_true rfl) (by decide) dX3_succeeds_93 rfl rfl rfl rfl ?_
      obtain ⟨hz, hF⟩ := ite_none hF
      cases hF
      exact x_zret rfl (by rcases hz with h | h <;> rw [h] <;> rfl) rfl (by decide) (by decide) dX3_succeeds_96
    · exact x_tableIn (50) 76 dX3_succeeds_26 (by rw [h4]; decide) (by rw [h4]; decide) (by rw [h4]; decide) (by decide) hK
  rcases ite_inv hF with ⟨h11, hF⟩ | ⟨h11, hF⟩
  · have hK : qX l G RX3 "succeeds" cX3_succeeds 6 (some .boolean) [] rmX3_succeeds 0 0 (.inl (some (.int ro), so, n)) 0 0 σ n 97 [(5, .int (irm p2 (1000 : Int32))), (4, .int (irm p2 (10 : Int32))), (3, .int (irm (p2 / (10000 : Int32)) (10 : Int32))), (0, .ref p0), (1, .ref p1), (2, .int p2)] [] := by
      refine x_iload 99 0 dX3_succeeds_97 rfl rfl ?_
      obtain ⟨x5, s6, h10, hF⟩ := b2_inv hF
      have hJ : qX l G RX3 "succeeds" cX3_succeeds 6 (some .boolean) [] rmX3_succeeds 0 0 (.inl (some (.int ro), so, n)) 0 0 s6 n 122 [] [.int x5] := by
        obtain ⟨hz, hF⟩ := ite_none hF
        cases hF
        exact x_zret rfl (by rcases hz with h | h <;> rw [h] <;> rfl) rfl (by decide) (by decide) dX3_succeeds_122
      have hF := h10
      rcases ite_inv hF with ⟨hc, hF⟩ | ⟨hc, hF⟩
      · refine x_if_ne 121 102 dX3_succeeds_99 (by decide) rfl (fun q => absurd hc q) (fun _ => ?_)
        refine x_aload_n 103 3 dX3_succeeds_102 rfl rfl ?_
        refine x_iload_n 104 5 dX3_succeeds_103 rfl rfl ?_
        refine x_sipush 107 (1000 : Int32) dX3_succeeds_104 rfl (by decide) ?_
        refine x_idiv 108 (by decide) dX3_succeeds_107 rfl ?_
        refine x_bipush 110 (100 : Int32) dX3_succeeds_108 rfl (by decide) ?_
        refine x_irem 111 (by decide) dX3_succeeds_110 rfl ?_
        obtain ⟨v8, s9, h7, hF⟩ := b2_inv hF
        obtain ⟨fs, hb⟩ : ∃ fs : List Value, True ∧ σ p0 = some (.inr (2, fs)) := kX2_tryDrop h7
        refine x_callV (As := [.int (irm (p2 / (1000 : Int32)) (100 : Int32))]) (rest := []) 114 0 0 (mX2_tryDrop hst p0 (irm (p2 / (1000 : Int32)) (100 : Int32)) σ n v8 s9 h7) qyX2_tryDrop wd_846 wd_403 wd_404 hb.2 rfl rfl rfl (by decide) (Nat.le_of_ble_eq_true rfl) (by decide) dX3_succeeds_111 rfl rfl rfl rfl ?_
        rcases ite_inv hF with ⟨hc, hF⟩ | ⟨hc, hF⟩
        · refine x_if_eq 121 117 dX3_succeeds_114 (by decide) rfl (fun _ => ?_) (fun q => absurd hc q)
          refine x_iconst 122 (0 : Int32) dX3_succeeds_121 rfl (by decide) ?_
          obtain ⟨e1, e2⟩ := so2 hF
          subst e1
          subst e2
          refine x_sub [] [] rfl ?_
          exact hJ
        · refine x_if_eq 121 117 dX3_succeeds_114 (by decide) rfl (fun q => absurd q hc) (fun _ => ?_)
          refine x_iconst 118 (1 : Int32) dX3_succeeds_117 rfl (by decide) ?_
          refine x_goto 122 dX3_succeeds_118 (by decide) ?_
          obtain ⟨e1, e2⟩ := so2 hF
          subst e1
          subst e2
          refine x_sub [] [] rfl ?_
          exact hJ
      · refine x_if_ne 121 102 dX3_succeeds_99 (by decide) rfl (fun _ => ?_) (fun q => absurd q hc)
        refine x_iconst 122 (0 : Int32) dX3_succeeds_121 rfl (by decide) ?_
        obtain ⟨e1, e2⟩ := so2 hF
        subst e1
        subst e2
        refine x_sub [] [] rfl ?_
        exact hJ
    · exact x_tableIn (71) 97 dX3_succeeds_26 (by rw [h11]; decide) (by rw [h11]; decide) (by rw [h11]; decide) (by decide) hK
  rcases ite_inv hF with ⟨h18, hF⟩ | ⟨h18, hF⟩
  · have hK : qX l G RX3 "succeeds" cX3_succeeds 6 (some .boolean) [] rmX3_succeeds 0 0 (.inl (some (.int ro), so, n)) 0 0 σ n 123 [(5, .int (irm p2 (1000 : Int32))), (4, .int (irm p2 (10 : Int32))), (3, .int (irm (p2 / (10000 : Int32)) (10 : Int32))), (0, .ref p0), (1, .ref p1), (2, .int p2)] [] := by
      refine x_iload_n 124 5 dX3_succeeds_123 rfl rfl ?_
      refine x_bipush 126 (10 : Int32) dX3_succeeds_124 rfl (by decide) ?_
      refine x_idiv 127 (by decide) dX3_succeeds_126 rfl ?_
      refine x_sipush 130 (1000 : Int32) dX3_succeeds_127 rfl (by decide) ?_
      refine x_irem 131 (by decide) dX3_succeeds_130 rfl ?_
      obtain ⟨x12, s13, h17, hF⟩ := b2_inv hF
      have hJ : qX l G RX3 "succeeds" cX3_succeeds 6 (some .boolean) [] rmX3_succeeds 0 0 (.inl (some (.int ro), so, n)) 0 0 s13 n 149 [] [.int x12] := by
        obtain ⟨hz, hF⟩ := ite_none hF
        cases hF
        exact x_zret rfl (by rcases hz with h | h <;> rw [h] <;> rfl) rfl (by decide) (by decide) dX3_succeeds_149
      have hF := h17
      rcases ite_inv hF with ⟨hc, hF⟩ | ⟨hc, hF⟩
      · refine x_if_ne 148 134 dX3_succeeds_131 (by decide) rfl (fun q => absurd hc q) (fun _ => ?_)
        refine x_aload_n 135 3 dX3_succeeds_134 rfl rfl ?_
        refine x_iload_n 136 2 dX3_succeeds_135 rfl rfl ?_
        refine x_iload 138 1 dX3_succeeds_136 rfl rfl ?_
        obtain ⟨v15, s16, h14, hF⟩ := b2_inv hF
        obtain ⟨fs, hb⟩ : ∃ fs : List Value, True ∧ σ p0 = some (.inr (2, fs)) := kX2_tryTrust h14
        refine x_callV (As := [.int (irm (p2 / (10000 : Int32)) (10 : Int32)), .int (irm p2 (10 : Int32))]) (rest := []) 141 0 0 (mX2_tryTrust hst p0 (irm (p2 / (10000 : Int32)) (10 : Int32)) (irm p2 (10 : Int32)) σ n v15 s16 h14) qyX2_tryTrust wd_847 wd_418 wd_419 hb.2 rfl rfl rfl (by decide) (Nat.le_of_ble_eq_true rfl) (by decide) dX3_succeeds_138 rfl rfl rfl rfl ?_
        rcases ite_inv hF with ⟨hc, hF⟩ | ⟨hc, hF⟩
        · refine x_if_eq 148 144 dX3_succeeds_141 (by decide) rfl (fun _ => ?_) (fun q => absurd hc q)
          refine x_iconst 149 (0 : Int32) dX3_succeeds_148 rfl (by decide) ?_
          obtain ⟨e1, e2⟩ := so2 hF
          subst e1
          subst e2
          refine x_sub [] [] rfl ?_
          exact hJ
        · refine x_if_eq 148 144 dX3_succeeds_141 (by decide) rfl (fun q => absurd q hc) (fun _ => ?_)
          refine x_iconst 145 (1 : Int32) dX3_succeeds_144 rfl (by decide) ?_
          refine x_goto 149 dX3_succeeds_145 (by decide) ?_
          obtain ⟨e1, e2⟩ := so2 hF
          subst e1
          subst e2
          refine x_sub [] [] rfl ?_
          exact hJ
      · refine x_if_ne 148 134 dX3_succeeds_131 (by decide) rfl (fun _ => ?_) (fun q => absurd q hc)
        refine x_iconst 149 (0 : Int32) dX3_succeeds_148 rfl (by decide) ?_
        obtain ⟨e1, e2⟩ := so2 hF
        subst e1
        subst e2
        refine x_sub [] [] rfl ?_
        exact hJ
    · exact x_tableIn (97) 123 dX3_succeeds_26 (by rw [h18]; decide) (by rw [h18]; decide) (by rw [h18]; decide) (by decide) hK
  rcases ite_inv hF with ⟨h25, hF⟩ | ⟨h25, hF⟩
  · have hK : qX l G RX3 "succeeds" cX3_succeeds 6 (some .boolean) [] rmX3_succeeds 0 0 (.inl (some (.int ro), so, n)) 0 0 σ n 150 [(5, .int (irm p2 (1000 : Int32))), (4, .int (irm p2 (10 : Int32))), (3, .int (irm (p2 / (10000 : Int32)) (10 : Int32))), (0, .ref p0), (1, .ref p1), (2, .int p2)] [] := by
      refine x_iload_n 151 5 dX3_succeeds_150 rfl rfl ?_
      refine x_bipush 153 (10 : Int32) dX3_succeeds_151 rfl (by decide) ?_
      refine x_idiv 154 (by decide) dX3_succeeds_153 rfl ?_
      refine x_sipush 157 (10000 : Int32) dX3_succeeds_154 rfl (by decide) ?_
      refine x_irem 158 (by decide) dX3_succeeds_157 rfl ?_
      obtain ⟨x19, s20, h24, hF⟩ := b2_inv hF
      have hJ : qX l G RX3 "succeeds" cX3_succeeds 6 (some .boolean) [] rmX3_succeeds 0 0 (.inl (some (.int ro), so, n)) 0 0 s20 n 175 [] [.int x19] := by
        obtain ⟨hz, hF⟩ := ite_none hF
        cases hF
        exact x_zret rfl (by rcases hz with h | h <;> rw [h] <;> rfl) rfl (by decide) (by decide) dX3_succeeds_175
      have hF := h24
      rcases ite_inv hF with ⟨hc, hF⟩ | ⟨hc, hF⟩
      · refine x_if_ne 174 161 dX3_succeeds_158 (by decide) rfl (fun q => absurd hc q) (fun _ => ?_)
        refine x_aload_n 162 3 dX3_succeeds_161 rfl rfl ?_
        refine x_iload 164 1 dX3_succeeds_162 rfl rfl ?_
        obtain ⟨v22, s23, h21, hF⟩ := b2_inv hF
        refine x_callS (As := [.ref p0, .int (irm p2 (10 : Int32))]) (rest := []) 167 0 0 (mX3_passEvenings hst p0 (irm p2 (10 : Int32)) σ n v22 s23 h21) qyX3_passEvenings wd_848 wd_849 rfl rfl (by decide) (Nat.le_of_ble_eq_true rfl) (by decide) dX3_succeeds_164 rfl rfl rfl rfl ?_
        rcases ite_inv hF with ⟨hc, hF⟩ | ⟨hc, hF⟩
        · refine x_if_eq 174 170 dX3_succeeds_167 (by decide) rfl (fun _ => ?_) (fun q => absurd hc q)
          refine x_iconst 175 (0 : Int32) dX3_succeeds_174 rfl (by decide) ?_
          obtain ⟨e1, e2⟩ := so2 hF
          subst e1
          subst e2
          refine x_sub [] [] rfl ?_
          exact hJ
        · refine x_if_eq 174 170 dX3_succeeds_167 (by decide) rfl (fun q => absurd q hc) (fun _ => ?_)
          refine x_iconst 171 (1 : Int32) dX3_succeeds_170 rfl (by decide) ?_
          refine x_goto 175 dX3_succeeds_171 (by decide) ?_
          obtain ⟨e1, e2⟩ := so2 hF
          subst e1
          subst e2
          refine x_sub [] [] rfl ?_
          exact hJ
      · refine x_if_ne 174 161 dX3_succeeds_158 (by decide) rfl (fun _ => ?_) (fun q => absurd q hc)
        refine x_iconst 175 (0 : Int32) dX3_succeeds_174 rfl (by decide) ?_
        obtain ⟨e1, e2⟩ := so2 hF
        subst e1
        subst e2
        refine x_sub [] [] rfl ?_
        exact hJ
    · exact x_tableIn (124) 150 dX3_succeeds_26 (by rw [h25]; decide) (by rw [h25]; decide) (by rw [h25]; decide) (by decide) hK
  rcases ite_inv hF with ⟨h32, hF⟩ | ⟨h32, hF⟩
  · have hK : qX l G RX3 "succeeds" cX3_succeeds 6 (some .boolean) [] rmX3_succeeds 0 0 (.inl (some (.int ro), so, n)) 0 0 σ n 176 [(5, .int (irm p2 (1000 : Int32))), (4, .int (irm p2 (10 : Int32))), (3, .int (irm (p2 / (10000 : Int32)) (10 : Int32))), (0, .ref p0), (1, .ref p1), (2, .int p2)] [] := by
      refine x_iload_n 177 5 dX3_succeeds_176 rfl rfl ?_
      refine x_sipush 180 (1000 : Int32) dX3_succeeds_177 rfl (by decide) ?_
      refine x_idiv 181 (by decide) dX3_succeeds_180 rfl ?_
      refine x_bipush 183 (10 : Int32) dX3_succeeds_181 rfl (by decide) ?_
      refine x_irem 184 (by decide) dX3_succeeds_183 rfl ?_
      obtain ⟨x26, s27, h31, hF⟩ := b2_inv hF
      have hJ : qX l G RX3 "succeeds" cX3_succeeds 6 (some .boolean) [] rmX3_succeeds 0 0 (.inl (some (.int ro), so, n)) 0 0 s27 n 202 [] [.int x26] := by
        obtain ⟨hz, hF⟩ := ite_none hF
        cases hF
        exact x_zret rfl (by rcases hz with h | h <;> rw [h] <;> rfl) rfl (by decide) (by decide) dX3_succeeds_202
      have hF := h31
      rcases ite_inv hF with ⟨hc, hF⟩ | ⟨hc, hF⟩
      · refine x_if_ne 201 187 dX3_succeeds_184 (by decide) rfl (fun q => absurd hc q) (fun _ => ?_)
        refine x_aload_n 188 3 dX3_succeeds_187 rfl rfl ?_
        refine x_iload_n 189 2 dX3_succeeds_188 rfl rfl ?_
        refine x_iload 191 0 dX3_succeeds_189 rfl rfl ?_
        obtain ⟨v29, s30, h28, hF⟩ := b2_inv hF
        obtain ⟨fs, hb⟩ : ∃ fs : List Value, True ∧ σ p0 = some (.inr (2, fs)) := kX2_trySurvey h28
        refine x_callV (As := [.int (irm (p2 / (10000 : Int32)) (10 : Int32)), .int (irm p2 (1000 : Int32))]) (rest := []) 194 0 0 (mX2_trySurvey hst p0 (irm (p2 / (10000 : Int32)) (10 : Int32)) (irm p2 (1000 : Int32)) σ n v29 s30 h28) qyX2_trySurvey wd_852 wd_453 wd_454 hb.2 rfl rfl rfl (by decide) (Nat.le_of_ble_eq_true rfl) (by decide) dX3_succeeds_191 rfl rfl rfl rfl ?_
        rcases ite_inv hF with ⟨hc, hF⟩ | ⟨hc, hF⟩
        · refine x_if_eq 201 197 dX3_succeeds_194 (by decide) rfl (fun _ => ?_) (fun q => absurd hc q)
          refine x_iconst 202 (0 : Int32) dX3_succeeds_201 rfl (by decide) ?_
          obtain ⟨e1, e2⟩ := so2 hF
          subst e1
          subst e2
          refine x_sub [] [] rfl ?_
          exact hJ
        · refine x_if_eq 201 197 dX3_succeeds_194 (by decide) rfl (fun q => absurd q hc) (fun _ => ?_)
          refine x_iconst 198 (1 : Int32) dX3_succeeds_197 rfl (by decide) ?_
          refine x_goto 202 dX3_succeeds_198 (by decide) ?_
          obtain ⟨e1, e2⟩ := so2 hF
          subst e1
          subst e2
          refine x_sub [] [] rfl ?_
          exact hJ
      · refine x_if_ne 201 187 dX3_succeeds_184 (by decide) rfl (fun _ => ?_) (fun q => absurd q hc)
        refine x_iconst 202 (0 : Int32) dX3_succeeds_201 rfl (by decide) ?_
        obtain ⟨e1, e2⟩ := so2 hF
        subst e1
        subst e2
        refine x_sub [] [] rfl ?_
        exact hJ
    · exact x_tableIn (150) 176 dX3_succeeds_26 (by rw [h32]; decide) (by rw [h32]; decide) (by rw [h32]; decide) (by decide) hK
  rcases ite_inv hF with ⟨h39, hF⟩ | ⟨h39, hF⟩
  · have hK : qX l G RX3 "succeeds" cX3_succeeds 6 (some .boolean) [] rmX3_succeeds 0 0 (.inl (some (.int ro), so, n)) 0 0 σ n 203 [(5, .int (irm p2 (1000 : Int32))), (4, .int (irm p2 (10 : Int32))), (3, .int (irm (p2 / (10000 : Int32)) (10 : Int32))), (0, .ref p0), (1, .ref p1), (2, .int p2)] [] := by
      refine x_iload_n 204 5 dX3_succeeds_203 rfl rfl ?_
      refine x_sipush 207 (1000 : Int32) dX3_succeeds_204 rfl (by decide) ?_
      refine x_idiv 208 (by decide) dX3_succeeds_207 rfl ?_
      refine x_bipush 210 (10 : Int32) dX3_succeeds_208 rfl (by decide) ?_
      refine x_irem 211 (by decide) dX3_succeeds_210 rfl ?_
      obtain ⟨x33, s34, h38, hF⟩ := b2_inv hF
      have hJ : qX l G RX3 "succeeds" cX3_succeeds 6 (some .boolean) [] rmX3_succeeds 0 0 (.inl (some (.int ro), so, n)) 0 0 s34 n 230 [] [.int x33] := by
        obtain ⟨hz, hF⟩ := ite_none hF
        cases hF
        exact x_zret rfl (by rcases hz with h | h <;> rw [h] <;> rfl) rfl (by decide) (by decide) dX3_succeeds_230
      have hF := h38
      rcases ite_inv hF with ⟨hc, hF⟩ | ⟨hc, hF⟩
      · refine x_if_ne 229 214 dX3_succeeds_211 (by decide) rfl (fun q => absurd hc q) (fun _ => ?_)
        refine x_aload_n 215 3 dX3_succeeds_214 rfl rfl ?_
        refine x_aload_n 216 4 dX3_succeeds_215 rfl rfl ?_
        refine x_iload_n 217 2 dX3_succeeds_216 rfl rfl ?_
        refine x_iload 219 0 dX3_succeeds_217 rfl rfl ?_
        obtain ⟨v36, s37, h35, hF⟩ := b2_inv hF
        refine x_callS (As := [.ref p0, .ref p1, .int (irm (p2 / (10000 : Int32)) (10 : Int32)), .int (irm p2 (1000 : Int32))]) (rest := []) 222 0 0 (mX3_lowestIsAtMost hst p0 p1 (irm (p2 / (10000 : Int32)) (10 : Int32)) (irm p2 (1000 : Int32)) σ n v36 s37 h35) qyX3_lowestIsAtMost wd_853 wd_854 rfl rfl (by decide) (Nat.le_of_ble_eq_true rfl) (by decide) dX3_succeeds_219 rfl rfl rfl rfl ?_
        rcases ite_inv hF with ⟨hc, hF⟩ | ⟨hc, hF⟩
        · refine x_if_eq 229 225 dX3_succeeds_222 (by decide) rfl (fun _ => ?_) (fun q => absurd hc q)
          refine x_iconst 230 (0 : Int32) dX3_succeeds_229 rfl (by decide) ?_
          obtain ⟨e1, e2⟩ := so2 hF
          subst e1
          subst e2
          refine x_sub [] [] rfl ?_
          exact hJ
        · refine x_if_eq 229 225 dX3_succeeds_222 (by decide) rfl (fun q => absurd q hc) (fun _ => ?_)
          refine x_iconst 226 (1 : Int32) dX3_succeeds_225 rfl (by decide) ?_
          refine x_goto 230 dX3_succeeds_226 (by decide) ?_
          obtain ⟨e1, e2⟩ := so2 hF
          subst e1
          subst e2
          refine x_sub [] [] rfl ?_
          exact hJ
      · refine x_if_ne 229 214 dX3_succeeds_211 (by decide) rfl (fun _ => ?_) (fun q => absurd q hc)
        refine x_iconst 230 (0 : Int32) dX3_succeeds_229 rfl (by decide) ?_
        obtain ⟨e1, e2⟩ := so2 hF
        subst e1
        subst e2
        refine x_sub [] [] rfl ?_
        exact hJ
    · exact x_tableIn (177) 203 dX3_succeeds_26 (by rw [h39]; decide) (by rw [h39]; decide) (by rw [h39]; decide) (by decide) hK
  rcases ite_inv hF with ⟨h46, hF⟩ | ⟨h46, hF⟩
  · have hK : qX l G RX3 "succeeds" cX3_succeeds 6 (some .boolean) [] rmX3_succeeds 0 0 (.inl (some (.int ro), so, n)) 0 0 σ n 231 [(5, .int (irm p2 (1000 : Int32))), (4, .int (irm p2 (10 : Int32))), (3, .int (irm (p2 / (10000 : Int32)) (10 : Int32))), (0, .ref p0), (1, .ref p1), (2, .int p2)] [] := by
      refine x_iload_n 232 5 dX3_succeeds_231 rfl rfl ?_
      refine x_bipush 234 (100 : Int32) dX3_succeeds_232 rfl (by decide) ?_
      refine x_irem 235 (by decide) dX3_succeeds_234 rfl ?_
      obtain ⟨x40, s41, h45, hF⟩ := b2_inv hF
      have hJ : qX l G RX3 "succeeds" cX3_succeeds 6 (some .boolean) [] rmX3_succeeds 0 0 (.inl (some (.int ro), so, n)) 0 0 s41 n 259 [] [.int x40] := by
        obtain ⟨hz, hF⟩ := ite_none hF
        cases hF
        exact x_zret rfl (by rcases hz with h | h <;> rw [h] <;> rfl) rfl (by decide) (by decide) dX3_succeeds_259
      have hF := h45
      rcases ite_inv hF with ⟨hc, hF⟩ | ⟨hc, hF⟩
      · refine x_if_ne 258 238 dX3_succeeds_235 (by decide) rfl (fun q => absurd hc q) (fun _ => ?_)
        refine x_aload_n 239 3 dX3_succeeds_238 rfl rfl ?_
        refine x_aload_n 240 4 dX3_succeeds_239 rfl rfl ?_
        refine x_iload_n 241 2 dX3_succeeds_240 rfl rfl ?_
        refine x_iload_n 242 5 dX3_succeeds_241 rfl rfl ?_
        refine x_bipush 244 (100 : Int32) dX3_succeeds_242 rfl (by decide) ?_
        refine x_idiv 245 (by decide) dX3_succeeds_244 rfl ?_
        refine x_bipush 247 (100 : Int32) dX3_succeeds_245 rfl (by decide) ?_
        refine x_irem 248 (by decide) dX3_succeeds_247 rfl ?_
        obtain ⟨v43, s44, h42, hF⟩ := b2_inv hF
        refine x_callS (As := [.ref p0, .ref p1, .int (irm (p2 / (10000 : Int32)) (10 : Int32)), .int (irm (p2 / (100 : Int32)) (100 : Int32))]) (rest := []) 251 0 0 (mX3_mostIsAtLeast hst p0 p1 (irm (p2 / (10000 : Int32)) (10 : Int32)) (irm (p2 / (100 : Int32)) (100 : Int32)) σ n v43 s44 h42) qyX3_mostIsAtLeast wd_859 wd_860 rfl rfl (by decide) (Nat.le_of_ble_eq_true rfl) (by decide) dX3_succeeds_248 rfl rfl rfl rfl ?_
        rcases ite_inv hF with ⟨hc, hF⟩ | ⟨hc, hF⟩
        · refine x_if_eq 258 254 dX3_succeeds_251 (by decide) rfl (fun _ => ?_) (fun q => absurd hc q)
          refine x_iconst 259 (0 : Int32) dX3_succeeds_258 rfl (by decide) ?_
          obtain ⟨e1, e2⟩ := so2 hF
          subst e1
          subst e2
          refine x_sub [] [] rfl ?_
          exact hJ
        · refine x_if_eq 258 254 dX3_succeeds_251 (by decide) rfl (fun q => absurd q hc) (fun _ => ?_)
          refine x_iconst 255 (1 : Int32) dX3_succeeds_254 rfl (by decide) ?_
          refine x_goto 259 dX3_succeeds_255 (by decide) ?_
          obtain ⟨e1, e2⟩ := so2 hF
          subst e1
          subst e2
          refine x_sub [] [] rfl ?_
          exact hJ
      · refine x_if_ne 258 238 dX3_succeeds_235 (by decide) rfl (fun _ => ?_) (fun q => absurd q hc)
        refine x_iconst 259 (0 : Int32) dX3_succeeds_258 rfl (by decide) ?_
        obtain ⟨e1, e2⟩ := so2 hF
        subst e1
        subst e2
        refine x_sub [] [] rfl ?_
        exact hJ
    · exact x_tableIn (205) 231 dX3_succeeds_26 (by rw [h46]; decide) (by rw [h46]; decide) (by rw [h46]; decide) (by decide) hK
  rcases ite_inv hF with ⟨h53, hF⟩ | ⟨h53, hF⟩
  · have hK : qX l G RX3 "succeeds" cX3_succeeds 6 (some .boolean) [] rmX3_succeeds 0 0 (.inl (some (.int ro), so, n)) 0 0 σ n 260 [(5, .int (irm p2 (1000 : Int32))), (4, .int (irm p2 (10 : Int32))), (3, .int (irm (p2 / (10000 : Int32)) (10 : Int32))), (0, .ref p0), (1, .ref p1), (2, .int p2)] [] := by
      refine x_iload_n 261 5 dX3_succeeds_260 rfl rfl ?_
      refine x_bipush 263 (10 : Int32) dX3_succeeds_261 rfl (by decide) ?_
      refine x_idiv 264 (by decide) dX3_succeeds_263 rfl ?_
      refine x_sipush 267 (1000 : Int32) dX3_succeeds_264 rfl (by decide) ?_
      refine x_irem 268 (by decide) dX3_succeeds_267 rfl ?_
      obtain ⟨x47, h52, hF⟩ := b1_inv hF
      have hJ : qX l G RX3 "succeeds" cX3_succeeds 6 (some .boolean) [] rmX3_succeeds 0 0 (.inl (some (.int ro), so, n)) 0 0 σ n 293 [] [.int x47] := by
        obtain ⟨hz, hF⟩ := ite_none hF
        cases hF
        exact x_zret rfl (by rcases hz with h | h <;> rw [h] <;> rfl) rfl (by decide) (by decide) dX3_succeeds_293
      have hF := h52
      rcases ite_inv hF with ⟨hc, hF⟩ | ⟨hc, hF⟩
      · refine x_if_ne 292 271 dX3_succeeds_268 (by decide) rfl (fun q => absurd hc q) (fun _ => ?_)
        refine x_iload_n 272 2 dX3_succeeds_271 rfl rfl ?_
        obtain ⟨v49, h48, hF⟩ := b1_inv hF
        refine x_callS (As := [.int (irm (p2 / (10000 : Int32)) (10 : Int32))]) (rest := []) 275 0 0 (mX2_isTeller hst (irm (p2 / (10000 : Int32)) (10 : Int32)) σ n v49 h48) qyX2_isTeller wd_866 wd_365 rfl rfl (by decide) (Nat.le_of_ble_eq_true rfl) (by decide) dX3_succeeds_272 rfl rfl rfl rfl ?_
        rcases ite_inv hF with ⟨hc, hF⟩ | ⟨hc, hF⟩
        · refine x_if_eq 292 278 dX3_succeeds_275 (by decide) rfl (fun _ => ?_) (fun q => absurd hc q)
          refine x_iconst 293 (0 : Int32) dX3_succeeds_292 rfl (by decide) ?_
          have e1 := Option.some.inj hF
          subst e1
          refine x_sub [] [] rfl ?_
          exact hJ
        · refine x_if_eq 292 278 dX3_succeeds_275 (by decide) rfl (fun q => absurd q hc) (fun _ => ?_)
          refine x_aload_n 279 3 dX3_succeeds_278 rfl rfl ?_
          refine x_iload_n 280 2 dX3_succeeds_279 rfl rfl ?_
          obtain ⟨v51, h50, hF⟩ := b1_inv hF
          obtain ⟨fs, hb⟩ : ∃ fs : List Value, True ∧ σ p0 = some (.inr (2, fs)) := kX2_trustOf h50
          refine x_callV (As := [.int (irm (p2 / (10000 : Int32)) (10 : Int32))]) (rest := []) 283 0 0 (mX2_trustOf hst p0 (irm (p2 / (10000 : Int32)) (10 : Int32)) σ n v51 h50) qyX2_trustOf wd_867 wd_579 wd_580 hb.2 rfl rfl rfl (by decide) (Nat.le_of_ble_eq_true rfl) (by decide) dX3_succeeds_280 rfl rfl rfl rfl ?_
          refine x_iload 285 1 dX3_succeeds_283 rfl rfl ?_
          rcases ite_inv hF with ⟨hc, hF⟩ | ⟨hc, hF⟩
          · refine x_icmp_lt 292 288 dX3_succeeds_285 (by decide) rfl (fun _ => ?_) (fun q => absurd hc q)
            refine x_iconst 293 (0 : Int32) dX3_succeeds_292 rfl (by decide) ?_
            have e1 := Option.some.inj hF
            subst e1
            refine x_sub [] [] rfl ?_
            exact hJ
          · refine x_icmp_lt 292 288 dX3_succeeds_285 (by decide) rfl (fun q => absurd q hc) (fun _ => ?_)
            refine x_iconst 289 (1 : Int32) dX3_succeeds_288 rfl (by decide) ?_
            refine x_goto 293 dX3_succeeds_289 (by decide) ?_
            have e1 := Option.some.inj hF
            subst e1
            refine x_sub [] [] rfl ?_
            exact hJ
      · refine x_if_ne 292 271 dX3_succeeds_268 (by decide) rfl (fun _ => ?_) (fun q => absurd q hc)
        refine x_iconst 293 (0 : Int32) dX3_succeeds_292 rfl (by decide) ?_
        have e1 := Option.some.inj hF
        subst e1
        refine x_sub [] [] rfl ?_
        exact hJ
    · exact x_tableIn (234) 260 dX3_succeeds_26 (by rw [h53]; decide) (by rw [h53]; decide) (by rw [h53]; decide) (by decide) hK
  rcases ite_inv hF with ⟨h58, hF⟩ | ⟨h58, hF⟩
  · have hK : qX l G RX3 "succeeds" cX3_succeeds 6 (some .boolean) [] rmX3_succeeds 0 0 (.inl (some (.int ro), so, n)) 0 0 σ n 294 [(5, .int (irm p2 (1000 : Int32))), (4, .int (irm p2 (10 : Int32))), (3, .int (irm (p2 / (10000 : Int32)) (10 : Int32))), (0, .ref p0), (1, .ref p1), (2, .int p2)] [] := by
      refine x_iload_n 295 5 dX3_succeeds_294 rfl rfl ?_
      refine x_bipush 297 (100 : Int32) dX3_succeeds_295 rfl (by decide) ?_
      refine x_idiv 298 (by decide) dX3_succeeds_297 rfl ?_
      refine x_sipush 301 (1000 : Int32) dX3_succeeds_298 rfl (by decide) ?_
      refine x_irem 302 (by decide) dX3_succeeds_301 rfl ?_
      obtain ⟨x54, h57, hF⟩ := b1_inv hF
      have hJ : qX l G RX3 "succeeds" cX3_succeeds 6 (some .boolean) [] rmX3_succeeds 0 0 (.inl (some (.int ro), so, n)) 0 0 σ n 321 [] [.int x54] := by
        obtain ⟨hz, hF⟩ := ite_none hF
        cases hF
        exact x_zret rfl (by rcases hz with h | h <;> rw [h] <;> rfl) rfl (by decide) (by decide) dX3_succeeds_321
      have hF := h57
      rcases ite_inv hF with ⟨hc, hF⟩ | ⟨hc, hF⟩
      · refine x_if_ne 320 305 dX3_succeeds_302 (by decide) rfl (fun q => absurd hc q) (fun _ => ?_)
        refine x_aload_n 306 3 dX3_succeeds_305 rfl rfl ?_
        obtain ⟨v56, h55, hF⟩ := b1_inv hF
        obtain ⟨fs, hb⟩ : ∃ fs : List Value, True ∧ σ p0 = some (.inr (2, fs)) := kX2_pairsThatQuarrel h55
        refine x_callV (As := []) (rest := []) 309 0 0 (mX2_pairsThatQuarrel hst p0 σ n v56 h55) qyX2_pairsThatQuarrel wd_868 wd_500 wd_501 hb.2 rfl rfl rfl (by decide) (Nat.le_of_ble_eq_true rfl) (by decide) dX3_succeeds_306 rfl rfl rfl rfl ?_
        refine x_iload_n 310 5 dX3_succeeds_309 rfl rfl ?_
        refine x_bipush 312 (100 : Int32) dX3_succeeds_310 rfl (by decide) ?_
        refine x_irem 313 (by decide) dX3_succeeds_312 rfl ?_
        rcases ite_inv hF with ⟨hc, hF⟩ | ⟨hc, hF⟩
        · refine x_icmp_gt 320 316 dX3_succeeds_313 (by decide) rfl (fun _ => ?_) (fun q => absurd hc q)
          refine x_iconst 321 (0 : Int32) dX3_succeeds_320 rfl (by decide) ?_
          have e1 := Option.some.inj hF
          subst e1
          refine x_sub [] [] rfl ?_
          exact hJ
        · refine x_icmp_gt 320 316 dX3_succeeds_313 (by decide) rfl (fun q => absurd q hc) (fun _ => ?_)
          refine x_iconst 317 (1 : Int32) dX3_succeeds_316 rfl (by decide) ?_
          refine x_goto 321 dX3_succeeds_317 (by decide) ?_
          have e1 := Option.some.inj hF
          subst e1
          refine x_sub [] [] rfl ?_
          exact hJ
      · refine x_if_ne 320 305 dX3_succeeds_302 (by decide) rfl (fun _ => ?_) (fun q => absurd q hc)
        refine x_iconst 321 (0 : Int32) dX3_succeeds_320 rfl (by decide) ?_
        have e1 := Option.some.inj hF
        subst e1
        refine x_sub [] [] rfl ?_
        exact hJ
    · exact x_tableIn (268) 294 dX3_succeeds_26 (by rw [h58]; decide) (by rw [h58]; decide) (by rw [h58]; decide) (by decide) hK
  have hK : qX l G RX3 "succeeds" cX3_succeeds 6 (some .boolean) [] rmX3_succeeds 0 0 (.inl (some (.int ro), so, n)) 0 0 σ n 322 [(5, .int (irm p2 (1000 : Int32))), (4, .int (irm p2 (10 : Int32))), (3, .int (irm (p2 / (10000 : Int32)) (10 : Int32))), (0, .ref p0), (1, .ref p1), (2, .int p2)] [] := by
    refine x_iconst 323 (0 : Int32) dX3_succeeds_322 rfl (by decide) ?_
    cases hF
    exact x_zret rfl rfl rfl (by decide) (by decide) dX3_succeeds_323
  have h4z := i32_ne (z := 1) h4 (by decide)
  have h11z := i32_ne (z := 2) h11 (by decide)
  have h18z := i32_ne (z := 3) h18 (by decide)
  have h25z := i32_ne (z := 4) h25 (by decide)
  have h32z := i32_ne (z := 5) h32 (by decide)
  have h39z := i32_ne (z := 6) h39 (by decide)
  have h46z := i32_ne (z := 7) h46 (by decide)
  have h53z := i32_ne (z := 8) h53 (by decide)
  have h58z := i32_ne (z := 9) h58 (by decide)
  exact x_tableOut 322 dX3_succeeds_26 (by omega) (by decide) hK
def rmX4_tell : Room := { frames := 4, cells := 0, slots := 0, locals := 99 }
theorem qyX4_tell : qY yX4_tell cX4_tell 8 (none) 3 := ⟨wd_884, wd_32, by decide +kernel, by decide +kernel, by decide +kernel⟩
set_option maxHeartbeats 4000000 in
set_option maxRecDepth 100000 in
theorem mX4_tell {l : Launch} {G : qG} (hst : l.stackTraces = false) (p0 : Nat) (p1 : Int32) (p2 : Int32) (σ : qH) (n : Option Nat) (so : qH) (hF : FX4_tell p0 p1 p2 σ = some so) : qM l G yX4_tell cX4_tell 8 (none) rmX4_tell [.ref p0, .int p1, .int p2] σ n (.inl (none, so, n)) := by
  refine q_body (own := RX4) (nm := "tell") (ls := [(0, .ref p0), (1, .int p1), (2, .int p2)]) hst (by decide +kernel) rfl rfl (Nat.le_of_ble_eq_true rfl) rfl rfl rfl ?_
  unfold FX4_tell at hF
  refine x_iload_n 1 2 dX4_tell_0 rfl rfl ?_
  refine x_iconst 2 (3 : Int32) dX4_tell_1 rfl (by decide) ?_
  refine x_irem 3 (by decide) dX4_tell_2 rfl ?_
  refine x_istore_n 4 3 [(3, .int (irm p2 (3 : Int32))), (0, .ref p0), (1, .int p1), (2, .int p2)] dX4_tell_3 rfl rfl (by decide) rfl ?_
  refine x_iload_n 5 3 dX4_tell_4 rfl rfl ?_
  refine x_iconst 6 (4 : Int32) dX4_tell_5 rfl (by decide) ?_
  refine x_idiv 7 (by decide) dX4_tell_6 rfl ?_
  refine x_bipush 9 (6 : Int32) dX4_tell_7 rfl (by decide) ?_
  refine x_irem 10 (by decide) dX4_tell_9 rfl ?_
  refine x_istore 12 4 [(4, .int (irm (p2 / (4 : Int32)) (6 : Int32))), (3, .int (irm p2 (3 : Int32))), (0, .ref p0), (1, .int p1), (2, .int p2)] dX4_tell_10 rfl (by decide) rfl ?_
  refine x_iconst 13 (1 : Int32) dX4_tell_12 rfl (by decide) ?_
  refine x_iload_n 14 4 dX4_tell_13 rfl rfl ?_
  refine x_sipush 17 (256 : Int32) dX4_tell_14 rfl (by decide) ?_
  refine x_idiv 18 (by decide) dX4_tell_17 rfl ?_
  refine x_sipush 21 (400 : Int32) dX4_tell_18 rfl (by decide) ?_
  refine x_irem 22 (by decide) dX4_tell_21 rfl ?_
  refine x_iadd 23 dX4_tell_22 rfl ?_
  refine x_istore 25 5 [(5, .int ((1 : Int32) + (irm (p2 / (256 : Int32)) (400 : Int32)))), (4, .int (irm (p2 / (4 : Int32)) (6 : Int32))), (3, .int (irm p2 (3 : Int32))), (0, .ref p0), (1, .int p1), (2, .int p2)] dX4_tell_23 rfl (by decide) rfl ?_
  refine x_iload_n 26 5 dX4_tell_25 rfl rfl ?_
  refine x_bipush 28 (8 : Int32) dX4_tell_26 rfl (by decide) ?_
  refine x_idiv 29 (by decide) dX4_tell_28 rfl ?_
  refine x_bipush 31 (21 : Int32) dX4_tell_29 rfl (by decide) ?_
  refine x_irem 32 (by decide) dX4_tell_31 rfl ?_
  refine x_istore 34 6 [(6, .int (irm (p2 / (8 : Int32)) (21 : Int32))), (5, .int ((1 : Int32) + (irm (p2 / (256 : Int32)) (400 : Int32)))), (4, .int (irm (p2 / (4 : Int32)) (6 : Int32))), (3, .int (irm p2 (3 : Int32))), (0, .ref p0), (1, .int p1), (2, .int p2)] dX4_tell_32 rfl (by decide) rfl ?_
  refine x_iload_n 35 5 dX4_tell_34 rfl rfl ?_
  refine x_iconst 36 (3 : Int32) dX4_tell_35 rfl (by decide) ?_
  obtain ⟨s1, h11, hF⟩ := b1_inv hF
  have hJ : qX l G RX4 "tell" cX4_tell 8 (none) [] rmX4_tell 0 0 (.inl (none, so, n)) 0 0 s1 n 150 [] [] := by
    cases hF
    exact x_vret rfl rfl (by decide) (by decide) dX4_tell_150
  have hF := h11
  rcases ite_inv hF with ⟨hc, hF⟩ | ⟨hc, hF⟩
  · refine x_icmp_gt 74 39 dX4_tell_36 (by decide) rfl (fun _ => ?_) (fun q => absurd hc q)
    refine x_iload_n 75 5 dX4_tell_74 rfl rfl ?_
    refine x_iconst 76 (5 : Int32) dX4_tell_75 rfl (by decide) ?_
    rcases ite_inv hF with ⟨hc, hF⟩ | ⟨hc, hF⟩
    · refine x_icmp_gt 114 79 dX4_tell_76 (by decide) rfl (fun _ => ?_) (fun q => absurd hc q)
      refine x_iconst 115 (1 : Int32) dX4_tell_114 rfl (by decide) ?_
      refine x_iload_n 116 6 dX4_tell_115 rfl rfl ?_
      refine x_bipush 118 (32 : Int32) dX4_tell_116 rfl (by decide) ?_
      refine x_idiv 119 (by decide) dX4_tell_118 rfl ?_
      refine x_sipush 122 (900 : Int32) dX4_tell_119 rfl (by decide) ?_
      refine x_irem 123 (by decide) dX4_tell_122 rfl ?_
      refine x_iadd 124 dX4_tell_123 rfl ?_
      refine x_istore 126 7 [(7, .int ((1 : Int32) + (irm (p2 / (32 : Int32)) (900 : Int32)))), (6, .int (irm (p2 / (8 : Int32)) (21 : Int32))), (5, .int ((1 : Int32) + (irm (p2 / (256 : Int32)) (400 : Int32)))), (4, .int (irm (p2 / (4 : Int32)) (6 : Int32))), (3, .int (irm p2 (3 : Int32))), (0, .ref p0), (1, .int p1), (2, .int p2)] dX4_tell_124 rfl (by decide) rfl ?_
      refine x_aload_n 127 5 dX4_tell_126 rfl rfl ?_
      refine x_iload_n 128 4 dX4_tell_127 rfl rfl ?_
      refine x_iload 130 3 dX4_tell_128 rfl rfl ?_
      refine x_iconst 131 (2 : Int32) dX4_tell_130 rfl (by decide) ?_
      refine x_iload 133 0 dX4_tell_131 rfl rfl ?_
      refine x_iload 135 0 dX4_tell_133 rfl rfl ?_
      refine x_iload_n 136 7 dX4_tell_135 rfl rfl ?_
      refine x_sipush 139 (256 : Int32) dX4_tell_136 rfl (by decide) ?_
      refine x_idiv 140 (by decide) dX4_tell_139 rfl ?_
      refine x_bipush 142 (90 : Int32) dX4_tell_140 rfl (by decide) ?_
      refine x_irem 143 (by decide) dX4_tell_142 rfl ?_
      refine x_iadd 144 dX4_tell_143 rfl ?_
      refine x_iconst 145 (0 : Int32) dX4_tell_144 rfl (by decide) ?_
      refine x_iconst 146 (0 : Int32) dX4_tell_145 rfl (by decide) ?_
      obtain ⟨v3, s4, h2, hF⟩ := b2_inv hF
      obtain ⟨fs, hb⟩ : ∃ fs : List Value, True ∧ σ p0 = some (.inr (2, fs)) := kX2_tryMeasure h2
      refine x_callV (As := [.int (irm p2 (3 : Int32)), .int (irm (p2 / (4 : Int32)) (6 : Int32)), .int (2 : Int32), .int ((1 : Int32) + (irm (p2 / (32 : Int32)) (900 : Int32))), .int (((1 : Int32) + (irm (p2 / (32 : Int32)) (900 : Int32))) + (irm (p2 / (256 : Int32)) (90 : Int32))), .int (0 : Int32), .int (0 : Int32)]) (rest := []) 149 0 0 (mX2_tryMeasure hst p0 (irm p2 (3 : Int32)) (irm (p2 / (4 : Int32)) (6 : Int32)) (2 : Int32) ((1 : Int32) + (irm (p2 / (32 : Int32)) (900 : Int32))) (((1 : Int32) + (irm (p2 / (32 : Int32)) (900 : Int32))) + (irm (p2 / (256 : Int32)) (90 : Int32))) (0 : Int32) (0 : Int32) σ n v3 s4 h2) qyX2_tryMeasure wd_885 wd_358 wd_359 hb.2 rfl rfl rfl (by decide) (Nat.le_of_ble_eq_true rfl) (by decide) dX4_tell_146 rfl rfl rfl rfl ?_
      refine x_pop 150 rfl dX4_tell_149 rfl ?_
      have e1 := Option.some.inj hF
      subst e1
      refine x_sub [] [] rfl ?_
      exact hJ
    · refine x_icmp_gt 114 79 dX4_tell_76 (by decide) rfl (fun q => absurd q hc) (fun _ => ?_)
      refine x_aload_n 80 4 dX4_tell_79 rfl rfl ?_
      refine x_iload_n 81 3 dX4_tell_80 rfl rfl ?_
      refine x_iload 83 2 dX4_tell_81 rfl rfl ?_
      refine x_iconst 84 (1 : Int32) dX4_tell_83 rfl (by decide) ?_
      refine x_iconst 85 (1 : Int32) dX4_tell_84 rfl (by decide) ?_
      refine x_iload_n 86 6 dX4_tell_85 rfl rfl ?_
      refine x_bipush 88 (32 : Int32) dX4_tell_86 rfl (by decide) ?_
      refine x_idiv 89 (by decide) dX4_tell_88 rfl ?_
      refine x_bipush 91 (9 : Int32) dX4_tell_89 rfl (by decide) ?_
      refine x_irem 92 (by decide) dX4_tell_91 rfl ?_
      refine x_iadd 93 dX4_tell_92 rfl ?_
      refine x_iconst 94 (1 : Int32) dX4_tell_93 rfl (by decide) ?_
      refine x_iload_n 95 6 dX4_tell_94 rfl rfl ?_
      refine x_sipush 98 (288 : Int32) dX4_tell_95 rfl (by decide) ?_
      refine x_idiv 99 (by decide) dX4_tell_98 rfl ?_
      refine x_bipush 101 (60 : Int32) dX4_tell_99 rfl (by decide) ?_
      refine x_irem 102 (by decide) dX4_tell_101 rfl ?_
      refine x_iadd 103 dX4_tell_102 rfl ?_
      refine x_iload 105 1 dX4_tell_103 rfl rfl ?_
      refine x_iload 107 0 dX4_tell_105 rfl rfl ?_
      obtain ⟨v6, s7, h5, hF⟩ := b2_inv hF
      obtain ⟨fs, hb⟩ : ∃ fs : List Value, True ∧ σ p0 = some (.inr (2, fs)) := kX2_tryMeasure h5
      refine x_callV (As := [.int (irm p2 (3 : Int32)), .int (irm (p2 / (4 : Int32)) (6 : Int32)), .int (1 : Int32), .int ((1 : Int32) + (irm (p2 / (32 : Int32)) (9 : Int32))), .int ((1 : Int32) + (irm (p2 / (288 : Int32)) (60 : Int32))), .int ((1 : Int32) + (irm (p2 / (256 : Int32)) (400 : Int32))), .int (irm (p2 / (8 : Int32)) (21 : Int32))]) (rest := []) 110 0 0 (mX2_tryMeasure hst p0 (irm p2 (3 : Int32)) (irm (p2 / (4 : Int32)) (6 : Int32)) (1 : Int32) ((1 : Int32) + (irm (p2 / (32 : Int32)) (9 : Int32))) ((1 : Int32) + (irm (p2 / (288 : Int32)) (60 : Int32))) ((1 : Int32) + (irm (p2 / (256 : Int32)) (400 : Int32))) (irm (p2 / (8 : Int32)) (21 : Int32)) σ n v6 s7 h5) qyX2_tryMeasure wd_885 wd_358 wd_359 hb.2 rfl rfl rfl (by decide) (Nat.le_of_ble_eq_true rfl) (by decide) dX4_tell_107 rfl rfl rfl rfl ?_
      refine x_pop 111 rfl dX4_tell_110 rfl ?_
      refine x_goto 150 dX4_tell_111 (by decide) ?_
      have e1 := Option.some.inj hF
      subst e1
      refine x_sub [] [] rfl ?_
      exact hJ
  · refine x_icmp_gt 74 39 dX4_tell_36 (by decide) rfl (fun q => absurd q hc) (fun _ => ?_)
    refine x_aload_n 40 4 dX4_tell_39 rfl rfl ?_
    refine x_iload_n 41 3 dX4_tell_40 rfl rfl ?_
    refine x_iload 43 2 dX4_tell_41 rfl rfl ?_
    refine x_iconst 44 (0 : Int32) dX4_tell_43 rfl (by decide) ?_
    refine x_iconst 45 (1 : Int32) dX4_tell_44 rfl (by decide) ?_
    refine x_iload_n 46 6 dX4_tell_45 rfl rfl ?_
    refine x_bipush 48 (32 : Int32) dX4_tell_46 rfl (by decide) ?_
    refine x_idiv 49 (by decide) dX4_tell_48 rfl ?_
    refine x_bipush 51 (20 : Int32) dX4_tell_49 rfl (by decide) ?_
    refine x_irem 52 (by decide) dX4_tell_51 rfl ?_
    refine x_iadd 53 dX4_tell_52 rfl ?_
    refine x_iconst 54 (1 : Int32) dX4_tell_53 rfl (by decide) ?_
    refine x_iload_n 55 6 dX4_tell_54 rfl rfl ?_
    refine x_sipush 58 (640 : Int32) dX4_tell_55 rfl (by decide) ?_
    refine x_idiv 59 (by decide) dX4_tell_58 rfl ?_
    refine x_bipush 61 (40 : Int32) dX4_tell_59 rfl (by decide) ?_
    refine x_irem 62 (by decide) dX4_tell_61 rfl ?_
    refine x_iadd 63 dX4_tell_62 rfl ?_
    refine x_iload 65 1 dX4_tell_63 rfl rfl ?_
    refine x_iload 67 0 dX4_tell_65 rfl rfl ?_
    obtain ⟨v9, s10, h8, hF⟩ := b2_inv hF
    obtain ⟨fs, hb⟩ : ∃ fs : List Value, True ∧ σ p0 = some (.inr (2, fs)) := kX2_tryMeasure h8
    refine x_callV (As := [.int (irm p2 (3 : Int32)), .int (irm (p2 / (4 : Int32)) (6 : Int32)), .int (0 : Int32), .int ((1 : Int32) + (irm (p2 / (32 : Int32)) (20 : Int32))), .int ((1 : Int32) + (irm (p2 / (640 : Int32)) (40 : Int32))), .int ((1 : Int32) + (irm (p2 / (256 : Int32)) (400 : Int32))), .int (irm (p2 / (8 : Int32)) (21 : Int32))]) (rest := []) 70 0 0 (mX2_tryMeasure hst p0 (irm p2 (3 : Int32)) (irm (p2 / (4 : Int32)) (6 : Int32)) (0 : Int32) ((1 : Int32) + (irm (p2 / (32 : Int32)) (20 : Int32))) ((1 : Int32) + (irm (p2 / (640 : Int32)) (40 : Int32))) ((1 : Int32) + (irm (p2 / (256 : Int32)) (400 : Int32))) (irm (p2 / (8 : Int32)) (21 : Int32)) σ n v9 s10 h8) qyX2_tryMeasure wd_885 wd_358 wd_359 hb.2 rfl rfl rfl (by decide) (Nat.le_of_ble_eq_true rfl) (by decide) dX4_tell_67 rfl rfl rfl rfl ?_
    refine x_pop 71 rfl dX4_tell_70 rfl ?_
    refine x_goto 150 dX4_tell_71 (by decide) ?_
    have e1 := Option.some.inj hF
    subst e1
    refine x_sub [] [] rfl ?_
    exact hJ
def rmX4_changeSetting : Room := { frames := 1, cells := 0, slots := 0, locals := 23 }
theorem qyX4_changeSetting : qY yX4_changeSetting cX4_changeSetting 2 (none) 2 := ⟨wd_890, wd_32, by decide +kernel, by decide +kernel, by decide +kernel⟩
set_option maxHeartbeats 4000000 in
set_option maxRecDepth 100000 in
theorem mX4_changeSetting {l : Launch} {G : qG} (hst : l.stackTraces = false) (p0 : Nat) (p1 : Int32) (σ : qH) (n : Option Nat) (so : qH) (hF : FX4_changeSetting p0 p1 σ = some so) : qM l G yX4_changeSetting cX4_changeSetting 2 (none) rmX4_changeSetting [.ref p0, .int p1] σ n (.inl (none, so, n)) := by
  refine q_body (own := RX4) (nm := "changeSetting") (ls := [(0, .ref p0), (1, .int p1)]) hst (by decide +kernel) rfl rfl (Nat.le_of_ble_eq_true rfl) rfl rfl rfl ?_
  unfold FX4_changeSetting at hF
  refine x_iload_n 1 1 dX4_changeSetting_0 rfl rfl ?_
  refine x_bipush 3 (8 : Int32) dX4_changeSetting_1 rfl (by decide) ?_
  refine x_idiv 4 (by decide) dX4_changeSetting_3 rfl ?_
  refine x_iconst 5 (2 : Int32) dX4_changeSetting_4 rfl (by decide) ?_
  refine x_irem 6 (by decide) dX4_changeSetting_5 rfl ?_
  obtain ⟨s1, h8, hF⟩ := b1_inv hF
  have hJ : qX l G RX4 "changeSetting" cX4_changeSetting 2 (none) [] rmX4_changeSetting 0 0 (.inl (none, so, n)) 0 0 s1 n 35 [] [] := by
    cases hF
    exact x_vret rfl rfl (by decide) (by decide) dX4_changeSetting_35
  have hF := h8
  rcases ite_inv hF with ⟨hc, hF⟩ | ⟨hc, hF⟩
  · refine x_if_ne 22 9 dX4_changeSetting_6 (by decide) rfl (fun q => absurd hc q) (fun _ => ?_)
    refine x_aload_n 10 0 dX4_changeSetting_9 rfl rfl ?_
    refine x_iconst 11 (0 : Int32) dX4_changeSetting_10 rfl (by decide) ?_
    refine x_iload_n 12 1 dX4_changeSetting_11 rfl rfl ?_
    refine x_bipush 14 (6 : Int32) dX4_changeSetting_12 rfl (by decide) ?_
    refine x_irem 15 (by decide) dX4_changeSetting_14 rfl ?_
    obtain ⟨v3, s4, h2, hF⟩ := b2_inv hF
    obtain ⟨fs, hb⟩ : ∃ fs : List Value, True ∧ σ p0 = some (.inr (2, fs)) := kX2_changeSetting h2
    refine x_callV (As := [.int (0 : Int32), .int (irm p1 (6 : Int32))]) (rest := []) 18 0 0 (mX2_changeSetting hst p0 (0 : Int32) (irm p1 (6 : Int32)) σ n v3 s4 h2) qyX2_changeSetting wd_891 wd_728 wd_729 hb.2 rfl rfl rfl (by decide) (Nat.le_of_ble_eq_true rfl) (by decide) dX4_changeSetting_15 rfl rfl rfl rfl ?_
    refine x_pop 19 rfl dX4_changeSetting_18 rfl ?_
    refine x_goto 35 dX4_changeSetting_19 (by decide) ?_
    have e1 := Option.some.inj hF
    subst e1
    refine x_sub [] [] rfl ?_
    exact hJ
  · refine x_if_ne 22 9 dX4_changeSetting_6 (by decide) rfl (fun _ => ?_) (fun q => absurd q hc)
    refine x_aload_n 23 0 dX4_changeSetting_22 rfl rfl ?_
    refine x_iconst 24 (1 : Int32) dX4_changeSetting_23 rfl (by decide) ?_
    refine x_iload_n 25 1 dX4_changeSetting_24 rfl rfl ?_
    refine x_bipush 27 (16 : Int32) dX4_changeSetting_25 rfl (by decide) ?_
    refine x_idiv 28 (by decide) dX4_changeSetting_27 rfl ?_
    refine x_bipush 30 (51 : Int32) dX4_changeSetting_28 rfl (by decide) ?_
    refine x_irem 31 (by decide) dX4_changeSetting_30 rfl ?_
    obtain ⟨v6, s7, h5, hF⟩ := b2_inv hF
    obtain ⟨fs, hb⟩ : ∃ fs : List Value, True ∧ σ p0 = some (.inr (2, fs)) := kX2_changeSetting h5
    refine x_callV (As := [.int (1 : Int32), .int (irm (p1 / (16 : Int32)) (51 : Int32))]) (rest := []) 34 0 0 (mX2_changeSetting hst p0 (1 : Int32) (irm (p1 / (16 : Int32)) (51 : Int32)) σ n v6 s7 h5) qyX2_changeSetting wd_891 wd_728 wd_729 hb.2 rfl rfl rfl (by decide) (Nat.le_of_ble_eq_true rfl) (by decide) dX4_changeSetting_31 rfl rfl rfl rfl ?_
    refine x_pop 35 rfl dX4_changeSetting_34 rfl ?_
    have e1 := Option.some.inj hF
    subst e1
    refine x_sub [] [] rfl ?_
    exact hJ
def rmX4_turn : Room := { frames := 5, cells := 0, slots := 0, locals := 126 }
theorem qyX4_turn : qY yX4_turn cX4_turn 4 (none) 2 := ⟨wd_881, wd_32, by decide +kernel, by decide +kernel, by decide +kernel⟩
set_option maxHeartbeats 4000000 in
set_option maxRecDepth 100000 in
theorem mX4_turn {l : Launch} {G : qG} (hst : l.stackTraces = false) (p0 : Nat) (p1 : Int32) (σ : qH) (n : Option Nat) (so : qH) (hF : FX4_turn p0 p1 σ = some so) : qM l G yX4_turn cX4_turn 4 (none) rmX4_turn [.ref p0, .int p1] σ n (.inl (none, so, n)) := by
  refine q_body (own := RX4) (nm := "turn") (ls := [(0, .ref p0), (1, .int p1)]) hst (by decide +kernel) rfl rfl (Nat.le_of_ble_eq_true rfl) rfl rfl rfl ?_
  unfold FX4_turn at hF
  refine x_iload_n 1 1 dX4_turn_0 rfl rfl ?_
  refine x_bipush 3 (16 : Int32) dX4_turn_1 rfl (by decide) ?_
  refine x_idiv 4 (by decide) dX4_turn_3 rfl ?_
  refine x_istore_n 5 2 [(2, .int (p1 / (16 : Int32))), (0, .ref p0), (1, .int p1)] dX4_turn_4 rfl rfl (by decide) rfl ?_
  refine x_iload_n 6 0 dX4_turn_5 rfl rfl ?_
  refine x_iconst 7 (3 : Int32) dX4_turn_6 rfl (by decide) ?_
  refine x_irem 8 (by decide) dX4_turn_7 rfl ?_
  refine x_istore_n 9 3 [(3, .int (irm (p1 / (16 : Int32)) (3 : Int32))), (2, .int (p1 / (16 : Int32))), (0, .ref p0), (1, .int p1)] dX4_turn_8 rfl rfl (by decide) rfl ?_
  refine x_iload_n 10 3 dX4_turn_9 rfl rfl ?_
  refine x_bipush 12 (16 : Int32) dX4_turn_10 rfl (by decide) ?_
  refine x_irem 13 (by decide) dX4_turn_12 rfl ?_
  obtain ⟨s1, h31, hF⟩ := b1_inv hF
  have hJ : qX l G RX4 "turn" cX4_turn 4 (none) [] rmX4_turn 0 0 (.inl (none, so, n)) 0 0 s1 n 140 [] [] := by
    cases hF
    exact x_vret rfl rfl (by decide) (by decide) dX4_turn_140
  have hF := h31
  rcases ite_inv hF with ⟨h4, hF⟩ | ⟨h4, hF⟩
  · have hK : qX l G RX4 "turn" cX4_turn 4 (none) [] rmX4_turn 0 0 (.inl (none, so, n)) 0 0 σ n 84 [(3, .int (irm (p1 / (16 : Int32)) (3 : Int32))), (2, .int (p1 / (16 : Int32))), (0, .ref p0), (1, .int p1)] [] := by
      refine x_aload_n 85 2 dX4_turn_84 rfl rfl ?_
      refine x_iload_n 86 3 dX4_turn_85 rfl rfl ?_
      refine x_bipush 88 (16 : Int32) dX4_turn_86 rfl (by decide) ?_
      refine x_irem 89 (by decide) dX4_turn_88 rfl ?_
      refine x_iload_n 90 1 dX4_turn_89 rfl rfl ?_
      obtain ⟨s3, h2, hF⟩ := b1_inv hF
      refine x_callS (As := [.ref p0, .int (irm p1 (16 : Int32)), .int (p1 / (16 : Int32))]) (rest := []) 93 0 0 (mX4_tell hst p0 (irm p1 (16 : Int32)) (p1 / (16 : Int32)) σ n s3 h2) qyX4_tell wd_882 wd_883 rfl rfl (by decide) (Nat.le_of_ble_eq_true rfl) (by decide) dX4_turn_90 rfl rfl rfl rfl ?_
      refine x_goto 140 dX4_turn_93 (by decide) ?_
      have e1 := Option.some.inj hF
      subst e1
      refine x_sub [] [] rfl ?_
      exact hJ
    rcases h4 with h4 | h4 | h4 | h4 | h4 | h4 | h4 | h4 | h4
    · exact x_tableIn (71) 84 dX4_turn_13 (by rw [h4]; decide) (by rw [h4]; decide) (by rw [h4]; decide) (by decide) hK
    · exact x_tableIn (71) 84 dX4_turn_13 (by rw [h4]; decide) (by rw [h4]; decide) (by rw [h4]; decide) (by decide) hK
    · exact x_tableIn (71) 84 dX4_turn_13 (by rw [h4]; decide) (by rw [h4]; decide) (by rw [h4]; decide) (by decide) hK
    · exact x_tableIn (71) 84 dX4_turn_13 (by rw [h4]; decide) (by rw [h4]; decide) (by rw [h4]; decide) (by decide) hK
    · exact x_tableIn (71) 84 dX4_turn_13 (by rw [h4]; decide) (by rw [h4]; decide) (by rw [h4]; decide) (by decide) hK
    · exact x_tableIn (71) 84 dX4_turn_13 (by rw [h4]; decide) (by rw [h4]; decide) (by rw [h4]; decide) (by decide) hK
    · exact x_tableIn (71) 84 dX4_turn_13 (by rw [h4]; decide) (by rw [h4]; decide) (by rw [h4]; decide) (by decide) hK
    · exact x_tableIn (71) 84 dX4_turn_13 (by rw [h4]; decide) (by rw [h4]; decide) (by rw [h4]; decide) (by decide) hK
    · exact x_tableIn (71) 84 dX4_turn_13 (by rw [h4]; decide) (by rw [h4]; decide) (by rw [h4]; decide) (by decide) hK
  rcases ite_inv hF with ⟨h8, hF⟩ | ⟨h8, hF⟩
  · have hK : qX l G RX4 "turn" cX4_turn 4 (none) [] rmX4_turn 0 0 (.inl (none, so, n)) 0 0 σ n 96 [(3, .int (irm (p1 / (16 : Int32)) (3 : Int32))), (2, .int (p1 / (16 : Int32))), (0, .ref p0), (1, .int p1)] [] := by
      refine x_aload_n 97 2 dX4_turn_96 rfl rfl ?_
      refine x_iload_n 98 1 dX4_turn_97 rfl rfl ?_
      refine x_bipush 100 (16 : Int32) dX4_turn_98 rfl (by decide) ?_
      refine x_irem 101 (by decide) dX4_turn_100 rfl ?_
      obtain ⟨v6, s7, h5, hF⟩ := b2_inv hF
      obtain ⟨fs, hb⟩ : ∃ fs : List Value, True ∧ σ p0 = some (.inr (2, fs)) := kX2_tryDrop h5
      refine x_callV (As := [.int (irm (p1 / (16 : Int32)) (16 : Int32))]) (rest := []) 104 0 0 (mX2_tryDrop hst p0 (irm (p1 / (16 : Int32)) (16 : Int32)) σ n v6 s7 h5) qyX2_tryDrop wd_886 wd_403 wd_404 hb.2 rfl rfl rfl (by decide) (Nat.le_of_ble_eq_true rfl) (by decide) dX4_turn_101 rfl rfl rfl rfl ?_
      refine x_pop 105 rfl dX4_turn_104 rfl ?_
      refine x_goto 140 dX4_turn_105 (by decide) ?_
      have e1 := Option.some.inj hF
      subst e1
      refine x_sub [] [] rfl ?_
      exact hJ
    · exact x_tableIn (83) 96 dX4_turn_13 (by rw [h8]; decide) (by rw [h8]; decide) (by rw [h8]; decide) (by decide) hK
  rcases ite_inv hF with ⟨h12, hF⟩ | ⟨h12, hF⟩
  · have hK : qX l G RX4 "turn" cX4_turn 4 (none) [] rmX4_turn 0 0 (.inl (none, so, n)) 0 0 σ n 108 [(3, .int (irm (p1 / (16 : Int32)) (3 : Int32))), (2, .int (p1 / (16 : Int32))), (0, .ref p0), (1, .int p1)] [] := by
      refine x_aload_n 109 2 dX4_turn_108 rfl rfl ?_
      obtain ⟨v10, s11, h9, hF⟩ := b2_inv hF
      obtain ⟨fs, hb⟩ : ∃ fs : List Value, True ∧ σ p0 = some (.inr (2, fs)) := kX2_passEvening h9
      refine x_callV (As := []) (rest := []) 112 0 0 (mX2_passEvening hst p0 σ n v10 s11 h9) qyX2_passEvening wd_887 wd_429 wd_430 hb.2 rfl rfl rfl (by decide) (Nat.le_of_ble_eq_true rfl) (by decide) dX4_turn_109 rfl rfl rfl rfl ?_
      refine x_pop 113 rfl dX4_turn_112 rfl ?_
      refine x_goto 140 dX4_turn_113 (by decide) ?_
      have e1 := Option.some.inj hF
      subst e1
      refine x_sub [] [] rfl ?_
      exact hJ
    rcases h12 with h12 | h12 | h12
    · exact x_tableIn (95) 108 dX4_turn_13 (by rw [h12]; decide) (by rw [h12]; decide) (by rw [h12]; decide) (by decide) hK
    · exact x_tableIn (95) 108 dX4_turn_13 (by rw [h12]; decide) (by rw [h12]; decide) (by rw [h12]; decide) (by decide) hK
    · exact x_tableIn (95) 108 dX4_turn_13 (by rw [h12]; decide) (by rw [h12]; decide) (by rw [h12]; decide) (by decide) hK
  rcases ite_inv hF with ⟨h15, hF⟩ | ⟨h15, hF⟩
  · have hK : qX l G RX4 "turn" cX4_turn 4 (none) [] rmX4_turn 0 0 (.inl (none, so, n)) 0 0 σ n 116 [(3, .int (irm (p1 / (16 : Int32)) (3 : Int32))), (2, .int (p1 / (16 : Int32))), (0, .ref p0), (1, .int p1)] [] := by
      refine x_aload_n 117 2 dX4_turn_116 rfl rfl ?_
      refine x_iload_n 118 1 dX4_turn_117 rfl rfl ?_
      obtain ⟨s14, h13, hF⟩ := b1_inv hF
      refine x_callS (As := [.ref p0, .int (p1 / (16 : Int32))]) (rest := []) 121 0 0 (mX4_changeSetting hst p0 (p1 / (16 : Int32)) σ n s14 h13) qyX4_changeSetting wd_888 wd_889 rfl rfl (by decide) (Nat.le_of_ble_eq_true rfl) (by decide) dX4_turn_118 rfl rfl rfl rfl ?_
      refine x_goto 140 dX4_turn_121 (by decide) ?_
      have e1 := Option.some.inj hF
      subst e1
      refine x_sub [] [] rfl ?_
      exact hJ
    · exact x_tableIn (103) 116 dX4_turn_13 (by rw [h15]; decide) (by rw [h15]; decide) (by rw [h15]; decide) (by decide) hK
  have hK : qX l G RX4 "turn" cX4_turn 4 (none) [] rmX4_turn 0 0 (.inl (none, so, n)) 0 0 σ n 124 [(3, .int (irm (p1 / (16 : Int32)) (3 : Int32))), (2, .int (p1 / (16 : Int32))), (0, .ref p0), (1, .int p1)] [] := by
    refine x_aload_n 125 2 dX4_turn_124 rfl rfl ?_
    refine x_iload_n 126 0 dX4_turn_125 rfl rfl ?_
    refine x_iconst 127 (1 : Int32) dX4_turn_126 rfl (by decide) ?_
    refine x_iload_n 128 1 dX4_turn_127 rfl rfl ?_
    refine x_bipush 130 (32 : Int32) dX4_turn_128 rfl (by decide) ?_
    refine x_idiv 131 (by decide) dX4_turn_130 rfl ?_
    refine x_sipush 134 (999 : Int32) dX4_turn_131 rfl (by decide) ?_
    refine x_irem 135 (by decide) dX4_turn_134 rfl ?_
    refine x_iadd 136 dX4_turn_135 rfl ?_
    obtain ⟨v17, s18, h16, hF⟩ := b2_inv hF
    obtain ⟨fs, hb⟩ : ∃ fs : List Value, True ∧ σ p0 = some (.inr (2, fs)) := kX2_trySurvey h16
    refine x_callV (As := [.int (irm (p1 / (16 : Int32)) (3 : Int32)), .int ((1 : Int32) + (irm ((p1 / (16 : Int32)) / (32 : Int32)) (999 : Int32)))]) (rest := []) 139 0 0 (mX2_trySurvey hst p0 (irm (p1 / (16 : Int32)) (3 : Int32)) ((1 : Int32) + (irm ((p1 / (16 : Int32)) / (32 : Int32)) (999 : Int32))) σ n v17 s18 h16) qyX2_trySurvey wd_892 wd_453 wd_454 hb.2 rfl rfl rfl (by decide) (Nat.le_of_ble_eq_true rfl) (by decide) dX4_turn_136 rfl rfl rfl rfl ?_
    refine x_pop 140 rfl dX4_turn_139 rfl ?_
    have e1 := Option.some.inj hF
    subst e1
    refine x_sub [] [] rfl ?_
    exact hJ
  have h19 : ¬ (irm p1 (16 : Int32)) = (0 : Int32) := fun z => h4 (by simp [z])
  have h20 : ¬ (irm p1 (16 : Int32)) = (1 : Int32) := fun z => h4 (by simp [z])
  have h21 : ¬ (irm p1 (16 : Int32)) = (2 : Int32) := fun z => h4 (by simp [z])
  have h22 : ¬ (irm p1 (16 : Int32)) = (3 : Int32) := fun z => h4 (by simp [z])
  have h23 : ¬ (irm p1 (16 : Int32)) = (4 : Int32) := fun z => h4 (by simp [z])
  have h24 : ¬ (irm p1 (16 : Int32)) = (5 : Int32) := fun z => h4 (by simp [z])
  have h25 : ¬ (irm p1 (16 : Int32)) = (6 : Int32) := fun z => h4 (by simp [z])
  have h26 : ¬ (irm p1 (16 : Int32)) = (7 : Int32) := fun z => h4 (by simp [z])
  have h27 : ¬ (irm p1 (16 : Int32)) = (8 : Int32) := fun z => h4 (by simp [z])
  have h28 : ¬ (irm p1 (16 : Int32)) = (10 : Int32) := fun z => h12 (by simp [z])
  have h29 : ¬ (irm p1 (16 : Int32)) = (11 : Int32) := fun z => h12 (by simp [z])
  have h30 : ¬ (irm p1 (16 : Int32)) = (12 : Int32) := fun z => h12 (by simp [z])
  have h19z := i32_ne (z := 0) h19 (by decide)
  have h20z := i32_ne (z := 1) h20 (by decide)
  have h21z := i32_ne (z := 2) h21 (by decide)
  have h22z := i32_ne (z := 3) h22 (by decide)
  have h23z := i32_ne (z := 4) h23 (by decide)
  have h24z := i32_ne (z := 5) h24 (by decide)
  have h25z := i32_ne (z := 6) h25 (by decide)
  have h26z := i32_ne (z := 7) h26 (by decide)
  have h27z := i32_ne (z := 8) h27 (by decide)
  have h8z := i32_ne (z := 9) h8 (by decide)
  have h28z := i32_ne (z := 10) h28 (by decide)
  have h29z := i32_ne (z := 11) h29 (by decide)
  have h30z := i32_ne (z := 12) h30 (by decide)
  have h15z := i32_ne (z := 13) h15 (by decide)
  exact x_tableOut 124 dX4_turn_13 (by omega) (by decide) hK
