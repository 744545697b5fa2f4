def rmJ7_fill_53178 : Room := { frames := 0, cells := 0, slots := 0, locals := 0 }
theorem qyJ7_fill_53178 : qY yJ7_fill_53178 cJ7_fill_53178 4 (none) 2 := ⟨wd_53, wd_19, by decide +kernel, by decide +kernel, by decide +kernel⟩
set_option maxHeartbeats 4000000 in
set_option maxRecDepth 100000 in
theorem mJ7_fill_53178_L5 {l : Launch} {G : qG} (hst : l.stackTraces = false) (a0 : Nat) (a1 : Int32) (a3 : Int32) (n : Option Nat) (r : qR) : ∀ (q : Nat) (y2 : Int32) (σ : qH) (so : qH), FJ7_fill_53178_L5 a0 a1 a3 q y2 σ = some so → qX l G RJ7 "fill" cJ7_fill_53178 4 (none) [] rmJ7_fill_53178 0 0 r 0 0 so n 20 [] [] → qX l G RJ7 "fill" cJ7_fill_53178 4 (none) [] rmJ7_fill_53178 0 0 r 0 0 σ n 5 [(0, .ref a0), (1, .int a1), (2, .int y2), (3, .int a3)] [] := by
  intro q
  induction q with
  | zero => intro y2 σ so hF; rw [FJ7_fill_53178_L5] at hF; cases hF
  | succ q ih =>
    intro y2 σ so hF hJ
    rw [FJ7_fill_53178_L5] at hF
    refine x_iload_n 6 2 dJ7_fill_53178_5 rfl rfl ?_
    refine x_iload_n 7 3 dJ7_fill_53178_6 rfl rfl ?_
    rcases ite_inv hF with ⟨hc, hF⟩ | ⟨hc, hF⟩
    · refine x_icmp_ge 20 10 dJ7_fill_53178_7 (by decide) rfl (fun _ => ?_) (fun q => absurd hc q)
      have e1 := Option.some.inj hF
      subst e1
      refine x_sub [] [] rfl ?_
      exact hJ
    · refine x_icmp_ge 20 10 dJ7_fill_53178_7 (by decide) rfl (fun q => absurd q hc) (fun _ => ?_)
      refine x_aload_n 11 0 dJ7_fill_53178_10 rfl rfl ?_
      refine x_iload_n 12 2 dJ7_fill_53178_11 rfl rfl ?_
      refine x_iload_n 13 1 dJ7_fill_53178_12 rfl rfl ?_
      obtain ⟨s3, h4, hF⟩ := b1_inv hF
      refine x_sI 14 h4 dJ7_fill_53178_13 rfl ?_
      refine x_iinc 17 2 2 (y2 + (1 : Int32)) [(2, .int (y2 + (1 : Int32))), (0, .ref a0), (1, .int a1), (3, .int a3)] dJ7_fill_53178_14 rfl rfl rfl (by decide) rfl ?_
      refine x_goto 5 dJ7_fill_53178_17 (by decide) ?_
      refine x_sub [(0, .ref a0), (1, .int a1), (2, .int (y2 + (1 : Int32))), (3, .int a3)] [1, 2, 0, 3] rfl ?_
      exact ih _ _ _ hF hJ
set_option maxHeartbeats 4000000 in
set_option maxRecDepth 100000 in
theorem mJ7_fill_53178 {l : Launch} {G : qG} (hst : l.stackTraces = false) (p0 : Nat) (p1 : Int32) (σ : qH) (n : Option Nat) (so : qH) (hF : FJ7_fill_53178 p0 p1 σ = some so) : qM l G yJ7_fill_53178 cJ7_fill_53178 4 (none) rmJ7_fill_53178 [.ref p0, .int p1] σ n (.inl (none, so, n)) := by
  refine q_body (own := RJ7) (nm := "fill") (ls := [(0, .ref p0), (1, .int p1)]) hst (by decide +kernel) rfl rfl (Nat.le_of_ble_eq_true rfl) rfl rfl rfl ?_
  unfold FJ7_fill_53178 at hF
  refine x_iconst 1 (0 : Int32) dJ7_fill_53178_0 rfl (by decide) ?_
  refine x_istore_n 2 2 [(2, .int (0 : Int32)), (0, .ref p0), (1, .int p1)] dJ7_fill_53178_1 rfl rfl (by decide) rfl ?_
  refine x_aload_n 3 1 dJ7_fill_53178_2 rfl rfl ?_
  obtain ⟨v1, h2, hF⟩ := b1_inv hF
  refine x_aL 4 h2 dJ7_fill_53178_3 rfl ?_
  refine x_istore_n 5 3 [(3, .int v1), (2, .int (0 : Int32)), (0, .ref p0), (1, .int p1)] dJ7_fill_53178_4 rfl rfl (by decide) rfl ?_
  obtain ⟨s5, h6, hF⟩ := b1_inv hF
  have hJ : qX l G RJ7 "fill" cJ7_fill_53178 4 (none) [] rmJ7_fill_53178 0 0 (.inl (none, so, n)) 0 0 s5 n 20 [] [] := by
    cases hF
    exact x_vret rfl rfl (by decide) (by decide) dJ7_fill_53178_20
  refine x_sub [(0, .ref p0), (1, .int p1), (2, .int (0 : Int32)), (3, .int v1)] [2, 3, 1, 0] rfl ?_
  exact mJ7_fill_53178_L5 hst p0 p1 v1 n _ qfuel (0 : Int32) σ s5 h6 hJ
def rmJ9_floorDiv_7cf53 : Room := { frames := 0, cells := 0, slots := 0, locals := 0 }
theorem qyJ9_floorDiv_7cf53 : qY yJ9_floorDiv_7cf53 cJ9_floorDiv_7cf53 3 (some .int) 2 := ⟨wd_389, wd_28, by decide +kernel, by decide +kernel, by decide +kernel⟩
set_option maxHeartbeats 4000000 in
set_option maxRecDepth 100000 in
theorem mJ9_floorDiv_7cf53 {l : Launch} {G : qG} (hst : l.stackTraces = false) (p0 : Int32) (p1 : Int32) (σ : qH) (n : Option Nat) (ro : Int32) (hF : FJ9_floorDiv_7cf53 p0 p1 σ = some ro) : qM l G yJ9_floorDiv_7cf53 cJ9_floorDiv_7cf53 3 (some .int) rmJ9_floorDiv_7cf53 [.int p0, .int p1] σ n (.inl (some (.int ro), σ, n)) := by
  refine q_body (own := RJ9) (nm := "floorDiv") (ls := [(0, .int p0), (1, .int p1)]) hst (by decide +kernel) rfl rfl (Nat.le_of_ble_eq_true rfl) rfl rfl rfl ?_
  unfold FJ9_floorDiv_7cf53 at hF
  refine x_iload_n 1 0 dJ9_floorDiv_7cf53_0 rfl rfl ?_
  refine x_iload_n 2 1 dJ9_floorDiv_7cf53_1 rfl rfl ?_
  obtain ⟨h1, hF⟩ := ite_else hF
  refine x_idiv 3 h1 dJ9_floorDiv_7cf53_2 rfl ?_
  refine x_istore_n 4 2 [(2, .int (p0 / p1)), (0, .int p0), (1, .int p1)] dJ9_floorDiv_7cf53_3 rfl rfl (by decide) rfl ?_
  refine x_iload_n 5 1 dJ9_floorDiv_7cf53_4 rfl rfl ?_
  refine x_iload_n 6 2 dJ9_floorDiv_7cf53_5 rfl rfl ?_
  refine x_ixor 7 dJ9_floorDiv_7cf53_6 rfl ?_
  rcases ite_inv hF with ⟨hc, hF⟩ | ⟨hc, hF⟩
  · refine x_if_ge 21 10 dJ9_floorDiv_7cf53_7 (by decide) rfl (fun _ => ?_) (fun q => absurd hc q)
    refine x_iload_n 22 0 dJ9_floorDiv_7cf53_21 rfl rfl ?_
    cases hF
    exact x_iret rfl rfl (by decide) (by decide) dJ9_floorDiv_7cf53_22
  · refine x_if_ge 21 10 dJ9_floorDiv_7cf53_7 (by decide) rfl (fun q => absurd q hc) (fun _ => ?_)
    refine x_iload_n 11 0 dJ9_floorDiv_7cf53_10 rfl rfl ?_
    refine x_iload_n 12 2 dJ9_floorDiv_7cf53_11 rfl rfl ?_
    refine x_imul 13 dJ9_floorDiv_7cf53_12 rfl ?_
    refine x_iload_n 14 1 dJ9_floorDiv_7cf53_13 rfl rfl ?_
    rcases ite_inv hF with ⟨hc, hF⟩ | ⟨hc, hF⟩
    · refine x_icmp_eq 21 17 dJ9_floorDiv_7cf53_14 (by decide) rfl (fun _ => ?_) (fun q => absurd hc q)
      refine x_iload_n 22 0 dJ9_floorDiv_7cf53_21 rfl rfl ?_
      cases hF
      exact x_iret rfl rfl (by decide) (by decide) dJ9_floorDiv_7cf53_22
    · refine x_icmp_eq 21 17 dJ9_floorDiv_7cf53_14 (by decide) rfl (fun q => absurd q hc) (fun _ => ?_)
      refine x_iload_n 18 0 dJ9_floorDiv_7cf53_17 rfl rfl ?_
      refine x_iconst 19 (1 : Int32) dJ9_floorDiv_7cf53_18 rfl (by decide) ?_
      refine x_isub 20 dJ9_floorDiv_7cf53_19 rfl ?_
      cases hF
      exact x_iret rfl rfl (by decide) (by decide) dJ9_floorDiv_7cf53_20
def rmJ9_min_7cf53 : Room := { frames := 0, cells := 0, slots := 0, locals := 0 }
theorem qyJ9_min_7cf53 : qY yJ9_min_7cf53 cJ9_min_7cf53 2 (some .int) 2 := ⟨wd_395, wd_28, by decide +kernel, by decide +kernel, by decide +kernel⟩
set_option maxHeartbeats 4000000 in
set_option maxRecDepth 100000 in
theorem mJ9_min_7cf53 {l : Launch} {G : qG} (hst : l.stackTraces = false) (p0 : Int32) (p1 : Int32) (σ : qH) (n : Option Nat) (ro : Int32) (hF : FJ9_min_7cf53 p0 p1 σ = some ro) : qM l G yJ9_min_7cf53 cJ9_min_7cf53 2 (some .int) rmJ9_min_7cf53 [.int p0, .int p1] σ n (.inl (some (.int ro), σ, n)) := by
  refine q_body (own := RJ9) (nm := "min") (ls := [(0, .int p0), (1, .int p1)]) hst (by decide +kernel) rfl rfl (Nat.le_of_ble_eq_true rfl) rfl rfl rfl ?_
  unfold FJ9_min_7cf53 at hF
  refine x_iload_n 1 0 dJ9_min_7cf53_0 rfl rfl ?_
  refine x_iload_n 2 1 dJ9_min_7cf53_1 rfl rfl ?_
  obtain ⟨x1, h2, hF⟩ := b1_inv hF
  have hJ : qX l G RJ9 "min" cJ9_min_7cf53 2 (some .int) [] rmJ9_min_7cf53 0 0 (.inl (some (.int ro), σ, n)) 0 0 σ n 10 [] [.int x1] := by
    cases hF
    exact x_iret rfl rfl (by decide) (by decide) dJ9_min_7cf53_10
  have hF := h2
  rcases ite_inv hF with ⟨hc, hF⟩ | ⟨hc, hF⟩
  · refine x_icmp_gt 9 5 dJ9_min_7cf53_2 (by decide) rfl (fun _ => ?_) (fun q => absurd hc q)
    refine x_iload_n 10 1 dJ9_min_7cf53_9 rfl rfl ?_
    have e1 := Option.some.inj hF
    subst e1
    refine x_sub [] [] rfl ?_
    exact hJ
  · refine x_icmp_gt 9 5 dJ9_min_7cf53_2 (by decide) rfl (fun q => absurd q hc) (fun _ => ?_)
    refine x_iload_n 6 0 dJ9_min_7cf53_5 rfl rfl ?_
    refine x_goto 10 dJ9_min_7cf53_6 (by decide) ?_
    have e1 := Option.some.inj hF
    subst e1
    refine x_sub [] [] rfl ?_
    exact hJ
def rmJ9_max_7cf53 : Room := { frames := 0, cells := 0, slots := 0, locals := 0 }
theorem qyJ9_max_7cf53 : qY yJ9_max_7cf53 cJ9_max_7cf53 2 (some .int) 2 := ⟨wd_398, wd_28, by decide +kernel, by decide +kernel, by decide +kernel⟩
set_option maxHeartbeats 4000000 in
set_option maxRecDepth 100000 in
theorem mJ9_max_7cf53 {l : Launch} {G : qG} (hst : l.stackTraces = false) (p0 : Int32) (p1 : Int32) (σ : qH) (n : Option Nat) (ro : Int32) (hF : FJ9_max_7cf53 p0 p1 σ = some ro) : qM l G yJ9_max_7cf53 cJ9_max_7cf53 2 (some .int) rmJ9_max_7cf53 [.int p0, .int p1] σ n (.inl (some (.int ro), σ, n)) := by
  refine q_body (own := RJ9) (nm := "max") (ls := [(0, .int p0), (1, .int p1)]) hst (by decide +kernel) rfl rfl (Nat.le_of_ble_eq_true rfl) rfl rfl rfl ?_
  unfold FJ9_max_7cf53 at hF
  refine x_iload_n 1 0 dJ9_max_7cf53_0 rfl rfl ?_
  refine x_iload_n 2 1 dJ9_max_7cf53_1 rfl rfl ?_
  obtain ⟨x1, h2, hF⟩ := b1_inv hF
  have hJ : qX l G RJ9 "max" cJ9_max_7cf53 2 (some .int) [] rmJ9_max_7cf53 0 0 (.inl (some (.int ro), σ, n)) 0 0 σ n 10 [] [.int x1] := by
    cases hF
    exact x_iret rfl rfl (by decide) (by decide) dJ9_max_7cf53_10
  have hF := h2
  rcases ite_inv hF with ⟨hc, hF⟩ | ⟨hc, hF⟩
  · refine x_icmp_lt 9 5 dJ9_max_7cf53_2 (by decide) rfl (fun _ => ?_) (fun q => absurd hc q)
    refine x_iload_n 10 1 dJ9_max_7cf53_9 rfl rfl ?_
    have e1 := Option.some.inj hF
    subst e1
    refine x_sub [] [] rfl ?_
    exact hJ
  · refine x_icmp_lt 9 5 dJ9_max_7cf53_2 (by decide) rfl (fun q => absurd q hc) (fun _ => ?_)
    refine x_iload_n 6 0 dJ9_max_7cf53_5 rfl rfl ?_
    refine x_goto 10 dJ9_max_7cf53_6 (by decide) ?_
    have e1 := Option.some.inj hF
    subst e1
    refine x_sub [] [] rfl ?_
    exact hJ
