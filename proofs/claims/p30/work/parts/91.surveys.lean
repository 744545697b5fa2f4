/-! p30: an evening, a survey, and their undo, in two objects. -/
theorem nI_subn {a b : Nat} (h : b ≤ a) : nI a - nI b = nI (a - b) := by
  have e : nI a = nI (a - b) + nI b := by rw [nI_add, Nat.sub_add_cancel h]
  rw [e, Int32.add_sub_cancel]
theorem thrown_n {n : Nat} {σ : qH} (h : n < 2 ^ 31) : FL_thrown (nI n) σ = some 0 := by
  have ne : ∀ z : Int32, z.toInt < 0 → ¬ nI n = z := fun z hz e => by
    rw [← e, nI_toInt h] at hz; omega
  unfold FL_thrown
  rw [if_neg (ne _ (by decide)), if_neg (ne _ (by decide)), if_neg (ne _ (by decide)), b1_s, if_pos (Or.inl rfl)]
section EV
variable {p : Nat} {A : AS} {L : List AS} {K : Nat → Option AS}
theorem o_evening_n (hA : okA A) : Op p (A, L, K) (eve A, A :: L.take 13, K) (FX6_evening p) (nI (aLo (eve A) - aLo A)) := by
  have h := o_evening (p := p) (S := (A, L, K))
  have e : nI (aLo (eve A)) - nI (aLo A) = nI (aLo (eve A) - aLo A) := nI_subn (eve_M hA).2.1
  have h' : Op p (A, L, K) (eve A, A :: L.take 13, K) (FX6_evening p) (nI (aLo (eve A)) - nI (aLo A)) := h
  rw [e] at h'
  exact h'
theorem o_survey_n {tst : Nat → Nat} {c : Int32} {s x : Nat} (hs3 : s < 3) (h1 : 1 ≤ x) (h2 : x ≤ 999) : Op p (A, L, K) ((srv A s x).2, A :: L.take 13, K) (FL_call tst p 11 (nI s) (nI x) c) (nI (srv A s x).1) := o_survey hs3 h1 h2
theorem o_drop_n {tst : Nat → Nat} {b c : Int32} {k : Nat} (hk : k < nM A) : Op p (A, L, K) (drpA A k, A :: L.take 13, K) (FL_call tst p 9 (nI k) b c) (nI (nM A - 1)) := o_drop (S := (A, L, K)) hk
theorem o_trust_n {tst : Nat → Nat} {c : Int32} {t v : Nat} (ht : t < 6) (hv : v ≤ 9) : Op p (A, L, K) (truA A t v, A :: L.take 13, K) (FL_call tst p 10 (nI t) (nI v) c) (nI (aT A t)) := o_trust (S := (A, L, K)) ht hv
end EV
section S224
variable {tst : Nat → Nat} {p q : Nat} {S T : SS} {σ0 : qH} {x3 x8 x11 : Int32}
theorem s224 (hd : Apt p q) (hA : okA S.1) {s H : Nat} (hs : s < 3) (h1 : 1 ≤ H) (h2 : H ≤ 999) : ∀ (d k r : Nat), k + d = nM S.1 → Ht (At2 σ0 p q S T) (At2 σ0 p q S T) (FL_surveys_L224 tst p q x3 (nI (nM S.1)) x8 (nI s) (nI H) x11 (d + 1 + r) (nI (fb_sm (fun k => rgt s H (mk S.1 k)) k)) (nI k)) (fun z => (nI (fb_sm (fun k => rgt s H (mk S.1 k)) (nM S.1)), z))
  | 0, k, r, h => by
    have h16 : nM S.1 ≤ 16 := hA.1
    have e : k = nM S.1 := by omega
    subst e
    rw [show 0 + 1 + r = r + 1 by omega]
    refine ht_eq (fun σ => FL_surveys_L224.eq_2 ..) ?_
    refine ht_pos ((nI_leI (by omega) (by omega)).mpr (Nat.le_refl _)) ?_
    exact ht_ret
  | d + 1, k, r, h => by
    have h16 : nM S.1 ≤ 16 := hA.1
    have hk : k < nM S.1 := by omega
    have bk := mk_b hA hk
    rw [show d + 1 + 1 + r = (d + 1 + r) + 1 by omega]
    refine ht_eq (fun σ => FL_surveys_L224.eq_2 ..) ?_
    refine ht_neg (fun z => absurd ((nI_leI (by omega) (by omega)).mp z) (by omega)) ?_
    refine ht_seq (op_p hd (o_of0 hk) σ0) ?_
    refine ht_seq (K := At2 σ0 p q S T) (v := nI (rgt s H (mk S.1 k))) ?_ ?_
    · by_cases c0 : mk S.1 k 0 = s
      · refine ht_pos (by rw [c0]) ?_
        refine ht_seq (op_p hd (o_of7 hk) σ0) ?_
        by_cases c1 : H < lst (mk S.1 k)
        · refine ht_pos ((nI_ltI (by omega) (by omega)).mpr c1) ?_
          have e : rgt s H (mk S.1 k) = 0 := if_neg (fun z => by have := z.2.1; omega)
          rw [e]; exact ht_ret
        · refine ht_neg (fun z => c1 ((nI_ltI (by omega) (by omega)).mp z)) ?_
          refine ht_seq (op_p hd (o_of8 hk) σ0) ?_
          by_cases c2 : gst (mk S.1 k) < H
          · refine ht_pos ((nI_ltI (by omega) (by omega)).mpr c2) ?_
            have e : rgt s H (mk S.1 k) = 0 := if_neg (fun z => by have := z.2.2; omega)
            rw [e]; exact ht_ret
          · refine ht_neg (fun z => c2 ((nI_ltI (by omega) (by omega)).mp z)) ?_
            have e : rgt s H (mk S.1 k) = 1 := if_pos ⟨c0, by omega, by omega⟩
            rw [e]; exact ht_ret
      · refine ht_neg (fun z => c0 ((nI_eq (by omega) (by omega)).mp z)) ?_
        have e : rgt s H (mk S.1 k) = 0 := if_neg (fun z => c0 z.1)
        rw [e]; exact ht_ret
    · rw [nI_add, nI_1]
      exact s224 hd hA hs h1 h2 d (k + 1) r (by omega)
end S224
theorem Ms_l {A : AS} {s : Nat} : Ms A s = sumL (own s) (aM A) := sm_mk (fun m => if m 0 = s then 1 else 0)
theorem filt_0 {A B : AS} {s : Nat} (h : aM B = (aM A).filter (fun m => decide (m 0 ≠ s))) : ∀ k, k < nM B → mk B k 0 ≠ s := fun k hk => by
  have := mk_mem hk
  rw [h] at this
  exact of_decide_eq_true (List.mem_filter.mp this).2
set_option maxHeartbeats 4000000 in
theorem lsurv_e {tst : Nat → Nat} {p q : Nat} {A : AS} {L : List AS} {K : Nat → Option AS} {X : Nat} (hd : Apt p q) (hA : okA A) (hX : X < 2 ^ 31) : Tw p q (A, L, K) (A, L, K) (A, (L.take 13).take 13, K) (A, (L.take 13).take 13, K) (FL_surveys tst p q (nI X)) 1 := by
  intro σ0
  have h16 : nM A ≤ 16 := hA.1
  have dv : ∀ {a d : Nat}, a < 2 ^ 31 → 0 < d → d < 2 ^ 31 → nI a / nI d = nI (a / d) := fun ha h0 hd => pk_div ha h0 hd
  have d3 : nI X / (3 : Int32) = nI (X / 3) := dv (d := 3) hX (by omega) (by omega)
  have d18 : nI X / (18 : Int32) = nI (X / 18) := dv (d := 18) hX (by omega) (by omega)
  have d9 : nI X / (9 : Int32) = nI (X / 9) := dv (d := 9) hX (by omega) (by omega)
  have r3 : irm (nI X) (3 : Int32) = nI (X % 3) := irm_n (d := 3) hX (by omega) (by omega)
  have r33 : irm (nI (X / 3)) (3 : Int32) = nI (X / 3 % 3) := irm_n (d := 3) (by omega) (by omega) (by omega)
  have r999 : irm (nI (X / 18)) (999 : Int32) = nI (X / 18 % 999) := irm_n (d := 999) (by omega) (by omega) (by omega)
  have r2 : irm (nI (X / 9)) (2 : Int32) = nI (X / 9 % 2) := irm_n (d := 2) (by omega) (by omega) (by omega)
  obtain ⟨s, hs'⟩ : ∃ s, s = X % 3 := ⟨_, rfl⟩
  have hs : s < 3 := by omega
  obtain ⟨m1, m2, m3, m4, m5, m6, m7⟩ := eve_same hA
  have m8 := (eve_M hA).2.1
  have m9 := eve_lost hA
  have m10 := (eve_M hA).2.2
  have pq : Pq A ≤ 256 := prs_b h16
  have pm := Pm_le (A := A)
  have m9' : aLo (eve A) ≤ aLo A + Pm A := m9
  refine ht_eq (fun σ => FL_surveys.eq_1 tst p q (nI X) σ) ?_
  simp only [d3, d18, d9, r3, r33, r999, r2, one_p, ← hs']
  refine ht_seq (op_p hd o_ab6 σ0) ?_
  refine ht_seq (op_p hd o_ab7 σ0) ?_
  refine ht_seq (op_p hd o_ab5 σ0) ?_
  refine ht_seq (op_p hd o_ab0 σ0) ?_
  refine ht_seq (op_p hd (o_evening_n hA) σ0) ?_
  refine ht_seq (op_q hd (o_evening_n hA) σ0) ?_
  refine ht_seq (K := At2 σ0 p q (A, L.take 13, K) (A, L.take 13, K)) (v := 1) ?_ ?_
  · refine ht_pos rfl ?_
    refine ht_neg (fun z => absurd ((nI_ltI (b := 0) (by omega) (by omega)).mp z) (by omega)) ?_
    refine ht_neg (fun z => absurd ((nI_ltI (a := Pm A) (by omega) (by omega)).mp z) (by omega)) ?_
    refine ht_seq (op_p hd o_ab6 σ0) ?_
    refine ht_pos (by
      show nI (fb_sm (aT (eve A)) 6) = nI (fb_sm (aT A) 6) - nI (aLo (eve A) - aLo A)
      rw [nI_subn (by omega)]; congr 1; omega) ?_
    refine ht_seq (op_p hd o_ab7 σ0) ?_
    refine ht_pos (by
      show nI (aLo (eve A)) = nI (aLo A) + nI (aLo (eve A) - aLo A)
      rw [nI_add]; congr 1; omega) ?_
    refine ht_seq (op_p hd o_ab0 σ0) ?_
    refine ht_pos (by show nI (nM (eve A)) = nI (nM A); rw [nM_eq m1]) ?_
    have l13 : (L.take 13).length ≤ 13 := List.length_take_le 13 L
    refine ht_seq (op_p hd o_undo σ0) ?_
    refine ht_b1 (fun σ _ => thrown_n (by omega)) ?_
    refine ht_pos rfl ?_
    refine ht_seq (op_q hd o_undo σ0) ?_
    refine ht_b1 (fun σ _ => thrown_n (by omega)) ?_
    refine ht_pos rfl ?_
    refine ht_seq (op_p hd o_ab6 σ0) ?_
    refine ht_pos rfl ?_
    exact ht_ret
  obtain ⟨b1', b2', b3, -⟩ := best_f A s
  have key : ∃ H : Nat, 1 ≤ H ∧ H ≤ 999 ∧ Ht (At2 σ0 p q (A, L.take 13, K) (A, L.take 13, K)) (At2 σ0 p q (A, L.take 13, K) (A, L.take 13, K)) (fun s20 => if nI (X / 3 % 3) ≤ 0 then some (nI (1 + X / 18 % 999), s20) else b2 (FL_call tst p (7 : Int32) (nI s) (nI (X / 9 % 2)) (0 : Int32) s20) fun v46 s47 => some (v46, s47)) (fun z => (nI H, z)) := by
    by_cases c : X / 3 % 3 = 0
    · exact ⟨1 + X / 18 % 999, by omega, by omega, ht_pos ((nI_le0 (by omega)).mpr c) ht_ret⟩
    · rcases (show X / 9 % 2 = 0 ∨ X / 9 % 2 = 1 by omega) with e | e
      · refine ⟨low A s, by omega, by omega, ht_neg (fun z => c ((nI_le0 (by omega)).mp z)) ?_⟩
        rw [e]
        exact ht_seq (op_p hd (o_be0 hs i01) σ0) ht_ret
      · refine ⟨hig A s, by omega, by omega, ht_neg (fun z => c ((nI_le0 (by omega)).mp z)) ?_⟩
        rw [e]
        exact ht_seq (op_p hd (o_be1 hs i01) σ0) ht_ret
  obtain ⟨H, H1, H2, hH⟩ := key
  refine ht_seq hH ?_
  refine ht_seq (op_p hd (o_se0 hs) σ0) ?_
  obtain ⟨w, hw⟩ : ∃ w, 20 = nM A + 1 + w := ⟨19 - nM A, by omega⟩
  have hl := s224 (tst := tst) (p := p) (q := q) (S := (A, L.take 13, K)) (T := (A, L.take 13, K)) (σ0 := σ0) (x3 := nI (fb_sm (aT A) 6)) (x8 := 1) (x11 := nI (Ms A s)) hd hA hs H1 H2 (nM A) 0 w (Nat.zero_add (nM A))
  rw [← hw] at hl
  obtain ⟨f1, f2, f3, f4, f5, f6, -⟩ := srv_f (s := s) (x := H) hA
  have fr : fb_sm (fun k => rgt s H (mk A k)) (nM A) = sumL (rgt s H) (aM A) := sm_mk (rgt s H)
  have fo := Ms_l (A := A) (s := s)
  refine ht_seq hl ?_
  refine ht_seq (op_p hd o_ab8 σ0) ?_
  refine ht_seq (op_p hd o_ab9 σ0) ?_
  refine ht_seq (op_p hd (o_se1 hs) σ0) ?_
  have n0 := filt_0 (A := A) (B := (srv A s H).2) f4
  have lo := len_own s (aM A)
  refine ht_seq (K := At2 σ0 p q ((srv A s H).2, A :: (L.take 13).take 13, K) ((srv A s H).2, A :: (L.take 13).take 13, K)) (v := 1) ?_ ?_
  · refine ht_neg (by decide) ?_
    refine ht_seq (op_p hd (o_survey_n hs H1 H2) σ0) ?_
    refine ht_pos (by
      show nI (srv A s H).1 = nI (fb_sm (fun k => rgt s H (mk A k)) (nM A))
      rw [f1, fr]) ?_
    refine ht_seq (op_q hd (o_survey_n hs H1 H2) σ0) ?_
    refine ht_pos (by
      show nI (srv A s H).1 = nI (fb_sm (fun k => rgt s H (mk A k)) (nM A))
      rw [f1, fr]) ?_
    refine ht_seq (op_p hd o_ab8 σ0) ?_
    refine ht_pos (by
      show nI (fb_sm (aRt (srv A s H).2) 6) = nI (fb_sm (aRt A) 6) + nI (fb_sm (fun k => rgt s H (mk A k)) (nM A))
      rw [nI_add, fr, f2]) ?_
    refine ht_seq (op_p hd o_ab9 σ0) ?_
    refine ht_pos (by
      show nI (fb_sm (aWr (srv A s H).2) 6) = nI (fb_sm (aWr A) 6) + nI (Ms A s) - nI (fb_sm (fun k => rgt s H (mk A k)) (nM A))
      rw [nI_add, fr, nI_subn (by omega)]; congr 1; omega) ?_
    refine ht_seq (op_p hd (o_se0 hs) σ0) ?_
    refine ht_pos (by
      show nI (Ms (srv A s H).2 s) = 0
      have e : Ms (srv A s H).2 s = fb_sm (fun _ => 0) (nM (srv A s H).2) := fsm_c fun k hk => if_neg (n0 k hk)
      rw [e, fb_sm_const, Nat.mul_zero]; rfl) ?_
    refine ht_seq (op_p hd (o_se1 hs) σ0) ?_
    refine ht_pos (by
      show aSv (srv A s H).2 s = nI H
      rw [f6]; exact if_pos rfl) ?_
    refine ht_seq (op_p hd o_ab0 σ0) ?_
    refine ht_pos (by
      show nI (nM (srv A s H).2) = nI (nM A) - nI (Ms A s)
      have e : nM (srv A s H).2 = ((aM A).filter (fun m => decide (m 0 ≠ s))).length := by show (aM (srv A s H).2).length = _; rw [f4]
      have e2 : nM A = (aM A).length := rfl
      rw [nI_subn (by omega)]; congr 1; omega) ?_
    refine ht_seq (op_p hd (o_be1 hs i11) σ0) ?_
    refine ht_pos (by
      show nI (hig (srv A s H).2 s) = 999
      rw [(best_0 n0).2.1]; rfl) ?_
    exact ht_ret
  refine ht_seq (K := At2 σ0 p q (A, (L.take 13).take 13, K) (A, (L.take 13).take 13, K)) (v := 1) ?_ ?_
  · refine ht_neg (by decide) ?_
    have l13 : ((L.take 13).take 13).length ≤ 13 := List.length_take_le 13 _
    refine ht_seq (op_p hd o_undo σ0) ?_
    refine ht_b1 (fun σ _ => thrown_n (by omega)) ?_
    refine ht_pos rfl ?_
    refine ht_seq (op_q hd o_undo σ0) ?_
    refine ht_b1 (fun σ _ => thrown_n (by omega)) ?_
    refine ht_pos rfl ?_
    refine ht_seq (op_p hd (o_se0 hs) σ0) ?_
    refine ht_pos rfl ?_
    refine ht_seq (op_p hd (o_se1 hs) σ0) ?_
    refine ht_pos rfl ?_
    refine ht_seq (op_p hd o_ab6 σ0) ?_
    refine ht_pos rfl ?_
    exact ht_ret
  refine ht_pos (Or.inr rfl) ?_
  exact ht_ret
