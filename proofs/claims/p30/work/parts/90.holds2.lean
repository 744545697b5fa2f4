/-! p30: what holds in each parish: the steeples, and all together. -/
theorem Wg_b {A : AS} (hA : okA A) {s : Nat} : Wg A s ≤ 224 := by
  have h16 : nM A ≤ 16 := hA.1
  have h := fsm_b (f := fun k => if mk A k 0 = s then wt A (mk A k) else 0) (b := 14) (nM A) (fun k hk => by
    show (if mk A k 0 = s then wt A (mk A k) else 0) ≤ 14
    have := wt_b hA hk
    split <;> omega)
  have e : Wg A s ≤ nM A * 14 := h
  have : nM A * 14 ≤ 16 * 14 := Nat.mul_le_mul_right _ h16
  omega
theorem Ms_b {A : AS} {s : Nat} : Ms A s ≤ nM A := by
  have h := fsm_b (f := fun k => if mk A k 0 = s then 1 else 0) (b := 1) (nM A) (fun k hk => by
    show (if mk A k 0 = s then 1 else 0) ≤ 1
    split <;> omega)
  have e : Ms A s ≤ nM A * 1 := h
  omega
theorem Ms_0 {A : AS} {s : Nat} (h : Ms A s = 0) : ∀ k, k < nM A → mk A k 0 ≠ s := fun k hk z => by
  have := fb_sm_zero h k hk
  have e : (if mk A k 0 = s then 1 else 0) = 0 := this
  rw [if_pos z] at e
  omega
section H502
variable {tst : Nat → Nat} {p : Nat} {S : SS} {σ0 : qH} {x2 x3 x4 x5 x6 x7 x9 : Int32}
theorem h502 (hA : okA S.1) {X : Nat} (hX : X < 2 ^ 31) : ∀ (d s r : Nat), s + d = 3 → Ht (At σ0 p S) (At σ0 p S) (FL_holds_L502 tst p (nI X) x2 x3 x4 x5 x6 x7 x9 (d + 1 + r) 1 (nI s)) (fun z => (1, z))
  | 0, s, r, h => by
    have e : s = 3 := by omega
    subst e
    rw [show 0 + 1 + r = r + 1 by omega]
    refine ht_eq (fun σ => FL_holds_L502.eq_2 ..) ?_
    refine ht_pos (by decide) ?_
    exact ht_ret
  | d + 1, s, r, h => by
    have hs : s < 3 := by omega
    have h16 : nM S.1 ≤ 16 := hA.1
    have e999 : irm (nI X) (999 : Int32) = nI (X % 999) := irm_n (d := 999) hX (by omega) (by omega)
    obtain ⟨b1', b2', b3, b4, b5, b6, b7, b8⟩ := best_f S.1 s
    have tb : top S.1 s ≤ 224 := vot_b hA
    have wb := Wg_b hA (s := s)
    have mb := Ms_b (A := S.1) (s := s)
    rw [show d + 1 + 1 + r = (d + 1 + r) + 1 by omega]
    refine ht_eq (fun σ => FL_holds_L502.eq_2 ..) ?_
    simp only [e999, one_p]
    obtain ⟨H, hH⟩ : ∃ H, H = 1 + X % 999 := ⟨_, rfl⟩
    have hH1 : 1 ≤ H := by omega
    have hH2 : H ≤ 999 := by omega
    rw [← hH]
    have vb : vot S.1 s H ≤ 224 := vot_b hA
    refine ht_neg (fun z => absurd ((nI_leI (a := 3) (by omega) (by omega)).mp z) (by omega)) ?_
    refine ht_neg (by decide) ?_
    refine ht_seq (o_be0 hs i01 σ0) ?_
    refine ht_seq (o_be1 hs i01 σ0) ?_
    refine ht_seq (o_be2 hs i01 σ0) ?_
    refine ht_seq (o_vote hs hH1 hH2 σ0) ?_
    refine ht_seq (o_against hs σ0) ?_
    refine ht_seq (o_be0 hs i11 σ0) ?_
    refine ht_seq (K := At σ0 p S) (v := 1) ?_ ?_
    · refine ht_pos rfl ?_
      refine ht_seq (o_be1 hs i11 σ0) ?_
      refine ht_pos rfl ?_
      refine ht_seq (o_be2 hs i11 σ0) ?_
      refine ht_pos rfl ?_
      refine ht_neg (fun z => absurd ((nI_ltI (b := 1) (by omega) (by omega)).mp z) (by omega)) ?_
      refine ht_neg (fun z => absurd ((nI_ltI (by omega) (by omega)).mp z) (by omega)) ?_
      refine ht_neg (fun z => absurd ((nI_ltI (a := 999) (by omega) (by omega)).mp z) (by omega)) ?_
      refine ht_seq (o_vote hs b1' (by omega) σ0) ?_
      refine ht_pos rfl ?_
      refine ht_seq (o_vote hs (by omega) b3 σ0) ?_
      refine ht_pos (by rw [b4]) ?_
      refine ht_bcu ?_ ?_
      · by_cases c1 : vot S.1 s H < top S.1 s
        · rw [if_pos ((nI_ltI (by omega) (by omega)).mpr c1)]
        · have e : vot S.1 s H = top S.1 s := by have := b5 H hH1 hH2; omega
          rw [if_neg (fun z => c1 ((nI_ltI (by omega) (by omega)).mp z)), if_pos (by rw [e]), if_neg (fun z => by
            have := (nI_ltI (by omega) (by omega)).mp z
            have := b6 H hH1 this
            omega)]
      refine ht_bcu ?_ ?_
      · by_cases c1 : H < low S.1 s
        · rw [if_pos ((nI_ltI (by omega) (by omega)).mpr c1)]
        · by_cases c2 : hig S.1 s < H
          · rw [if_neg (fun z => c1 ((nI_ltI (by omega) (by omega)).mp z)), if_pos ((nI_ltI (by omega) (by omega)).mpr c2)]
          · rw [if_neg (fun z => c1 ((nI_ltI (by omega) (by omega)).mp z)), if_neg (fun z => c2 ((nI_ltI (by omega) (by omega)).mp z)), if_pos (by rw [b7 H (by omega) (by omega)])]
      refine ht_bc (K := At σ0 p S) ?_ ?_
      · by_cases c1 : hig S.1 s = 999
        · refine ht_pos ((nI_eq (b := 999) (by omega) (by omega)).mpr c1) ?_
          exact ht_ret
        · refine ht_neg (fun z => c1 ((nI_eq (b := 999) (by omega) (by omega)).mp z)) ?_
          rw [nI_1]
          have hb : vot S.1 s (hig S.1 s + 1) < top S.1 s := by
            rcases b8 with e | e
            · exact absurd e c1
            · exact e
          refine ht_seq (o_vote hs (by omega) (by omega) σ0) ?_
          refine ht_neg (fun z => absurd ((nI_leI (by omega) (by omega)).mp z) (by omega)) ?_
          exact ht_ret
      refine ht_seq (o_se2 hs σ0) ?_
      refine ht_neg (fun z => absurd ((nI_ltI (by omega) (by omega)).mp z) (by
        have : vot S.1 s (low S.1 s) ≤ Wg S.1 s := vot_w
        have e : top S.1 s = vot S.1 s (low S.1 s) := rfl
        omega)) ?_
      refine ht_bc (K := At σ0 p S) ?_ ?_
      · have hg := ag_L (A := S.1) (s := s) (x := low S.1 s) (nM S.1) 0 none (by omega) (fun j hj => by cases hj)
        rcases opt_or (agL S.1 s (low S.1 s) (nM S.1) 0 none) with e | ⟨j, e⟩
        · rw [e]
          refine ht_pos rfl ?_
          exact ht_ret
        · obtain ⟨g1, g2, g3⟩ := hg j e
          have bj := mk_b hA g1
          have ej : enc (some j) = nI j := rfl
          rw [e, ej]
          refine ht_neg (nI_neg1 (by omega)) ?_
          refine ht_seq (o_of0 g1 σ0) ?_
          refine ht_pos (by rw [g2]) ?_
          refine ht_seq (o_of7 g1 σ0) ?_
          by_cases c1 : low S.1 s < lst (mk S.1 j)
          · refine ht_pos ((nI_ltI (by omega) (by omega)).mpr c1) ?_
            exact ht_ret
          · refine ht_neg (fun z => c1 ((nI_ltI (by omega) (by omega)).mp z)) ?_
            refine ht_seq (o_of8 g1 σ0) ?_
            refine ht_neg (fun z => g3 ⟨by omega, (nI_leI (by omega) (by omega)).mp z⟩) ?_
            exact ht_ret
      refine ht_seq (o_se0 hs σ0) ?_
      by_cases c0 : Ms S.1 s = 0
      · obtain ⟨z1, z2, z3⟩ := best_0 (Ms_0 c0)
        refine ht_neg (fun z => absurd ((nI_ltI (a := 0) (by omega) (by omega)).mp z) (by omega)) ?_
        refine ht_pos (by rw [z1]; rfl) ?_
        refine ht_pos (by rw [z2]; rfl) ?_
        refine ht_pos (show nI (top S.1 s) = 0 by rw [z3]; rfl) ?_
        exact ht_ret
      · refine ht_pos ((nI_ltI (a := 0) (by omega) (by omega)).mpr (by omega)) ?_
        exact ht_ret
    · rw [nI_1]
      exact h502 hA hX d (s + 1) r (by omega)
end H502
section LU
variable {tst : Nat → Nat} {p : Nat} {S : SS} {b c : Int32}
abbrev Pq (A : AS) : Nat := prs (fun i j => quar (mk A i) (mk A j)) (nM A)
abbrev Pm (A : AS) : Nat := prs (fun i j => matt A (mk A i) (mk A j)) (nM A)
theorem o_ab1 : Op p S S (FL_call tst p 2 1 b c) (nI (aCm S.1)) := o_about (i := 1) (by omega)
theorem o_ab4 : Op p S S (FL_call tst p 2 4 b c) (nI (Pq S.1)) := o_about (i := 4) (by omega)
theorem o_ab5 : Op p S S (FL_call tst p 2 5 b c) (nI (Pm S.1)) := o_about (i := 5) (by omega)
theorem o_ab6 : Op p S S (FL_call tst p 2 6 b c) (nI (fb_sm (aT S.1) 6)) := o_about (i := 6) (by omega)
theorem o_ab7 : Op p S S (FL_call tst p 2 7 b c) (nI (aLo S.1)) := o_about (i := 7) (by omega)
theorem o_ab8 : Op p S S (FL_call tst p 2 8 b c) (nI (fb_sm (aRt S.1) 6)) := o_about (i := 8) (by omega)
theorem o_ab9 : Op p S S (FL_call tst p 2 9 b c) (nI (fb_sm (aWr S.1) 6)) := o_about (i := 9) (by omega)
end LU
theorem Nq_2 {A : AS} (hA : okA A) : fb_sm (Nq A) (nM A) = 2 * Pq A := prs_2 (p := fun i j => quar (mk A i) (mk A j)) (fun i j => quar_s) (fun i z => z.1 rfl) (nM A)
theorem Qt_s {A : AS} (hA : okA A) : fb_sm (Qt A) 6 = fb_sm (Nq A) (nM A) := fsm_split (j := 1) (fun k hk => (mk_b hA hk).2.1)
theorem Mt_s {A : AS} (hA : okA A) : fb_sm (Mt A) 6 = nM A := by
  have h := fsm_split (A := A) (q := fun _ => 1) (j := 1) (n := 6) (fun k hk => (mk_b hA hk).2.1)
  rw [fb_sm_const, Nat.mul_one] at h
  exact h
theorem Ms_s {A : AS} (hA : okA A) : Ms A 0 + Ms A 1 + Ms A 2 = nM A := by
  have h := fsm_split (A := A) (q := fun _ => 1) (j := 0) (n := 3) (fun k hk => (mk_b hA hk).1)
  rw [fb_sm_const, Nat.mul_one] at h
  have e : fb_sm (Ms A) 3 = Ms A 0 + Ms A 1 + Ms A 2 := by simp [fb_sm]
  rw [← e]; exact h
theorem Pm_le {A : AS} : Pm A ≤ Pq A := prs_le fun i j h => ⟨h.1, h.2.1, by have := h.2.2; omega⟩
theorem tr_0 {A : AS} {c : Nat} (h : ivA c A) (hc : c ≤ 1000) : trL A 6 0 none = none ↔ fb_sm (aRt A) 6 + fb_sm (aWr A) 6 = 0 := by
  have hb := h.2.2.2
  have key : ∀ u, u < 6 → (cS A u ≤ 0 ↔ aRt A u + aWr A u = 0) := fun u hu => by
    have := hb u hu
    have e : cS A u = nI (aRt A u + aWr A u) := nI_add _ _
    rw [e]; exact nI_le0 (by omega)
  rw [tr_none, ← fb_sm_add]
  constructor
  · intro h1
    have e : fb_sm (fun k => aRt A k + aWr A k) 6 = fb_sm (fun _ => 0) 6 := fsm_c fun k hk => (key k hk).mp (h1 k (by omega) (by omega))
    rw [e]; rfl
  · intro h1 u _ hu
    exact (key u (by omega)).mpr (fb_sm_zero h1 u (by omega))
set_option maxHeartbeats 4000000 in
theorem holds_e {tst : Nat → Nat} {p : Nat} {S : SS} {c X : Nat} (hS : ivS c S) (hc : c ≤ 1000) (hX : X < 2 ^ 31) : Op p S S (FL_holds tst p (nI X)) 1 := by
  intro σ0
  have hA := hS.1.1
  have h16 : nM S.1 ≤ 16 := hA.1
  have hcm := hS.1.2.1
  have hcc := hS.1.2.2.1
  have pq : Pq S.1 ≤ 256 := prs_b h16
  have pm := Pm_le (A := S.1)
  have rb : fb_sm (aRt S.1) 6 ≤ 6 * (16 * c) := fb_sm_bound fun k hk => by have := hS.1.2.2.2 k hk; omega
  have wb : fb_sm (aWr S.1) 6 ≤ 6 * (16 * c) := fb_sm_bound fun k hk => by have := hS.1.2.2.2 k hk; omega
  refine ht_eq (fun σ => FL_holds.eq_1 tst p (nI X) σ) ?_
  refine ht_seq (o_ab0 σ0) ?_
  refine ht_seq (K := At σ0 p S) (v := 1) ?_ ?_
  · refine ht_neg (fun z => absurd ((nI_ltI (a := 16) (by omega) (by omega)).mp z) (by omega)) ?_
    refine ht_seq (o_ab1 σ0) ?_
    refine ht_neg (fun z => absurd ((nI_ltI (by omega) (by omega)).mp z) (by omega)) ?_
    exact ht_ret
  obtain ⟨r2, hr2⟩ : ∃ r2, 20 = nM S.1 + 1 + r2 := ⟨19 - nM S.1, by omega⟩
  have h1 := h51 (tst := tst) (σ0 := σ0) (p := p) (x1 := nI X) (x4 := 0) (x5 := 0) (x6 := 0) (x7 := 0) hA (nM S.1) 0 r2 (by omega)
  rw [← hr2] at h1
  refine ht_seq3 h1 ?_
  refine ht_seq7 (h378 hA 6 0 13 (by omega)) ?_
  refine ht_seq (h502 hA hX 3 0 16 (by omega)) ?_
  refine ht_seq (K := At σ0 p S) (v := 1) ?_ ?_
  · refine ht_neg (by decide) ?_
    refine ht_seq (o_ab4 σ0) ?_
    refine ht_pos (by rw [Nq_2 hA]; exact (pk_mul 2 _).symm) ?_
    refine ht_pos (by rw [Qt_s hA]) ?_
    refine ht_seq (o_ab5 σ0) ?_
    refine ht_seq (o_ab4 σ0) ?_
    refine ht_neg (fun z => absurd ((nI_ltI (by omega) (by omega)).mp z) (by omega)) ?_
    refine ht_seq (o_ab6 σ0) ?_
    refine ht_pos rfl ?_
    refine ht_seq (o_ab8 σ0) ?_
    refine ht_pos rfl ?_
    refine ht_seq (o_ab9 σ0) ?_
    refine ht_pos rfl ?_
    refine ht_pos (by rw [Mt_s hA]) ?_
    refine ht_seq (o_se0 (s := 0) (by omega) σ0) ?_
    refine ht_seq (o_se0 (s := 1) (by omega) σ0) ?_
    refine ht_seq (o_se0 (s := 2) (by omega) σ0) ?_
    refine ht_pos (by rw [nI_add, nI_add, Ms_s hA]) ?_
    refine ht_b1 (fun σ hσ => truest_e hσ.1) ?_
    have t0 := tr_0 hS.1 hc
    by_cases hn : trL S.1 6 0 none = none
    · rw [hn]
      refine ht_b1c (v := 1) (if_pos rfl) ?_
      refine ht_b1c (v := 1) (by rw [nI_add, t0.mp hn]; rfl) ?_
      refine ht_pos rfl ?_
      exact ht_ret
    · rcases opt_or (trL S.1 6 0 none) with e | ⟨j, e⟩
      · exact absurd e hn
      · have j6 := tr_6 (A := S.1) 6 0 none (by omega) (fun j hj => by cases hj) j e
        rw [e]
        refine ht_b1c (v := 0) (if_neg (enc_n j6)) ?_
        refine ht_b1c (v := 0) (by rw [nI_add, if_neg (fun z => hn (t0.mpr ((nI_is0 (by omega)).mp z)))]) ?_
        refine ht_pos rfl ?_
        exact ht_ret
  refine ht_pos (Or.inr rfl) ?_
  exact ht_ret
