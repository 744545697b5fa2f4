/-! p30: two objects in one state answer alike. -/
section SM
variable {tst : Nat → Nat} {S : SS} {x y b c : Int32}
theorem sm_2 : ∃ v, ∀ p, Op p S S (FL_call tst p 2 x b c) v := by
  by_cases h : inZ x 0 9
  · obtain ⟨i, rfl, i1, i2⟩ := inZ_n h (by omega)
    exact ⟨_, fun p => o_about (by omega)⟩
  · exact ⟨_, fun p => r_about h⟩
theorem sm_3 : ∃ v, ∀ p, Op p S S (FL_call tst p 3 x y c) v := by
  by_cases h : inZ x 0 ((nM S.1 : Int) - 1)
  · by_cases h2 : inZ y 0 10
    · obtain ⟨k, rfl, k1, k2⟩ := inZ_n h (by omega)
      obtain ⟨i, rfl, i1, i2⟩ := inZ_n h2 (by omega)
      exact ⟨_, fun p => o_of (by omega) (by omega)⟩
    · exact ⟨_, fun p => r_of2 h h2⟩
  · exact ⟨_, fun p => r_of1 h⟩
theorem sm_4 : ∃ v, ∀ p, Op p S S (FL_call tst p 4 x y c) v := by
  by_cases h : inZ x 0 5
  · by_cases h2 : inZ y 0 4
    · obtain ⟨k, rfl, k1, k2⟩ := inZ_n h (by omega)
      obtain ⟨i, rfl, i1, i2⟩ := inZ_n h2 (by omega)
      exact ⟨_, fun p => o_te (by omega) (by omega)⟩
    · exact ⟨_, fun p => r_te2 h h2⟩
  · exact ⟨_, fun p => r_te1 h⟩
theorem sm_5 : ∃ v, ∀ p, Op p S S (FL_call tst p 5 x y c) v := by
  by_cases h : inZ x 0 2
  · by_cases h2 : inZ y 0 2
    · obtain ⟨k, rfl, k1, k2⟩ := inZ_n h (by omega)
      obtain ⟨i, rfl, i1, i2⟩ := inZ_n h2 (by omega)
      exact ⟨_, fun p => o_se (by omega) (by omega)⟩
    · exact ⟨_, fun p => r_se2 h h2⟩
  · exact ⟨_, fun p => r_se1 h⟩
theorem sm_17 : ∃ v, ∀ p, Op p S S (FL_call tst p 17 x y c) v := by
  by_cases h : inZ x 0 5
  · by_cases h2 : inZ y 0 2
    · obtain ⟨k, rfl, k1, k2⟩ := inZ_n h (by omega)
      obtain ⟨i, rfl, i1, i2⟩ := inZ_n h2 (by omega)
      exact ⟨_, fun p => o_swings (by omega) (by omega)⟩
    · exact ⟨_, fun p => r_sw2 h h2⟩
  · exact ⟨_, fun p => r_sw1 h⟩
end SM
theorem alike_L {tst : Nat → Nat} {p q : Nat} {S : SS} {x : Int32} (hd : Apt p q) (σ0 : qH) : ∀ (d k r : Nat), k + d = 16 → Ht (At2 σ0 p q S S) (At2 σ0 p q S S) (FL_alike_L47 tst p q x (d + 1 + r) 1 (nI k)) (fun s => (1, s))
  | 0, k, r, h => by
    rw [show 0 + 1 + r = r + 1 by omega]
    refine ht_eq (fun σ => FL_alike_L47.eq_2 ..) ?_
    refine ht_pos ((nI_leI (a := 16) (by omega) (by omega)).mpr (by omega)) ?_
    exact ht_ret
  | d + 1, k, r, h => by
    rw [show d + 1 + 1 + r = (d + 1 + r) + 1 by omega]
    refine ht_eq (fun σ => FL_alike_L47.eq_2 ..) ?_
    refine ht_neg (fun z => absurd ((nI_leI (a := 16) (by omega) (by omega)).mp z) (by omega)) ?_
    refine ht_neg (by decide) ?_
    obtain ⟨v2, o2⟩ := sm_2 (tst := tst) (S := S) (x := nI k) (b := 0) (c := 0)
    obtain ⟨v3, o3⟩ := sm_3 (tst := tst) (S := S) (x := nI k) (y := irm x 11) (c := 0)
    obtain ⟨v4, o4⟩ := sm_4 (tst := tst) (S := S) (x := nI k) (y := irm x 5) (c := 0)
    obtain ⟨v5, o5⟩ := sm_5 (tst := tst) (S := S) (x := nI k) (y := irm x 3) (c := 0)
    obtain ⟨v6, o6⟩ := sm_17 (tst := tst) (S := S) (x := irm x 6) (y := nI k) (c := 0)
    refine ht_seq (op_p hd (o2 p) σ0) ?_
    refine ht_seq (op_q hd (o2 q) σ0) ?_
    refine ht_seq (K := At2 σ0 p q S S) (v := 1) ?_ ?_
    · refine ht_pos rfl ?_
      refine ht_seq (op_p hd (o3 p) σ0) ?_
      refine ht_seq (op_q hd (o3 q) σ0) ?_
      refine ht_pos rfl ?_
      refine ht_seq (op_p hd (o4 p) σ0) ?_
      refine ht_seq (op_q hd (o4 q) σ0) ?_
      refine ht_pos rfl ?_
      refine ht_seq (op_p hd (o5 p) σ0) ?_
      refine ht_seq (op_q hd (o5 q) σ0) ?_
      refine ht_pos rfl ?_
      refine ht_seq (op_p hd (o6 p) σ0) ?_
      refine ht_seq (op_q hd (o6 q) σ0) ?_
      refine ht_pos rfl ?_
      exact ht_ret
    · rw [nI_1]
      exact alike_L hd σ0 d (k + 1) r (by omega)
theorem alike_e {tst : Nat → Nat} {p q : Nat} {S : SS} {X : Nat} (hd : Apt p q) (hX : X < 2 ^ 30) : Tw p q S S S S (FL_alike tst p q (nI X)) 1 := by
  intro σ0
  have e60 : irm (nI X) (60 : Int32) = nI (X % 60) := irm_n (d := 60) (by omega) (by omega) (by omega)
  have b60 : X % 60 < 60 := Nat.mod_lt _ (by omega)
  refine ht_eq (fun σ => FL_alike.eq_1 tst p q (nI X) σ) ?_
  simp only [e60, one_p]
  obtain ⟨v, ov⟩ := o_sim (x := (nI X).toInt64) (t := 1 + X % 60) (by omega) (by omega) S.1
  refine ht_seq (op_p hd (ov p S rfl) σ0) ?_
  refine ht_seq (op_q hd (ov q S rfl) σ0) ?_
  refine ht_b1 (v := 1) (fun σ hσ => ?_) ?_
  · rw [if_pos rfl, truest_e hσ.1, b1_s, truest_e hσ.2.1, b1_s, if_pos rfl]
  refine ht_seq (alike_L hd σ0 16 0 3 (by omega)) ?_
  refine ht_pos (Or.inr rfl) ?_
  exact ht_ret
