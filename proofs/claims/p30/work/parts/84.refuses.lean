/-! p30: the calls that are refused by their arguments, one after the other. -/
theorem nin_neg {m : Nat} {lo hi : Int} (h0 : 0 ≤ lo) (hm : m < 1000) : ¬ inZ ((-1 : Int32) - nI m) lo hi := fun h => by
  have e1 : (-1 : Int32).toInt = -1 := rfl
  have e2 : (nI m).toInt = (m : Int) := nI_toInt (by omega)
  have e := fb_subI (x := (-1 : Int32)) (y := nI m) (by rw [e1, e2]; omega) (by rw [e1, e2]; omega)
  rw [e1, e2] at e
  have := h.1
  omega
theorem nin_zero {m : Nat} {lo hi : Int} (h0 : 1 ≤ lo) (hm : m < 1000) : ¬ inZ ((0 : Int32) - nI m) lo hi := fun h => by
  have e : (nI 0 - nI m).toInt = ((0 : Nat) : Int) - m := nI_sT (by omega) (by omega)
  have e' : ((0 : Int32) - nI m).toInt = ((0 : Nat) : Int) - m := e
  have := h.1
  omega
theorem nin_big {k m : Nat} {lo hi : Int} (h : k + m < 2 ^ 31) (hh : hi < (k : Int) + m) : ¬ inZ (nI k + nI m) lo hi := fun z => by
  rw [nI_add] at z
  have := ((inZ_nI h).mp z).2
  omega
theorem nin_lit {x : Int32} {lo hi : Int} (h : x.toInt < lo ∨ hi < x.toInt) : ¬ inZ x lo hi := fun z => by
  have h1 := z.1
  have h2 := z.2
  omega
theorem in_lit {x : Int32} {lo hi : Int} (h1 : lo ≤ x.toInt) (h2 : x.toInt ≤ hi) : inZ x lo hi := ⟨h1, h2⟩
section RF
variable {ρ ρ2 : Type} {I J K : qH → Prop} {out2 : qH → ρ2}
theorem ht_b1p {c : Prop} [Decidable c] {A B : Int32} {P : Int32 → Prop} {F : Int32 → qH → Option ρ2} (ha : P A) (hb : P B) (k : ∀ v, P v → Ht I J (F v) out2) : Ht I J (fun σ => b1 (if c then some A else some B) (fun x => F x σ)) out2 := by
  by_cases hc : c
  · exact ht_b1c (by rw [if_pos hc]) (k A ha)
  · exact ht_b1c (by rw [if_neg hc]) (k B hb)
end RF
theorem fit_k {k a b c e : Int32} (h : ¬ inZ k 0 2) : ¬ fitP k a b c e := fun z => by
  rcases z with ⟨z, -⟩ | ⟨z, -⟩ | ⟨z, -⟩ <;> subst z <;> exact h (in_lit (by decide) (by decide))
theorem fit_0 {a b c e : Int32} (h : ¬ (inZ a 1 20 ∧ inZ b 1 40 ∧ inZ c 1 400 ∧ inZ e 0 20)) : ¬ fitP 0 a b c e := fun z => by
  rcases z with ⟨-, z⟩ | ⟨z, -⟩ | ⟨z, -⟩
  · exact h z
  · exact absurd z (by decide)
  · exact absurd z (by decide)
theorem fit_1 {a b c e : Int32} (h : ¬ (inZ a 1 9 ∧ inZ b 1 60 ∧ inZ c 1 400 ∧ inZ e 0 20)) : ¬ fitP 1 a b c e := fun z => by
  rcases z with ⟨z, -⟩ | ⟨-, z⟩ | ⟨z, -⟩
  · exact absurd z (by decide)
  · exact h z
  · exact absurd z (by decide)
theorem fit_2 {a b c e : Int32} (h : ¬ (inZ a 1 999 ∧ inZ b 1 999 ∧ a.toInt ≤ b.toInt ∧ c = 0 ∧ e = 0)) : ¬ fitP 2 a b c e := fun z => by
  rcases z with ⟨z, -⟩ | ⟨z, -⟩ | ⟨-, z⟩
  · exact absurd z (by decide)
  · exact absurd z (by decide)
  · exact h z
theorem fit_01 {k a b c e : Int32} (h2 : ¬ k = 2) (h : ¬ (inZ c 1 400 ∧ inZ e 0 20)) : ¬ fitP k a b c e := fun z => by
  rcases z with ⟨-, -, -, z⟩ | ⟨-, -, -, z⟩ | ⟨z, -⟩
  · exact h z
  · exact h z
  · exact h2 z
theorem set_0 {v : Int32} (h : ¬ inZ v 0 5) : ¬ setP 0 v := fun z => by
  rcases z with ⟨-, z⟩ | ⟨z, -⟩
  · exact h z
  · exact absurd z (by decide)
theorem set_1 {v : Int32} (h : ¬ inZ v 0 50) : ¬ setP 1 v := fun z => by
  rcases z with ⟨z, -⟩ | ⟨-, z⟩
  · exact absurd z (by decide)
  · exact h z
theorem set_2 {i v : Int32} (h : ¬ inZ i 0 1) : ¬ setP i v := fun z => by
  rcases z with ⟨z, -⟩ | ⟨z, -⟩ <;> subst z <;> exact h (in_lit (by decide) (by decide))
theorem o_ab0 {tst : Nat → Nat} {p : Nat} {S : SS} {b c : Int32} : Op p S S (FL_call tst p 2 0 b c) (nI (nM S.1)) := o_about (i := 0) (by omega)
theorem At_A {σ0 σ : qH} {p : Nat} {S : SS} (h : At σ0 p S σ) : okA S.1 := h.1.2.1
theorem ht_at {ρ : Type} {σ0 : qH} {p : Nat} {S : SS} {J : qH → Prop} {X : qH → Option ρ} {out : qH → ρ} (k : okA S.1 → Ht (At σ0 p S) J X out) : Ht (At σ0 p S) J X out := fun σ h => k (At_A h) σ h

set_option maxHeartbeats 4000000 in
theorem refuses_e {tst : Nat → Nat} {p : Nat} {S : SS} {X : Nat} (hX : X < 2 ^ 30) : Op p S S (FL_refuses tst p (nI X)) 1 := by
  intro σ0
  refine ht_at fun hA => ?_
  have h16 : nM S.1 ≤ 16 := hA.1
  have e99 : irm (nI X) (99 : Int32) = nI (X % 99) := irm_n (d := 99) (by omega) (by omega) (by omega)
  have e9 : irm (nI X) (9 : Int32) = nI (X % 9) := irm_n (d := 9) (by omega) (by omega) (by omega)
  have e50 : irm (nI X) (50 : Int32) = nI (X % 50) := irm_n (d := 50) (by omega) (by omega) (by omega)
  have e2 : irm (nI X) (2 : Int32) = nI (X % 2) := irm_n (d := 2) (by omega) (by omega) (by omega)
  have b99 : X % 99 < 99 := Nat.mod_lt _ (by omega)
  have b9 : X % 9 < 9 := Nat.mod_lt _ (by omega)
  have b50 : X % 50 < 50 := Nat.mod_lt _ (by omega)
  have b2 : X % 2 < 2 := Nat.mod_lt _ (by omega)
  have k2 : ¬ nI (X % 2) = (2 : Int32) := fun z => by
    have : X % 2 = 2 := (nI_eq (b := 2) (by omega) (by omega)).mp z
    omega
  have kin : inZ (0 : Int32) 0 2 := in_lit (by decide) (by decide)
  have tin : inZ (0 : Int32) 0 5 := in_lit (by decide) (by decide)
  refine ht_eq (fun σ => FL_refuses.eq_1 tst p (nI X) σ) ?_
  simp only [e99, e9, e50, e2]
  generalize X % 99 = m99 at b99
  generalize X % 9 = m9 at b9
  generalize X % 50 = m50 at b50
  generalize X % 2 = m2 at b2 k2
  refine ht_seq (o_ab0 σ0) ?_
  refine ht_b1p (P := fun v => ¬ inZ v 0 ((nM S.1 : Int) - 1)) (nin_neg (by omega) (by omega)) (nin_big (by omega) (by omega)) (fun x4 n4 => ?_)
  refine ht_b1p (P := fun v => ¬ inZ v 0 2) (nin_neg (by omega) (by omega)) (nin_big (k := 3) (by omega) (by omega)) (fun x5 n5 => ?_)
  refine ht_b1p (P := fun v => ¬ inZ v 0 5) (nin_neg (by omega) (by omega)) (nin_big (k := 6) (by omega) (by omega)) (fun x6 n6 => ?_)
  refine ht_b1p (P := fun v => ¬ inZ v 1 999) (nin_zero (by omega) (by omega)) (nin_big (k := 1000) (by omega) (by omega)) (fun x7 n7 => ?_)
  refine ht_b1p (P := fun v => ¬ inZ v 0 255) (nin_neg (by omega) (by omega)) (nin_big (k := 256) (by omega) (by omega)) (fun x8 n8 => ?_)
  refine ht_seq (r_append n8 σ0) ?_
  refine ht_seq (K := At σ0 p S) (v := 1) ?_ ?_
  · refine ht_pos rfl ?_
    refine ht_seq (r_about (nin_big (k := 10) (by omega) (by omega)) σ0) ?_
    refine ht_pos rfl ?_
    refine ht_seq (r_of1 n4 σ0) ?_
    refine ht_pos rfl ?_
    refine ht_bc (K := At σ0 p S) ?_ ?_
    · by_cases h0 : nM S.1 = 0
      · refine ht_pos (show nI (nM S.1) = 0 by rw [h0]; rfl) ?_
        exact ht_ret
      · refine ht_neg (fun z => h0 ((nI_eq (b := 0) (by omega) (by omega)).mp z)) ?_
        refine ht_seq (r_of2 (in_lit (show (0 : Int) ≤ (0 : Int32).toInt by decide) (by rw [l0]; omega)) (nin_big (k := 11) (by omega) (by omega)) σ0) ?_
        refine ht_pos rfl ?_
        exact ht_ret
    refine ht_seq (r_te1 n6 σ0) ?_
    refine ht_pos rfl ?_
    refine ht_seq (r_te2 tin (nin_big (k := 5) (by omega) (by omega)) σ0) ?_
    refine ht_pos rfl ?_
    refine ht_seq (r_se1 n5 σ0) ?_
    refine ht_pos rfl ?_
    refine ht_seq (r_se2 kin (nin_big (k := 3) (by omega) (by omega)) σ0) ?_
    refine ht_pos rfl ?_
    refine ht_seq (r_vo1 n5 σ0) ?_
    refine ht_pos rfl ?_
    refine ht_seq (r_vo2 kin n7 σ0) ?_
    refine ht_pos rfl ?_
    refine ht_seq (r_be1 n5 σ0) ?_
    refine ht_pos rfl ?_
    refine ht_seq (r_be2 kin (fun z => nin_big (k := 3) (by omega) (by omega) z.1) σ0) ?_
    refine ht_pos rfl ?_
    refine ht_seq (r_be2 kin (fun z => nin_big (k := 2) (by omega) (by omega) z.2) σ0) ?_
    refine ht_pos rfl ?_
    refine ht_seq (r_st (nin_big (k := 2) (by omega) (by omega)) σ0) ?_
    refine ht_pos rfl ?_
    refine ht_seq (r_m1 n5 σ0) ?_
    refine ht_pos rfl ?_
    refine ht_seq (r_m2 kin n6 σ0) ?_
    refine ht_pos rfl ?_
    refine ht_b1p (P := fun v => ¬ inZ v 0 2) (nin_lit (Or.inl (by decide))) (nin_big (k := 3) (by omega) (by omega)) (fun y1 ny1 => ?_)
    refine ht_seq (r_m3 kin tin (fit_k ny1) σ0) ?_
    refine ht_pos rfl ?_
    refine ht_b1p (P := fun v => ¬ inZ v 1 20) (nin_lit (Or.inl (by decide))) (nin_big (k := 21) (by omega) (by omega)) (fun y2 ny2 => ?_)
    refine ht_seq (r_m3 kin tin (fit_0 (fun z => ny2 z.1)) σ0) ?_
    refine ht_pos rfl ?_
    refine ht_b1p (P := fun v => ¬ inZ v 1 40) (nin_lit (Or.inl (by decide))) (nin_big (k := 41) (by omega) (by omega)) (fun y3 ny3 => ?_)
    refine ht_seq (r_m3 kin tin (fit_0 (fun z => ny3 z.2.1)) σ0) ?_
    refine ht_pos rfl ?_
    refine ht_b1p (P := fun v => ¬ inZ v 1 9) (nin_lit (Or.inl (by decide))) (nin_big (k := 10) (by omega) (by omega)) (fun y4 ny4 => ?_)
    refine ht_seq (r_m3 kin tin (fit_1 (fun z => ny4 z.1)) σ0) ?_
    refine ht_pos rfl ?_
    refine ht_b1p (P := fun v => ¬ inZ v 1 60) (nin_lit (Or.inl (by decide))) (nin_big (k := 61) (by omega) (by omega)) (fun y5 ny5 => ?_)
    refine ht_seq (r_m3 kin tin (fit_1 (fun z => ny5 z.2.1)) σ0) ?_
    refine ht_pos rfl ?_
    refine ht_b1p (P := fun v => ¬ inZ v 1 400) (nin_big (k := 401) (by omega) (by omega)) (nin_lit (Or.inl (by decide))) (fun y6 ny6 => ?_)
    refine ht_seq (r_m3 kin tin (fit_01 k2 (fun z => ny6 z.1)) σ0) ?_
    refine ht_pos rfl ?_
    refine ht_b1p (P := fun v => ¬ inZ v 0 20) (nin_big (k := 21) (by omega) (by omega)) (nin_lit (Or.inl (by decide))) (fun y7 ny7 => ?_)
    refine ht_seq (r_m3 kin tin (fit_01 k2 (fun z => ny7 z.2)) σ0) ?_
    refine ht_pos rfl ?_
    refine ht_b1p (P := fun v => ¬ inZ v 7 999) (nin_lit (Or.inl (by decide))) (nin_big (k := 1000) (by omega) (by omega)) (fun y8 ny8 => ?_)
    refine ht_seq (r_m3 kin tin (fit_2 (a := 7) (b := y8) (c := 0) (e := 0) (fun z => ny8 (in_lit (show (7 : Int) ≤ y8.toInt from z.2.2.1) z.2.1.2))) σ0) ?_
    refine ht_pos rfl ?_
    refine ht_seq (r_m3 kin tin (fit_2 (a := 0) (b := 7) (c := 0) (e := 0) (fun z => absurd z.1.1 (by decide))) σ0) ?_
    refine ht_pos rfl ?_
    refine ht_seq (r_m3 kin tin (fit_2 (a := 5) (b := 7) (c := 1 + nI m9) (e := 0) (fun z => absurd z.2.2.2.1 (fun q => absurd ((nI_eq (a := 1 + m9) (b := 0) (by omega) (by omega)).mp ((nI_add 1 m9).symm.trans q)) (by omega)))) σ0) ?_
    refine ht_pos rfl ?_
    refine ht_seq (r_m3 kin tin (fit_2 (a := 5) (b := 7) (c := 0) (e := 1 + nI m9) (fun z => absurd z.2.2.2.2 (fun q => absurd ((nI_eq (a := 1 + m9) (b := 0) (by omega) (by omega)).mp ((nI_add 1 m9).symm.trans q)) (by omega)))) σ0) ?_
    refine ht_pos rfl ?_
    exact ht_ret
  refine ht_seq (K := At σ0 p S) (v := 1) ?_ ?_
  · refine ht_neg (by decide) ?_
    refine ht_seq (r_dr n4 σ0) ?_
    refine ht_pos rfl ?_
    refine ht_seq (r_tr1 n6 σ0) ?_
    refine ht_pos rfl ?_
    refine ht_b1p (P := fun v => ¬ inZ v 0 9) (nin_lit (Or.inl (by decide))) (nin_big (k := 10) (by omega) (by omega)) (fun y1 ny1 => ?_)
    refine ht_seq (r_tr2 tin ny1 σ0) ?_
    refine ht_pos rfl ?_
    refine ht_seq (r_su1 n5 σ0) ?_
    refine ht_pos rfl ?_
    refine ht_seq (r_su2 kin n7 σ0) ?_
    refine ht_pos rfl ?_
    refine ht_b1p (P := fun v => ¬ inZ v 0 5) (nin_lit (Or.inl (by decide))) (nin_big (k := 6) (by omega) (by omega)) (fun y2 ny2 => ?_)
    refine ht_seq (r_la (set_0 ny2) σ0) ?_
    refine ht_pos rfl ?_
    refine ht_b1p (P := fun v => ¬ inZ v 0 50) (nin_lit (Or.inl (by decide))) (nin_big (k := 51) (by omega) (by omega)) (fun y3 ny3 => ?_)
    refine ht_seq (r_la (set_1 ny3) σ0) ?_
    refine ht_pos rfl ?_
    refine ht_seq (r_la (set_2 (nin_big (k := 2) (by omega) (by omega))) σ0) ?_
    refine ht_pos rfl ?_
    refine ht_seq (r_ap1 n4 σ0) ?_
    refine ht_pos rfl ?_
    refine ht_seq (r_ap2 n4 σ0) ?_
    refine ht_pos rfl ?_
    refine ht_seq (r_ag n5 σ0) ?_
    refine ht_pos rfl ?_
    refine ht_seq (r_wi1 n4 σ0) ?_
    refine ht_pos rfl ?_
    refine ht_seq (r_sw1 n6 σ0) ?_
    refine ht_pos rfl ?_
    refine ht_seq (r_sw2 tin n5 σ0) ?_
    refine ht_pos rfl ?_
    refine ht_seq (r_ke (nin_big (k := 2) (by omega) (by omega)) σ0) ?_
    refine ht_pos rfl ?_
    refine ht_seq (r_ba (nin_neg (by omega) (by omega)) σ0) ?_
    refine ht_pos rfl ?_
    refine ht_seq (r_sc0 (nin_lit (Or.inl (by decide))) σ0) ?_
    refine ht_pos rfl ?_
    refine ht_seq (r_sc1 (t := 1) (by omega) (by omega) (fun z => absurd z.2 (by
      have e3 : ((nI X).toInt64).toInt = (X : Int) := by rw [Int32.toInt_toInt64, nI_toInt (by omega)]
      have e4 : (1000000 : Int64).toInt = 1000000 := rfl
      have e5 := fb_addL (x := (1000000 : Int64)) (y := (nI X).toInt64) (by rw [e3, e4]; omega) (by rw [e3, e4]; omega)
      rw [e5, e3, e4]; omega)) σ0) ?_
    refine ht_pos rfl ?_
    refine ht_seq (r_si (nin_big (k := 61) (by omega) (by omega)) σ0) ?_
    refine ht_pos rfl ?_
    exact ht_ret
  refine ht_seq (K := At σ0 p S) (v := 1) ?_ ?_
  · refine ht_neg (by decide) ?_
    refine ht_bc (K := At σ0 p S) ?_ ?_
    · by_cases h1 : nM S.1 < 16
      · refine ht_pos ((nI_ltI (b := 16) (by omega) (by omega)).mpr h1) ?_
        exact ht_ret
      · refine ht_neg (fun z => h1 ((nI_ltI (b := 16) (by omega) (by omega)).mp z)) ?_
        refine ht_seq (r_m4 kin tin (Or.inr (Or.inr ⟨rfl, in_lit (by decide) (by decide), in_lit (by decide) (by decide), by decide, rfl, rfl⟩)) (by omega) σ0) ?_
        refine ht_pos rfl ?_
        exact ht_ret
    · by_cases h0 : nM S.1 = 0
      · refine ht_pos (show nI (nM S.1) = 0 by rw [h0]; rfl) ?_
        exact ht_ret
      · refine ht_neg (fun z => h0 ((nI_eq (b := 0) (by omega) (by omega)).mp z)) ?_
        refine ht_seq (r_wi2 (in_lit (show (0 : Int) ≤ (0 : Int32).toInt by decide) (by rw [l0]; omega)) (nin_big (k := 3) (by omega) (by omega)) σ0) ?_
        refine ht_pos rfl ?_
        exact ht_ret
  refine ht_pos (Or.inr rfl) ?_
  exact ht_ret
