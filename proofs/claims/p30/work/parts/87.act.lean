/-! p30: what stays true from act to act; an act does the same to every object in the same state. -/
def ivA (c : Nat) (A : AS) : Prop := okA A ∧ nM A ≤ aCm A ∧ aCm A ≤ c ∧ ∀ t, t < 6 → aRt A t + aWr A t ≤ 16 * c
def ivS (c : Nat) (S : SS) : Prop := ivA c S.1 ∧ (∀ B, B ∈ S.2.1 → ivA c B) ∧ ∀ i B, i < 2 → S.2.2 i = some B → ivA c B
theorem ivA_up {c d : Nat} {A : AS} (h : ivA c A) (hd : c ≤ d) : ivA d A := ⟨h.1, h.2.1, Nat.le_trans h.2.2.1 hd, fun t ht => by have := h.2.2.2 t ht; omega⟩
theorem ivS_up {c d : Nat} {S : SS} (h : ivS c S) (hd : c ≤ d) : ivS d S := ⟨ivA_up h.1 hd, fun B hB => ivA_up (h.2.1 B hB) hd, fun i B hi hB => ivA_up (h.2.2 i B hi hB) hd⟩
theorem ivS_act {c : Nat} {S : SS} {A : AS} (h : ivS c S) (hA : ivA (c + 1) A) : ivS (c + 1) (A, rem S, S.2.2) := by
  refine ⟨hA, fun B hB => ?_, (ivS_up h (by omega)).2.2⟩
  have := List.mem_of_mem_take hB
  rcases List.mem_cons.mp this with e | e
  · rw [e]; exact ivA_up h.1 (by omega)
  · exact ivA_up (h.2.1 B e) (by omega)
theorem ivA_add {c : Nat} {A : AS} {x : Me} (h : ivA c A) (hn : nM A < 16) (hx : okM x) : ivA (c + 1) (addA A x) := by
  refine ⟨addA_ok h.1 hn hx, ?_, ?_, fun t ht => ?_⟩
  · have e : nM (addA A x) = nM A + 1 := by show (aM A ++ [x]).length = _; rw [List.length_append]; rfl
    have := h.2.1
    rw [e]; show nM A + 1 ≤ aCm A + 1; omega
  · show aCm A + 1 ≤ c + 1; have := h.2.2.1; omega
  · show aRt A t + aWr A t ≤ _; have := h.2.2.2 t ht; omega
theorem ivA_drp {c k : Nat} {A : AS} (h : ivA c A) (hk : k < nM A) : ivA (c + 1) (drpA A k) := by
  refine ⟨drpA_ok h.1 hk, ?_, ?_, fun t ht => ?_⟩
  · rw [n_drp hk]; show nM A - 1 ≤ aCm A; have := h.2.1; omega
  · show aCm A ≤ c + 1; have := h.2.2.1; omega
  · show aRt A t + aWr A t ≤ _; have := h.2.2.2 t ht; omega
theorem ivA_tru {c t v : Nat} {A : AS} (h : ivA c A) (hv : v ≤ 9) : ivA (c + 1) (truA A t v) := by
  refine ⟨truA_ok h.1 hv, h.2.1, ?_, fun t ht => ?_⟩
  · show aCm A ≤ c + 1; have := h.2.2.1; omega
  · show aRt A t + aWr A t ≤ _; have := h.2.2.2 t ht; omega
theorem ivA_set {c i v : Nat} {A : AS} (h : ivA c A) (hv : v ≤ if i = 0 then 5 else 50) : ivA (c + 1) (setA A i v) := by
  refine ⟨setA_ok h.1 hv, h.2.1, ?_, fun t ht => ?_⟩
  · show aCm A ≤ c + 1; have := h.2.2.1; omega
  · show aRt A t + aWr A t ≤ _; have := h.2.2.2 t ht; omega
theorem ivA_eve {c : Nat} {A : AS} (h : ivA c A) : ivA (c + 1) (eve A) := by
  obtain ⟨h1, h2, h3, h4, h5, h6, h7⟩ := eve_same h.1
  refine ⟨eve_ok h.1, ?_, ?_, fun t ht => ?_⟩
  · rw [nM_eq h1, h6]; exact h.2.1
  · rw [h6]; have := h.2.2.1; omega
  · rw [h2, h3]; have := h.2.2.2 t ht; omega
theorem ivA_srv {c s x : Nat} {A : AS} (h : ivA c A) : ivA (c + 1) (srv A s x).2 := by
  obtain ⟨h1, h2, h3, h4, h5, h6, h7⟩ := srv_f (s := s) (x := x) h.1
  have h16 : nM A ≤ 16 := h.1.1
  refine ⟨srv_ok h.1, ?_, ?_, fun t ht => ?_⟩
  · have e : nM (srv A s x).2 = ((aM A).filter (fun m => decide (m 0 ≠ s))).length := by show (aM (srv A s x).2).length = _; rw [h4]
    have := List.length_filter_le (fun m : Me => decide (m 0 ≠ s)) (aM A)
    have h2' : (aM A).length ≤ aCm A := h.2.1
    rw [e, h5]; omega
  · rw [h5]; have := h.2.2.1; omega
  · have := h7 t
    have := h.2.2.2 t ht
    omega
theorem opt_or {α : Type} (o : Option α) : o = none ∨ ∃ a, o = some a := by
  cases o with
  | none => exact Or.inl rfl
  | some a => exact Or.inr ⟨a, rfl⟩
theorem fit_mm0 {a b c e : Nat} (h1 : 1 ≤ a ∧ a ≤ 20) (h2 : 1 ≤ b ∧ b ≤ 40) (h3 : 1 ≤ c ∧ c ≤ 400) (h4 : e ≤ 20) : fitP (nI 0) (nI a) (nI b) (nI c) (nI e) := Or.inl ⟨rfl, (inZ_nI (by omega)).mpr (by omega), (inZ_nI (by omega)).mpr (by omega), (inZ_nI (by omega)).mpr (by omega), (inZ_nI (by omega)).mpr (by omega)⟩
theorem fit_mm1 {a b c e : Nat} (h1 : 1 ≤ a ∧ a ≤ 9) (h2 : 1 ≤ b ∧ b ≤ 60) (h3 : 1 ≤ c ∧ c ≤ 400) (h4 : e ≤ 20) : fitP (nI 1) (nI a) (nI b) (nI c) (nI e) := Or.inr (Or.inl ⟨rfl, (inZ_nI (by omega)).mpr (by omega), (inZ_nI (by omega)).mpr (by omega), (inZ_nI (by omega)).mpr (by omega), (inZ_nI (by omega)).mpr (by omega)⟩)
theorem fit_mm2 {a b : Nat} (h1 : 1 ≤ a) (h2 : a ≤ b) (h3 : b ≤ 999) : fitP (nI 2) (nI a) (nI b) (nI 0) (nI 0) := Or.inr (Or.inr ⟨rfl, (inZ_nI (by omega)).mpr (by omega), (inZ_nI (by omega)).mpr (by omega), by rw [nI_toInt (by omega), nI_toInt (by omega)]; omega, rfl, rfl⟩)
/-- telling a measure that fits, full or not -/
theorem tell_e {c s t k a b d e : Nat} {S : SS} (hS : ivS c S) (hs : s < 3) (ht : t < 6) (hk : k ≤ 2) (hok : okM (mm7 s t k a b d e)) (hf : fitP (nI k) (nI a) (nI b) (nI d) (nI e)) : ∃ v S', (∀ p, Op p S S' (FL_told p (nI s) (nI t) (nI k) (nI a) (nI b) (nI d) (nI e)) v) ∧ ivS (c + 1) S' := by
  by_cases hn : nM S.1 < 16
  · exact ⟨_, _, fun p => o_meas (x := mm7 s t k a b d e) hok hf hn, ivS_act hS (ivA_add hS.1 hn hok)⟩
  · exact ⟨_, _, fun p => r_m4 ((inZ_nI (by omega)).mpr (by omega)) ((inZ_nI (by omega)).mpr (by omega)) hf (by omega), ivS_up hS (by omega)⟩

set_option maxHeartbeats 8000000 in
theorem act_e {tst : Nat → Nat} {S : SS} {c X : Nat} (hS : ivS c S) (hX : X < 2 ^ 31) : ∃ v S', (∀ p, Op p S S' (FL_act tst p (nI X)) v) ∧ ivS (c + 1) S' := by
  have hA := hS.1.1
  have h16 : nM S.1 ≤ 16 := hA.1
  have dv : ∀ {a d : Nat}, a < 2 ^ 31 → 0 < d → d < 2 ^ 31 → nI a / nI d = nI (a / d) := fun ha h0 hd => pk_div ha h0 hd
  have i16 : irm (nI X) (16 : Int32) = nI (X % 16) := irm_n (d := 16) hX (by omega) (by omega)
  have d16 : nI X / (16 : Int32) = nI (X / 16) := dv (d := 16) hX (by omega) (by omega)
  have lw : ∀ j : Nat, j < 100 → (nI (X % 16) = nI j) = (X % 16 = j) := fun j hj => eq_nI (by omega) (by omega)
  have w0 : (nI (X % 16) = (0 : Int32)) = (X % 16 = 0) := lw 0 (by omega)
  have w1 : (nI (X % 16) = (1 : Int32)) = (X % 16 = 1) := lw 1 (by omega)
  have w2 : (nI (X % 16) = (2 : Int32)) = (X % 16 = 2) := lw 2 (by omega)
  have w3 : (nI (X % 16) = (3 : Int32)) = (X % 16 = 3) := lw 3 (by omega)
  have w4 : (nI (X % 16) = (4 : Int32)) = (X % 16 = 4) := lw 4 (by omega)
  have w5 : (nI (X % 16) = (5 : Int32)) = (X % 16 = 5) := lw 5 (by omega)
  have w6 : (nI (X % 16) = (6 : Int32)) = (X % 16 = 6) := lw 6 (by omega)
  have w7 : (nI (X % 16) = (7 : Int32)) = (X % 16 = 7) := lw 7 (by omega)
  have w8 : (nI (X % 16) = (8 : Int32)) = (X % 16 = 8) := lw 8 (by omega)
  have w9 : (nI (X % 16) = (9 : Int32)) = (X % 16 = 9) := lw 9 (by omega)
  have w10 : (nI (X % 16) = (10 : Int32)) = (X % 16 = 10) := lw 10 (by omega)
  have w11 : (nI (X % 16) = (11 : Int32)) = (X % 16 = 11) := lw 11 (by omega)
  have w12 : (nI (X % 16) = (12 : Int32)) = (X % 16 = 12) := lw 12 (by omega)
  have w13 : (nI (X % 16) = (13 : Int32)) = (X % 16 = 13) := lw 13 (by omega)
  have hY : X / 16 < 2 ^ 31 := by omega
  generalize hYe : X / 16 = Y at hY d16
  have q3 : nI Y / (3 : Int32) = nI (Y / 3) := dv (d := 3) hY (by omega) (by omega)
  have q18 : nI Y / (18 : Int32) = nI (Y / 18) := dv (d := 18) hY (by omega) (by omega)
  have q360 : nI Y / (360 : Int32) = nI (Y / 360) := dv (d := 360) hY (by omega) (by omega)
  have q21600 : nI Y / (21600 : Int32) = nI (Y / 21600) := dv (d := 21600) hY (by omega) (by omega)
  have q7 : nI Y / (7 : Int32) = nI (Y / 7) := dv (d := 7) hY (by omega) (by omega)
  have q5400 : nI Y / (5400 : Int32) = nI (Y / 5400) := dv (d := 5400) hY (by omega) (by omega)
  have q6 : nI Y / (6 : Int32) = nI (Y / 6) := dv (d := 6) hY (by omega) (by omega)
  have q2 : nI Y / (2 : Int32) = nI (Y / 2) := dv (d := 2) hY (by omega) (by omega)
  have f0 : irm (nI Y) (3 : Int32) = nI (Y % 3) := irm_n (d := 3) hY (by omega) (by omega)
  have f1 : irm (nI Y) (6 : Int32) = nI (Y % 6) := irm_n (d := 6) hY (by omega) (by omega)
  have f2 : irm (nI Y) (2 : Int32) = nI (Y % 2) := irm_n (d := 2) hY (by omega) (by omega)
  have f3 : irm (nI (Y / 3)) (6 : Int32) = nI (Y / 3 % 6) := irm_n (d := 6) (by omega) (by omega) (by omega)
  have f4 : irm (nI (Y / 18)) (20 : Int32) = nI (Y / 18 % 20) := irm_n (d := 20) (by omega) (by omega) (by omega)
  have f5 : irm (nI (Y / 18)) (9 : Int32) = nI (Y / 18 % 9) := irm_n (d := 9) (by omega) (by omega) (by omega)
  have f6 : irm (nI (Y / 18)) (300 : Int32) = nI (Y / 18 % 300) := irm_n (d := 300) (by omega) (by omega) (by omega)
  have f7 : irm (nI (Y / 18)) (360 : Int32) = nI (Y / 18 % 360) := irm_n (d := 360) (by omega) (by omega) (by omega)
  have f8 : irm (nI (Y / 360)) (40 : Int32) = nI (Y / 360 % 40) := irm_n (d := 40) (by omega) (by omega) (by omega)
  have f9 : irm (nI (Y / 360)) (60 : Int32) = nI (Y / 360 % 60) := irm_n (d := 60) (by omega) (by omega) (by omega)
  have f10 : irm (nI (Y / 21600)) (400 : Int32) = nI (Y / 21600 % 400) := irm_n (d := 400) (by omega) (by omega) (by omega)
  have f11 : irm (nI (Y / 7)) (21 : Int32) = nI (Y / 7 % 21) := irm_n (d := 21) (by omega) (by omega) (by omega)
  have f12 : irm (nI (Y / 5400)) (60 : Int32) = nI (Y / 5400 % 60) := irm_n (d := 60) (by omega) (by omega) (by omega)
  have f13 : irm (nI (Y / 6)) (10 : Int32) = nI (Y / 6 % 10) := irm_n (d := 10) (by omega) (by omega) (by omega)
  have f14 : irm (nI (Y / 2)) (6 : Int32) = nI (Y / 2 % 6) := irm_n (d := 6) (by omega) (by omega) (by omega)
  have f15 : irm (nI (Y / 2)) (51 : Int32) = nI (Y / 2 % 51) := irm_n (d := 51) (by omega) (by omega) (by omega)
  have f16 : irm (nI (Y / 2)) (2 : Int32) = nI (Y / 2 % 2) := irm_n (d := 2) (by omega) (by omega) (by omega)
  have z2 : (nI (Y % 2) = (0 : Int32)) = (Y % 2 = 0) := eq_nI (b := 0) (by omega) (by omega)
  by_cases c0 : X % 16 = 0 ∨ X % 16 = 1
  · obtain ⟨v, S', ho, hi⟩ := tell_e (s := Y % 3) (t := Y / 3 % 6) (k := 0) (a := 1 + Y / 18 % 20) (b := 1 + Y / 360 % 40) (d := 1 + Y / 21600 % 400) (e := Y / 7 % 21) hS (by omega) (by omega) (by omega) (mm7_ok (by omega) (by omega) (by omega) (by omega) (by omega) (by omega) (by omega) (by omega) (by omega) (by omega)) (fit_mm0 (by omega) (by omega) (by omega) (by omega))
    refine ⟨v, S', fun p => ?_, hi⟩
    intro σ0
    refine ht_eq (fun σ => FL_act.eq_1 tst p (nI X) σ) ?_
    simp only [i16, d16, w0, w1, w2, w3, w4, w5, w6, w7, w8, w9, w10, w11, w12, w13, q3, q18, q360, q21600, q7, q5400, q6, q2, f0, f1, f2, f3, f4, f5, f6, f7, f8, f9, f10, f11, f12, f13, f14, f15, f16, z2, one_p]
    refine ht_seq (o_ab0 σ0) ?_
    refine ht_pos (by omega) ?_
    refine ht_seq (ho p σ0) ?_
    exact ht_ret
  by_cases c1 : X % 16 = 2
  · obtain ⟨v, S', ho, hi⟩ := tell_e (s := Y % 3) (t := Y / 3 % 6) (k := 1) (a := 1 + Y / 18 % 9) (b := 1 + Y / 360 % 60) (d := 1 + Y / 21600 % 400) (e := Y / 7 % 21) hS (by omega) (by omega) (by omega) (mm7_ok (by omega) (by omega) (by omega) (by omega) (by omega) (by omega) (by omega) (by omega) (by omega) (by omega)) (fit_mm1 (by omega) (by omega) (by omega) (by omega))
    refine ⟨v, S', fun p => ?_, hi⟩
    intro σ0
    refine ht_eq (fun σ => FL_act.eq_1 tst p (nI X) σ) ?_
    simp only [i16, d16, w0, w1, w2, w3, w4, w5, w6, w7, w8, w9, w10, w11, w12, w13, q3, q18, q360, q21600, q7, q5400, q6, q2, f0, f1, f2, f3, f4, f5, f6, f7, f8, f9, f10, f11, f12, f13, f14, f15, f16, z2, one_p]
    refine ht_seq (o_ab0 σ0) ?_
    refine ht_neg (by omega) ?_
    refine ht_pos (by omega) ?_
    refine ht_seq (ho p σ0) ?_
    exact ht_ret
  by_cases c2 : X % 16 = 3 ∨ X % 16 = 4 ∨ X % 16 = 5 ∨ X % 16 = 6
  · obtain ⟨v, S', ho, hi⟩ := tell_e (s := Y % 3) (t := Y / 3 % 6) (k := 2) (a := 1 + Y / 18 % 300) (b := 1 + Y / 18 % 300 + Y / 5400 % 60) (d := 0) (e := 0) hS (by omega) (by omega) (by omega) (mm7_ok (by omega) (by omega) (by omega) (by omega) (by omega) (by omega) (by omega) (by omega) (by omega) (by omega)) (fit_mm2 (by omega) (by omega) (by omega))
    refine ⟨v, S', fun p => ?_, hi⟩
    intro σ0
    refine ht_eq (fun σ => FL_act.eq_1 tst p (nI X) σ) ?_
    simp only [i16, d16, w0, w1, w2, w3, w4, w5, w6, w7, w8, w9, w10, w11, w12, w13, q3, q18, q360, q21600, q7, q5400, q6, q2, f0, f1, f2, f3, f4, f5, f6, f7, f8, f9, f10, f11, f12, f13, f14, f15, f16, z2, one_p, nI_add]
    refine ht_seq (o_ab0 σ0) ?_
    refine ht_neg (by omega) ?_
    refine ht_neg (by omega) ?_
    refine ht_pos (by omega) ?_
    refine ht_seq (ho p σ0) ?_
    exact ht_ret
  by_cases c3 : X % 16 = 7
  · by_cases h0 : nM S.1 = 0
    · refine ⟨-1, S, fun p => ?_, ivS_up hS (by omega)⟩
      intro σ0
      refine ht_eq (fun σ => FL_act.eq_1 tst p (nI X) σ) ?_
      simp only [i16, d16, w0, w1, w2, w3, w4, w5, w6, w7, w8, w9, w10, w11, w12, w13, q3, q18, q360, q21600, q7, q5400, q6, q2, f0, f1, f2, f3, f4, f5, f6, f7, f8, f9, f10, f11, f12, f13, f14, f15, f16, z2, one_p]
      refine ht_seq (o_ab0 σ0) ?_
      refine ht_neg (by omega) ?_
      refine ht_neg (by omega) ?_
      refine ht_neg (by omega) ?_
      refine ht_pos (by omega) ?_
      refine ht_seq (K := At σ0 p S) (v := -1) ?_ ?_
      · refine ht_pos (show nI (nM S.1) = 0 by rw [h0]; rfl) ?_
        exact ht_ret
      · exact ht_ret
    · have ng : ¬ nI (nM S.1) = (0 : Int32) := fun z => h0 ((nI_eq (b := 0) (by omega) (by omega)).mp z)
      have em : irm (nI Y) (nI (nM S.1)) = nI (Y % nM S.1) := irm_n hY (by omega) (by omega)
      have hk : Y % nM S.1 < nM S.1 := Nat.mod_lt _ (by omega)
      refine ⟨nI (nM S.1 - 1), _, fun p => ?_, ivS_act hS (ivA_drp hS.1 hk)⟩
      intro σ0
      refine ht_eq (fun σ => FL_act.eq_1 tst p (nI X) σ) ?_
      simp only [i16, d16, w0, w1, w2, w3, w4, w5, w6, w7, w8, w9, w10, w11, w12, w13, q3, q18, q360, q21600, q7, q5400, q6, q2, f0, f1, f2, f3, f4, f5, f6, f7, f8, f9, f10, f11, f12, f13, f14, f15, f16, z2, one_p]
      refine ht_seq (o_ab0 σ0) ?_
      refine ht_neg (by omega) ?_
      refine ht_neg (by omega) ?_
      refine ht_neg (by omega) ?_
      refine ht_pos (by omega) ?_
      rw [em]
      refine ht_seq (K := At σ0 p (drpA S.1 (Y % nM S.1), rem S, S.2.2)) (v := nI (nM S.1 - 1)) ?_ ?_
      · refine ht_neg ng ?_
        refine ht_neg ng ?_
        refine ht_seq (o_drop hk σ0) ?_
        exact ht_ret
      · exact ht_ret
  by_cases c4 : X % 16 = 8
  · refine ⟨nI (aT S.1 (Y % 6)), _, fun p => ?_, ivS_act hS (ivA_tru (t := Y % 6) (v := Y / 6 % 10) hS.1 (by omega))⟩
    intro σ0
    refine ht_eq (fun σ => FL_act.eq_1 tst p (nI X) σ) ?_
    simp only [i16, d16, w0, w1, w2, w3, w4, w5, w6, w7, w8, w9, w10, w11, w12, w13, q3, q18, q360, q21600, q7, q5400, q6, q2, f0, f1, f2, f3, f4, f5, f6, f7, f8, f9, f10, f11, f12, f13, f14, f15, f16, z2, one_p]
    refine ht_seq (o_ab0 σ0) ?_
    refine ht_neg (by omega) ?_
    refine ht_neg (by omega) ?_
    refine ht_neg (by omega) ?_
    refine ht_neg (by omega) ?_
    refine ht_pos (by omega) ?_
    refine ht_seq (o_trust (by omega) (by omega) σ0) ?_
    exact ht_ret
  by_cases c5 : X % 16 = 9 ∨ X % 16 = 10
  · refine ⟨nI (aLo (eve S.1)) - nI (aLo S.1), _, fun p => ?_, ivS_act hS (ivA_eve hS.1)⟩
    intro σ0
    refine ht_eq (fun σ => FL_act.eq_1 tst p (nI X) σ) ?_
    simp only [i16, d16, w0, w1, w2, w3, w4, w5, w6, w7, w8, w9, w10, w11, w12, w13, q3, q18, q360, q21600, q7, q5400, q6, q2, f0, f1, f2, f3, f4, f5, f6, f7, f8, f9, f10, f11, f12, f13, f14, f15, f16, z2, one_p]
    refine ht_seq (o_ab0 σ0) ?_
    refine ht_neg (by omega) ?_
    refine ht_neg (by omega) ?_
    refine ht_neg (by omega) ?_
    refine ht_neg (by omega) ?_
    refine ht_neg (by omega) ?_
    refine ht_pos (by omega) ?_
    refine ht_seq (o_evening σ0) ?_
    exact ht_ret
  by_cases c6 : X % 16 = 11
  · by_cases h2 : Y % 2 = 0
    · refine ⟨nI (aSt S.1 0), _, fun p => ?_, ivS_act hS (ivA_set (i := 0) (v := Y / 2 % 6) hS.1 (by rw [if_pos rfl]; omega))⟩
      intro σ0
      refine ht_eq (fun σ => FL_act.eq_1 tst p (nI X) σ) ?_
      simp only [i16, d16, w0, w1, w2, w3, w4, w5, w6, w7, w8, w9, w10, w11, w12, w13, q3, q18, q360, q21600, q7, q5400, q6, q2, f0, f1, f2, f3, f4, f5, f6, f7, f8, f9, f10, f11, f12, f13, f14, f15, f16, z2, one_p]
      refine ht_seq (o_ab0 σ0) ?_
      refine ht_neg (by omega) ?_
      refine ht_neg (by omega) ?_
      refine ht_neg (by omega) ?_
      refine ht_neg (by omega) ?_
      refine ht_neg (by omega) ?_
      refine ht_neg (by omega) ?_
      refine ht_pos (by omega) ?_
      refine ht_seq (K := At σ0 p (setA S.1 0 (Y / 2 % 6), rem S, S.2.2)) (v := nI (aSt S.1 0)) ?_ ?_
      · refine ht_pos h2 ?_
        refine ht_seq (o_set (i := 0) (by omega) (by rw [if_pos rfl]; omega) σ0) ?_
        exact ht_ret
      · exact ht_ret
    · refine ⟨nI (aSt S.1 1), _, fun p => ?_, ivS_act hS (ivA_set (i := 1) (v := Y / 2 % 51) hS.1 (by rw [if_neg (by omega)]; omega))⟩
      intro σ0
      refine ht_eq (fun σ => FL_act.eq_1 tst p (nI X) σ) ?_
      simp only [i16, d16, w0, w1, w2, w3, w4, w5, w6, w7, w8, w9, w10, w11, w12, w13, q3, q18, q360, q21600, q7, q5400, q6, q2, f0, f1, f2, f3, f4, f5, f6, f7, f8, f9, f10, f11, f12, f13, f14, f15, f16, z2, one_p]
      refine ht_seq (o_ab0 σ0) ?_
      refine ht_neg (by omega) ?_
      refine ht_neg (by omega) ?_
      refine ht_neg (by omega) ?_
      refine ht_neg (by omega) ?_
      refine ht_neg (by omega) ?_
      refine ht_neg (by omega) ?_
      refine ht_pos (by omega) ?_
      refine ht_seq (K := At σ0 p (setA S.1 1 (Y / 2 % 51), rem S, S.2.2)) (v := nI (aSt S.1 1)) ?_ ?_
      · refine ht_neg h2 ?_
        refine ht_seq (o_set (i := 1) (by omega) (by rw [if_neg (by omega)]; omega) σ0) ?_
        exact ht_ret
      · exact ht_ret
  by_cases c7 : X % 16 = 12
  · obtain ⟨A, L, K⟩ := S
    cases L with
    | nil =>
      refine ⟨-9999003, (A, [], K), fun p => ?_, ivS_up hS (by omega)⟩
      intro σ0
      refine ht_eq (fun σ => FL_act.eq_1 tst p (nI X) σ) ?_
      simp only [i16, d16, w0, w1, w2, w3, w4, w5, w6, w7, w8, w9, w10, w11, w12, w13, q3, q18, q360, q21600, q7, q5400, q6, q2, f0, f1, f2, f3, f4, f5, f6, f7, f8, f9, f10, f11, f12, f13, f14, f15, f16, z2, one_p]
      refine ht_seq (o_ab0 σ0) ?_
      refine ht_neg (by omega) ?_
      refine ht_neg (by omega) ?_
      refine ht_neg (by omega) ?_
      refine ht_neg (by omega) ?_
      refine ht_neg (by omega) ?_
      refine ht_neg (by omega) ?_
      refine ht_neg (by omega) ?_
      refine ht_pos (by omega) ?_
      refine ht_seq (o_undo0 σ0) ?_
      exact ht_ret
    | cons B L =>
      refine ⟨nI L.length, (B, L, K), fun p => ?_, ivA_up (hS.2.1 B (List.mem_cons_self ..)) (by omega), fun C hC => ivA_up (hS.2.1 C (List.mem_cons_of_mem _ hC)) (by omega), (ivS_up hS (by omega)).2.2⟩
      intro σ0
      refine ht_eq (fun σ => FL_act.eq_1 tst p (nI X) σ) ?_
      simp only [i16, d16, w0, w1, w2, w3, w4, w5, w6, w7, w8, w9, w10, w11, w12, w13, q3, q18, q360, q21600, q7, q5400, q6, q2, f0, f1, f2, f3, f4, f5, f6, f7, f8, f9, f10, f11, f12, f13, f14, f15, f16, z2, one_p]
      refine ht_seq (o_ab0 σ0) ?_
      refine ht_neg (by omega) ?_
      refine ht_neg (by omega) ?_
      refine ht_neg (by omega) ?_
      refine ht_neg (by omega) ?_
      refine ht_neg (by omega) ?_
      refine ht_neg (by omega) ?_
      refine ht_neg (by omega) ?_
      refine ht_pos (by omega) ?_
      refine ht_seq (o_undo σ0) ?_
      exact ht_ret
  by_cases c8 : X % 16 = 13
  · obtain ⟨A, L, K⟩ := S
    have hs2 : Y / 2 % 2 < 2 := Nat.mod_lt _ (by omega)
    by_cases h2 : Y % 2 = 0
    · refine ⟨nI (nM A), (A, L, fset K (Y / 2 % 2) (some A)), fun p => ?_, ivA_up hS.1 (by omega), (ivS_up hS (by omega)).2.1, fun i B hi hB => ?_⟩
      · intro σ0
        refine ht_eq (fun σ => FL_act.eq_1 tst p (nI X) σ) ?_
        simp only [i16, d16, w0, w1, w2, w3, w4, w5, w6, w7, w8, w9, w10, w11, w12, w13, q3, q18, q360, q21600, q7, q5400, q6, q2, f0, f1, f2, f3, f4, f5, f6, f7, f8, f9, f10, f11, f12, f13, f14, f15, f16, z2, one_p]
        refine ht_seq (o_ab0 σ0) ?_
        refine ht_neg (by omega) ?_
        refine ht_neg (by omega) ?_
        refine ht_neg (by omega) ?_
        refine ht_neg (by omega) ?_
        refine ht_neg (by omega) ?_
        refine ht_neg (by omega) ?_
        refine ht_neg (by omega) ?_
        refine ht_neg (by omega) ?_
        refine ht_pos (by omega) ?_
        refine ht_seq (K := At σ0 p (A, L, fset K (Y / 2 % 2) (some A))) (v := nI (nM A)) ?_ ?_
        · refine ht_pos h2 ?_
          refine ht_seq (o_save hs2 σ0) ?_
          exact ht_ret
        · exact ht_ret
      · have hB' : (if i = Y / 2 % 2 then some A else K i) = some B := hB
        by_cases ci : i = Y / 2 % 2
        · rw [if_pos ci] at hB'; cases hB'; exact ivA_up hS.1 (by omega)
        · rw [if_neg ci] at hB'; exact ivA_up (hS.2.2 i B hi hB') (by omega)
    · rcases opt_or (K (Y / 2 % 2)) with ek | ⟨B, ek⟩
      · refine ⟨-9999003, (A, L, K), fun p => ?_, ivS_up hS (by omega)⟩
        intro σ0
        refine ht_eq (fun σ => FL_act.eq_1 tst p (nI X) σ) ?_
        simp only [i16, d16, w0, w1, w2, w3, w4, w5, w6, w7, w8, w9, w10, w11, w12, w13, q3, q18, q360, q21600, q7, q5400, q6, q2, f0, f1, f2, f3, f4, f5, f6, f7, f8, f9, f10, f11, f12, f13, f14, f15, f16, z2, one_p]
        refine ht_seq (o_ab0 σ0) ?_
        refine ht_neg (by omega) ?_
        refine ht_neg (by omega) ?_
        refine ht_neg (by omega) ?_
        refine ht_neg (by omega) ?_
        refine ht_neg (by omega) ?_
        refine ht_neg (by omega) ?_
        refine ht_neg (by omega) ?_
        refine ht_neg (by omega) ?_
        refine ht_pos (by omega) ?_
        refine ht_seq (K := At σ0 p (A, L, K)) (v := -9999003) ?_ ?_
        · refine ht_neg h2 ?_
          refine ht_seq (o_back0 hs2 ek σ0) ?_
          exact ht_ret
        · exact ht_ret
      · refine ⟨nI (nM B), (B, [], K), fun p => ?_, ivA_up (hS.2.2 _ B hs2 ek) (by omega), fun C hC => (by cases hC), (ivS_up hS (by omega)).2.2⟩
        intro σ0
        refine ht_eq (fun σ => FL_act.eq_1 tst p (nI X) σ) ?_
        simp only [i16, d16, w0, w1, w2, w3, w4, w5, w6, w7, w8, w9, w10, w11, w12, w13, q3, q18, q360, q21600, q7, q5400, q6, q2, f0, f1, f2, f3, f4, f5, f6, f7, f8, f9, f10, f11, f12, f13, f14, f15, f16, z2, one_p]
        refine ht_seq (o_ab0 σ0) ?_
        refine ht_neg (by omega) ?_
        refine ht_neg (by omega) ?_
        refine ht_neg (by omega) ?_
        refine ht_neg (by omega) ?_
        refine ht_neg (by omega) ?_
        refine ht_neg (by omega) ?_
        refine ht_neg (by omega) ?_
        refine ht_neg (by omega) ?_
        refine ht_pos (by omega) ?_
        refine ht_seq (K := At σ0 p (B, [], K)) (v := nI (nM B)) ?_ ?_
        · refine ht_neg h2 ?_
          refine ht_seq (o_back hs2 ek σ0) ?_
          exact ht_ret
        · exact ht_ret
  refine ⟨nI (srv S.1 (Y % 3) (1 + Y / 18 % 360)).1, _, fun p => ?_, ivS_act hS (ivA_srv (s := Y % 3) (x := 1 + Y / 18 % 360) hS.1)⟩
  intro σ0
  refine ht_eq (fun σ => FL_act.eq_1 tst p (nI X) σ) ?_
  simp only [i16, d16, w0, w1, w2, w3, w4, w5, w6, w7, w8, w9, w10, w11, w12, w13, q3, q18, q360, q21600, q7, q5400, q6, q2, f0, f1, f2, f3, f4, f5, f6, f7, f8, f9, f10, f11, f12, f13, f14, f15, f16, z2, one_p]
  refine ht_seq (o_ab0 σ0) ?_
  refine ht_neg (by omega) ?_
  refine ht_neg (by omega) ?_
  refine ht_neg (by omega) ?_
  refine ht_neg (by omega) ?_
  refine ht_neg (by omega) ?_
  refine ht_neg (by omega) ?_
  refine ht_neg (by omega) ?_
  refine ht_neg (by omega) ?_
  refine ht_neg (by omega) ?_
  refine ht_seq (o_survey (by omega) (by omega) (by omega) σ0) ?_
  exact ht_ret
