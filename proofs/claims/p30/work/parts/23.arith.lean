theorem min_e {x y : Int32} {σ : qH} : FJ9_min_7cf53 x y σ = some (mn x y) := by
  unfold FJ9_min_7cf53 mn
  by_cases h : y < x
  · rw [if_pos h, if_pos h]; rfl
  · rw [if_neg h, if_neg h]; rfl
theorem within_e {x : Int32} {σ : qH} : FX2_withinFeet x σ = some (mx 1 (mn 999 x)) := by
  unfold FX2_withinFeet
  simp only [min_e, max_e, b1_s]
theorem within_n {n : Nat} (h : n < 2 ^ 31) : mx 1 (mn 999 (nI n)) = nI (bnd n) := by
  unfold mx mn bnd
  simp only [show (999 : Int32) = nI 999 from rfl, show (1 : Int32) = nI 1 from rfl, lt_nI h (show 999 < 2 ^ 31 by omega)]
  by_cases c : n < 999
  · simp only [if_pos c, lt_nI (show 1 < 2 ^ 31 by omega) h]
    by_cases c2 : 1 < n
    · rw [if_pos c2, if_neg (by omega), if_neg (by omega)]
    · rw [if_neg c2]
      by_cases c3 : n < 1
      · rw [if_pos c3]
      · rw [if_neg c3, if_neg (by omega)]; congr 1; omega
  · simp only [if_neg c, lt_nI (show 1 < 2 ^ 31 by omega) (show 999 < 2 ^ 31 by omega)]
    rw [if_pos (by omega), if_neg (by omega)]
    by_cases c3 : 999 < n
    · rw [if_pos c3]
    · rw [if_neg c3]; congr 1; omega
theorem within_0 {x : Int32} (h : x.toInt ≤ 0) : mx 1 (mn 999 x) = nI 1 := by
  have e1 : (999 : Int32).toInt = 999 := rfl
  have e2 : (1 : Int32).toInt = 1 := rfl
  have a : x < 999 := by rw [Int32.lt_iff_toInt_lt, e1]; omega
  have b : ¬ 1 < x := by rw [Int32.lt_iff_toInt_lt, e2]; omega
  unfold mx mn
  simp only [if_pos a, if_neg b]
  rfl
theorem xor_pos (x y : Int32) (hy : 0 ≤ y.toInt) : (0 ≤ x ^^^ y) ↔ 0 ≤ x.toInt := by
  have h1 : (x ^^^ y).toBitVec = x.toBitVec ^^^ y.toBitVec := rfl
  rw [Int32.le_iff_toInt_le]
  show (0 : Int) ≤ (x ^^^ y).toBitVec.toInt ↔ 0 ≤ x.toBitVec.toInt
  have hy2 : (0 : Int) ≤ y.toBitVec.toInt := hy
  have m1 := BitVec.msb_eq_toInt (x := (x ^^^ y).toBitVec)
  have m2 := BitVec.msb_eq_toInt (x := x.toBitVec)
  have m3 := BitVec.msb_eq_toInt (x := y.toBitVec)
  rw [h1, BitVec.msb_xor, m2, m3] at m1
  have e3 : decide (y.toBitVec.toInt < 0) = false := decide_eq_false (by omega)
  rw [e3, Bool.xor_false] at m1
  rw [h1]
  by_cases c : x.toBitVec.toInt < 0
  · rw [decide_eq_true c] at m1
    have := of_decide_eq_true m1.symm
    omega
  · rw [decide_eq_false c] at m1
    have := of_decide_eq_false m1.symm
    omega
theorem floor_n {x y : Nat} {σ : qH} (hx : x < 2 ^ 31) (hy0 : 0 < y) (hy : y < 2 ^ 31) : FJ9_floorDiv_7cf53 (nI x) (nI y) σ = some (nI (x / y)) := by
  unfold FJ9_floorDiv_7cf53
  rw [if_neg (nI_ne0 hy0 hy), if_pos ((xor_pos _ _ (by rw [nI_toInt hy]; omega)).mpr (by rw [nI_toInt hx]; omega)), pk_div hx hy0 hy]
theorem floor_neg {x y : Int32} {σ : qH} (hx : x.toInt < 0) (hx2 : -1000000 < x.toInt) (hy : 0 < y.toInt) (hy2 : y.toInt < 1000000) : ∃ v, FJ9_floorDiv_7cf53 x y σ = some v ∧ v.toInt ≤ 0 := by
  have hy0 : ¬ y = 0 := fun e => by rw [e] at hy; exact absurd hy (by decide)
  have e1 : (x / y).toInt = x.toInt.tdiv y.toInt := by
    rw [Int32.toInt_div, Int.bmod_eq_of_le]
    · have := Int.tdiv_nonneg (a := -x.toInt) (b := y.toInt) (by omega) (by omega)
      have h3 := Int.tdiv_le_self (a := -x.toInt) y.toInt (by omega)
      rw [Int.neg_tdiv] at h3
      omega
    · have := Int.tdiv_nonneg (a := -x.toInt) (b := y.toInt) (by omega) (by omega)
      rw [Int.neg_tdiv] at this
      omega
  have h2 : x.toInt.tdiv y.toInt ≤ 0 := by
    have := Int.tdiv_nonneg (a := -x.toInt) (b := y.toInt) (by omega) (by omega)
    rw [Int.neg_tdiv] at this
    omega
  have h3 : -1000000 < x.toInt.tdiv y.toInt := by
    have h3 := Int.tdiv_le_self (a := -x.toInt) y.toInt (by omega)
    rw [Int.neg_tdiv] at h3
    omega
  unfold FJ9_floorDiv_7cf53
  rw [if_neg hy0, if_neg (fun z => by have := (xor_pos x y (by omega)).mp z; omega)]
  by_cases c : x / y * y = x
  · rw [if_pos c]; exact ⟨_, rfl, by rw [e1]; exact h2⟩
  · rw [if_neg c]; refine ⟨_, rfl, ?_⟩
    have e0 : (1 : Int32).toInt = 1 := rfl
    rw [fb_subI (by rw [e1, e0]; omega) (by rw [e1, e0]; omega), e1, e0]
    omega
/-- the class's least height -/
theorem least_e {σ : qH} {m : Me} (h : okM m) : ∃ v, (b1 ((if nI (m 2) = (2 : Int32) then some (nI (m 3)) else b1 (FX2_leastHeight (nI (m 3)) (nI (m 4)) (nI (m 5) - nI (m 6)) σ) fun v35 => some v35) : Option Int32) fun x => b1 (FX2_withinFeet x σ) fun v => some v) = some v ∧ v = nI (lst m) := by
  obtain ⟨h0, h1, h2, h3, h3', h4, h4', h5, h6, hk⟩ := h
  simp only [show (2 : Int32) = nI 2 from rfl, eq_nI (show m 2 < 2 ^ 31 by omega) (show 2 < 2 ^ 31 by omega)]
  unfold lst
  by_cases c : m 2 = 2
  · simp only [if_pos c, b1_s, within_e, within_n (show m 3 < 2 ^ 31 by omega)]
    refine ⟨_, rfl, ?_⟩
    unfold bnd; rw [if_neg (by omega), if_neg (by omega)]
  · simp only [if_neg c]
    unfold FX2_leastHeight
    rw [show (1 : Int32) = nI 1 from rfl]
    simp only [le_nI (show 1 < 2 ^ 31 by omega) (show m 4 < 2 ^ 31 by omega), if_pos h4]
    by_cases c2 : m 6 ≤ m 5
    · have hb : m 3 * (m 5 - m 6) ≤ 999 * 400 := Nat.mul_le_mul h3' (by omega)
      simp only [pk_sub c2, pk_mul, floor_n (σ := σ) (show m 3 * (m 5 - m 6) < 2 ^ 31 by omega) (show 0 < m 4 by omega) (show m 4 < 2 ^ 31 by omega), b1_s, within_e]
      have hd : m 3 * (m 5 - m 6) / m 4 ≤ m 3 * (m 5 - m 6) := Nat.div_le_self _ _
      rw [within_n (by omega)]
      refine ⟨_, rfl, ?_⟩
      by_cases c3 : m 5 ≤ m 6
      · rw [if_pos c3, show m 5 - m 6 = 0 by omega, Nat.mul_zero, Nat.zero_div]; rfl
      · rw [if_neg c3]
    · have e1 := nI_sT (a := m 5) (b := m 6) (by omega) (by omega)
      have e2 : (nI (m 3)).toInt = (m 3 : Int) := nI_toInt (by omega)
      have hp1 : (m 3 : Int) * ((m 5 : Int) - m 6) < 0 := Int.mul_neg_of_pos_of_neg (by omega) (by omega)
      have hp2 : -(20000 : Int) < (m 3 : Int) * ((m 5 : Int) - m 6) := by
        have q1 : (m 3 : Int) * ((m 6 : Int) - m 5) ≤ 999 * 20 := Int.mul_le_mul (by omega) (by omega) (by omega) (by omega)
        have q2 : (m 3 : Int) * ((m 5 : Int) - m 6) = -((m 3 : Int) * ((m 6 : Int) - m 5)) := by rw [← Int.mul_neg]; congr 1; omega
        omega
      have e3 : (nI (m 3) * (nI (m 5) - nI (m 6))).toInt = (m 3 : Int) * ((m 5 : Int) - m 6) := by
        rw [fb_mulI (by rw [e1, e2]; omega) (by rw [e1, e2]; omega), e1, e2]
      obtain ⟨v, hv, hv2⟩ := floor_neg (σ := σ) (x := nI (m 3) * (nI (m 5) - nI (m 6))) (y := nI (m 4)) (by rw [e3]; exact hp1) (by rw [e3]; omega) (by rw [nI_toInt (by omega)]; omega) (by rw [nI_toInt (by omega)]; omega)
      simp only [hv, b1_s, within_e, within_0 hv2]
      exact ⟨_, rfl, by rw [if_pos (by omega)]⟩
theorem greatest_e {σ : qH} {m : Me} (h : okM m) : ∃ v, (b1 ((if nI (m 2) = (2 : Int32) then some (nI (m 4)) else b1 (FX2_greatestHeight (nI (m 3)) (nI (m 4)) (nI (m 5) + nI (m 6)) σ) fun v35 => some v35) : Option Int32) fun x => b1 (FX2_withinFeet x σ) fun v => some v) = some v ∧ v = nI (gst m) := by
  obtain ⟨h0, h1, h2, h3, h3', h4, h4', h5, h6, hk⟩ := h
  simp only [show (2 : Int32) = nI 2 from rfl, eq_nI (show m 2 < 2 ^ 31 by omega) (show 2 < 2 ^ 31 by omega)]
  unfold gst
  by_cases c : m 2 = 2
  · simp only [if_pos c, b1_s, within_e, within_n (show m 4 < 2 ^ 31 by omega)]
    refine ⟨_, rfl, ?_⟩
    unfold bnd; rw [if_neg (by omega), if_neg (by omega)]
  · simp only [if_neg c]
    unfold FX2_greatestHeight
    rw [show (1 : Int32) = nI 1 from rfl]
    have hb : m 3 * (m 5 + m 6) ≤ 999 * 420 := Nat.mul_le_mul h3' (by omega)
    have hd : (m 3 * (m 5 + m 6) + m 4 - 1) / m 4 ≤ m 3 * (m 5 + m 6) + m 4 - 1 := Nat.div_le_self _ _
    simp only [le_nI (show 1 < 2 ^ 31 by omega) (show m 4 < 2 ^ 31 by omega), if_pos h4, if_neg (nI_ne0 (show 0 < m 4 by omega) (show m 4 < 2 ^ 31 by omega)), nI_add, pk_mul, pk_sub (show 1 ≤ m 3 * (m 5 + m 6) + m 4 by omega), pk_div (show m 3 * (m 5 + m 6) + m 4 - 1 < 2 ^ 31 by omega) (show 0 < m 4 by omega) (show m 4 < 2 ^ 31 by omega), b1_s, within_e]
    rw [within_n (by omega)]
    exact ⟨_, rfl, rfl⟩
