/-! Layer 2: the reference's row read. -/
theorem ltn {x y : Int32} : (x < y) = ¬ (y ≤ x) := propext Int32.not_le.symm
theorem in_e {x y z : Int32} {σ : qH} : FX7_in x.toInt64 y.toInt64 z.toInt64 σ = some (bI (y.toInt ≤ x.toInt ∧ x.toInt ≤ z.toInt)) := by
  unfold FX7_in
  have h1 : (lg_cmp x.toInt64 y.toInt64 < 0) = ¬ (y.toInt ≤ x.toInt) := by
    rw [ltn]; simp only [lg_cmp_ge, Int64.le_iff_toInt_le, Int32.toInt_toInt64]
  have h2 : (0 < lg_cmp x.toInt64 z.toInt64) = ¬ (x.toInt ≤ z.toInt) := by
    rw [ltn]; simp only [lg_cmp_le, Int64.le_iff_toInt_le, Int32.toInt_toInt64]
  simp only [h1, h2]
  by_cases c1 : y.toInt ≤ x.toInt
  · by_cases c2 : x.toInt ≤ z.toInt
    · rw [bI_t ⟨c1, c2⟩]; simp [c1, c2, b1_s]
    · rw [bI_f (fun hh => c2 hh.2)]; simp [c1, c2, b1_s]
  · rw [bI_f (fun hh => c1 hh.1)]; simp [c1, b1_s]
theorem in_l {x : Int32} {y z : Int64} {σ : qH} (lo hi : Int32) (hy : y = lo.toInt64) (hz : z = hi.toInt64) : FX7_in x.toInt64 y z σ = some (bI (inZ x lo.toInt hi.toInt)) := by
  subst hy; subst hz; exact in_e
section ZR
variable {σ : qH} {a : Nat} {A : AS}
theorem z_i (h : isZ σ a A) {i : Nat} {v : Int32} (hi : i < 142) (hv : ∀ z : Nat → Int32, σ a = some (.inl (0, (142, .inl z))) → z i = v) : aI σ a (nI i) = some v := by
  obtain ⟨z, h0, -⟩ := h
  rw [aI_e h0 hi (by omega), hv z h0]
theorem z_u {z z' : Nat → Int32} (h : σ a = some (.inl (0, (142, .inl z)))) (h' : σ a = some (.inl (0, (142, .inl z')))) : z = z' := by
  rw [h] at h'
  simpa using h'
theorem z_n (h : isZ σ a A) : aI σ a 0 = some (nI (nM A)) := by
  obtain ⟨z, h0, h1, -⟩ := h; rw [show (0 : Int32) = nI 0 from rfl, aI_e h0 (by omega) (by omega), h1]
theorem z_c (h : isZ σ a A) : aI σ a 1 = some (nI (aCm A)) ∧ aI σ a 2 = some (nI (aEv A)) ∧ aI σ a 3 = some (nI (aSu A)) ∧ aI σ a 4 = some (nI (aLo A)) ∧ aI σ a 5 = some (nI (fb_sm (aRt A) 6)) ∧ aI σ a 6 = some (nI (fb_sm (aWr A) 6)) := by
  obtain ⟨z, h0, -, h1, h2, h3, h4, h5, h6, -⟩ := h
  refine ⟨?_, ?_, ?_, ?_, ?_, ?_⟩
  · rw [show (1 : Int32) = nI 1 from rfl, aI_e h0 (by omega) (by omega), h1]
  · rw [show (2 : Int32) = nI 2 from rfl, aI_e h0 (by omega) (by omega), h2]
  · rw [show (3 : Int32) = nI 3 from rfl, aI_e h0 (by omega) (by omega), h3]
  · rw [show (4 : Int32) = nI 4 from rfl, aI_e h0 (by omega) (by omega), h4]
  · rw [show (5 : Int32) = nI 5 from rfl, aI_e h0 (by omega) (by omega), h5]
  · rw [show (6 : Int32) = nI 6 from rfl, aI_e h0 (by omega) (by omega), h6]
theorem z_s (h : isZ σ a A) {i : Nat} (hi : i < 2) : aI σ a (nI (7 + i)) = some (nI (aSt A i)) := by
  obtain ⟨z, h0, -, -, -, -, -, -, -, h1, -⟩ := h; rw [aI_e h0 (by omega) (by omega), h1 i hi]
theorem z_s0 (h : isZ σ a A) : aI σ a 7 = some (nI (aSt A 0)) := z_s h (i := 0) (by omega)
theorem z_s1 (h : isZ σ a A) : aI σ a 8 = some (nI (aSt A 1)) := z_s h (i := 1) (by omega)
theorem z_t (h : isZ σ a A) {i : Nat} (hi : i < 6) : aI σ a (9 + nI i) = some (nI (aT A i)) ∧ aI σ a (15 + nI i) = some (nI (aRt A i)) ∧ aI σ a (21 + nI i) = some (nI (aWr A i)) := by
  obtain ⟨z, h0, -, -, -, -, -, -, -, -, h1, -⟩ := h
  rw [show (9 : Int32) = nI 9 from rfl, show (15 : Int32) = nI 15 from rfl, show (21 : Int32) = nI 21 from rfl, nI_add, nI_add, nI_add, aI_e h0 (by omega) (by omega), aI_e h0 (by omega) (by omega), aI_e h0 (by omega) (by omega)]
  obtain ⟨g1, g2, g3⟩ := h1 i hi
  rw [g1, g2, g3]; exact ⟨rfl, rfl, rfl⟩
theorem z_v (h : isZ σ a A) {i : Nat} (hi : i < 3) : aI σ a (27 + nI i) = some (aSv A i) := by
  obtain ⟨z, h0, -, -, -, -, -, -, -, -, -, h1, -⟩ := h
  rw [show (27 : Int32) = nI 27 from rfl, nI_add, aI_e h0 (by omega) (by omega), h1 i hi]
theorem of_e (h : isZ σ a A) (hA : okA A) {k j : Nat} (hk : k < nM A) (hj : j < 7) : FX7_of a (nI k) (nI j) σ = some (nI (mk A k j)) := by
  have h16 : nM A ≤ 16 := hA.1
  obtain ⟨z, h0, -, -, -, -, -, -, -, -, -, -, h1⟩ := h
  unfold FX7_of
  rw [show (30 : Int32) + 7 * nI k + nI j = nI (30 + 7 * k + j) by rw [show (30 : Int32) = nI 30 from rfl, show (7 : Int32) = nI 7 from rfl, pk_mul, nI_add, nI_add], aI_e h0 (by omega) (by omega), h1 k hk j hj]
  rfl
theorem of_l (h : isZ σ a A) (hA : okA A) {k : Nat} (hk : k < nM A) : FX7_of a (nI k) 0 σ = some (nI (mk A k 0)) ∧ FX7_of a (nI k) 1 σ = some (nI (mk A k 1)) ∧ FX7_of a (nI k) 2 σ = some (nI (mk A k 2)) ∧ FX7_of a (nI k) 3 σ = some (nI (mk A k 3)) ∧ FX7_of a (nI k) 4 σ = some (nI (mk A k 4)) ∧ FX7_of a (nI k) 5 σ = some (nI (mk A k 5)) ∧ FX7_of a (nI k) 6 σ = some (nI (mk A k 6)) :=
  ⟨of_e h hA hk (j := 0) (by omega), of_e h hA hk (j := 1) (by omega), of_e h hA hk (j := 2) (by omega), of_e h hA hk (j := 3) (by omega), of_e h hA hk (j := 4) (by omega), of_e h hA hk (j := 5) (by omega), of_e h hA hk (j := 6) (by omega)⟩
theorem bounded_e {n : Nat} (h : n < 2 ^ 31) : FX7_bounded (nI n) σ = some (nI (bnd n)) := by
  unfold FX7_bounded bnd
  simp only [show (1 : Int32) = nI 1 from rfl, show (999 : Int32) = nI 999 from rfl, le_nI (show 1 < 2 ^ 31 by omega) h, le_nI h (show 999 < 2 ^ 31 by omega)]
  by_cases c1 : 1 ≤ n
  · by_cases c2 : n ≤ 999
    · rw [if_pos c1, if_pos c2, if_neg (by omega), if_neg (by omega), b1_s]
    · rw [if_pos c1, if_neg c2, if_neg (by omega), if_pos (by omega), b1_s]
  · rw [if_neg c1, if_pos (by omega), b1_s]
theorem zleast_e (h : isZ σ a A) (hA : okA A) {k : Nat} (hk : k < nM A) : FX7_least a (nI k) σ = some (nI (lst (mk A k))) := by
  obtain ⟨e0, e1, e2, e3, e4, e5, e6⟩ := of_l h hA hk
  obtain ⟨h0, h1, h2, h3, h3', h4, h4', h5, h6, hq⟩ := hA.2.1 k hk
  unfold FX7_least lst
  simp only [e2, e3, e4, e5, e6, b1_s]
  simp only [show (2 : Int32) = nI 2 from rfl, eq_nI (show mk A k 2 < 2 ^ 31 by omega) (show 2 < 2 ^ 31 by omega), if_neg (nI_ne0 (show 0 < mk A k 4 by omega) (show mk A k 4 < 2 ^ 31 by omega))]
  by_cases c : mk A k 2 = 2
  · simp only [if_pos c, b1_s]
  · simp only [if_neg c]
    have e := nI_sT (a := mk A k 5) (b := mk A k 6) (by omega) (by omega)
    have e' : ((1 : Int32) ≤ nI (mk A k 5) - nI (mk A k 6)) = (mk A k 6 < mk A k 5) := by
      apply propext
      rw [Int32.le_iff_toInt_le, e, show (1 : Int32).toInt = 1 from rfl]; omega
    simp only [e']
    by_cases c2 : mk A k 6 < mk A k 5
    · have hb : mk A k 3 * (mk A k 5 - mk A k 6) ≤ 999 * 400 := Nat.mul_le_mul h3' (by omega)
      have hd : mk A k 3 * (mk A k 5 - mk A k 6) / mk A k 4 ≤ mk A k 3 * (mk A k 5 - mk A k 6) := Nat.div_le_self _ _
      simp only [if_pos c2, if_neg (show ¬ mk A k 5 ≤ mk A k 6 by omega), pk_sub (show mk A k 6 ≤ mk A k 5 by omega), pk_mul, pk_div (show mk A k 3 * (mk A k 5 - mk A k 6) < 2 ^ 31 by omega) (show 0 < mk A k 4 by omega) (show mk A k 4 < 2 ^ 31 by omega), bounded_e (σ := σ) (show mk A k 3 * (mk A k 5 - mk A k 6) / mk A k 4 < 2 ^ 31 by omega), b1_s]
    · simp only [if_neg c2, if_pos (show mk A k 5 ≤ mk A k 6 by omega), b1_s]; rfl
theorem zgreat_e (h : isZ σ a A) (hA : okA A) {k : Nat} (hk : k < nM A) : FX7_greatest a (nI k) σ = some (nI (gst (mk A k))) := by
  obtain ⟨e0, e1, e2, e3, e4, e5, e6⟩ := of_l h hA hk
  obtain ⟨h0, h1, h2, h3, h3', h4, h4', h5, h6, hq⟩ := hA.2.1 k hk
  unfold FX7_greatest gst
  have hb : mk A k 3 * (mk A k 5 + mk A k 6) ≤ 999 * 420 := Nat.mul_le_mul h3' (by omega)
  have hd : (mk A k 3 * (mk A k 5 + mk A k 6) + mk A k 4 - 1) / mk A k 4 ≤ mk A k 3 * (mk A k 5 + mk A k 6) + mk A k 4 - 1 := Nat.div_le_self _ _
  simp only [e2, e3, e4, e5, e6, b1_s]
  simp only [show (2 : Int32) = nI 2 from rfl, show (1 : Int32) = nI 1 from rfl, eq_nI (show mk A k 2 < 2 ^ 31 by omega) (show 2 < 2 ^ 31 by omega), if_neg (nI_ne0 (show 0 < mk A k 4 by omega) (show mk A k 4 < 2 ^ 31 by omega)), nI_add, pk_mul, pk_sub (show 1 ≤ mk A k 3 * (mk A k 5 + mk A k 6) + mk A k 4 by omega), pk_div (show mk A k 3 * (mk A k 5 + mk A k 6) + mk A k 4 - 1 < 2 ^ 31 by omega) (show 0 < mk A k 4 by omega) (show mk A k 4 < 2 ^ 31 by omega), bounded_e (σ := σ) (show (mk A k 3 * (mk A k 5 + mk A k 6) + mk A k 4 - 1) / mk A k 4 < 2 ^ 31 by omega)]
  by_cases c : mk A k 2 = 2
  · simp only [if_pos c, b1_s]
  · simp only [if_neg c, b1_s]
theorem ztells_e (h : isZ σ a A) (hA : okA A) {k x : Nat} (hk : k < nM A) (hx : x < 2 ^ 31) : FX7_tells a (nI k) (nI x) σ = some (bI (lst (mk A k) ≤ x ∧ x ≤ gst (mk A k))) := by
  have hb := mk_b hA hk
  unfold FX7_tells
  simp only [zleast_e h hA hk, zgreat_e h hA hk, b1_s, in_e, bI_g]
  refine congrArg some (bI_c ?_)
  rw [nI_toInt hx, nI_toInt (by omega), nI_toInt (by omega)]; omega
theorem zweight_e (h : isZ σ a A) (hA : okA A) {k : Nat} (hk : k < nM A) : FX7_weight a (nI k) σ = some (nI (wt A (mk A k))) := by
  have hb := mk_b hA hk
  obtain ⟨e0, e1, e2, -⟩ := of_l h hA hk
  unfold FX7_weight wt
  simp only [e1, e2, b1_s, (z_t h hb.2.1).1, z_s0 h]
  simp only [show (2 : Int32) = nI 2 from rfl, le_nI (show 2 < 2 ^ 31 by omega) (show mk A k 2 < 2 ^ 31 by omega)]
  by_cases c : mk A k 2 = 2
  · rw [if_pos (by omega), if_pos c, b1_s]
    show some (nI _ + nI 0) = _
    rw [nI_add]
  · rw [if_neg (by omega), if_neg c, b1_s, nI_add]
theorem zvote_e (h : isZ σ a A) (hA : okA A) {s x : Nat} (hs : s < 2 ^ 31) (hx : x < 2 ^ 31) : FX7_voteOf a (nI s) (nI x) σ = some (nI (vot A s x)) := by
  have h16 := hA.1
  unfold FX7_voteOf
  simp only [b1_eta]
  refine sumloop0 (fun q2 k z hk => ?_) (fun q2 z => ?_) (by show (aM A).length < _; omega)
  · have hb := mk_b hA hk
    rw [FX7_voteOf_L5]
    simp only [z_n h, b1_s, le_nI (n16 hA) (show k < 2 ^ 31 by have := n16 hA; omega), if_neg (Nat.not_le.mpr hk), nI_1, (of_l h hA hk).1, eq_nI (show mk A k 0 < 2 ^ 31 by omega) hs, ztells_e h hA hk hx, zweight_e h hA hk, bI_ite]
    unfold vt1
    by_cases c1 : mk A k 0 = s
    · by_cases c2 : lst (mk A k) ≤ x ∧ x ≤ gst (mk A k)
      · simp only [if_pos c1, if_pos c2, if_pos (show mk A k 0 = s ∧ lst (mk A k) ≤ x ∧ x ≤ gst (mk A k) from ⟨c1, c2⟩), b1_s]
      · simp only [if_pos c1, if_neg c2, if_neg (show ¬ (mk A k 0 = s ∧ lst (mk A k) ≤ x ∧ x ≤ gst (mk A k)) from fun hh => c2 hh.2), b1_s]; rfl
    · simp only [if_neg c1, if_neg (show ¬ (mk A k 0 = s ∧ lst (mk A k) ≤ x ∧ x ≤ gst (mk A k)) from fun hh => c1 hh.1), b1_s]; rfl
  · rw [FX7_voteOf_L5]
    simp only [z_n h, b1_s, le_nI (n16 hA) (n16 hA), Nat.le_refl, if_true]
end ZR
