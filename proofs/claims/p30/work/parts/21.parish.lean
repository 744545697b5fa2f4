section LP
variable {σ : qH} {q : Nat} {A : AS}
theorem p_obj (h : isP σ q A) : ∃ fs, σ q = some (.inr (2, fs)) := by obtain ⟨m, t, r, w, v, s, h, -⟩ := h; exact ⟨_, h⟩
theorem p_gC (h : isP σ q A) : gC σ q 2 = some () := by obtain ⟨fs, h⟩ := p_obj h; exact gC_e h
theorem p_cnt (h : isP σ q A) : gI σ q 2 6 = some (nI (aM A).length) := by obtain ⟨m, t, r, w, v, s, h, -⟩ := h; exact gI_e h rfl
theorem p_came (h : isP σ q A) : gI σ q 2 7 = some (nI (aCm A)) := by obtain ⟨m, t, r, w, v, s, h, -⟩ := h; exact gI_e h rfl
theorem p_even (h : isP σ q A) : gI σ q 2 8 = some (nI (aEv A)) := by obtain ⟨m, t, r, w, v, s, h, -⟩ := h; exact gI_e h rfl
theorem p_surv (h : isP σ q A) : gI σ q 2 9 = some (nI (aSu A)) := by obtain ⟨m, t, r, w, v, s, h, -⟩ := h; exact gI_e h rfl
theorem p_lost (h : isP σ q A) : gI σ q 2 10 = some (nI (aLo A)) := by obtain ⟨m, t, r, w, v, s, h, -⟩ := h; exact gI_e h rfl
theorem p_R (h : isP σ q A) : gR σ q 2 0 = some (q + 1) ∧ gR σ q 2 1 = some (q + 2) ∧ gR σ q 2 2 = some (q + 3) ∧ gR σ q 2 3 = some (q + 4) ∧ gR σ q 2 4 = some (q + 5) ∧ gR σ q 2 5 = some (q + 6) := by
  obtain ⟨m, t, r, w, v, s, h, -⟩ := h
  exact ⟨gR_e h rfl, gR_e h rfl, gR_e h rfl, gR_e h rfl, gR_e h rfl, gR_e h rfl⟩
theorem p_m (h : isP σ q A) (hA : okA A) {k j : Nat} (hk : k < (aM A).length) (hj : j < 7) : aI σ (q + 1) (nI (k * 9 + j)) = some (nI (mk A k j)) := by
  obtain ⟨m, t, r, w, v, s, h0, h1, h2, h3, h4, h5, h6, hm, -⟩ := h
  have := hA.1
  rw [aI_e h1 (by omega) (by omega), Nat.mul_comm k 9, (hm k hk).1 j hj]
theorem p_l (h : isP σ q A) (hA : okA A) {k : Nat} (hk : k < (aM A).length) : aI σ (q + 1) (nI (k * 9 + 7)) = some (nI (lst (mk A k))) := by
  obtain ⟨m, t, r, w, v, s, h0, h1, h2, h3, h4, h5, h6, hm, -⟩ := h
  have := hA.1
  rw [aI_e h1 (by omega) (by omega), Nat.mul_comm k 9, (hm k hk).2.1]
theorem p_g (h : isP σ q A) (hA : okA A) {k : Nat} (hk : k < (aM A).length) : aI σ (q + 1) (nI (k * 9 + 8)) = some (nI (gst (mk A k))) := by
  obtain ⟨m, t, r, w, v, s, h0, h1, h2, h3, h4, h5, h6, hm, -⟩ := h
  have := hA.1
  rw [aI_e h1 (by omega) (by omega), Nat.mul_comm k 9, (hm k hk).2.2]
theorem p_t (h : isP σ q A) {i : Nat} (hi : i < 6) : aI σ (q + 2) (nI i) = some (nI (aT A i)) ∧ aI σ (q + 3) (nI i) = some (nI (aRt A i)) ∧ aI σ (q + 4) (nI i) = some (nI (aWr A i)) := by
  obtain ⟨m, t, r, w, v, s, h0, h1, h2, h3, h4, h5, h6, hm, ht, -⟩ := h
  obtain ⟨e1, e2, e3⟩ := ht i hi
  exact ⟨by rw [aI_e h2 hi (by omega), e1], by rw [aI_e h3 hi (by omega), e2], by rw [aI_e h4 hi (by omega), e3]⟩
theorem p_v (h : isP σ q A) {i : Nat} (hi : i < 3) : aI σ (q + 5) (nI i) = some (aSv A i) := by
  obtain ⟨m, t, r, w, v, s, h0, h1, h2, h3, h4, h5, h6, hm, ht, hv, -⟩ := h
  rw [aI_e h5 hi (by omega), hv i hi]
theorem p_s (h : isP σ q A) {i : Nat} (hi : i < 2) : aI σ (q + 6) (nI i) = some (nI (aSt A i)) := by
  obtain ⟨m, t, r, w, v, s, h0, h1, h2, h3, h4, h5, h6, hm, ht, hv, hs⟩ := h
  rw [aI_e h6 hi (by omega), hs i hi]
end LP
/-- a truth as an int -/
def bI (p : Prop) [Decidable p] : Int32 := if p then 1 else 0
theorem bI_t {p : Prop} [Decidable p] (h : p) : bI p = 1 := if_pos h
theorem bI_f {p : Prop} [Decidable p] (h : ¬ p) : bI p = 0 := if_neg h
theorem bI_0 {p : Prop} [Decidable p] : bI p = 0 ↔ ¬ p := by
  by_cases h : p
  · rw [bI_t h]; exact ⟨fun e => absurd e (by decide), fun e => absurd h e⟩
  · rw [bI_f h]; exact ⟨fun _ => h, fun _ => rfl⟩
theorem bI_ite {α : Type} {p : Prop} [Decidable p] {x y : α} : (if bI p = 0 then x else y) = if p then y else x := by
  by_cases h : p
  · rw [if_neg (fun e => bI_0.mp e h), if_pos h]
  · rw [if_pos (bI_0.mpr h), if_neg h]
theorem bI_g {p : Prop} [Decidable p] : (if bI p = 0 ∨ bI p = 1 then some (bI p) else none) = some (bI p) := by
  by_cases h : p
  · rw [bI_t h]; rfl
  · rw [bI_f h]; rfl
theorem bI_c {p q : Prop} [Decidable p] [Decidable q] (h : p ↔ q) : bI p = bI q := by
  by_cases hp : p
  · rw [bI_t hp, bI_t (h.mp hp)]
  · rw [bI_f hp, bI_f (fun z => hp (h.mpr z))]
theorem bI_nI {p : Prop} [Decidable p] : bI p = nI (if p then 1 else 0) := by
  by_cases h : p
  · rw [bI_t h, if_pos h]; rfl
  · rw [bI_f h, if_neg h]; rfl
theorem b1_eta {α : Type} {o : Option α} : b1 o (fun v => some v) = o := by cases o <;> rfl
def mx (x y : Int32) : Int32 := if x < y then y else x
def mn (x y : Int32) : Int32 := if y < x then y else x
theorem max_e {x y : Int32} {σ : qH} : FJ9_max_7cf53 x y σ = some (mx x y) := by
  unfold FJ9_max_7cf53 mx
  by_cases h : x < y
  · rw [if_pos h, if_pos h]; rfl
  · rw [if_neg h, if_neg h]; rfl
theorem lt_nI {a b : Nat} (ha : a < 2 ^ 31) (hb : b < 2 ^ 31) : (nI a < nI b) = (a < b) := propext (nI_ltI ha hb)
theorem le_nI {a b : Nat} (ha : a < 2 ^ 31) (hb : b < 2 ^ 31) : (nI a ≤ nI b) = (a ≤ b) := propext (nI_leI ha hb)
theorem eq_nI {a b : Nat} (ha : a < 2 ^ 31) (hb : b < 2 ^ 31) : (nI a = nI b) = (a = b) := propext (nI_eq ha hb)
theorem nI_sT {a b : Nat} (ha : a < 2 ^ 30) (hb : b < 2 ^ 30) : (nI a - nI b).toInt = (a : Int) - b := pk_sub_toInt ha hb
theorem mx_sub {a b c d : Nat} (ha : a < 2 ^ 30) (hb : b < 2 ^ 30) (hc : c < 2 ^ 30) (hd : d < 2 ^ 30) : mx 0 (mx (nI a - nI b) (nI c - nI d)) = nI (max (a - b) (c - d)) := by
  apply Int32.toInt_inj.mp
  have e0 : (0 : Int32).toInt = 0 := rfl
  have e1 := nI_sT ha hb
  have e2 := nI_sT hc hd
  rw [nI_toInt (by omega)]
  unfold mx
  simp only [Int32.lt_iff_toInt_lt]
  split <;> split <;> (try split) <;> simp_all <;> omega
def gap (m m' : Me) : Nat := max (lst m - gst m') (lst m' - gst m)
def wt (A : AS) (m : Me) : Nat := aT A (m 1) + if m 2 = 2 then 0 else aSt A 0
section LP2
variable {σ : qH} {q : Nat} {A : AS}
theorem number_e (h : isP σ q A) (hA : okA A) {k j : Nat} (hk : k < (aM A).length) (hj : j < 7) : FX2_number q (nI k) (nI j) σ = some (nI (mk A k j)) := by
  unfold FX2_number
  simp only [p_gC h, b1_s, (p_R h).1, b1_eta]
  show aI σ (q + 1) (nI k * nI 9 + nI j) = _
  rw [pk_mul, nI_add, p_m h hA hk hj]
theorem number_7 (h : isP σ q A) (hA : okA A) {k : Nat} (hk : k < (aM A).length) : FX2_number q (nI k) 7 σ = some (nI (lst (mk A k))) := by
  unfold FX2_number
  simp only [p_gC h, b1_s, (p_R h).1, b1_eta]
  show aI σ (q + 1) (nI k * nI 9 + nI 7) = _
  rw [pk_mul, nI_add, p_l h hA hk]
theorem number_8 (h : isP σ q A) (hA : okA A) {k : Nat} (hk : k < (aM A).length) : FX2_number q (nI k) 8 σ = some (nI (gst (mk A k))) := by
  unfold FX2_number
  simp only [p_gC h, b1_s, (p_R h).1, b1_eta]
  show aI σ (q + 1) (nI k * nI 9 + nI 8) = _
  rw [pk_mul, nI_add, p_g h hA hk]
theorem number_0 (h : isP σ q A) (hA : okA A) {k : Nat} (hk : k < (aM A).length) : FX2_number q (nI k) 0 σ = some (nI (mk A k 0)) := number_e h hA hk (j := 0) (by omega)
theorem number_1 (h : isP σ q A) (hA : okA A) {k : Nat} (hk : k < (aM A).length) : FX2_number q (nI k) 1 σ = some (nI (mk A k 1)) := number_e h hA hk (j := 1) (by omega)
theorem number_2 (h : isP σ q A) (hA : okA A) {k : Nat} (hk : k < (aM A).length) : FX2_number q (nI k) 2 σ = some (nI (mk A k 2)) := number_e h hA hk (j := 2) (by omega)
theorem mk_b (hA : okA A) {k : Nat} (hk : k < (aM A).length) : mk A k 0 < 3 ∧ mk A k 1 < 6 ∧ mk A k 2 ≤ 2 ∧ (1 ≤ lst (mk A k) ∧ lst (mk A k) ≤ 999) ∧ (1 ≤ gst (mk A k) ∧ gst (mk A k) ≤ 999) := by
  have h := hA.2.1 k hk
  exact ⟨h.1, h.2.1, h.2.2.1, lst_r h, gst_r h⟩
theorem wt_b (hA : okA A) {k : Nat} (hk : k < (aM A).length) : wt A (mk A k) ≤ 14 := by
  have h := hA.2.1 k hk
  have h2 := hA.2.2.1 _ h.2.1
  have h3 := hA.2.2.2.1
  unfold wt; split <;> omega
theorem isOf_e (h : isP σ q A) (hA : okA A) {k s : Nat} (hk : k < (aM A).length) (hs : s < 2 ^ 31) : FX2_isOf q (nI k) (nI s) σ = some (bI (mk A k 0 = s)) := by
  have hb := mk_b hA hk
  unfold FX2_isOf
  simp only [p_gC h, b1_s, number_0 h hA hk, eq_nI (show mk A k 0 < 2 ^ 31 by omega) hs]
  by_cases c : mk A k 0 = s
  · simp only [c, if_true, b1_s, bI_t]; rfl
  · simp only [c, if_false, b1_s, bI_f, not_false_eq_true]; rfl
theorem tells_e (h : isP σ q A) (hA : okA A) {k x : Nat} (hk : k < (aM A).length) (hs : x < 2 ^ 31) : FX2_tells q (nI k) (nI x) σ = some (bI (lst (mk A k) ≤ x ∧ x ≤ gst (mk A k))) := by
  have hb := mk_b hA hk
  unfold FX2_tells
  simp only [p_gC h, b1_s, number_7 h hA hk, number_8 h hA hk, lt_nI hs (show lst (mk A k) < 2 ^ 31 by omega), lt_nI (show gst (mk A k) < 2 ^ 31 by omega) hs]
  by_cases c : x < lst (mk A k)
  · rw [if_pos c, bI_f (by omega)]; rfl
  · rw [if_neg c]
    by_cases c2 : gst (mk A k) < x
    · rw [if_pos c2, bI_f (by omega)]; rfl
    · rw [if_neg c2, bI_t (by omega)]; rfl
theorem weight_e (h : isP σ q A) (hA : okA A) {k : Nat} (hk : k < (aM A).length) : FX2_weight q (nI k) σ = some (nI (wt A (mk A k))) := by
  have hb := mk_b hA hk
  unfold FX2_weight
  simp only [p_gC h, b1_s, (p_R h).2.1, number_1 h hA hk, (p_t h hb.2.1).1, number_2 h hA hk, (p_R h).2.2.2.2.2]
  have e0 : aI σ (q + 6) 0 = some (nI (aSt A 0)) := p_s h (i := 0) (by omega)
  simp only [e0, b1_s, show ((2 : Int32) = nI 2) from rfl, eq_nI (show mk A k 2 < 2 ^ 31 by omega) (show 2 < 2 ^ 31 by omega)]
  unfold wt
  by_cases c : mk A k 2 = 2
  · simp only [c, if_true, b1_s]
    show some (nI _ + nI 0) = _
    rw [nI_add]
  · simp only [c, if_false, b1_s, nI_add]
theorem feetApart_e (h : isP σ q A) (hA : okA A) {k i : Nat} (hk : k < (aM A).length) (hi : i < (aM A).length) : FX2_feetApart q (nI k) (nI i) σ = some (if mk A k 0 = mk A i 0 then nI (gap (mk A k) (mk A i)) else -1) := by
  have hb := mk_b hA hk
  have hb2 := mk_b hA hi
  unfold FX2_feetApart
  simp only [p_gC h, b1_s, number_0 h hA hk, number_0 h hA hi, number_7 h hA hk, number_7 h hA hi, number_8 h hA hk, number_8 h hA hi, eq_nI (show mk A k 0 < 2 ^ 31 by omega) (show mk A i 0 < 2 ^ 31 by omega), max_e]
  by_cases c : mk A k 0 = mk A i 0
  · rw [if_pos c, if_pos c, mx_sub (by omega) (by omega) (by omega) (by omega)]; rfl
  · rw [if_neg c, if_neg c]
theorem gap_b (hA : okA A) {k i : Nat} (hk : k < (aM A).length) (hi : i < (aM A).length) : gap (mk A k) (mk A i) ≤ 998 := by
  have hb := mk_b hA hk
  have hb2 := mk_b hA hi
  unfold gap; omega
abbrev quar (m m' : Me) : Prop := m 1 ≠ m' 1 ∧ m 0 = m' 0 ∧ 0 < gap m m'
abbrev matt (A : AS) (m m' : Me) : Prop := m 1 ≠ m' 1 ∧ m 0 = m' 0 ∧ aSt A 1 < gap m m'
theorem quarrel_e (h : isP σ q A) (hA : okA A) {k i : Nat} (hk : k < (aM A).length) (hi : i < (aM A).length) : FX2_quarrel q (nI k) (nI i) σ = some (bI (quar (mk A k) (mk A i))) := by
  have hb := mk_b hA hk
  have hb2 := mk_b hA hi
  have hg := gap_b hA hk hi
  unfold FX2_quarrel
  simp only [p_gC h, b1_s, number_1 h hA hk, number_1 h hA hi, feetApart_e h hA hk hi, eq_nI (show mk A k 1 < 2 ^ 31 by omega) (show mk A i 1 < 2 ^ 31 by omega)]
  by_cases c : mk A k 1 = mk A i 1
  · rw [if_pos c, bI_f (fun z => z.1 c)]; rfl
  · rw [if_neg c]
    by_cases c2 : mk A k 0 = mk A i 0
    · rw [if_pos c2, show (0 : Int32) = nI 0 from rfl]
      simp only [le_nI (show gap (mk A k) (mk A i) < 2 ^ 31 by omega) (show 0 < 2 ^ 31 by omega)]
      by_cases c3 : gap (mk A k) (mk A i) ≤ 0
      · rw [if_pos c3, bI_f (fun z => by have := z.2.2; omega)]; rfl
      · rw [if_neg c3, bI_t ⟨c, c2, by omega⟩]; rfl
    · rw [if_neg c2, bI_f (fun z => c2 z.2.1)]; rfl
theorem matters_e (h : isP σ q A) (hA : okA A) {k i : Nat} (hk : k < (aM A).length) (hi : i < (aM A).length) : FX2_matters q (nI k) (nI i) σ = some (bI (matt A (mk A k) (mk A i))) := by
  have hb := mk_b hA hk
  have hb2 := mk_b hA hi
  have hg := gap_b hA hk hi
  have hs := hA.2.2.2.2
  unfold FX2_matters
  have e0 : aI σ (q + 6) 1 = some (nI (aSt A 1)) := p_s h (i := 1) (by omega)
  simp only [p_gC h, b1_s, number_1 h hA hk, number_1 h hA hi, feetApart_e h hA hk hi, eq_nI (show mk A k 1 < 2 ^ 31 by omega) (show mk A i 1 < 2 ^ 31 by omega), (p_R h).2.2.2.2.2, e0]
  by_cases c : mk A k 1 = mk A i 1
  · rw [if_pos c, bI_f (fun z => z.1 c)]; rfl
  · rw [if_neg c]
    by_cases c2 : mk A k 0 = mk A i 0
    · simp only [if_pos c2, le_nI (show gap (mk A k) (mk A i) < 2 ^ 31 by omega) (show aSt A 1 < 2 ^ 31 by omega)]
      by_cases c3 : gap (mk A k) (mk A i) ≤ aSt A 1
      · rw [if_pos c3, bI_f (fun z => by have := z.2.2; omega)]; rfl
      · rw [if_neg c3, bI_t ⟨c, c2, by omega⟩]; rfl
    · have c3 : (-1 : Int32) ≤ nI (aSt A 1) := by
        rw [Int32.le_iff_toInt_le, nI_toInt (by omega)]
        show (-1 : Int) ≤ _
        omega
      rw [if_neg c2, if_pos c3, bI_f (fun z => c2 z.2.1)]; rfl
end LP2
