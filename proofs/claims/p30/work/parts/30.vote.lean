/-! Layer 2: votes of the class, and the reference's row read. -/
def vt1 (A : AS) (s x : Nat) (m : Me) : Nat := if m 0 = s ∧ lst m ≤ x ∧ x ≤ gst m then wt A m else 0
def vot (A : AS) (s x : Nat) : Nat := fb_sm (fun k => vt1 A s x (mk A k)) (nM A)
def votX (A : AS) (s x i : Nat) : Nat := fb_sm (fun k => if k = i then 0 else vt1 A s x (mk A k)) (nM A)
section VO
variable {σ : qH} {q : Nat} {A : AS}
theorem voteOf_g (h : isP σ q A) (hA : okA A) {s x : Nat} (hs : s < 2 ^ 31) (hx : x < 2 ^ 31) (y : Int32) : FX2_voteOf q (nI s) (nI x) y σ = some (nI (fb_sm (fun k => if nI k = y then 0 else vt1 A s x (mk A k)) (nM A))) := by
  have h16 := hA.1
  unfold FX2_voteOf
  simp only [p_gC h, b1_s, b1_eta]
  refine sumloop0 (fun q2 k z hk => ?_) (fun q2 z => ?_) (by show (aM A).length < _; omega)
  · rw [FX2_voteOf_L6]
    simp only [p_cnt h, b1_s, le_nI (n16 hA) (show k < 2 ^ 31 by have := n16 hA; omega), if_neg (Nat.not_le.mpr hk), nI_1, isOf_e h hA hk hs, tells_e h hA hk hx, weight_e h hA hk, bI_ite]
    unfold vt1
    by_cases c : nI k = y
    · simp only [if_pos c]; rfl
    · simp only [if_neg c]
      by_cases c1 : mk A k 0 = s
      · by_cases c2 : lst (mk A k) ≤ x ∧ x ≤ gst (mk A k)
        · simp only [if_pos c1, if_pos c2, if_pos (show mk A k 0 = s ∧ lst (mk A k) ≤ x ∧ x ≤ gst (mk A k) from ⟨c1, c2⟩), b1_s]
        · simp only [if_pos c1, if_neg c2, if_neg (show ¬ (mk A k 0 = s ∧ lst (mk A k) ≤ x ∧ x ≤ gst (mk A k)) from fun hh => c2 hh.2), b1_s]; rfl
      · simp only [if_neg c1, if_neg (show ¬ (mk A k 0 = s ∧ lst (mk A k) ≤ x ∧ x ≤ gst (mk A k)) from fun hh => c1 hh.1), b1_s]; rfl
  · rw [FX2_voteOf_L6]
    simp only [p_cnt h, b1_s, le_nI (n16 hA) (n16 hA), Nat.le_refl, if_true]
theorem fsm_c {f g : Nat → Nat} {n : Nat} (h : ∀ k, k < n → f k = g k) : fb_sm f n = fb_sm g n := by
  induction n with
  | zero => rfl
  | succ n ih => simp only [fb_sm]; rw [ih (fun k hk => h k (by omega)), h n (by omega)]
theorem voteOf_e (h : isP σ q A) (hA : okA A) {s x : Nat} (hs : s < 2 ^ 31) (hx : x < 2 ^ 31) : FX2_voteOf q (nI s) (nI x) (-1) σ = some (nI (vot A s x)) := by
  rw [voteOf_g h hA hs hx]
  have h16 := hA.1
  have e : fb_sm (fun k => if nI k = (-1 : Int32) then 0 else vt1 A s x (mk A k)) (nM A) = vot A s x := by
    refine fsm_c fun k hk => ?_
    have hk2 : k < 16 := by have : k < (aM A).length := hk; omega
    have : ¬ nI k = (-1 : Int32) := fun hh => by
      have := congrArg Int32.toInt hh
      rw [nI_toInt (by omega), show (-1 : Int32).toInt = -1 from rfl] at this
      omega
    rw [if_neg this]
  rw [e]
theorem voteOf_x (h : isP σ q A) (hA : okA A) {s x i : Nat} (hs : s < 2 ^ 31) (hx : x < 2 ^ 31) (hi : i < 2 ^ 31) : FX2_voteOf q (nI s) (nI x) (nI i) σ = some (nI (votX A s x i)) := by
  rw [voteOf_g h hA hs hx]
  have h16 := hA.1
  have e : fb_sm (fun k => if nI k = nI i then 0 else vt1 A s x (mk A k)) (nM A) = votX A s x i := by
    refine fsm_c fun k hk => ?_
    have hk2 : k < 16 := by have : k < (aM A).length := hk; omega
    simp only [eq_nI (show k < 2 ^ 31 by omega) hi]
  rw [e]
theorem count_e (h : isP σ q A) : FX2_count q σ = some (nI (nM A)) := by unfold FX2_count; simp only [p_gC h, b1_s, p_cnt h]
theorem came_e (h : isP σ q A) : FX2_came q σ = some (nI (aCm A)) := by unfold FX2_came; simp only [p_gC h, b1_s, p_came h]
theorem evenings_e (h : isP σ q A) : FX2_evenings q σ = some (nI (aEv A)) := by unfold FX2_evenings; simp only [p_gC h, b1_s, p_even h]
theorem surveys_e (h : isP σ q A) : FX2_surveys q σ = some (nI (aSu A)) := by unfold FX2_surveys; simp only [p_gC h, b1_s, p_surv h]
end VO
