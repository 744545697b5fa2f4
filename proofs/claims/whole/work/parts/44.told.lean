/-! Layer 2: does a teller tell a height of a steeple. -/
def tlB (A : AS) (t s x : Nat) : Nat → Nat → Bool
  | 0, _ => false
  | d + 1, k => if mk A k 0 = s ∧ mk A k 1 = t ∧ telP (mk A k) x then true else tlB A t s x d (k + 1)
theorem tlB_t {A : AS} {t s x d k : Nat} (h : mk A k 0 = s ∧ mk A k 1 = t ∧ telP (mk A k) x) : tlB A t s x (d + 1) k = true := if_pos h
theorem tlB_f {A : AS} {t s x d k : Nat} (h : ¬ (mk A k 0 = s ∧ mk A k 1 = t ∧ telP (mk A k) x)) : tlB A t s x (d + 1) k = tlB A t s x d (k + 1) := if_neg h
section TL
variable {σ : qH} {q : Nat} {A : AS}
theorem thL (h : isP σ q A) (hA : okA A) {t s x : Nat} (ht : t < 2 ^ 31) (hs : s < 2 ^ 31) (hx : x < 2 ^ 31) : ∀ (d k q2 : Nat), k + d = nM A → FX2_tellsHeight_L3 q (nI t) (nI s) (nI x) σ (d + 1 + q2) (nI k) = some (if tlB A t s x d k then 1 else 0)
  | 0, k, q2, hk => by
    have n31 := n16 hA
    have e : k = nM A := by omega
    subst e
    rw [show 0 + 1 + q2 = q2 + 1 by omega, FX2_tellsHeight_L3]
    simp only [p_cnt h, b1_s, le_nI n31 n31, Nat.le_refl, if_true]
    rfl
  | d + 1, k, q2, hk => by
    have n31 := n16 hA
    have hkn : k < nM A := by omega
    have mb := mk_b hA hkn
    have ih := thL h hA ht hs hx d (k + 1) q2 (by omega)
    rw [show d + 1 + 1 + q2 = (d + 1 + q2) + 1 by omega, FX2_tellsHeight_L3]
    simp only [p_cnt h, b1_s, le_nI n31 (show k < 2 ^ 31 by omega), if_neg (show ¬ nM A ≤ k by omega), isOf_e h hA hkn hs, number_1 h hA hkn, tells_e h hA hkn hx, bI_ite, nI_1, eq_nI (show mk A k 1 < 2 ^ 31 by omega) ht]
    rw [ih]
    by_cases c1 : mk A k 0 = s
    · by_cases c2 : mk A k 1 = t
      · by_cases c3 : lst (mk A k) ≤ x ∧ x ≤ gst (mk A k)
        · rw [tlB_t ⟨c1, c2, c3⟩, if_pos c1, if_pos c2, if_pos c3]; rfl
        · rw [tlB_f (fun hh => c3 hh.2.2), if_pos c1, if_pos c2, if_neg c3]
      · rw [tlB_f (fun hh => c2 hh.2.1), if_pos c1, if_neg c2]
    · rw [tlB_f (fun hh => c1 hh.1), if_neg c1]
theorem tellsHeight_e (h : isP σ q A) (hA : okA A) {t s x : Nat} (ht : t < 2 ^ 31) (hs : s < 2 ^ 31) (hx : x < 2 ^ 31) : FX2_tellsHeight q (nI t) (nI s) (nI x) σ = some (if tlB A t s x (nM A) 0 then 1 else 0) := by
  have n16' : nM A ≤ 16 := hA.1
  obtain ⟨q3, hq⟩ := qf (n := nM A) (by omega)
  have e := thL h hA ht hs hx (nM A) 0 q3 (by omega)
  rw [← hq] at e
  unfold FX2_tellsHeight
  rw [p_gC h, b1_s]; exact e
end TL
section TZ
variable {σ : qH} {a : Nat} {A : AS}
theorem ztL1 (h : isZ σ a A) (hA : okA A) {t s x : Int32} : ∀ (d k q2 : Nat), k + d = nM A → FX7_isTold_L12 a t s x σ (d + 1 + q2) 1 (nI k) = some 1
  | 0, k, q2, hk => by
    have n31 := n16 hA
    have e : k = nM A := by omega
    subst e
    rw [show 0 + 1 + q2 = q2 + 1 by omega, FX7_isTold_L12]
    simp only [z_n h, b1_s, le_nI n31 n31, Nat.le_refl, if_true]
  | d + 1, k, q2, hk => by
    have n31 := n16 hA
    rw [show d + 1 + 1 + q2 = (d + 1 + q2) + 1 by omega, FX7_isTold_L12]
    simp only [z_n h, b1_s, le_nI n31 (show k < 2 ^ 31 by omega), if_neg (show ¬ nM A ≤ k by omega), if_neg (show ¬ (1 : Int32) = 0 by decide), nI_1]
    exact ztL1 h hA d (k + 1) q2 (by omega)
theorem ztL (h : isZ σ a A) (hA : okA A) {t s x : Nat} (ht : t < 2 ^ 31) (hs : s < 2 ^ 31) (hx : x < 2 ^ 31) : ∀ (d k q2 : Nat), k + d = nM A → FX7_isTold_L12 a (nI t) (nI s) (nI x) σ (d + 1 + q2) 0 (nI k) = some (if tlB A t s x d k then 1 else 0)
  | 0, k, q2, hk => by
    have n31 := n16 hA
    have e : k = nM A := by omega
    subst e
    rw [show 0 + 1 + q2 = q2 + 1 by omega, FX7_isTold_L12]
    simp only [z_n h, b1_s, le_nI n31 n31, Nat.le_refl, if_true]
    rfl
  | d + 1, k, q2, hk => by
    have n31 := n16 hA
    have hkn : k < nM A := by omega
    have mb := mk_b hA hkn
    have hf := of_l h hA hkn
    have ih := ztL h hA ht hs hx d (k + 1) q2 (by omega)
    have i1 := ztL1 h hA (t := nI t) (s := nI s) (x := nI x) d (k + 1) q2 (by omega)
    rw [show d + 1 + 1 + q2 = (d + 1 + q2) + 1 by omega, FX7_isTold_L12, z_n h, b1_s, if_neg (fun hh => absurd ((nI_leI n31 (show k < 2 ^ 31 by omega)).mp hh) (by omega)), if_pos (show (0 : Int32) = 0 from rfl)]
    simp only [hf.1, hf.2.1, ztells_e h hA hkn hx, b1_s, bI_ite, nI_1, eq_nI (show mk A k 0 < 2 ^ 31 by omega) hs, eq_nI (show mk A k 1 < 2 ^ 31 by omega) ht]
    by_cases c1 : mk A k 0 = s
    · by_cases c2 : mk A k 1 = t
      · by_cases c3 : lst (mk A k) ≤ x ∧ x ≤ gst (mk A k)
        · rw [tlB_t ⟨c1, c2, c3⟩, if_pos c1, if_pos c2, if_pos c3, b1_s, i1]; rfl
        · rw [tlB_f (fun hh => c3 hh.2.2), if_pos c1, if_pos c2, if_neg c3, b1_s, ih]
      · rw [tlB_f (fun hh => c2 hh.2.1), if_pos c1, if_neg c2, b1_s, ih]
    · rw [tlB_f (fun hh => c1 hh.1), if_neg c1, b1_s, ih]
theorem isTold_e (h : isZ σ a A) (hA : okA A) {t s : Nat} (ht : t < 2 ^ 31) (hs : s < 2 ^ 31) : FX7_isTold a (nI t) (nI s) σ = some (if tlB A t s (low A s) (nM A) 0 then 1 else 0) := by
  have n16' : nM A ≤ 16 := hA.1
  have r := loF_r (f := vot A s) 998
  obtain ⟨q3, hq⟩ := qf (n := nM A) (by omega)
  have e := ztL h hA ht hs (show low A s < 2 ^ 31 by show loF _ 998 < _; omega) (nM A) 0 q3 (by omega)
  rw [← hq] at e
  have e' : FX7_isTold_L12 a (nI t) (nI s) (nI (low A s)) σ qfuel 0 0 = some (if tlB A t s (low A s) (nM A) 0 then 1 else 0) := e
  unfold FX7_isTold
  rw [zlow_e h hA hs, b1_s, e', b1_s]
  split
  · rw [if_pos (Or.inr rfl)]
  · rw [if_pos (Or.inl rfl)]
end TZ
