/-! Layer 2: runScript side by side. -/
def grp (S k : Nat) : Nat := S / 1000000 ^ k % 1000000
theorem grp_b {S k : Nat} : grp S k < 1000000 := Nat.mod_lt _ (by omega)
theorem mil_l : (1000000 : Int64) = lN 1000000 := rfl
theorem div_b {S k : Nat} (hS : S < 2 ^ 63) : S / 1000000 ^ k < 2 ^ 63 := Nat.lt_of_le_of_lt (Nat.div_le_self _ _) hS
theorem grL {S t : Nat} {σ : qH} (hS : S < 2 ^ 63) (ht : t < 100) : ∀ (d k q : Nat), k + d = t → FX3_group_L5 (nI t) σ (d + 1 + q) (lN (S / 1000000 ^ k)) (nI k) = some (lN (S / 1000000 ^ t))
  | 0, k, q, h => by
    have : k = t := by omega
    subst this
    rw [show 0 + 1 + q = q + 1 by omega, FX3_group_L5, if_pos (Int32.le_refl _)]
  | d + 1, k, q, h => by
    have e1 : lN (S / 1000000 ^ k) / (1000000 : Int64) = lN (S / 1000000 ^ (k + 1)) := by
      rw [mil_l, pk_lDiv (div_b hS) (by omega) (by omega), Nat.div_div_eq_div_mul, Nat.pow_succ]
    rw [show d + 1 + 1 + q = (d + 1 + q) + 1 by omega, FX3_group_L5, if_neg (fun hh => absurd ((nI_leI (by omega) (by omega)).mp hh) (by omega)), e1, nI_1]
    exact grL hS ht d (k + 1) q (by omega)
theorem group_e {S t : Nat} {σ : qH} (hS : S < 2 ^ 63) (ht : t < 100) : FX3_group (lN S) (nI t) σ = some (nI (grp S t)) := by
  obtain ⟨q3, hq⟩ := qf (n := t) (by omega)
  have e := grL (S := S) (σ := σ) hS ht t 0 q3 (by omega)
  rw [← hq, Nat.pow_zero, Nat.div_one] at e
  have e' : FX3_group_L5 (nI t) σ qfuel (lN S) 0 = some (lN (S / 1000000 ^ t)) := e
  have er : lrm (lN (S / 1000000 ^ t)) (1000000 : Int64) = lN (grp S t) := pk_lRem (b := 1000000) (div_b hS) (by omega) (by omega)
  unfold FX3_group
  rw [e', b1_s, er, lN_i]
theorem pow_b {k : Nat} (h : k ≤ 3) : 1000000 ^ k ≤ 1000000 ^ 3 := Nat.pow_le_pow_right (by omega) h
theorem p3 : (1000000 : Nat) ^ 3 < 2 ^ 63 := Nat.le_of_ble_eq_true rfl
theorem liL {t : Nat} {σ : qH} (ht : t < 100) : ∀ (d k q : Nat), k + d = t → FX3_limit_L4 (nI t) σ (d + 1 + q) (lN (1000000 ^ k)) (nI k) = some (lN (1000000 ^ t))
  | 0, k, q, h => by
    have : k = t := by omega
    subst this
    rw [show 0 + 1 + q = q + 1 by omega, FX3_limit_L4, if_pos (Int32.le_refl _)]
  | d + 1, k, q, h => by
    rw [show d + 1 + 1 + q = (d + 1 + q) + 1 by omega, FX3_limit_L4, if_neg (fun hh => absurd ((nI_leI (by omega) (by omega)).mp hh) (by omega)), mil_l, lN_mul, nI_1, ← Nat.pow_succ]
    exact liL ht d (k + 1) q (by omega)
theorem limit_e {t : Nat} {σ : qH} (ht : t < 100) : FX3_limit (nI t) σ = some (lN (1000000 ^ t)) := by
  obtain ⟨q3, hq⟩ := qf (n := t) (by omega)
  have e := liL (σ := σ) ht t 0 q3 (by omega)
  rw [← hq] at e
  have e' : FX3_limit_L4 (nI t) σ qfuel 1 0 = some (lN (1000000 ^ t)) := e
  unfold FX3_limit
  rw [e', b1_s]
section RS
variable {n N : Nat} {A : AS} {L : List AS} {K : Nat → Option AS} {f : Nat → Nat} {rf : Int32}
/-- a script in its range -/
theorem ran_c {t : Nat} {p : Int64} {σ : qH} (ht : t ≤ 3) : ((if 0 < lg_cmp (0 : Int64) p then some (0 : Int32) else b1 (FX3_limit (nI t) σ) fun v6 => if 0 ≤ lg_cmp p v6 then some (0 : Int32) else some 1) : Option Int32) = some (bI (0 ≤ p.toInt ∧ p.toInt < 1000000 ^ t)) := by
  have pb := pow_b ht
  have p3' := p3
  have hT : (lN (1000000 ^ t)).toInt = ((1000000 ^ t : Nat) : Int) := pk_lT (by omega)
  have q1 : (0 < lg_cmp (0 : Int64) p) ↔ p.toInt < 0 := by rw [lg_cmp_gt, Int64.lt_iff_toInt_lt]; rfl
  have q2 : (0 ≤ lg_cmp p (lN (1000000 ^ t))) ↔ ((1000000 ^ t : Nat) : Int) ≤ p.toInt := by rw [lg_cmp_ge, Int64.le_iff_toInt_le, hT]
  rw [limit_e (by omega), b1_s]
  have cst : ((1000000 ^ t : Nat) : Int) = (1000000 : Int) ^ t := by simp
  by_cases c1 : p.toInt < 0
  · rw [if_pos (q1.mpr c1), bI_f (fun z => by omega)]
  · rw [if_neg (fun z => c1 (q1.mp z))]
    by_cases c2 : ((1000000 ^ t : Nat) : Int) ≤ p.toInt
    · rw [if_pos (q2.mpr c2), bI_f (fun z => by rw [cst] at c2; omega)]
    · rw [if_neg (fun z => c2 (q2.mp z)), bI_t ⟨by omega, by rw [cst] at c2; omega⟩]
end RS
