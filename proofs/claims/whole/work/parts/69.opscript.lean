/-! Layer 2: runScript side by side. -/
def grp (S k : Nat) : Nat := S / 1000000 ^ k % 1000000
theorem grp_b {S k : Nat} : grp S k < 1000000 := Nat.mod_lt _ (by omega)
/-- the commands left, d of n; the first that fails -/
def scL (S n : Nat) : Nat → Nat → AS → Option Nat
  | 0, _, _ => none
  | d + 1, i, A => if (scC (grp S (n - 1 - i)) A).1 = true then scL S n d (i + 1) (scC (grp S (n - 1 - i)) A).2 else some i
theorem mil_l : (1000000 : Int64) = lN 1000000 := rfl
theorem div_b {S k : Nat} (hS : S < 2 ^ 63) : S / 1000000 ^ k < 2 ^ 63 := Nat.lt_of_le_of_lt (Nat.div_le_self _ _) hS
theorem grL {S t : Nat} {σ : qH} (hS : S < 2 ^ 63) (ht : t < 100) : ∀ (d k q : Nat), k + d = t → FX3_group_L5 (nI t) σ (d + 1 + q) (lN (S / 1000000 ^ k)) (nI k) = some (lN (S / 1000000 ^ t))
  | 0, k, q, h => by
    have : k = t := by omega
    subst this
    rw [show 0 + 1 + q = q + 1 by omega, FX3_group_L5, if_pos (Int32.le_refl _)]
  | d + 1, k, q, h => by
    have e1 : lN (S / 1000000 ^ k) / (1000000 : Int64) = lN (S / 1000000 ^ (k + 1)) := by
      rw [mil_l, pk_lDiv (div_b hS) (by omega) (by omega), Nat.div_div_eq_div_mul, Nat.pow_succ]
    rw [show d + 1 + 1 + q = (d + 1 + q) + 1 by omega, FX3_group_L5, if_neg (fun hh => absurd ((nI_leI (by omega) (by omega)).mp hh) (by omega)), e1, nI_1]
    exact grL hS ht d (k + 1) q (by omega)
theorem group_e {S t : Nat} {σ : qH} (hS : S < 2 ^ 63) (ht : t < 100) : FX3_group (lN S) (nI t) σ = some (nI (grp S t)) := by
  obtain ⟨q3, hq⟩ := qf (n := t) (by omega)
  have e := grL (S := S) (σ := σ) hS ht t 0 q3 (by omega)
  rw [← hq, Nat.pow_zero, Nat.div_one] at e
  have e' : FX3_group_L5 (nI t) σ qfuel (lN S) 0 = some (lN (S / 1000000 ^ t)) := e
  have er : lrm (lN (S / 1000000 ^ t)) (1000000 : Int64) = lN (grp S t) := pk_lRem (b := 1000000) (div_b hS) (by omega) (by omega)
  unfold FX3_group
  rw [e', b1_s, er, lN_i]
theorem pow_b {k : Nat} (h : k ≤ 3) : 1000000 ^ k ≤ 1000000 ^ 3 := Nat.pow_le_pow_right (by omega) h
theorem p3 : (1000000 : Nat) ^ 3 < 2 ^ 63 := Nat.le_of_ble_eq_true rfl
theorem liL {t : Nat} {σ : qH} (ht : t < 100) : ∀ (d k q : Nat), k + d = t → FX3_limit_L4 (nI t) σ (d + 1 + q) (lN (1000000 ^ k)) (nI k) = some (lN (1000000 ^ t))
  | 0, k, q, h => by
    have : k = t := by omega
    subst this
    rw [show 0 + 1 + q = q + 1 by omega, FX3_limit_L4, if_pos (Int32.le_refl _)]
  | d + 1, k, q, h => by
    rw [show d + 1 + 1 + q = (d + 1 + q) + 1 by omega, FX3_limit_L4, if_neg (fun hh => absurd ((nI_leI (by omega) (by omega)).mp hh) (by omega)), mil_l, lN_mul, nI_1, ← Nat.pow_succ]
    exact liL ht d (k + 1) q (by omega)
theorem limit_e {t : Nat} {σ : qH} (ht : t < 100) : FX3_limit (nI t) σ = some (lN (1000000 ^ t)) := by
  obtain ⟨q3, hq⟩ := qf (n := t) (by omega)
  have e := liL (σ := σ) ht t 0 q3 (by omega)
  rw [← hq] at e
  have e' : FX3_limit_L4 (nI t) σ qfuel 1 0 = some (lN (1000000 ^ t)) := e
  unfold FX3_limit
  rw [e', b1_s]
section RS
variable {n N : Nat} {A : AS} {L : List AS} {K : Nat → Option AS} {f : Nat → Nat} {rf : Int32}
theorem rsC {S t : Nat} (hS : S < 2 ^ 63) (ht : t ≤ 3) : ∀ (d i q : Nat) (B : AS) (σ : qH), i + d = t → isC σ n A L K N f → isP σ (n + 8) B → okA B → ∃ σ', FX6_runScript_L55 n (nI t) (lN S) (d + 1 + q) (nI i) σ = some (.inl (enc (scL S t d i B), σ')) ∧ isC σ' n A L K N f ∧ Ch σ σ' n (n + 135)
  | 0, i, q, B, σ, hi, hc, hp, hB => by
    refine ⟨σ, ?_, hc, Ch.rf⟩
    rw [show 0 + 1 + q = q + 1 by omega, FX6_runScript_L55, if_pos ((nI_leI (by omega) (by omega)).mpr (by omega))]; rfl
  | d + 1, i, q, B, σ, hi, hc, hp, hB => by
    obtain ⟨σ1, e1, h1, p1, o1⟩ := sucC hc hp hB (grp_b (S := S) (k := t - 1 - i))
    have ei : nI t - 1 - nI i = nI (t - 1 - i) := by
      rw [show nI t - 1 = nI (t - 1) from pk_sub (b := 1) (by omega), pk_sub (by omega)]
    rw [show d + 1 + 1 + q = (d + 1 + q) + 1 by omega, FX6_runScript_L55, if_neg (fun hh => absurd ((nI_leI (by omega) (by omega)).mp hh) (by omega)), C_1 hc, b1_s, C_6 hc, b1_s, ei, group_e hS (by omega), b1_s, e1, b2_s]
    have ew : scL S t (d + 1) i B = if (scC (grp S (t - 1 - i)) B).1 = true then scL S t d (i + 1) (scC (grp S (t - 1 - i)) B).2 else some i := rfl
    rw [ew]
    by_cases c : (scC (grp S (t - 1 - i)) B).1 = true
    · obtain ⟨σ2, e2, h2, o2⟩ := rsC hS ht d (i + 1) q (scC (grp S (t - 1 - i)) B).2 σ1 (by omega) h1 p1 (scC_ok hB)
      rw [show b01 (scC (grp S (t - 1 - i)) B).1 = 1 from if_pos c, if_neg (by decide), if_pos c, nI_1]
      exact ⟨σ2, e2, h2, o1.tr o2⟩
    · rw [show b01 (scC (grp S (t - 1 - i)) B).1 = 0 from if_neg c, if_pos rfl, if_neg c]
      exact ⟨σ1, rfl, h1, o1⟩
theorem rsM {m S t : Nat} (hS : S < 2 ^ 63) (ht : t ≤ 3) : ∀ (d i q : Nat) (B : AS) (σ : qH), i + d = t → isM σ m A L K N f rf → isZ σ (m + 3) B → okA B → ∃ σ', FX7_runScript_L86 m (nI t) (lN S) (d + 1 + q) (lN (1000000 ^ (t - i))) (nI i) σ = some (enc (scL S t d i B), σ') ∧ isM σ' m A L K N f rf ∧ Ch σ σ' m (m + 6)
  | 0, i, q, B, σ, hi, hc, hp, hB => by
    refine ⟨σ, ?_, hc, Ch.rf⟩
    rw [show 0 + 1 + q = q + 1 by omega, FX7_runScript_L86, if_pos ((nI_leI (by omega) (by omega)).mpr (by omega))]; rfl
  | d + 1, i, q, B, σ, hi, hc, hp, hB => by
    obtain ⟨σ1, e1, h1, p1, o1⟩ := sucM hc hp hB (grp_b (S := S) (k := t - 1 - i))
    have pb := pow_b (k := t - i) (by omega)
    have pb1 := pow_b (k := t - 1 - i) (by omega)
    have pos : 0 < 1000000 ^ (t - 1 - i) := Nat.pow_pos (by omega)
    have p3' := p3
    have ed : lN (1000000 ^ (t - i)) / (1000000 : Int64) = lN (1000000 ^ (t - 1 - i)) := by
      rw [mil_l, pk_lDiv (by omega) (by omega) (by omega), show t - i = (t - 1 - i) + 1 by omega, Nat.pow_succ, Nat.mul_div_cancel _ (by omega)]
    have ne : ¬ lN (1000000 ^ (t - 1 - i)) = 0 := fun hh => by
      have := (pk_lEQ (a := 1000000 ^ (t - 1 - i)) (b := 0) (by omega) (by omega)).mp hh
      omega
    have eg : (lrm (lN S / lN (1000000 ^ (t - 1 - i))) (1000000 : Int64)).toInt32 = nI (grp S (t - 1 - i)) := by
      have er : lrm (lN (S / 1000000 ^ (t - 1 - i))) (1000000 : Int64) = lN (grp S (t - 1 - i)) := pk_lRem (b := 1000000) (div_b hS) (by omega) (by omega)
      rw [pk_lDiv hS pos (by omega), er, lN_i]
    have gb := grp_b (S := S) (k := t - 1 - i)
    have h5 : nI (grp S (t - 1 - i)) / (100000 : Int32) = nI (grp S (t - 1 - i) / 100000) := pk_div (d := 100000) (by omega) (by omega) (by omega)
    have h6 : irm (nI (grp S (t - 1 - i))) (100000 : Int32) = nI (grp S (t - 1 - i) % 100000) := irm_n (d := 100000) (by omega) (by omega) (by omega)
    rw [show d + 1 + 1 + q = (d + 1 + q) + 1 by omega, FX7_runScript_L86, if_neg (fun hh => absurd ((nI_leI (by omega) (by omega)).mp hh) (by omega)), ed, if_neg ne, eg, h5, h6, e1, b2_s]
    have ew : scL S t (d + 1) i B = if (scC (grp S (t - 1 - i)) B).1 = true then scL S t d (i + 1) (scC (grp S (t - 1 - i)) B).2 else some i := rfl
    rw [ew]
    by_cases c : (scC (grp S (t - 1 - i)) B).1 = true
    · obtain ⟨σ2, e2, h2, o2⟩ := rsM hS ht d (i + 1) q (scC (grp S (t - 1 - i)) B).2 σ1 (by omega) h1 p1 (scC_ok hB)
      rw [show t - (i + 1) = t - 1 - i by omega] at e2
      rw [show b01 (scC (grp S (t - 1 - i)) B).1 = 1 from if_pos c, if_neg (by decide), if_pos c, nI_1]
      exact ⟨σ2, e2, h2, o1.tr o2⟩
    · rw [show b01 (scC (grp S (t - 1 - i)) B).1 = 0 from if_neg c, if_pos rfl, if_neg c]
      exact ⟨σ1, rfl, h1, o1⟩
/-- the reference's limit, for any number of commands -/
theorem limM {m : Nat} {x : Int32} {S : Int64} {σ : qH} : ∃ v, FX7_runScript_L6 m x S σ qfuel 1 0 = some v := by
  obtain ⟨q3, hq⟩ := qf (n := 3) (by omega)
  rw [hq, show 3 + 1 + q3 = (((q3 + 1) + 1) + 1) + 1 by omega, FX7_runScript_L6]
  by_cases c0 : x ≤ 0
  · rw [if_pos c0]; exact ⟨_, rfl⟩
  · rw [if_neg c0, if_neg (show ¬ (3 : Int32) ≤ 0 by decide), FX7_runScript_L6]
    by_cases c1 : x ≤ 0 + 1
    · rw [if_pos c1]; exact ⟨_, rfl⟩
    · rw [if_neg c1, if_neg (show ¬ (3 : Int32) ≤ 0 + 1 by decide), FX7_runScript_L6]
      by_cases c2 : x ≤ 0 + 1 + 1
      · rw [if_pos c2]; exact ⟨_, rfl⟩
      · rw [if_neg c2, if_neg (show ¬ (3 : Int32) ≤ 0 + 1 + 1 by decide), FX7_runScript_L6]
        by_cases c3 : x ≤ 0 + 1 + 1 + 1
        · rw [if_pos c3]; exact ⟨_, rfl⟩
        · rw [if_neg c3, if_pos (show (3 : Int32) ≤ 0 + 1 + 1 + 1 by decide)]; exact ⟨_, rfl⟩
theorem lmL {m t : Nat} {S : Int64} {σ : qH} (ht : t ≤ 3) : ∀ (d k q : Nat), k + d = t → FX7_runScript_L6 m (nI t) S σ (d + 1 + q) (lN (1000000 ^ k)) (nI k) = some (lN (1000000 ^ t))
  | 0, k, q, h => by
    have : k = t := by omega
    subst this
    rw [show 0 + 1 + q = q + 1 by omega, FX7_runScript_L6, if_pos (Int32.le_refl _)]
  | d + 1, k, q, h => by
    have l3' : ((3 : Int32) ≤ nI k) = (3 ≤ k) := le_nI (a := 3) (by omega) (by omega)
    rw [show d + 1 + 1 + q = (d + 1 + q) + 1 by omega, FX7_runScript_L6, if_neg (fun hh => absurd ((nI_leI (by omega) (by omega)).mp hh) (by omega)), if_neg (show ¬ (3 : Int32) ≤ nI k by rw [l3']; omega), mil_l, lN_mul, nI_1, ← Nat.pow_succ]
    exact lmL ht d (k + 1) q (by omega)
theorem limM_e {m t : Nat} {S : Int64} {σ : qH} (ht : t ≤ 3) : FX7_runScript_L6 m (nI t) S σ qfuel 1 0 = some (lN (1000000 ^ t)) := by
  obtain ⟨q3, hq⟩ := qf (n := t) (by omega)
  have e := lmL (m := m) (S := S) (σ := σ) ht t 0 q3 (by omega)
  rw [← hq] at e
  exact e
/-- a script in its range -/
theorem ran_c {t : Nat} {p : Int64} {σ : qH} (ht : t ≤ 3) : ((if 0 < lg_cmp (0 : Int64) p then some (0 : Int32) else b1 (FX3_limit (nI t) σ) fun v6 => if 0 ≤ lg_cmp p v6 then some (0 : Int32) else some 1) : Option Int32) = some (bI (0 ≤ p.toInt ∧ p.toInt < 1000000 ^ t)) := by
  have pb := pow_b ht
  have p3' := p3
  have hT : (lN (1000000 ^ t)).toInt = ((1000000 ^ t : Nat) : Int) := pk_lT (by omega)
  have q1 : (0 < lg_cmp (0 : Int64) p) ↔ p.toInt < 0 := by rw [lg_cmp_gt, Int64.lt_iff_toInt_lt]; rfl
  have q2 : (0 ≤ lg_cmp p (lN (1000000 ^ t))) ↔ ((1000000 ^ t : Nat) : Int) ≤ p.toInt := by rw [lg_cmp_ge, Int64.le_iff_toInt_le, hT]
  rw [limit_e (by omega), b1_s]
  have cst : ((1000000 ^ t : Nat) : Int) = (1000000 : Int) ^ t := by simp
  by_cases c1 : p.toInt < 0
  · rw [if_pos (q1.mpr c1), bI_f (fun z => by omega)]
  · rw [if_neg (fun z => c1 (q1.mp z))]
    by_cases c2 : ((1000000 ^ t : Nat) : Int) ≤ p.toInt
    · rw [if_pos (q2.mpr c2), bI_f (fun z => by rw [cst] at c2; omega)]
    · rw [if_neg (fun z => c2 (q2.mp z)), bI_t ⟨by omega, by rw [cst] at c2; omega⟩]
theorem ran_m {t : Nat} {p : Int64} {σ : qH} (ht : t ≤ 3) : FX7_in p 0 (lN (1000000 ^ t) - 1) σ = some (bI (0 ≤ p.toInt ∧ p.toInt < 1000000 ^ t)) := by
  have pb := pow_b ht
  have p3' := p3
  have pos : 0 < 1000000 ^ t := Nat.pow_pos (by omega)
  have e1 : lN (1000000 ^ t) - 1 = lN (1000000 ^ t - 1) := lN_sub (b := 1) (by omega)
  have hT : (lN (1000000 ^ t - 1)).toInt = ((1000000 ^ t - 1 : Nat) : Int) := pk_lT (by omega)
  have cst : ((1000000 ^ t : Nat) : Int) = (1000000 : Int) ^ t := by simp
  have cs2 : ((1000000 ^ t - 1 : Nat) : Int) = ((1000000 ^ t : Nat) : Int) - 1 := by omega
  unfold FX7_in
  rw [e1]
  have q1 : (lg_cmp p 0 < 0) ↔ p.toInt < 0 := by rw [lg_cmp_lt, Int64.lt_iff_toInt_lt]; rfl
  have q2 : (0 < lg_cmp p (lN (1000000 ^ t - 1))) ↔ ((1000000 ^ t : Nat) : Int) ≤ p.toInt := by rw [lg_cmp_gt, Int64.lt_iff_toInt_lt, hT]; omega
  by_cases c1 : p.toInt < 0
  · rw [if_pos (q1.mpr c1), b1_s, if_pos (Or.inl rfl), bI_f (fun z => by omega)]
  · rw [if_neg (fun z => c1 (q1.mp z))]
    by_cases c2 : ((1000000 ^ t : Nat) : Int) ≤ p.toInt
    · rw [if_pos (q2.mpr c2), b1_s, if_pos (Or.inl rfl), bI_f (fun z => by rw [cst] at c2; omega)]
    · rw [if_neg (fun z => c2 (q2.mp z)), b1_s, if_pos (Or.inr rfl), bI_t ⟨by omega, by rw [cst] at c2; omega⟩]
theorem op_script {σ : qH} {x : Int32} {p : Int64} (W : Wd σ n A L K N f rf) : Res σ n (FL_runScript n x p (n + 143) σ) (FX7_runScript (n + 136) x p) := by
  obtain ⟨hc, hm, hg, hs⟩ := id W
  have hA := hs.1
  by_cases c1 : inZ x 1 3
  · obtain ⟨t, rfl, t1, t2⟩ := inZ_n c1 (by omega)
    have ht : t ≤ 3 := by omega
    by_cases c2 : 0 ≤ p.toInt ∧ p.toInt < 1000000 ^ t
    · obtain ⟨S, hS, rfl⟩ := pk_lOf (x := p) (fun hh => by have := Int64.lt_iff_toInt_lt.mp hh; rw [show (0 : Int64).toInt = 0 from rfl] at this; omega)
      obtain ⟨q3, hq⟩ := qf (n := t) (by omega)
      obtain ⟨σ1, e1, p1, h1, o1⟩ := C_cpy hc hA
      obtain ⟨σ2, e2, h2, o2⟩ := rsC hS ht t 0 q3 A σ1 (by omega) h1 p1 hA
      rw [← hq] at e2
      have e2' : FX6_runScript_L55 n (nI t) (lN S) qfuel 0 σ1 = _ := e2
      refine Res_ok W (enc (scL S t t 0 A)) h2 (o1.tr o2) hs (fun σ' hm' => ?_) (fun σ' hj => ?_)
      · obtain ⟨σ3, e3, h3, o3⟩ := M_yes hm'
        obtain ⟨σ4, e4, z4, h4, o4⟩ := M_cpy h3 hA
        obtain ⟨σ5, e5, h5, o5⟩ := rsM hS ht t 0 q3 A σ4 (by omega) h4 z4 hA
        rw [← hq, Nat.sub_zero] at e5
        have e5' : FX7_runScript_L86 (n + 136) (nI t) (lN S) qfuel (lN (1000000 ^ t)) 0 σ4 = _ := e5
        refine ⟨σ5, ?_, h5, (o3.tr (o4.ch (by omega) (by omega))).tr o5⟩
        unfold FX7_runScript
        simp only [M_c hm', b1_s, limM_e ht, zin_1_3, ran_m ht, bI_ite]
        rw [if_pos c1, if_pos c2, b1_s, e3, b2_s, if_pos rfl, M_n h3, b1_s, M_t h3, b1_s, e4, b1_s, e5']
      · unfold FL_runScript FX6_runScript
        simp only [C_c hc, b1_s, rgR, bI_1, l1, l3]
        rw [need_t c1, bxw_s, ran_c ht, b1_s, need_t c2, bxw_s, C_1 hc, b1_s, C_0 hc, b1_s, e1, b1_s, e2', bc2_s, hj, b1_s]
    · refine Res_no W 1 (by decide) hc Ch.rf (fun σ' hm' => ?_) ?_
      · obtain ⟨σ3, e3, h3, o3⟩ := M_no1 hm'
        refine ⟨0, σ3, ?_, h3, o3⟩
        unfold FX7_runScript
        simp only [M_c hm', b1_s, limM_e ht, zin_1_3, ran_m ht, bI_ite]
        rw [if_pos c1, if_neg c2, b1_s, e3, b2_s, if_neg (by decide)]
      · unfold FL_runScript FX6_runScript
        simp only [C_c hc, b1_s, rgR, bI_1, l1, l3]
        rw [need_t c1, bxw_s, ran_c ht, b1_s, need_f c2, bxw_e, bc2_e, if_pos rfl]
  · refine Res_no W 1 (by decide) hc Ch.rf (fun σ' hm' => ?_) ?_
    · obtain ⟨σ3, e3, h3, o3⟩ := M_no1 hm'
      obtain ⟨v, ev⟩ := limM (m := n + 136) (x := x) (S := p) (σ := σ')
      refine ⟨0, σ3, ?_, h3, o3⟩
      unfold FX7_runScript
      simp only [M_c hm', b1_s, ev, zin_1_3, bI_ite]
      rw [if_neg c1, b1_s, e3, b2_s, if_neg (by decide)]
    · unfold FL_runScript FX6_runScript
      simp only [C_c hc, b1_s, rgR, bI_1, l1, l3]
      rw [need_f c1, bxw_e, bc2_e, if_pos rfl]
end RS
