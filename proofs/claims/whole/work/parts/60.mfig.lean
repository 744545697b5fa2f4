/-! Layer 2: the reference's figures. -/
section MF
variable {m N k : Nat} {f : Nat → Nat} {ts : Nat → Int32} {rf : Int32}
theorem fig_n {σ : qH} {x lo hi : Int32} (hc : gC σ m 5 = some ()) : FX7_figures m (-1) x lo hi σ = some (-1, σ) := by
  obtain ⟨q3, hq⟩ := qf (n := 0) (by omega)
  unfold FX7_figures
  rw [hc, b1_s, hq, show 0 + 1 + q3 = q3 + 1 by omega, FX7_figures_L6]
  by_cases c : x ≤ 0
  · rw [if_pos c, if_pos rfl, b1_s]
  · rw [if_neg c, if_pos rfl, if_pos rfl, b1_s]
theorem figL {lo hi : Nat} {a1 : Int32} (ha : ¬ a1 = -1) (hN : N ≤ 120) (hf : txR N f ts) (hf2 : ∀ i, i < N → f i ≤ 255) (hlo : lo ≤ 999) (hhi : hi ≤ 999) : ∀ (d q v sp : Nat) (ou : Int32) (σ : qH), d ≤ 3 → v ≤ 999 → sp ≤ 120 → σ (m + 1) = some (iA 120 ts) → σ m = some (oM m N k rf (nI sp) ou) → ∃ σ', FX7_figures_L6 m a1 (nI lo) (nI hi) (d + 1 + q) (nI (v * 10 ^ d)) (nI (10 ^ d / 10)) σ = some (enc (rdN f N lo hi d sp v).1, σ') ∧ σ' m = some (oM m N k rf (nI (rdN f N lo hi d sp v).2) ou) ∧ OfZ σ σ' m
  | 0, q, v, sp, ou, σ, hd, hv, hp, ht, h => by
    refine ⟨σ, ?_, h, OfZ.rf⟩
    rw [show 0 + 1 + q = q + 1 by omega, FX7_figures_L6, if_pos (show nI (10 ^ 0 / 10) ≤ 0 by decide), if_neg ha, b1_s, Nat.pow_zero, Nat.mul_one]; rfl
  | d + 1, q, v, sp, ou, σ, hd, hv, hp, ht, h => by
    have r := M_r h
    have tp := ten_p (d := d)
    have hp10 : 10 ^ d ≤ 100 := by rcases (show d = 0 ∨ d = 1 ∨ d = 2 by omega) with rfl | rfl | rfl <;> decide
    have e10 : 10 ^ (d + 1) / 10 = 10 ^ d := by rw [Nat.pow_succ]; omega
    have e11 : v * 10 ^ (d + 1) = 10 * (v * 10 ^ d) := by rw [Nat.pow_succ, ← Nat.mul_assoc, Nat.mul_comm]
    rw [show d + 1 + 1 + q = (d + 1 + q) + 1 by omega, FX7_figures_L6, rdN, e10]
    rw [if_neg (show ¬ nI (10 ^ d) ≤ 0 from fun hh => absurd ((nI_leI (b := 0) (by omega) (by omega)).mp hh) (by omega)), if_neg ha]
    simp only [r.2.2.2.2.2.2.2.2.2.2.1, r.2.2.2.1, r.2.2.1, b1_s, le_nI (show N < 2 ^ 31 by omega) (show sp < 2 ^ 31 by omega)]
    by_cases c1 : sp < N
    · have f2 := hf2 sp c1
      have at1 : aI σ (m + 1) (nI sp) = some (nI (f sp)) := by rw [aI_e ht (by omega) (by omega), hf sp c1]
      have tI : (nI (f sp) - 48).toInt = (f sp : Int) - 48 := nI_sT (b := 48) (by omega) (by omega)
      rw [if_neg (by omega), at1, b1_s, b1_s, zin_0_9, b1_s]
      simp only [bI_ite]
      by_cases c2 : 48 ≤ f sp ∧ f sp ≤ 57
      · have ed : nI (f sp) - 48 = nI (f sp - 48) := pk_sub (b := 48) c2.1
        have ex : nI (v * 10 ^ (d + 1)) + (nI (f sp) - 48) * nI (10 ^ d) = nI ((10 * v + (f sp - 48)) * 10 ^ d) := by
          rw [ed, pk_mul, nI_add, e11, Nat.add_mul, Nat.mul_assoc]
        have hb : (10 * v + (f sp - 48)) * 10 ^ d ≤ 9999 * 100 := Nat.mul_le_mul (by omega) hp10
        rw [if_pos (show inZ (nI (f sp) - 48) 0 9 from ⟨by omega, by omega⟩), ex]
        have ey : nI ((10 * v + (f sp - 48)) * 10 ^ d) + nI (10 ^ d) - 1 = nI ((10 * v + (f sp - 48)) * 10 ^ d + (10 ^ d - 1)) := by
          rw [nI_add, show (1 : Int32) = nI 1 from rfl, pk_sub (by omega)]; congr 1; omega
        rw [ey]
        simp only [lt_nI (show hi < 2 ^ 31 by omega) (show (10 * v + (f sp - 48)) * 10 ^ d < 2 ^ 31 by omega), le_nI (show lo < 2 ^ 31 by omega) (show (10 * v + (f sp - 48)) * 10 ^ d + (10 ^ d - 1) < 2 ^ 31 by omega)]
        by_cases c3 : hi < (10 * v + (f sp - 48)) * 10 ^ d
        · rw [if_pos c3, if_neg (fun z => by omega)]
          exact ⟨σ, rfl, h, OfZ.rf⟩
        · by_cases c4 : lo ≤ (10 * v + (f sp - 48)) * 10 ^ d + (10 ^ d - 1)
          · obtain ⟨σ1, e1, g1, o1⟩ := M_w9 h (nI (sp + 1))
            have hv2 : 10 * v + (f sp - 48) ≤ 999 := by
              have : (10 * v + (f sp - 48)) * 1 ≤ (10 * v + (f sp - 48)) * 10 ^ d := Nat.mul_le_mul_left _ tp
              omega
            obtain ⟨σ2, e3, g2, o2⟩ := figL ha hN hf hf2 hlo hhi d q (10 * v + (f sp - 48)) (sp + 1) ou σ1 (by omega) hv2 (by omega) (by rw [o1 _ (by omega)]; exact ht) g1
            rw [if_neg c3, if_pos c4, if_pos ⟨c1, c2.1, c2.2, by omega, c4⟩, nI_1, e1, b1_s, show (10 : Int32) = nI 10 from rfl, pk_div (by omega) (by omega) (by omega)]
            exact ⟨σ2, e3, g2, o1.tr o2⟩
          · rw [if_neg c3, if_neg c4, if_neg (fun z => c4 z.2.2.2.2)]
            exact ⟨σ, rfl, h, OfZ.rf⟩
      · rw [if_neg (show ¬ inZ (nI (f sp) - 48) 0 9 from fun z => c2 ⟨by have := z.1; omega, by have := z.2; omega⟩), if_neg (fun z => c2 ⟨z.2.1, z.2.2.1⟩)]
        exact ⟨σ, rfl, h, OfZ.rf⟩
    · rw [if_pos (by omega), b1_s, zin_0_9, b1_s]
      simp only [bI_ite]
      rw [if_neg (show ¬ inZ (-1) 0 9 by decide), if_neg (fun z => c1 z.1)]
      exact ⟨σ, rfl, h, OfZ.rf⟩
/-- one figure behind another -/
def stp (f : Nat → Nat) (N : Nat) (x : Nat × Nat × Nat) (st : Option Nat × Nat) : Option Nat × Nat := match st.1 with
  | none => (none, st.2)
  | some _ => rdN f N x.2.1 x.2.2 x.1 st.2 0
def nst (f : Nat → Nat) (N : Nat) (F : FT) (st : Option Nat × Nat) : Option Nat × Nat := F.foldl (fun s x => stp f N x s) st
theorem stp_n {f : Nat → Nat} {N p : Nat} {x : Nat × Nat × Nat} : stp f N x (none, p) = (none, p) := rfl
theorem stp_s {f : Nat → Nat} {N p w : Nat} {x : Nat × Nat × Nat} : stp f N x (some w, p) = rdN f N x.2.1 x.2.2 x.1 p 0 := rfl
theorem nst_n {f : Nat → Nat} {N p : Nat} : ∀ F : FT, nst f N F (none, p) = (none, p)
  | [] => rfl
  | x :: F => nst_n F
theorem nst_c {f : Nat → Nat} {N : Nat} {x : Nat × Nat × Nat} {F : FT} {st : Option Nat × Nat} : nst f N (x :: F) st = nst f N F (stp f N x st) := rfl
theorem nst_e {f : Nat → Nat} {N : Nat} : ∀ (F : FT) (p w : Nat), (rdF f N F p).2 = (nst f N F (some w, p)).2 ∧ ((rdF f N F p).1 = none → (nst f N F (some w, p)).1 = none) ∧ ∀ l, (rdF f N F p).1 = some l → ∀ i, i < F.length → (nst f N (F.take (i + 1)) (some w, p)).1 = some (l.getD i 0)
  | [], p, w => ⟨rfl, fun h => (by cases h), fun l _ i hi => absurd hi (Nat.not_lt_zero _)⟩
  | x :: F, p, w => by
    rcases opt_or (rdN f N x.2.1 x.2.2 x.1 p 0).1 with ev | ⟨v, ev⟩
    · have e : stp f N x (some w, p) = (none, (rdN f N x.2.1 x.2.2 x.1 p 0).2) := by rw [stp_s, ← ev]
      rw [rdF_n ev, nst_c, e, nst_n]
      exact ⟨rfl, fun _ => rfl, fun l hl => by cases hl⟩
    · have e : stp f N x (some w, p) = (some v, (rdN f N x.2.1 x.2.2 x.1 p 0).2) := by rw [stp_s, ← ev]
      obtain ⟨i1, i2, i3⟩ := nst_e F (rdN f N x.2.1 x.2.2 x.1 p 0).2 v
      rw [rdF_s ev, nst_c, e]
      refine ⟨i1, fun h => ?_, fun l hl i hi => ?_⟩
      · rcases opt_or (rdF f N F (rdN f N x.2.1 x.2.2 x.1 p 0).2).1 with ef | ⟨l, ef⟩
        · exact i2 ef
        · have h' : (rdF f N F (rdN f N x.2.1 x.2.2 x.1 p 0).2).1.map (fun l => v :: l) = none := h
          rw [ef] at h'; cases h'
      · have hl' : (rdF f N F (rdN f N x.2.1 x.2.2 x.1 p 0).2).1.map (fun l => v :: l) = some l := hl
        rcases opt_or (rdF f N F (rdN f N x.2.1 x.2.2 x.1 p 0).2).1 with ef | ⟨l2, ef⟩
        · rw [ef] at hl'; cases hl'
        · rw [ef] at hl'
          have h2 : some (v :: l2) = some l := hl'
          cases h2
          cases i with
          | zero => show (nst f N [x] (some w, p)).1 = _; rw [nst_c, e]; rfl
          | succ i =>
            have := i3 l2 ef i (by rw [List.length_cons] at hi; omega)
            show (nst f N (x :: F.take (i + 1)) (some w, p)).1 = _
            rw [nst_c, e, this]; rfl
theorem fig_o {σ : qH} {ou : Int32} (x : Nat × Nat × Nat) {st : Option Nat × Nat} (hN : N ≤ 120) (hf : txR N f ts) (hf2 : ∀ i, i < N → f i ≤ 255) (hx : 1 ≤ x.1 ∧ x.1 ≤ 3 ∧ x.2.1 ≤ 999 ∧ x.2.2 ≤ 999) (hw : ∀ w, st.1 = some w → w ≤ 999) (hp : st.2 ≤ N) (ht : σ (m + 1) = some (iA 120 ts)) (h : σ m = some (oM m N k rf (nI st.2) ou)) : ∃ σ', FX7_figures m (enc st.1) (nI (10 ^ x.1 / 10)) (nI x.2.1) (nI x.2.2) σ = some (enc (stp f N x st).1, σ') ∧ σ' m = some (oM m N k rf (nI (stp f N x st).2) ou) ∧ OfZ σ σ' m ∧ (∀ w, (stp f N x st).1 = some w → w ≤ 999) ∧ (stp f N x st).2 ≤ N ∧ σ' (m + 1) = some (iA 120 ts) := by
  obtain ⟨o, p⟩ := st
  cases o with
  | none => exact ⟨σ, fig_n (M_r h).1, h, OfZ.rf, fun w hh => (by cases hh), hp, ht⟩
  | some w =>
    have hw' : w ≤ 999 := hw w rfl
    have hp' : p ≤ N := hp
    obtain ⟨q3, hq⟩ := qf (n := x.1) (by omega)
    obtain ⟨σ1, e1, g1, o1⟩ := figL (m := m) (k := k) (rf := rf) (a1 := nI w) (enc_v (by omega)) hN hf hf2 hx.2.2.1 hx.2.2.2 x.1 q3 0 p ou σ hx.2.1 (by omega) (by omega) ht h
    rw [← hq, Nat.zero_mul] at e1
    rw [stp_s]
    refine ⟨σ1, ?_, g1, o1, fun v hv => Nat.le_trans (rdN_r _ _ _ v hx.1 hv).2 hx.2.2.2, (rdN_p (f := f) (N := N) (lo := x.2.1) (hi := x.2.2) x.1 p 0).2 hp', by rw [o1 _ (by omega)]; exact ht⟩
    unfold FX7_figures
    rw [(M_r h).1, b1_s]
    exact e1
end MF
