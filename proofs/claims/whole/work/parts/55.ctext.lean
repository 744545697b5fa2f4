/-! Layer 2: the reading of a text, in numbers; the class's reading. -/
def rdN (f : Nat → Nat) (N lo hi : Nat) : Nat → Nat → Nat → Option Nat × Nat
  | 0, p, v => (some v, p)
  | d + 1, p, v => if p < N ∧ 48 ≤ f p ∧ f p ≤ 57 ∧ (10 * v + (f p - 48)) * 10 ^ d ≤ hi ∧ lo ≤ (10 * v + (f p - 48)) * 10 ^ d + (10 ^ d - 1) then rdN f N lo hi d (p + 1) (10 * v + (f p - 48)) else (none, p)
theorem rdN_p {f : Nat → Nat} {N lo hi : Nat} : ∀ d p v, p ≤ (rdN f N lo hi d p v).2 ∧ (p ≤ N → (rdN f N lo hi d p v).2 ≤ N)
  | 0, p, v => ⟨Nat.le_refl _, fun h => h⟩
  | d + 1, p, v => by
    rw [rdN]
    split
    · rename_i c
      have h := rdN_p (f := f) (N := N) (lo := lo) (hi := hi) d (p + 1) (10 * v + (f p - 48))
      exact ⟨by omega, fun _ => h.2 (by omega)⟩
    · exact ⟨Nat.le_refl _, fun h => h⟩
theorem rdN_r {f : Nat → Nat} {N lo hi : Nat} : ∀ d p v w, 1 ≤ d → (rdN f N lo hi d p v).1 = some w → lo ≤ w ∧ w ≤ hi
  | 0, p, v, w, h, _ => absurd h (by omega)
  | d + 1, p, v, w, _, h => by
    rw [rdN] at h
    split at h
    · rename_i c
      cases d with
      | zero =>
        have h' : some (10 * v + (f p - 48)) = some w := h
        cases h'
        simp at c
        omega
      | succ d => exact rdN_r (d + 1) (p + 1) _ w (by omega) h
    · cases h
theorem ten_p {d : Nat} : 1 ≤ 10 ^ d := Nat.one_le_pow _ _ (by omega)
theorem ten_s {d : Nat} (x : Nat) : (10 * x + 9) * 10 ^ d + (10 ^ d - 1) = x * 10 ^ (d + 1) + (10 ^ (d + 1) - 1) := by
  have h := ten_p (d := d)
  have e1 : (10 * x + 9) * 10 ^ d = 10 * (x * 10 ^ d) + 9 * 10 ^ d := by rw [Nat.add_mul, Nat.mul_assoc]
  have e2 : x * 10 ^ (d + 1) = 10 * (x * 10 ^ d) := by rw [Nat.pow_succ, ← Nat.mul_assoc, Nat.mul_comm]
  have e3 : 10 ^ (d + 1) = 10 * 10 ^ d := by rw [Nat.pow_succ, Nat.mul_comm]
  rw [e1, e2, e3]; omega
theorem lnL {lo hi : Int32} {n : Nat} {σ : qH} (hn : n < 2 ^ 31) : ∀ (e j q x1 x2 : Nat), j + e = n → FX5_leadsInto_L9 (nI n) lo hi σ (e + 1 + q) (nI x1) (nI x2) (nI j) = some (nI (x1 * 10 ^ e), nI (x2 * 10 ^ e + (10 ^ e - 1)))
  | 0, j, q, x1, x2, h => by
    have : j = n := by omega
    subst this
    rw [show 0 + 1 + q = q + 1 by omega, FX5_leadsInto_L9, if_pos (Int32.le_refl _)]
    simp
  | e + 1, j, q, x1, x2, h => by
    have ih := lnL (lo := lo) (hi := hi) (σ := σ) hn e (j + 1) q (10 * x1) (10 * x2 + 9) (by omega)
    rw [show e + 1 + 1 + q = (e + 1 + q) + 1 by omega, FX5_leadsInto_L9, if_neg (fun hh => absurd ((nI_leI hn (by omega)).mp hh) (by omega)), show (10 : Int32) = nI 10 from rfl, show (9 : Int32) = nI 9 from rfl, pk_mul, pk_mul, nI_add, nI_1, ih, ten_s]
    have e1 : 10 * x1 * 10 ^ e = x1 * 10 ^ (e + 1) := by rw [Nat.pow_succ, ← Nat.mul_assoc, Nat.mul_comm 10 x1, Nat.mul_assoc, Nat.mul_assoc, Nat.mul_comm 10]
    rw [e1]
theorem leads_e {x n lo hi : Nat} {σ : qH} (hn : n ≤ 2) (hx : x < 100000) (hlo : lo < 2 ^ 31) (hhi : hi < 2 ^ 31) : FX5_leadsInto (nI x) (nI n) (nI lo) (nI hi) σ = some (bI (x * 10 ^ n ≤ hi ∧ lo ≤ x * 10 ^ n + (10 ^ n - 1))) := by
  obtain ⟨q3, hq⟩ := qf (n := n) (by omega)
  have e := lnL (lo := nI lo) (hi := nI hi) (σ := σ) (show n < 2 ^ 31 by omega) n 0 q3 x x (by omega)
  rw [← hq] at e
  have e' : FX5_leadsInto_L9 (nI n) (nI lo) (nI hi) σ qfuel (nI x) (nI x) 0 = _ := e
  have hp : 10 ^ n ≤ 100 := by rcases (show n = 0 ∨ n = 1 ∨ n = 2 by omega) with rfl | rfl | rfl <;> decide
  have hm : x * 10 ^ n ≤ 100000 * 100 := Nat.mul_le_mul (by omega) hp
  unfold FX5_leadsInto
  simp only [e', b2_s, lt_nI hhi (show x * 10 ^ n < 2 ^ 31 by omega), lt_nI (show x * 10 ^ n + (10 ^ n - 1) < 2 ^ 31 by omega) hlo]
  by_cases c1 : hi < x * 10 ^ n
  · rw [if_pos c1, b1_s, if_pos (Or.inl rfl), bI_f (by omega)]
  · by_cases c2 : x * 10 ^ n + (10 ^ n - 1) < lo
    · rw [if_neg c1, if_pos c2, b1_s, if_pos (Or.inl rfl), bI_f (by omega)]
    · rw [if_neg c1, if_neg c2, b1_s, if_pos (Or.inr rfl), bI_t (by omega)]
theorem X_r {σ : qH} {b N p : Nat} {c : Int32} {ts ns : Nat → Int32} (h : tX σ b N p c ts ns) : gC σ b 3 = some () ∧ gR σ b 3 0 = some (b + 1) ∧ gI σ b 3 1 = some (nI N) ∧ gI σ b 3 2 = some (nI p) ∧ gI σ b 3 3 = some c ∧ gR σ b 3 4 = some (b + 2) :=
  ⟨gC_e h.1, gR_e h.1 rfl, gI_e h.1 rfl, gI_e h.1 rfl, gI_e h.1 rfl, gR_e h.1 rfl⟩
theorem tX_z {σ σ' : qH} {b N p N' p' : Nat} {c c' : Int32} {ts ns : Nat → Int32} (h : tX σ b N p c ts ns) (g : σ' b = some (oT b N' p' c')) (o : OfZ σ σ' b) : tX σ' b N' p' c' ts ns := ⟨g, by rw [o _ (by omega)]; exact h.2.1, by rw [o _ (by omega)]; exact h.2.2⟩
theorem X_wN {σ : qH} {b N p : Nat} {c : Int32} {ts ns : Nat → Int32} (h : tX σ b N p c ts ns) (x : Nat) : ∃ σ', gP σ b 3 1 (.int (nI x)) = some σ' ∧ tX σ' b x p c ts ns ∧ OfZ σ σ' b := ⟨_, gP_e h.1 (Nat.le_of_ble_eq_true rfl), tX_z h qU_s (fun _ hb => qU_n hb), fun _ hb => qU_n hb⟩
theorem X_wp {σ : qH} {b N p : Nat} {c : Int32} {ts ns : Nat → Int32} (h : tX σ b N p c ts ns) (x : Nat) : ∃ σ', gP σ b 3 2 (.int (nI x)) = some σ' ∧ tX σ' b N x c ts ns ∧ OfZ σ σ' b := ⟨_, gP_e h.1 (Nat.le_of_ble_eq_true rfl), tX_z h qU_s (fun _ hb => qU_n hb), fun _ hb => qU_n hb⟩
theorem X_wc {σ : qH} {b N p : Nat} {c : Int32} {ts ns : Nat → Int32} (h : tX σ b N p c ts ns) (x : Int32) : ∃ σ', gP σ b 3 3 (.int x) = some σ' ∧ tX σ' b N p x ts ns ∧ OfZ σ σ' b := ⟨_, gP_e h.1 (Nat.le_of_ble_eq_true rfl), tX_z h qU_s (fun _ hb => qU_n hb), fun _ hb => qU_n hb⟩
theorem X_wn {σ : qH} {b N p : Nat} {c : Int32} {ts ns : Nat → Int32} (h : tX σ b N p c ts ns) {i : Nat} (hi : i < 6) (x : Int32) : ∃ σ', sI σ (b + 2) (nI i) x = some σ' ∧ tX σ' b N p c ts (upd ns i x) ∧ OfZ σ σ' (b + 2) := by
  have o : OfZ σ (qU σ (b + 2) (iA 6 (upd ns i x))) (b + 2) := fun _ hb => qU_n hb
  exact ⟨_, sI_e h.2.2 hi (by omega), ⟨by rw [o _ (by omega)]; exact h.1, by rw [o _ (by omega)]; exact h.2.1, qU_s⟩, o⟩
abbrev sgn (f : Nat → Nat) (N p : Nat) : Int32 := if p < N then nI (f p) else -1
section CT
variable {σ : qH} {b N : Nat} {f : Nat → Nat} {ts : Nat → Int32}
theorem sign_e {p : Nat} {c : Int32} {ns : Nat → Int32} (h : tX σ b N p c ts ns) (hf : txR N f ts) (hN : N ≤ 120) (hp : p < 2 ^ 31) : FX5_signHere b σ = some (sgn f N p) := by
  have r := X_r h
  unfold FX5_signHere sgn
  simp only [r.1, r.2.2.2.1, r.2.2.1, b1_s, le_nI (show N < 2 ^ 31 by omega) hp]
  by_cases c1 : N ≤ p
  · rw [if_pos c1, if_neg (by omega), b1_s]
  · rw [if_neg c1, if_pos (by omega), r.2.1, b1_s, aI_e h.2.1 (show p < 120 by omega) (by omega), b1_s, b1_s, hf p (by omega)]
theorem rnL {lo hi : Nat} (hN : N ≤ 120) (hf : txR N f ts) (hf2 : ∀ i, i < N → f i ≤ 255) (hlo : lo ≤ 999) (hhi : hi ≤ 999) : ∀ (d q v p : Nat) (c : Int32) (ns : Nat → Int32) (σ : qH), d ≤ 3 → v ≤ 999 → p ≤ 120 → tX σ b N p c ts ns → ∃ σ', FX5_readNumber_L8 b (nI lo) (nI hi) (d + 1 + q) (nI v) (nI d - 1) σ = some (enc (rdN f N lo hi d p v).1, σ') ∧ tX σ' b N (rdN f N lo hi d p v).2 c ts ns ∧ OfZ σ σ' b
  | 0, q, v, p, c, ns, σ, hd, hv, hp, h => by
    refine ⟨σ, ?_, h, OfZ.rf⟩
    rw [show 0 + 1 + q = q + 1 by omega, FX5_readNumber_L8, if_pos (show nI 0 - 1 < 0 by decide)]; rfl
  | d + 1, q, v, p, c, ns, σ, hd, hv, hp, h => by
    have r := X_r h
    rw [show d + 1 + 1 + q = (d + 1 + q) + 1 by omega, FX5_readNumber_L8, rdN]
    have e2 : nI d + (-1) = nI d - 1 := by rw [Int32.sub_eq_add_neg]
    rw [show nI (d + 1) - 1 = nI d from nI_pred d, if_neg (nI_pos (by omega)), sign_e h hf hN (by omega), b1_s, e2]
    by_cases c1 : p < N
    · have f2 := hf2 p c1
      have hs : sgn f N p = nI (f p) := if_pos c1
      have l48 : (nI (f p) < (48 : Int32)) = (f p < 48) := lt_nI (b := 48) (by omega) (by omega)
      have l57 : ((57 : Int32) < nI (f p)) = (57 < f p) := lt_nI (a := 57) (by omega) (by omega)
      rw [hs]
      simp only [l48, l57]
      by_cases c2 : f p < 48
      · rw [if_pos c2, if_neg (by omega)]; exact ⟨σ, rfl, h, OfZ.rf⟩
      · by_cases c3 : 57 < f p
        · rw [if_neg c2, if_pos c3, if_neg (by omega)]; exact ⟨σ, rfl, h, OfZ.rf⟩
        · have ev : ((10 : Int32) * nI v + nI (f p)) - 48 = nI (10 * v + (f p - 48)) := by
            rw [show (10 : Int32) = nI 10 from rfl, show (48 : Int32) = nI 48 from rfl, pk_mul, nI_add, pk_sub (by omega), show 10 * v + f p - 48 = 10 * v + (f p - 48) by omega]
          rw [if_neg c2, if_neg c3, ev, leads_e (show d ≤ 2 by omega) (by omega) (by omega) (by omega), b1_s]
          simp only [bI_ite]
          by_cases c4 : (10 * v + (f p - 48)) * 10 ^ d ≤ hi ∧ lo ≤ (10 * v + (f p - 48)) * 10 ^ d + (10 ^ d - 1)
          · obtain ⟨σ1, e1, g1, o1⟩ := X_wp h (p + 1)
            have hv2 : 10 * v + (f p - 48) ≤ 999 := by
              have : (10 * v + (f p - 48)) * 1 ≤ (10 * v + (f p - 48)) * 10 ^ d := Nat.mul_le_mul_left _ ten_p
              omega
            obtain ⟨σ2, e3, g2, o2⟩ := rnL hN hf hf2 hlo hhi d q (10 * v + (f p - 48)) (p + 1) c ns σ1 (by omega) hv2 (by omega) g1
            rw [if_pos c4, if_pos ⟨c1, by omega, by omega, c4⟩, r.2.2.2.1, b1_s, nI_1, e1, b1_s]
            exact ⟨σ2, e3, g2, o1.tr o2⟩
          · rw [if_neg c4, if_neg (fun hh => c4 hh.2.2.2)]; exact ⟨σ, rfl, h, OfZ.rf⟩
    · have hs : sgn f N p = -1 := if_neg c1
      rw [hs, if_pos (show (-1 : Int32) < 48 by decide), if_neg (fun hh => c1 hh.1)]
      exact ⟨σ, rfl, h, OfZ.rf⟩
theorem readNumber_e {lo hi d p : Nat} {c : Int32} {ns : Nat → Int32} (hN : N ≤ 120) (hf : txR N f ts) (hf2 : ∀ i, i < N → f i ≤ 255) (hlo : lo ≤ 999) (hhi : hi ≤ 999) (hd : d ≤ 3) (hp : p ≤ 120) (h : tX σ b N p c ts ns) : ∃ σ', FX5_readNumber b (nI d) (nI lo) (nI hi) σ = some (enc (rdN f N lo hi d p 0).1, σ') ∧ tX σ' b N (rdN f N lo hi d p 0).2 c ts ns ∧ OfZ σ σ' b := by
  obtain ⟨q3, hq⟩ := qf (n := d) (by omega)
  obtain ⟨σ1, e1, g1, o1⟩ := rnL (b := b) hN hf hf2 hlo hhi d q3 0 p c ns σ hd (by omega) hp h
  rw [← hq] at e1
  refine ⟨σ1, ?_, g1, o1⟩
  unfold FX5_readNumber
  rw [(X_r h).1, b1_s]
  exact e1
/-- a form: for each number its digits, the least and the greatest one -/
abbrev FT : Type := List (Nat × Nat × Nat)
def rdF (f : Nat → Nat) (N : Nat) : FT → Nat → Option (List Nat) × Nat
  | [], p => (some [], p)
  | x :: F, p => match (rdN f N x.2.1 x.2.2 x.1 p 0).1 with
    | none => (none, (rdN f N x.2.1 x.2.2 x.1 p 0).2)
    | some v => ((rdF f N F (rdN f N x.2.1 x.2.2 x.1 p 0).2).1.map (fun l => v :: l), (rdF f N F (rdN f N x.2.1 x.2.2 x.1 p 0).2).2)
def okF (F : FT) : Prop := F.length ≤ 6 ∧ ∀ x, x ∈ F → 1 ≤ x.1 ∧ x.1 ≤ 3 ∧ x.2.1 ≤ 999 ∧ x.2.2 ≤ 999
theorem rdF_p {f : Nat → Nat} {N : Nat} : ∀ (F : FT) (p : Nat), p ≤ (rdF f N F p).2 ∧ (p ≤ N → (rdF f N F p).2 ≤ N)
  | [], p => ⟨Nat.le_refl _, fun h => h⟩
  | x :: F, p => by
    have h := rdN_p (f := f) (N := N) (lo := x.2.1) (hi := x.2.2) x.1 p 0
    have h2 := rdF_p (f := f) (N := N) F (rdN f N x.2.1 x.2.2 x.1 p 0).2
    rw [rdF]
    split
    · exact h
    · exact ⟨Nat.le_trans h.1 h2.1, fun hh => h2.2 (h.2 hh)⟩
theorem rdF_r {f : Nat → Nat} {N : Nat} : ∀ (F : FT) (p : Nat) (l : List Nat), (∀ x, x ∈ F → 1 ≤ x.1) → (rdF f N F p).1 = some l → l.length = F.length ∧ ∀ j x, F[j]? = some x → x.2.1 ≤ l.getD j 0 ∧ l.getD j 0 ≤ x.2.2
  | [], p, l, _, h => by
    have h' : some [] = some l := h
    cases h'
    exact ⟨rfl, fun j x hj => by simp at hj⟩
  | y :: F, p, l, hd, h => by
    rw [rdF] at h
    split at h
    · cases h
    · rename_i v ev
      have hv := rdN_r _ _ _ v (hd y (List.mem_cons_self ..)) ev
      have h' : (rdF f N F (rdN f N y.2.1 y.2.2 y.1 p 0).2).1.map (fun l => v :: l) = some l := h
      cases hl : (rdF f N F (rdN f N y.2.1 y.2.2 y.1 p 0).2).1 with
      | none => rw [hl] at h'; cases h'
      | some l2 =>
        rw [hl] at h'
        have h'' : some (v :: l2) = some l := h'
        cases h''
        have ih := rdF_r F _ l2 (fun x hx => hd x (List.mem_cons_of_mem _ hx)) hl
        refine ⟨by rw [List.length_cons, List.length_cons, ih.1], fun j x hj => ?_⟩
        cases j with
        | zero =>
          have : some y = some x := hj
          cases this
          exact hv
        | succ j => exact ih.2 j x hj
end CT
