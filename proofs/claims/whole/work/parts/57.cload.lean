/-! Layer 2: the class's error position; the commands done. -/
def erF (f : Nat → Nat) (N : Nat) : Nat → Nat → Option Nat
  | 0, _ => none
  | k + 1, p => if N ≤ p then none else match (cmd f N p).1 with
    | none => some (cmd f N p).2
    | some _ => erF f N k (cmd f N p).2
theorem erF_e {f : Nat → Nat} {N k p : Nat} (h : N ≤ p) : erF f N k p = none := by
  cases k with
  | zero => rfl
  | succ k => rw [erF, if_pos h]
theorem erF_n {f : Nat → Nat} {N k p : Nat} (h : ¬ N ≤ p) (e : (cmd f N p).1 = none) : erF f N (k + 1) p = some (cmd f N p).2 := by rw [erF, if_neg h, e]
theorem erF_s {f : Nat → Nat} {N k p : Nat} {l : List Nat} (h : ¬ N ≤ p) (e : (cmd f N p).1 = some l) : erF f N (k + 1) p = erF f N k (cmd f N p).2 := by rw [erF, if_neg h, e]
def erP (f : Nat → Nat) (N : Nat) : Option Nat := if 0 < N ∧ f 0 = 80 then erF f N 120 1 else some 0
section CE
variable {σ : qH} {b N : Nat} {f : Nat → Nat} {ts : Nat → Int32} {tst : Nat → Nat}
theorem feL (hN : N ≤ 120) (hf : txR N f ts) (hf2 : ∀ i, i < N → f i ≤ 255) (hab : ∀ i, i < 7 → tst i < b ∨ b + 2 < tst i) : ∀ (k i q p : Nat) (c : Int32) (ns : Nat → Int32) (σ : qH), N < p + k → i + k ≤ 120 → p ≤ 120 → stA σ tst → tX σ b N p c ts ns → ∃ σ' p' c' ns', FX5_findError_L14 tst b (k + 1 + q) (nI i) σ = some (enc (erF f N k p), σ') ∧ tX σ' b N p' c' ts ns' ∧ Ch σ σ' b (b + 2)
  | 0, i, q, p, c, ns, σ, hk, hi, hp, hs, h => by
    have r := X_r h
    refine ⟨σ, p, c, ns, ?_, h, Ch.rf⟩
    rw [show 0 + 1 + q = q + 1 by omega, FX5_findError_L14]
    have l120 : ((120 : Int32) ≤ nI i) = (120 ≤ i) := le_nI (a := 120) (by omega) (by omega)
    simp only [l120, r.2.2.2.1, r.2.2.1, b1_s, le_nI (show N < 2 ^ 31 by omega) (show p < 2 ^ 31 by omega)]
    by_cases c1 : 120 ≤ i
    · rw [if_pos c1]; rfl
    · rw [if_neg c1, if_pos (by omega)]; rfl
  | k + 1, i, q, p, c, ns, σ, hk, hi, hp, hs, h => by
    have r := X_r h
    have l120 : ((120 : Int32) ≤ nI i) = (120 ≤ i) := le_nI (a := 120) (by omega) (by omega)
    rw [show k + 1 + 1 + q = (k + 1 + q) + 1 by omega, FX5_findError_L14]
    simp only [l120, if_neg (show ¬ 120 ≤ i by omega), r.2.2.2.1, r.2.2.1, b1_s, le_nI (show N < 2 ^ 31 by omega) (show p < 2 ^ 31 by omega)]
    by_cases c1 : N ≤ p
    · rw [if_pos c1, erF_e c1]; exact ⟨σ, p, c, ns, rfl, h, Ch.rf⟩
    · obtain ⟨σ1, ns1, e1, g1, r1, o1⟩ := readCommand_e hN hf hf2 hab hs hp h
      have hq := cmd_q (f := f) (N := N) (p := p) (by omega)
      rw [if_neg c1, e1, b2_s]
      rcases opt_or (cmd f N p).1 with ev | ⟨l, ev⟩
      · rw [ev, erF_n c1 ev, if_pos (show (if (none : Option (List Nat)).isSome = true then (1 : Int32) else 0) = 0 from rfl), (X_r g1).2.2.2.1, b1_s]
        exact ⟨σ1, _, _, _, rfl, g1, o1⟩
      · have hc := cmd_p ev
        obtain ⟨σ2, p2, c2, ns2, e2, g2, o2⟩ := feL hN hf hf2 hab k (i + 1) q (cmd f N p).2 _ ns1 σ1 (by omega) (by omega) (by omega) (stA_s hs (fun j hj => o1 _ (hab j hj))) g1
        rw [ev, erF_s c1 ev, if_neg (show ¬ (if (some l : Option (List Nat)).isSome = true then (1 : Int32) else 0) = 0 by rw [if_pos (show (some l : Option (List Nat)).isSome = true from rfl)]; decide), nI_1]
        exact ⟨σ2, p2, c2, ns2, e2, g2, o1.tr o2⟩
theorem readHead_e {p : Nat} {c : Int32} {ns : Nat → Int32} (hN : N ≤ 120) (hf : txR N f ts) (hf2 : ∀ i, i < N → f i ≤ 255) (h : tX σ b N p c ts ns) : ∃ σ', FX5_readHead b σ = some (if 0 < N ∧ f 0 = 80 then 1 else 0, σ') ∧ tX σ' b N (if 0 < N ∧ f 0 = 80 then 1 else 0) c ts ns ∧ OfZ σ σ' b := by
  obtain ⟨σ1, e1, g1, o1⟩ := X_wp h 0
  obtain ⟨σ2, e2, g2, o2⟩ := X_wp g1 1
  have e1' : gP σ b 3 2 (.int 0) = some σ1 := e1
  have e2' : gP σ1 b 3 2 (.int 1) = some σ2 := e2
  unfold FX5_readHead
  rw [(X_r h).1, b1_s, e1', b1_s, sign_e g1 hf hN (by omega), b1_s]
  by_cases c0 : 0 < N
  · have f2 := hf2 0 c0
    have hsg : sgn f N 0 = nI (f 0) := if_pos c0
    have q1 : (nI (f 0) = (80 : Int32)) = (f 0 = 80) := eq_nI (b := 80) (by omega) (by omega)
    rw [hsg]
    simp only [q1]
    by_cases c1 : f 0 = 80
    · rw [if_pos c1, if_pos ⟨c0, c1⟩, e2', b1_s]
      exact ⟨σ2, rfl, by rw [if_pos ⟨c0, c1⟩]; exact g2, o1.tr o2⟩
    · rw [if_neg c1, if_neg (fun hh => c1 hh.2)]
      exact ⟨σ1, rfl, by rw [if_neg (fun hh => c1 hh.2)]; exact g1, o1⟩
  · have hsg : sgn f N 0 = -1 := if_neg c0
    rw [hsg, if_neg (by decide), if_neg (fun hh => c0 hh.1)]
    exact ⟨σ1, rfl, by rw [if_neg (fun hh => c0 hh.1)]; exact g1, o1⟩
theorem findError_e {p : Nat} {c : Int32} {ns : Nat → Int32} (hN : N ≤ 120) (hf : txR N f ts) (hf2 : ∀ i, i < N → f i ≤ 255) (hab : ∀ i, i < 7 → tst i < b ∨ b + 2 < tst i) (hs : stA σ tst) (h : tX σ b N p c ts ns) : ∃ σ' p' c' ns', FX5_findError tst b σ = some (enc (erP f N), σ') ∧ tX σ' b N p' c' ts ns' ∧ Ch σ σ' b (b + 2) := by
  obtain ⟨σ1, e1, g1, o1⟩ := readHead_e hN hf hf2 h
  have ch1 : Ch σ σ1 b (b + 2) := o1.ch (Nat.le_refl _) (by omega)
  unfold FX5_findError erP
  rw [(X_r h).1, b1_s, e1, b2_s]
  by_cases c0 : 0 < N ∧ f 0 = 80
  · rw [if_pos c0] at g1 ⊢
    obtain ⟨q3, hq⟩ := qf (n := 120) (by omega)
    obtain ⟨σ2, p2, c2, ns2, e2, g2, o2⟩ := feL hN hf hf2 hab 120 0 q3 1 _ ns σ1 (by omega) (by omega) (by omega) (stA_s hs (fun j hj => ch1 _ (hab j hj))) g1
    rw [← hq] at e2
    rw [if_neg (by decide), if_pos c0]
    exact ⟨σ2, p2, c2, ns2, e2, g2, ch1.tr o2⟩
  · rw [if_neg c0] at g1 ⊢
    rw [if_pos rfl, if_neg c0, (X_r g1).2.2.2.1, b1_s]
    exact ⟨σ1, _, _, _, rfl, g1, ch1⟩
end CE
/-- a command done, and whether it is left out -/
def doC (c : Nat) (l : List Nat) (A : AS) : AS × Nat :=
  if c = 100 then (if l.getD 0 0 < nM A then (drpA A (l.getD 0 0), 0) else (A, 1))
  else if c = 111 then (if nM A < 16 then (addA A (mm7 (l.getD 0 0) (l.getD 1 0) 1 (l.getD 2 0) (l.getD 3 0) (l.getD 4 0) (l.getD 5 0)), 0) else (A, 1))
  else if c = 113 then (eve A, 0)
  else if c = 115 then (if nM A < 16 then (addA A (mm7 (l.getD 0 0) (l.getD 1 0) 0 (l.getD 2 0) (l.getD 3 0) (l.getD 4 0) (l.getD 5 0)), 0) else (A, 1))
  else if c = 116 then (truA A (l.getD 0 0) (l.getD 1 0), 0)
  else if c = 118 then ((srv A (l.getD 0 0) (l.getD 1 0)).2, 0)
  else (if l.getD 2 0 ≤ l.getD 3 0 ∧ nM A < 16 then (addA A (mm7 (l.getD 0 0) (l.getD 1 0) 2 (l.getD 2 0) (l.getD 3 0) 0 0), 0) else (A, 1))
/-- the numbers are in the ranges of the form -/
def inF (F : FT) (l : List Nat) : Prop := ∀ j x, F[j]? = some x → x.2.1 ≤ l.getD j 0 ∧ l.getD j 0 ≤ x.2.2
theorem frm_c {c : Nat} {F : FT} (h : frm c = some F) : (c = 100 ∧ F = fD) ∨ (c = 111 ∧ F = fO) ∨ (c = 113 ∧ F = fQ) ∨ (c = 115 ∧ F = fS) ∨ (c = 116 ∧ F = fU) ∨ (c = 118 ∧ F = fV) ∨ (c = 119 ∧ F = fW) := by
  unfold frm at h
  by_cases k1 : c = 100
  · rw [if_pos k1] at h; cases h; exact Or.inl ⟨k1, rfl⟩
  rw [if_neg k1] at h
  by_cases k2 : c = 111
  · rw [if_pos k2] at h; cases h; exact Or.inr (Or.inl ⟨k2, rfl⟩)
  rw [if_neg k2] at h
  by_cases k3 : c = 113
  · rw [if_pos k3] at h; cases h; exact Or.inr (Or.inr (Or.inl ⟨k3, rfl⟩))
  rw [if_neg k3] at h
  by_cases k4 : c = 115
  · rw [if_pos k4] at h; cases h; exact Or.inr (Or.inr (Or.inr (Or.inl ⟨k4, rfl⟩)))
  rw [if_neg k4] at h
  by_cases k5 : c = 116
  · rw [if_pos k5] at h; cases h; exact Or.inr (Or.inr (Or.inr (Or.inr (Or.inl ⟨k5, rfl⟩))))
  rw [if_neg k5] at h
  by_cases k6 : c = 118
  · rw [if_pos k6] at h; cases h; exact Or.inr (Or.inr (Or.inr (Or.inr (Or.inr (Or.inl ⟨k6, rfl⟩)))))
  rw [if_neg k6] at h
  by_cases k7 : c = 119
  · rw [if_pos k7] at h; cases h; exact Or.inr (Or.inr (Or.inr (Or.inr (Or.inr (Or.inr ⟨k7, rfl⟩)))))
  rw [if_neg k7] at h; cases h
theorem cmd_r {f : Nat → Nat} {N p : Nat} {l : List Nat} {F : FT} (h : (cmd f N p).1 = some l) (hF : frm (f p) = some F) : inF F l := by
  obtain ⟨h1, h2, h3, F', hF', e⟩ := cmd_p h
  rw [hF] at hF'
  cases hF'
  rw [e] at h
  have ok : ∀ x, x ∈ F → 1 ≤ x.1 := by
    have : okF F := by rcases frm_c hF with ⟨-, rfl⟩ | ⟨-, rfl⟩ | ⟨-, rfl⟩ | ⟨-, rfl⟩ | ⟨-, rfl⟩ | ⟨-, rfl⟩ | ⟨-, rfl⟩
                       · exact okFD
                       · exact okFO
                       · exact okFQ
                       · exact okFS
                       · exact okFU
                       · exact okFV
                       · exact okFW
    exact fun x hx => (this.2 x hx).1
  exact (rdF_r F _ l ok h).2
