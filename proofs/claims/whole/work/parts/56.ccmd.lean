/-! Layer 2: the class's commands of a text, its error position. -/
def fmA (σ : qH) (a : Nat) (F : FT) : Prop := ∃ g : Nat → Int32, σ a = some (.inl (4, (3 * F.length, .inl g))) ∧ ∀ i x, F[i]? = some x → g (3 * i) = nI x.1 ∧ g (3 * i + 1) = nI x.2.1 ∧ g (3 * i + 2) = nI x.2.2
theorem fmA_s {σ σ' : qH} {a : Nat} {F : FT} (h : fmA σ a F) (e : σ' a = σ a) : fmA σ' a F := by
  obtain ⟨g, h1, h2⟩ := h
  exact ⟨g, by rw [e]; exact h1, h2⟩
abbrev fS : FT := [(1, 0, 2), (1, 0, 5), (2, 1, 20), (2, 1, 40), (3, 1, 400), (2, 0, 20)]
abbrev fO : FT := [(1, 0, 2), (1, 0, 5), (1, 1, 9), (2, 1, 60), (3, 1, 400), (2, 0, 20)]
abbrev fW : FT := [(1, 0, 2), (1, 0, 5), (3, 1, 999), (3, 1, 999)]
abbrev fD : FT := [(2, 0, 15)]
abbrev fU : FT := [(1, 0, 5), (1, 0, 9)]
abbrev fQ : FT := []
abbrev fV : FT := [(1, 0, 2), (3, 1, 999)]
def stA (σ : qH) (tst : Nat → Nat) : Prop := fmA σ (tst 0) fS ∧ fmA σ (tst 1) fO ∧ fmA σ (tst 2) fW ∧ fmA σ (tst 3) fD ∧ fmA σ (tst 4) fU ∧ fmA σ (tst 5) fQ ∧ fmA σ (tst 6) fV
theorem stA_s {σ σ' : qH} {tst : Nat → Nat} (h : stA σ tst) (e : ∀ i, i < 7 → σ' (tst i) = σ (tst i)) : stA σ' tst := by
  obtain ⟨h0, h1, h2, h3, h4, h5, h6⟩ := h
  exact ⟨fmA_s h0 (e 0 (by omega)), fmA_s h1 (e 1 (by omega)), fmA_s h2 (e 2 (by omega)), fmA_s h3 (e 3 (by omega)), fmA_s h4 (e 4 (by omega)), fmA_s h5 (e 5 (by omega)), fmA_s h6 (e 6 (by omega))⟩
theorem okFS : okF fS := ⟨by decide, by decide⟩
theorem okFO : okF fO := ⟨by decide, by decide⟩
theorem okFW : okF fW := ⟨by decide, by decide⟩
theorem okFD : okF fD := ⟨by decide, by decide⟩
theorem okFU : okF fU := ⟨by decide, by decide⟩
theorem okFQ : okF fQ := ⟨by decide, by decide⟩
theorem okFV : okF fV := ⟨by decide, by decide⟩
theorem enc_v {v : Nat} (h : v < 2 ^ 31) : ¬ enc (some v) = (-1 : Int32) := fun hh => by
  have := congrArg Int32.toInt hh
  rw [show enc (some v) = nI v from rfl, nI_toInt h, show (-1 : Int32).toInt = -1 from rfl] at this
  omega
theorem opt_or {α : Type} (o : Option α) : o = none ∨ ∃ v, o = some v := by
  cases o with
  | none => exact Or.inl rfl
  | some v => exact Or.inr ⟨v, rfl⟩
theorem rdF_n {f : Nat → Nat} {N p : Nat} {x : Nat × Nat × Nat} {F : FT} (h : (rdN f N x.2.1 x.2.2 x.1 p 0).1 = none) : rdF f N (x :: F) p = (none, (rdN f N x.2.1 x.2.2 x.1 p 0).2) := by rw [rdF, h]
theorem rdF_s {f : Nat → Nat} {N p v : Nat} {x : Nat × Nat × Nat} {F : FT} (h : (rdN f N x.2.1 x.2.2 x.1 p 0).1 = some v) : rdF f N (x :: F) p = ((rdF f N F (rdN f N x.2.1 x.2.2 x.1 p 0).2).1.map (fun l => v :: l), (rdF f N F (rdN f N x.2.1 x.2.2 x.1 p 0).2).2) := by rw [rdF, h]
section CM
variable {σ : qH} {b N : Nat} {f : Nat → Nat} {ts : Nat → Int32}
theorem rsL {a : Nat} (hN : N ≤ 120) (hf : txR N f ts) (hf2 : ∀ i, i < N → f i ≤ 255) (hab : a < b ∨ b + 2 < a) : ∀ (G F0 : FT) (q p : Nat) (c : Int32) (ns : Nat → Int32) (σ : qH), okF (F0 ++ G) → p ≤ 120 → fmA σ a (F0 ++ G) → tX σ b N p c ts ns → ∃ σ' ns', FX5_readNumbers_L12 b a (G.length + 1 + q) (nI F0.length) σ = some (if (rdF f N G p).1.isSome then 1 else 0, σ') ∧ tX σ' b N (rdF f N G p).2 c ts ns' ∧ (∀ l, (rdF f N G p).1 = some l → (∀ j, j < G.length → ns' (F0.length + j) = nI (l.getD j 0)) ∧ ∀ j, j < F0.length → ns' j = ns j) ∧ Ch σ σ' b (b + 2)
  | [], F0, q, p, c, ns, σ, hk, hp, hm, h => by
    obtain ⟨hk1, hk2⟩ := hk
    rw [List.append_nil] at hk1 hm
    obtain ⟨g, hg, hg2⟩ := hm
    refine ⟨σ, ns, ?_, h, fun l _ => ⟨fun j hj => absurd hj (Nat.not_lt_zero _), fun j _ => rfl⟩, Ch.rf⟩
    rw [show ([] : FT).length + 1 + q = q + 1 by show 0 + 1 + q = q + 1; omega, FX5_readNumbers_L12]
    have l6' : ((6 : Int32) ≤ nI F0.length) = (6 ≤ F0.length) := le_nI (a := 6) (by omega) (by omega)
    simp only [l6']
    by_cases c6 : 6 ≤ F0.length
    · rw [if_pos c6]; rfl
    · rw [if_neg c6, aL_e hg (by omega), b1_s, show (3 : Int32) = nI 3 from rfl, show (2 : Int32) = nI 2 from rfl, pk_mul, nI_add]
      rw [if_pos ((nI_leI (by omega) (by omega)).mpr (by omega))]; rfl
  | x :: G, F0, q, p, c, ns, σ, hk, hp, hm, h => by
    obtain ⟨hk1, hk2⟩ := id hk
    obtain ⟨g, hg, hg2⟩ := id hm
    have r := X_r h
    have hlen : (F0 ++ x :: G).length = F0.length + (G.length + 1) := by rw [List.length_append, List.length_cons]
    have hx := hk2 x (List.mem_append_right _ (List.mem_cons_self ..))
    have hgx := hg2 F0.length x (by rw [List.getElem?_append_right (Nat.le_refl _), Nat.sub_self]; rfl)
    have a0 : aI σ a (nI (3 * F0.length)) = some (nI x.1) := by rw [aI_e4 hg (by omega) (by omega), hgx.1]
    have a1 : aI σ a (nI (3 * F0.length + 1)) = some (nI x.2.1) := by rw [aI_e4 hg (by omega) (by omega), hgx.2.1]
    have a1' : aI σ a (nI (3 * F0.length) + 1) = some (nI x.2.1) := by rw [nI_1]; exact a1
    have a2 : aI σ a (nI (3 * F0.length + 2)) = some (nI x.2.2) := by rw [aI_e4 hg (by omega) (by omega), hgx.2.2]
    obtain ⟨σ1, e1, g1, o1⟩ := readNumber_e hN hf hf2 hx.2.2.1 hx.2.2.2 hx.2.1 hp h
    obtain ⟨σ2, e2, g2, o2⟩ := X_wn g1 (i := F0.length) (by omega) (enc (rdN f N x.2.1 x.2.2 x.1 p 0).1)
    have a3 : aI σ2 (b + 2) (nI F0.length) = some (enc (rdN f N x.2.1 x.2.2 x.1 p 0).1) := by rw [aI_e g2.2.2 (by omega) (by omega), upd_e]
    have pp := rdN_p (f := f) (N := N) (lo := x.2.1) (hi := x.2.2) x.1 p 0
    have ch12 : Ch σ σ2 b (b + 2) := Ch.tr (o1.ch (Nat.le_refl _) (by omega)) (o2.ch (by omega) (Nat.le_refl _))
    rw [show (x :: G).length + 1 + q = (G.length + 1 + q) + 1 by rw [List.length_cons]; omega, FX5_readNumbers_L12]
    have l6' : ((6 : Int32) ≤ nI F0.length) = (6 ≤ F0.length) := le_nI (a := 6) (by omega) (by omega)
    simp only [l6']
    rw [if_neg (show ¬ 6 ≤ F0.length by omega), aL_e hg (by omega), b1_s, show (3 : Int32) = nI 3 from rfl, show (2 : Int32) = nI 2 from rfl, pk_mul, nI_add]
    rw [if_neg (fun hh => absurd ((nI_leI (by omega) (by omega)).mp hh) (by omega)), r.2.2.2.2.2, b1_s, a0, b1_s, a1', b1_s, a2, b1_s, e1, b2_s, e2, b1_s, (X_r g2).2.2.2.2.2, b1_s, a3, b1_s]
    rcases opt_or (rdN f N x.2.1 x.2.2 x.1 p 0).1 with ev | ⟨v, ev⟩
    · rw [rdF_n ev]
      rw [ev] at g2 ⊢
      rw [if_pos (show enc none = (-1 : Int32) from rfl)]
      exact ⟨σ2, _, rfl, g2, fun l hl => (by cases hl), ch12⟩
    · have hv := rdN_r _ _ _ v hx.1 ev
      rw [rdF_s ev]
      rw [ev] at g2 ⊢
      rw [if_neg (enc_v (by omega))]
      have hm2 : fmA σ2 a (F0 ++ x :: G) := fmA_s hm (ch12 a hab)
      have hap : F0 ++ x :: G = (F0 ++ [x]) ++ G := by rw [List.append_assoc]; rfl
      have hl1 : (F0 ++ [x]).length = F0.length + 1 := by rw [List.length_append]; rfl
      rw [hap] at hm2 hk
      have p2 : (rdN f N x.2.1 x.2.2 x.1 p 0).2 ≤ 120 := by
        by_cases cp : p ≤ N
        · have := pp.2 cp; omega
        · have hp' : p < N ∨ ¬ p < N := Nat.lt_or_ge p N |>.imp id Nat.not_lt.mpr
          rcases hp' with hp' | hp'
          · omega
          · cases hxd : x.1 with
            | zero => show p ≤ 120; exact hp
            | succ d => rw [rdN, if_neg (fun hh => hp' hh.1)]; exact hp
      obtain ⟨σ3, ns3, e3, g3, r3, o3⟩ := rsL hN hf hf2 hab G (F0 ++ [x]) q _ c _ σ2 hk p2 hm2 g2
      rw [hl1] at e3 r3
      refine ⟨σ3, ns3, ?_, g3, fun l hl => ?_, ch12.tr o3⟩
      · rw [nI_1, e3]
        cases (rdF f N G (rdN f N x.2.1 x.2.2 x.1 p 0).2).1 <;> rfl
      · have hl' : (rdF f N G (rdN f N x.2.1 x.2.2 x.1 p 0).2).1.map (fun l => v :: l) = some l := hl
        cases hl2 : (rdF f N G (rdN f N x.2.1 x.2.2 x.1 p 0).2).1 with
        | none => rw [hl2] at hl'; cases hl'
        | some l2 =>
          rw [hl2] at hl'
          have h'' : some (v :: l2) = some l := hl'
          cases h''
          obtain ⟨s1, s2⟩ := r3 l2 hl2
          refine ⟨fun j hj => ?_, fun j hj => ?_⟩
          · cases j with
            | zero => rw [Nat.add_zero, s2 _ (by omega), upd_e]; rfl
            | succ j => rw [show F0.length + (j + 1) = F0.length + 1 + j by omega, s1 j (by rw [List.length_cons] at hj; omega)]; rfl
          · rw [s2 j (by omega), upd_n (by omega)]
theorem readNumbers_e {a p : Nat} {F : FT} {c : Int32} {ns : Nat → Int32} (hN : N ≤ 120) (hf : txR N f ts) (hf2 : ∀ i, i < N → f i ≤ 255) (hab : a < b ∨ b + 2 < a) (hk : okF F) (hp : p < 120) (hm : fmA σ a F) (h : tX σ b N p c ts ns) : ∃ σ' ns', FX5_readNumbers b a σ = some (if (rdF f N F (p + 1)).1.isSome then 1 else 0, σ') ∧ tX σ' b N (rdF f N F (p + 1)).2 c ts ns' ∧ (∀ l, (rdF f N F (p + 1)).1 = some l → ∀ j, j < F.length → ns' j = nI (l.getD j 0)) ∧ Ch σ σ' b (b + 2) := by
  have r := X_r h
  obtain ⟨σ1, e1, g1, o1⟩ := X_wp h (p + 1)
  have hk1 := hk.1
  obtain ⟨q3, hq⟩ := qf (n := F.length) (by omega)
  obtain ⟨σ2, ns2, e2, g2, r2, o2⟩ := rsL (b := b) hN hf hf2 hab F [] q3 (p + 1) c ns σ1 hk (by omega) (fmA_s hm (o1 a (by omega))) g1
  rw [← hq] at e2
  refine ⟨σ2, ns2, ?_, g2, fun l hl j hj => by have := (r2 l hl).1 j hj; rw [← this]; congr 1; show j = 0 + j; omega, Ch.tr (o1.ch (Nat.le_refl _) (by omega)) o2⟩
  unfold FX5_readNumbers
  rw [r.1, b1_s, r.2.2.2.1, b1_s, nI_1, e1, b1_s]
  exact e2
def frm (c : Nat) : Option FT := if c = 100 then some fD else if c = 111 then some fO else if c = 113 then some fQ else if c = 115 then some fS else if c = 116 then some fU else if c = 118 then some fV else if c = 119 then some fW else none
def cmd (f : Nat → Nat) (N p : Nat) : Option (List Nat) × Nat := if p < N then (match frm (f p) with
  | none => (none, p)
  | some F => rdF f N F (p + 1)) else (none, p)
theorem cmd_p {p : Nat} {l : List Nat} (h : (cmd f N p).1 = some l) : p < N ∧ p + 1 ≤ (cmd f N p).2 ∧ (cmd f N p).2 ≤ N ∧ ∃ F, frm (f p) = some F ∧ cmd f N p = rdF f N F (p + 1) := by
  unfold cmd at h ⊢
  by_cases c : p < N
  · rw [if_pos c] at h ⊢
    cases hF : frm (f p) with
    | none => rw [hF] at h; cases h
    | some F =>
      have := rdF_p (f := f) (N := N) F (p + 1)
      exact ⟨c, this.1, this.2 (by omega), F, rfl, rfl⟩
  · rw [if_neg c] at h; cases h
theorem cmd_q {p : Nat} (hp : p ≤ N) : (cmd f N p).2 ≤ N := by
  unfold cmd
  by_cases c : p < N
  · rw [if_pos c]
    cases hF : frm (f p) with
    | none => exact hp
    | some F => exact (rdF_p (f := f) (N := N) F (p + 1)).2 (by omega)
  · rw [if_neg c]; exact hp
theorem gd01 {p : Prop} [Decidable p] {σ : qH} : (if (if p then (1 : Int32) else 0) = 0 ∨ (if p then (1 : Int32) else 0) = 1 then some (if p then (1 : Int32) else 0, σ) else none) = some (if p then (1 : Int32) else 0, σ) := by
  by_cases c : p
  · rw [if_pos c, if_pos (Or.inr rfl)]
  · rw [if_neg c, if_pos (Or.inl rfl)]
theorem readCommand_e {tst : Nat → Nat} {p : Nat} {c : Int32} {ns : Nat → Int32} (hN : N ≤ 120) (hf : txR N f ts) (hf2 : ∀ i, i < N → f i ≤ 255) (hab : ∀ i, i < 7 → tst i < b ∨ b + 2 < tst i) (hs : stA σ tst) (hp : p ≤ 120) (h : tX σ b N p c ts ns) : ∃ σ' ns', FX5_readCommand tst b σ = some (if (cmd f N p).1.isSome then 1 else 0, σ') ∧ tX σ' b N (cmd f N p).2 (sgn f N p) ts ns' ∧ (∀ l F, (cmd f N p).1 = some l → frm (f p) = some F → ∀ j, j < F.length → ns' j = nI (l.getD j 0)) ∧ Ch σ σ' b (b + 2) := by
  have r := X_r h
  obtain ⟨σ1, e1, g1, o1⟩ := X_wc h (sgn f N p)
  have hs1 : stA σ1 tst := stA_s hs (fun i hi => o1 _ (by have := hab i hi; omega))
  have ch1 : Ch σ σ1 b (b + 2) := o1.ch (Nat.le_refl _) (by omega)
  have dn : ∀ (F : FT) (a : Nat), p < N → frm (f p) = some F → okF F → (a < b ∨ b + 2 < a) → fmA σ1 a F → ∃ σ' ns', (b2 (FX5_readNumbers b a σ1) fun v8 s9 => if v8 = 0 ∨ v8 = 1 then some (v8, s9) else none) = some (if (cmd f N p).1.isSome then 1 else 0, σ') ∧ tX σ' b N (cmd f N p).2 (sgn f N p) ts ns' ∧ (∀ l F, (cmd f N p).1 = some l → frm (f p) = some F → ∀ j, j < F.length → ns' j = nI (l.getD j 0)) ∧ Ch σ σ' b (b + 2) := fun F a c1 hF hk ha hm => by
    obtain ⟨σ2, ns2, e2, g2, r2, o2⟩ := readNumbers_e hN hf hf2 ha hk (by omega) hm g1
    have ec : cmd f N p = rdF f N F (p + 1) := by unfold cmd; rw [if_pos c1, hF]
    rw [ec]
    refine ⟨σ2, ns2, by rw [e2, b2_s, gd01], g2, fun l F' hl hF' => ?_, ch1.tr o2⟩
    rw [hF] at hF'
    cases hF'
    exact r2 l hl
  unfold FX5_readCommand
  rw [r.1, b1_s, sign_e h hf hN (by omega), b1_s, e1, b1_s, (X_r g1).2.2.2.2.1, b1_s]
  by_cases c1 : p < N
  · have f2 := hf2 p c1
    have hsg : sgn f N p = nI (f p) := if_pos c1
    have hq : ∀ n : Nat, n < 256 → (sgn f N p = nI n) = (f p = n) := fun n hn => by rw [hsg]; exact eq_nI (by omega) (by omega)
    have q1 : (sgn f N p = (100 : Int32)) = (f p = 100) := hq 100 (by omega)
    have q2 : (sgn f N p = (111 : Int32)) = (f p = 111) := hq 111 (by omega)
    have q3 : (sgn f N p = (113 : Int32)) = (f p = 113) := hq 113 (by omega)
    have q4 : (sgn f N p = (115 : Int32)) = (f p = 115) := hq 115 (by omega)
    have q5 : (sgn f N p = (116 : Int32)) = (f p = 116) := hq 116 (by omega)
    have q6 : (sgn f N p = (118 : Int32)) = (f p = 118) := hq 118 (by omega)
    have q7 : (sgn f N p = (119 : Int32)) = (f p = 119) := hq 119 (by omega)
    obtain ⟨m0, m1, m2, m3, m4, m5, m6⟩ := hs1
    by_cases k1 : f p = 100
    · rw [if_pos (q1 ▸ k1)]; exact dn fD _ c1 (by unfold frm; rw [if_pos k1]) okFD (hab 3 (by omega)) m3
    rw [if_neg (fun z => k1 (q1 ▸ z))]
    by_cases k2 : f p = 111
    · rw [if_pos (q2 ▸ k2)]; exact dn fO _ c1 (by unfold frm; rw [if_neg k1, if_pos k2]) okFO (hab 1 (by omega)) m1
    rw [if_neg (fun z => k2 (q2 ▸ z))]
    by_cases k3 : f p = 113
    · rw [if_pos (q3 ▸ k3)]; exact dn fQ _ c1 (by unfold frm; rw [if_neg k1, if_neg k2, if_pos k3]) okFQ (hab 5 (by omega)) m5
    rw [if_neg (fun z => k3 (q3 ▸ z))]
    by_cases k4 : f p = 115
    · rw [if_pos (q4 ▸ k4)]; exact dn fS _ c1 (by unfold frm; rw [if_neg k1, if_neg k2, if_neg k3, if_pos k4]) okFS (hab 0 (by omega)) m0
    rw [if_neg (fun z => k4 (q4 ▸ z))]
    by_cases k5 : f p = 116
    · rw [if_pos (q5 ▸ k5)]; exact dn fU _ c1 (by unfold frm; rw [if_neg k1, if_neg k2, if_neg k3, if_neg k4, if_pos k5]) okFU (hab 4 (by omega)) m4
    rw [if_neg (fun z => k5 (q5 ▸ z))]
    by_cases k6 : f p = 118
    · rw [if_pos (q6 ▸ k6)]; exact dn fV _ c1 (by unfold frm; rw [if_neg k1, if_neg k2, if_neg k3, if_neg k4, if_neg k5, if_pos k6]) okFV (hab 6 (by omega)) m6
    rw [if_neg (fun z => k6 (q6 ▸ z))]
    by_cases k7 : f p = 119
    · rw [if_pos (q7 ▸ k7)]; exact dn fW _ c1 (by unfold frm; rw [if_neg k1, if_neg k2, if_neg k3, if_neg k4, if_neg k5, if_neg k6, if_pos k7]) okFW (hab 2 (by omega)) m2
    rw [if_neg (fun z => k7 (q7 ▸ z))]
    have hF : frm (f p) = none := by unfold frm; rw [if_neg k1, if_neg k2, if_neg k3, if_neg k4, if_neg k5, if_neg k6, if_neg k7]
    have ec : cmd f N p = (none, p) := by unfold cmd; rw [if_pos c1, hF]
    rw [ec]
    exact ⟨σ1, ns, rfl, g1, (fun l F hl => by cases hl), ch1⟩
  · have hsg : sgn f N p = -1 := if_neg c1
    have ec : cmd f N p = (none, p) := by unfold cmd; rw [if_neg c1]
    rw [hsg] at g1
    rw [hsg, if_neg (by decide), if_neg (by decide), if_neg (by decide), if_neg (by decide), if_neg (by decide), if_neg (by decide), if_neg (by decide), ec]
    exact ⟨σ1, ns, rfl, g1, (fun l F hl => by cases hl), ch1⟩
end CM
