/-! Layer 2: the class's load, errorPosition, append, clearText. -/
def exF (f : Nat → Nat) (N : Nat) : Nat → Nat → AS → Nat → AS × Nat
  | 0, _, A, o => (A, o)
  | k + 1, p, A, o => match (cmd f N p).1 with
    | none => (A, o)
    | some l => exF f N k (cmd f N p).2 (doC (f p) l A).1 (o + (doC (f p) l A).2)
theorem exF_n {f : Nat → Nat} {N k p o : Nat} {A : AS} (e : (cmd f N p).1 = none) : exF f N k p A o = (A, o) := by
  cases k with
  | zero => rfl
  | succ k => rw [exF, e]
theorem exF_s {f : Nat → Nat} {N k p o : Nat} {A : AS} {l : List Nat} (e : (cmd f N p).1 = some l) : exF f N (k + 1) p A o = exF f N k (cmd f N p).2 (doC (f p) l A).1 (o + (doC (f p) l A).2) := by rw [exF, e]
theorem cmd_e {f : Nat → Nat} {N p : Nat} (h : N ≤ p) : cmd f N p = (none, p) := by unfold cmd; rw [if_neg (by omega)]
theorem isS_f : ((if (none : Option (List Nat)).isSome = true then (1 : Int32) else 0) = 0) := rfl
theorem isS_t {l : List Nat} : ¬ (if (some l : Option (List Nat)).isSome = true then (1 : Int32) else 0) = 0 := by
  rw [if_pos (show (some l : Option (List Nat)).isSome = true from rfl)]; decide
section LD
variable {n N : Nat} {f : Nat → Nat} {ts : Nat → Int32} {tst : Nat → Nat}
theorem exL (hN : N ≤ 120) (hf : txR N f ts) (hf2 : ∀ i, i < N → f i ≤ 255) (htn : ∀ i, i < 7 → tst i < n) : ∀ (k i q p o : Nat) (c : Int32) (ns : Nat → Int32) (σ : qH) (A : AS), N < p + k → i + k ≤ 120 → p ≤ 120 → stA σ tst → σ n = some (oC n) → isP σ (n + 1) A → okA A → tX σ (n + 117) N p c ts ns → ∃ σ' p' c' ns', FX6_load_L71 tst n (k + 1 + q) (nI o) (nI i) σ = some (nI (exF f N k p A o).2, σ') ∧ isP σ' (n + 1) (exF f N k p A o).1 ∧ okA (exF f N k p A o).1 ∧ tX σ' (n + 117) N p' c' ts ns' ∧ (∀ a, (a < n + 1 ∨ (n + 7 < a ∧ a < n + 117) ∨ n + 119 < a) → σ' a = σ a)
  | 0, i, q, p, o, c, ns, σ, A, hk, hi, hp, hs, h0, hA0, okA0, h => by
    have g5 : gR σ n 4 5 = some (n + 117) := gR_e h0 rfl
    have l120 : ((120 : Int32) ≤ nI i) = (120 ≤ i) := le_nI (a := 120) (by omega) (by omega)
    rw [show 0 + 1 + q = q + 1 by omega, FX6_load_L71]
    simp only [l120]
    by_cases c1 : 120 ≤ i
    · rw [if_pos c1]; exact ⟨σ, p, c, ns, rfl, hA0, okA0, h, fun _ _ => rfl⟩
    · obtain ⟨σ1, ns1, e1, g1, r1, o1⟩ := readCommand_e hN hf hf2 (fun j hj => by have := htn j hj; omega) hs hp h
      rw [cmd_e (by omega)] at e1 g1
      rw [if_neg c1, g5, b1_s, e1, b2_s, if_pos isS_f]
      exact ⟨σ1, _, _, _, rfl, isP_s hA0 (fun a ha hb => o1 a (by omega)), okA0, g1, fun a ha => o1 a (by omega)⟩
  | k + 1, i, q, p, o, c, ns, σ, A, hk, hi, hp, hs, h0, hA0, okA0, h => by
    have g5 : gR σ n 4 5 = some (n + 117) := gR_e h0 rfl
    have l120 : ((120 : Int32) ≤ nI i) = (120 ≤ i) := le_nI (a := 120) (by omega) (by omega)
    obtain ⟨σ1, ns1, e1, g1, r1, o1⟩ := readCommand_e hN hf hf2 (fun j hj => by have := htn j hj; omega) hs hp h
    have p1 := isP_s hA0 (σ' := σ1) (fun a ha hb => o1 a (by omega))
    rw [show k + 1 + 1 + q = (k + 1 + q) + 1 by omega, FX6_load_L71]
    simp only [l120, if_neg (show ¬ 120 ≤ i by omega)]
    rw [g5, b1_s, e1, b2_s]
    rcases opt_or (cmd f N p).1 with ev | ⟨l, ev⟩
    · rw [ev, exF_n ev, if_pos isS_f]
      exact ⟨σ1, _, _, _, rfl, p1, okA0, g1, fun a ha => o1 a (by omega)⟩
    · obtain ⟨c1, c2, c3, F, hF, -⟩ := cmd_p ev
      have hsg : sgn f N p = nI (f p) := if_pos c1
      rw [hsg] at g1
      have h01 : σ1 n = some (oC n) := by rw [o1 _ (by omega)]; exact h0
      obtain ⟨σ2, e2, p2, ok2, o2⟩ := doCom_e h01 p1 okA0 g1 hF (cmd_r ev hF) (r1 l F ev hF)
      have g2 := tX_s g1 (σ' := σ2) (fun a ha hb => o2 a (by omega))
      have hs2 : stA σ2 tst := stA_s hs (fun j hj => by have := htn j hj; rw [o2 _ (by omega), o1 _ (by omega)])
      have h02 : σ2 n = some (oC n) := by rw [o2 _ (by omega)]; exact h01
      obtain ⟨σ3, p3, c3', ns3, e3, q3, ok3, g3, o3⟩ := exL hN hf hf2 htn k (i + 1) q (cmd f N p).2 (o + (doC (f p) l A).2) _ _ σ2 (doC (f p) l A).1 (by omega) (by omega) (by omega) hs2 h02 p2 ok2 g2
      have hx : (if (if (doC (f p) l A).2 = 0 then (1 : Int32) else 0) = 0 then some (nI o + 1) else some (nI o)) = some (nI (o + (doC (f p) l A).2)) := by
        rcases doC_2 (A := A) (l := l) hF with z | z
        · rw [z, if_pos rfl, if_neg (by decide), Nat.add_zero]
        · rw [z, if_pos (show (if (1 : Nat) = 0 then (1 : Int32) else 0) = 0 from rfl), nI_1]
      rw [ev, if_neg isS_t, e2, b2_s, hx, b1_s, nI_1, exF_s ev]
      exact ⟨σ3, p3, c3', ns3, e3, q3, ok3, g3, fun a ha => by rw [o3 a ha, o2 a (by omega), o1 a (by omega)]⟩
theorem erF_b : ∀ (k p z : Nat), p ≤ N → erF f N k p = some z → z ≤ N
  | 0, p, z, _, h => by cases h
  | k + 1, p, z, hp, h => by
    have hq := cmd_q (f := f) (N := N) (p := p) hp
    by_cases c1 : N ≤ p
    · rw [erF_e c1] at h; cases h
    · rcases opt_or (cmd f N p).1 with ev | ⟨l, ev⟩
      · rw [erF_n c1 ev] at h; cases h; exact hq
      · rw [erF_s c1 ev] at h; exact erF_b k _ z hq h
theorem erP_b {z : Nat} (h : erP f N = some z) : z ≤ N := by
  unfold erP at h
  by_cases c : 0 < N ∧ f 0 = 80
  · rw [if_pos c] at h; exact erF_b 120 1 z (by omega) h
  · rw [if_neg c] at h; cases h; exact Nat.zero_le _
theorem erP_t (h : erP f N = none) : 0 < N ∧ f 0 = 80 := by
  unfold erP at h
  by_cases c : 0 < N ∧ f 0 = 80
  · exact c
  · rw [if_neg c] at h; cases h
end LD
section LE
variable {σ : qH} {n N : Nat} {A : AS} {L : List AS} {K : Nat → Option AS} {f : Nat → Nat} {tst : Nat → Nat}
theorem C_clr (h : isC σ n A L K N f) : ∃ σ', FX6_load_L37 tst n qfuel 0 σ = some σ' ∧ isC σ' n A L (fun _ => none) N f ∧ OfZ σ σ' (n + 16) := by
  obtain ⟨f', g, h1, h2, h3, h4, h5, h6⟩ := h.2.2.2.1
  have e1 : sZ σ (n + 16) 0 0 = some (qU σ (n + 16) (zA 2 (upd g 0 0))) := sZ_e (i := 0) (x := 0) h3 (by omega) (by omega)
  have o1 : OfZ σ (qU σ (n + 16) (zA 2 (upd g 0 0))) (n + 16) := fun _ hb => qU_n hb
  have g1 : qU σ (n + 16) (zA 2 (upd g 0 0)) (n + 16) = some (zA 2 (upd g 0 0)) := qU_s
  generalize qU σ (n + 16) (zA 2 (upd g 0 0)) = σ1 at e1 o1 g1
  have e2 : sZ σ1 (n + 16) 1 0 = some (qU σ1 (n + 16) (zA 2 (upd (upd g 0 0) 1 0))) := sZ_e (i := 1) (x := 0) g1 (by omega) (by omega)
  have o2 : OfZ σ1 (qU σ1 (n + 16) (zA 2 (upd (upd g 0 0) 1 0))) (n + 16) := fun _ hb => qU_n hb
  have g2 : qU σ1 (n + 16) (zA 2 (upd (upd g 0 0) 1 0)) (n + 16) = some (zA 2 (upd (upd g 0 0) 1 0)) := qU_s
  generalize qU σ1 (n + 16) (zA 2 (upd (upd g 0 0) 1 0)) = σ2 at e2 o2 g2
  have o12 := o1.tr o2
  have r0 : gR σ n 4 3 = some (n + 16) := C_3 h
  have r1 : gR σ1 n 4 3 = some (n + 16) := by unfold gR; rw [o1 _ (by omega)]; exact r0
  have r2 : gR σ2 n 4 3 = some (n + 16) := by unfold gR; rw [o12 _ (by omega)]; exact r0
  have l0' : aL σ (n + 16) = some (nI 2) := aL_e h3 (by omega)
  have l1' : aL σ1 (n + 16) = some (nI 2) := aL_e g1 (by omega)
  have l2' : aL σ2 (n + 16) = some (nI 2) := aL_e g2 (by omega)
  obtain ⟨q3, hq⟩ := qf (n := 2) (by omega)
  refine ⟨σ2, ?_, C_sav h ⟨f', upd (upd g 0 0) 1 0, by rw [o12 _ (by omega)]; exact h1, h2, g2, fun i hi => ?_, fun i hi => cRaw_s (h5 i hi) (fun a ha hb => o12 a (by omega)), fun i B hi hB => by cases hB⟩ (fun a ha => o12 a (by omega)), o12⟩
  · rw [hq, show 2 + 1 + q3 = (q3 + 1 + 1) + 1 by omega, FX6_load_L37, r0, b1_s, l0', b1_s, if_neg (show ¬ nI 2 ≤ (0 : Int32) by decide), b1_s, e1, b1_s]
    rw [FX6_load_L37, r1, b1_s, l1', b1_s, if_neg (show ¬ nI 2 ≤ (0 : Int32) + 1 by decide), b1_s, show (0 : Int32) + 1 = 1 from rfl, e2, b1_s]
    rw [FX6_load_L37, r2, b1_s, l2', b1_s, if_pos (show nI 2 ≤ (1 : Int32) + 1 by decide)]
  · rcases (show i = 0 ∨ i = 1 by omega) with rfl | rfl
    · rw [upd_n (by omega), upd_e]; rfl
    · rw [upd_e]; rfl
theorem C_err (h : isC σ n A L K N f) (hS : okS A L K N f) (hs : stA σ tst) (htn : ∀ i, i < 7 → tst i < n) : ∃ σ', FX5_findError tst (n + 117) σ = some (enc (erP f N), σ') ∧ isC σ' n A L K N f ∧ Ch σ σ' n (n + 135) := by
  obtain ⟨p, c, ts, ns, ht, hf⟩ := h.2.2.2.2.2.1
  obtain ⟨σ1, p1, c1, ns1, e1, g1, o1⟩ := findError_e hS.2.2.2.1 hf hS.2.2.2.2 (fun j hj => by have := htn j hj; omega) hs ht
  exact ⟨σ1, e1, C_txt h ⟨p1, c1, ts, ns1, g1, hf⟩ (o1.wk (by omega) (by omega)), o1.wk (by omega) (by omega)⟩
theorem C_load (h : isC σ n A L K N f) (hS : okS A L K N f) (hs : stA σ tst) (htn : ∀ i, i < 7 → tst i < n) (he : erP f N = none) : ∃ σ', FX6_load tst n σ = some (.inl (nI (exF f N 120 1 newA 0).2, σ')) ∧ isC σ' n (exF f N 120 1 newA 0).1 [] (fun _ => none) N f ∧ okA (exF f N 120 1 newA 0).1 ∧ Ch σ σ' n (n + 135) := by
  obtain ⟨σ1, e1, h1, o1⟩ := C_err h hS hs htn
  obtain ⟨m, t, r, w, v, s, cc, hraw⟩ := isP_cr h1.2.1
  obtain ⟨σ2, e2, p2, o2⟩ := makeNew_e hraw
  have h2 := C_now h1 p2 o2
  obtain ⟨σ3, e3, h3, o3⟩ := C_forget h2
  obtain ⟨σ4, e4, h4, o4⟩ := C_clr (tst := tst) h3
  have o1234 : Ch σ σ4 n (n + 135) := ((o1.tr (o2.ch (by omega) (by omega))).tr o3).tr (o4.ch (by omega) (by omega))
  obtain ⟨p, c, ts, ns, ht, hf⟩ := h4.2.2.2.2.2.1
  obtain ⟨σ5, e5, g5, o5⟩ := readHead_e hS.2.2.2.1 hf hS.2.2.2.2 ht
  have hh := erP_t he
  rw [if_pos hh] at e5 g5
  have o15 : Ch σ σ5 n (n + 135) := o1234.tr (o5.ch (by omega) (by omega))
  have hs5 : stA σ5 tst := stA_s hs (fun j hj => o15 _ (by have := htn j hj; omega))
  have h5 := C_txt h4 ⟨_, _, _, _, g5, hf⟩ (o5.ch (by omega) (by omega))
  obtain ⟨q3, hq⟩ := qf (n := 120) (by omega)
  have hN := hS.2.2.2.1
  obtain ⟨σ6, p6, c6, ns6, e6, a6, ok6, g6, o6⟩ := exL hS.2.2.2.1 hf hS.2.2.2.2 htn 120 0 q3 1 0 c ns σ5 newA (by omega) (by omega) (by omega) hs5 h5.1 h5.2.1 newA_ok g5
  rw [← hq] at e6
  have e6' : FX6_load_L71 tst n qfuel 0 0 σ5 = _ := e6
  obtain ⟨z0, z1, z2, z3, z4, z5, z6⟩ := h5
  refine ⟨σ6, ?_, ⟨by rw [o6 _ (by omega)]; exact z0, a6, cRaw_s z2 (fun a ha hb => o6 a (by omega)), cSav_s z3 (fun a ha => o6 a (by omega)), cHis_s z4 (fun a ha hb => o6 a (by omega)), ⟨p6, c6, ts, ns6, g6, hf⟩, cBal_s z6 (fun a ha hb => o6 a (by omega))⟩, ok6, o15.tr (fun a ha => o6 a (by omega))⟩
  unfold FX6_load
  rw [C_c h, b1_s, C_5 h, b1_s, e1, b2_s, he, if_pos (show enc none = (-1 : Int32) from rfl), C_0 h1, b1_s, e2, b1_s, C_4 h2, b1_s, e3, b1_s, e4, b1_s, C_5 h4, b1_s, e5, b2_s, e6', b2_s]
theorem C_noload (h : isC σ n A L K N f) (hS : okS A L K N f) (hs : stA σ tst) (htn : ∀ i, i < 7 → tst i < n) {z : Nat} (he : erP f N = some z) : ∃ σ', FX6_load tst n σ = some (.inr (qSt, σ')) ∧ isC σ' n A L K N f ∧ Ch σ σ' n (n + 135) := by
  have hz := erP_b he
  have hN := hS.2.2.2.1
  obtain ⟨σ1, e1, h1, o1⟩ := C_err h hS hs htn
  refine ⟨σ1, ?_, h1, o1⟩
  unfold FX6_load
  rw [C_c h, b1_s, C_5 h, b1_s, e1, b2_s, he, if_neg (enc_v (by omega))]
theorem C_app (h : isC σ n A L K N f) (hN : N < 120) {c : Nat} : ∃ σ', FX5_add (n + 117) (nI c) σ = some (nI (N + 1), σ') ∧ isC σ' n A L K (N + 1) (fset f N c) ∧ Ch σ σ' n (n + 135) := by
  obtain ⟨p, c0, ts, ns, ht, hf⟩ := h.2.2.2.2.2.1
  have r := X_r ht
  have e1 : sI σ (n + 117 + 1) (nI N) (nI c) = some (qU σ (n + 117 + 1) (iA 120 (upd ts N (nI c)))) := sI_e ht.2.1 hN (by omega)
  have o1 : OfZ σ (qU σ (n + 117 + 1) (iA 120 (upd ts N (nI c)))) (n + 117 + 1) := fun _ hb => qU_n hb
  have g1 : qU σ (n + 117 + 1) (iA 120 (upd ts N (nI c))) (n + 117 + 1) = some (iA 120 (upd ts N (nI c))) := qU_s
  generalize qU σ (n + 117 + 1) (iA 120 (upd ts N (nI c))) = σ1 at e1 o1 g1
  have t1 : tX σ1 (n + 117) N p c0 (upd ts N (nI c)) ns := ⟨by rw [o1 _ (by omega)]; exact ht.1, g1, by rw [o1 _ (by omega)]; exact ht.2.2⟩
  obtain ⟨σ2, e2, t2, o2⟩ := X_wN t1 (N + 1)
  have o12 : Ch σ σ2 (n + 117) (n + 119) := Ch.tr (o1.ch (by omega) (by omega)) (o2.ch (by omega) (by omega))
  refine ⟨σ2, ?_, C_txt h ⟨p, c0, upd ts N (nI c), ns, t2, fun i hi => ?_⟩ o12, o12.wk (by omega) (by omega)⟩
  · unfold FX5_add
    rw [r.1, b1_s, r.2.1, b1_s, r.2.2.1, b1_s, e1, b1_s, (X_r t1).2.2.1, b1_s, nI_1, e2, b1_s, (X_r t2).2.2.1, b1_s]
  · by_cases ci : i = N
    · subst ci; rw [upd_e]; show _ = nI (if i = i then c else f i); rw [if_pos rfl]
    · rw [upd_n ci, hf i (by omega)]; show _ = nI (if i = N then c else f i); rw [if_neg ci]
theorem C_emp (h : isC σ n A L K N f) : ∃ σ', FX5_empty (n + 117) σ = some (nI N, σ') ∧ isC σ' n A L K 0 f ∧ Ch σ σ' n (n + 135) := by
  obtain ⟨p, c0, ts, ns, ht, hf⟩ := h.2.2.2.2.2.1
  have r := X_r ht
  obtain ⟨σ1, e1, t1, o1⟩ := X_wN ht 0
  have e1' : gP σ (n + 117) 3 1 (.int 0) = some σ1 := e1
  refine ⟨σ1, ?_, C_txt h ⟨p, c0, ts, ns, t1, fun i hi => absurd hi (Nat.not_lt_zero _)⟩ (o1.ch (by omega) (by omega)), o1.ch (by omega) (by omega)⟩
  unfold FX5_empty
  rw [r.1, b1_s, r.2.2.1, b1_s, e1', b1_s]
theorem C_full (h : isC σ n A L K N f) (hN : N ≤ 120) : FX5_isFull (n + 117) σ = some (bI (120 ≤ N)) := by
  obtain ⟨p, c0, ts, ns, ht, hf⟩ := h.2.2.2.2.2.1
  have r := X_r ht
  have l120 : (nI N < (120 : Int32)) = (N < 120) := lt_nI (b := 120) (by omega) (by omega)
  unfold FX5_isFull
  simp only [r.1, r.2.2.1, b1_s, l120]
  by_cases c : N < 120
  · rw [if_pos c, b1_s, if_pos (Or.inl rfl), bI_f (by omega)]
  · rw [if_neg c, b1_s, if_pos (Or.inr rfl), bI_t (by omega)]
end LE
