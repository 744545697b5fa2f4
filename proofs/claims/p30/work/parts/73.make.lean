/-! Layer 2: the constructors. -/
theorem mkA {α : Type} {σ : qH} {b c i a : Nat} {e : qE} {fs : List Value} (hb : σ b = some (.inr (c, fs))) (hi : i < fs.length) (hab : a ≠ b) : ∃ σ', (∀ g : qH → Option α, (b1 (some (qU σ a e)) fun s => b1 (gP s b c i (.ref a)) g) = g σ') ∧ σ' b = some (.inr (c, fs.set i (.ref a))) ∧ σ' a = some e ∧ (∀ x, x ≠ a → x ≠ b → σ' x = σ x) := by
  have hb1 : qU σ a e b = some (.inr (c, fs)) := by rw [qU_n (fun h => hab h.symm)]; exact hb
  refine ⟨qU (qU σ a e) b (.inr (c, fs.set i (.ref a))), fun g => ?_, qU_s, by rw [qU_n hab, qU_s], fun x h1 h2 => by rw [qU_n h2, qU_n h1]⟩
  rw [b1_s, gP_e hb1 hi, b1_s]
abbrev bl2 : qE := .inr (2, [.null, .null, .null, .null, .null, .null, .int 0, .int 0, .int 0, .int 0, .int 0])
theorem init2 {σ : qH} {q : Nat} (h : σ q = some bl2) : ∃ σ', FX2_init q σ (q + 1) = some σ' ∧ isP σ' q newA ∧ Off σ σ' q := by
  obtain ⟨σ1, e1, b1', a1, f1⟩ := mkA (α := qH) (i := 0) (a := q + 1) (e := iA 144 (fun _ => 0)) h (Nat.le_of_ble_eq_true rfl) (by omega)
  obtain ⟨σ2, e2, b2', a2, f2⟩ := mkA (α := qH) (i := 1) (a := q + 1 + 1) (e := iA 6 (fun _ => 0)) b1' (Nat.le_of_ble_eq_true rfl) (by omega)
  obtain ⟨σ3, e3, b3', a3, f3⟩ := mkA (α := qH) (i := 2) (a := q + 1 + 2) (e := iA 6 (fun _ => 0)) b2' (Nat.le_of_ble_eq_true rfl) (by omega)
  obtain ⟨σ4, e4, b4', a4, f4⟩ := mkA (α := qH) (i := 3) (a := q + 1 + 3) (e := iA 6 (fun _ => 0)) b3' (Nat.le_of_ble_eq_true rfl) (by omega)
  obtain ⟨σ5, e5, b5', a5, f5⟩ := mkA (α := qH) (i := 4) (a := q + 1 + 4) (e := iA 3 (fun _ => 0)) b4' (Nat.le_of_ble_eq_true rfl) (by omega)
  obtain ⟨σ6, e6, b6', a6, f6⟩ := mkA (α := qH) (i := 5) (a := q + 1 + 5) (e := iA 2 (fun _ => 0)) b5' (Nat.le_of_ble_eq_true rfl) (by omega)
  have hraw : rawP σ6 q (fun _ => 0) (fun _ => 0) (fun _ => 0) (fun _ => 0) (fun _ => 0) (fun _ => 0) (fun _ => 0) := by
    refine ⟨b6', ?_, ?_, ?_, ?_, ?_, a6⟩
    · rw [f6 _ (by omega) (by omega), f5 _ (by omega) (by omega), f4 _ (by omega) (by omega), f3 _ (by omega) (by omega), f2 _ (by omega) (by omega)]; exact a1
    · rw [f6 _ (by omega) (by omega), f5 _ (by omega) (by omega), f4 _ (by omega) (by omega), f3 _ (by omega) (by omega)]; exact a2
    · rw [f6 _ (by omega) (by omega), f5 _ (by omega) (by omega), f4 _ (by omega) (by omega)]; exact a3
    · rw [f6 _ (by omega) (by omega), f5 _ (by omega) (by omega)]; exact a4
    · rw [f6 _ (by omega) (by omega)]; exact a5
  obtain ⟨σ7, e7, p7, o7⟩ := makeNew_e hraw
  refine ⟨σ7, ?_, p7, fun a ha => by rw [o7 a ha, f6 _ (by omega) (by omega), f5 _ (by omega) (by omega), f4 _ (by omega) (by omega), f3 _ (by omega) (by omega), f2 _ (by omega) (by omega), f1 _ (by omega) (by omega)]⟩
  unfold FX2_init
  refine (e1 _).trans ((e2 _).trans ((e3 _).trans ((e4 _).trans ((e5 _).trans ((e6 _).trans ?_)))))
  rw [e7, b1_s]
/-- a new parish at q -/
theorem new2 {σ : qH} (q : Nat) : ∃ σ', FX2_init q (qU σ q bl2) (q + 1) = some σ' ∧ isP σ' q newA ∧ Off σ σ' q := by
  obtain ⟨σ', e, p, o⟩ := init2 (σ := qU σ q bl2) (q := q) qU_s
  exact ⟨σ', e, p, fun a ha => by rw [o a ha]; exact qU_n (by omega)⟩
theorem sQ_e {σ : qH} {a n i v : Nat} {f : Nat → Option Nat} {fs : List Value} (h : σ a = some (rA n f)) (hv : σ v = some (.inr (2, fs))) (hi : i < n) (hn : n < 2 ^ 31) : sQ σ a (nI i) v = some (qU σ a (rA n (va_up f i (some v)))) := by
  have h2 := qin_n hi hn
  unfold sQ
  rw [h, hv]
  show (if (2 = 2 ∧ 2 = 2) ∧ qin (nI i) n then some (qU σ a (.inl (2, (n, .inr (.inr (.inr (.inr (va_up f (nI i).toNatClampNeg (some v))))))))) else none) = _
  rw [if_pos ⟨⟨rfl, rfl⟩, h2⟩, nI_clamp (by omega)]
theorem up_e {f : Nat → Option Nat} {i : Nat} {v : Option Nat} : va_up f i v i = v := by simp [va_up]
theorem up_n {f : Nat → Option Nat} {i j : Nat} {v : Option Nat} (h : j ≠ i) : va_up f i v j = f j := by simp [va_up, h]
/-- one new parish put into a row at place k: c is the class of the owner, ff its field -/
theorem putP {α : Type} {s : qH} {b c ff r N k q : Nat} {f : Nat → Option Nat} {fs : List Value} (hb : s b = some (.inr (c, fs))) (hg : gR s b c ff = some r) (hr : s r = some (rA N f)) (hk : k < N) (hN : N < 2 ^ 31) (h1 : b < q) (h2 : r < q) : ∃ s', (∀ g : qH → Option α, (b1 (gR s b c ff) fun r5 => b1 (aL s r5) fun v7 => if v7 ≤ nI k then none else b1 (gR s b c ff) fun r9 => b1 (some (qU s q bl2)) fun s11 => b1 (FX2_init q s11 (q + 1)) fun s13 => b1 (sQ s13 r9 (nI k) q) g) = g s') ∧ s' r = some (rA N (va_up f k (some q))) ∧ isP s' q newA ∧ (∀ a, a ≠ r → (a < q ∨ q + 6 < a) → s' a = s a) := by
  obtain ⟨s1, e1, p1, o1⟩ := new2 (σ := s) q
  have hr1 : s1 r = some (rA N f) := by rw [o1 _ (by omega)]; exact hr
  obtain ⟨fs', hv⟩ := p_obj p1
  have e2 := sQ_e (i := k) hr1 hv hk hN
  have o2 : OfZ s1 (qU s1 r (rA N (va_up f k (some q)))) r := fun _ hb => qU_n hb
  have g2 : qU s1 r (rA N (va_up f k (some q))) r = some (rA N (va_up f k (some q))) := qU_s
  generalize qU s1 r (rA N (va_up f k (some q))) = s2 at e2 o2 g2
  refine ⟨s2, fun g => ?_, g2, isP_s p1 (fun a ha hb => o2 a (by omega)), fun a ha hb => by rw [o2 a ha, o1 a hb]⟩
  have hl : aL s r = some (nI N) := aL_e hr (by omega)
  rw [hg, b1_s, hl, b1_s, if_neg (fun hh => absurd ((nI_leI hN (by omega)).mp hh) (by omega)), b1_s, b1_s, e1, b1_s, e2, b1_s]
theorem hiSt {s : qH} {b k : Nat} {f : Nat → Option Nat} (hk : k < 14) (hO : s b = some (oH b 0 0)) (hr : s (b + 1) = some (rA 14 f)) (hf : ∀ j, j < k → f j = some (b + 2 + 7 * j)) (hP : ∀ j, j < k → isP s (b + 2 + 7 * j) newA) : ∃ s' f', (∀ g : qH → Option qH, (b1 (gR s b 1 0) fun r5 => b1 (aL s r5) fun v7 => if v7 ≤ nI k then none else b1 (gR s b 1 0) fun r9 => b1 (some (qU s (b + 2 + 7 * k) bl2)) fun s11 => b1 (FX2_init (b + 2 + 7 * k) s11 (b + 2 + 7 * k + 1)) fun s13 => b1 (sQ s13 r9 (nI k) (b + 2 + 7 * k)) g) = g s') ∧ s' b = some (oH b 0 0) ∧ s' (b + 1) = some (rA 14 f') ∧ (∀ j, j < k + 1 → f' j = some (b + 2 + 7 * j)) ∧ (∀ j, j < k + 1 → isP s' (b + 2 + 7 * j) newA) ∧ (∀ a, a ≠ b + 1 → (a < b + 2 + 7 * k ∨ b + 2 + 7 * k + 6 < a) → s' a = s a) := by
  obtain ⟨s', e, g1, p1, o1⟩ := putP (α := qH) (q := b + 2 + 7 * k) hO (H_r hO).2.1 hr hk (by omega) (by omega) (by omega)
  refine ⟨s', _, e, by rw [o1 _ (by omega) (by omega)]; exact hO, g1, fun j hj => ?_, fun j hj => ?_, o1⟩
  · by_cases c : j = k
    · rw [c, up_e]
    · rw [up_n c]; exact hf j (by omega)
  · by_cases c : j = k
    · rw [c]; exact p1
    · exact isP_s (hP j (by omega)) (fun a ha hb => o1 a (by omega) (by omega))
theorem init1 {σ : qH} {b : Nat} (h : σ b = some (.inr (1, [.null, .int 0, .int 0]))) : ∃ σ', FX1_init b σ (b + 1) = some σ' ∧ cHis σ' b [] ∧ Ch σ σ' b (b + 99) := by
  obtain ⟨s0, e0, b0, r0, f0⟩ := mkA (α := qH) (i := 0) (a := b + 1) (e := rA 14 (fun _ => none)) h (Nat.le_of_ble_eq_true rfl) (by omega)
  have O0 : s0 b = some (oH b 0 0) := b0
  have F0 : ∀ j, j < 0 → (fun _ => none : Nat → Option Nat) j = some (b + 2 + 7 * j) := fun j hj => absurd hj (Nat.not_lt_zero _)
  have P0 : ∀ j, j < 0 → isP s0 (b + 2 + 7 * j) newA := fun j hj => absurd hj (Nat.not_lt_zero _)
  obtain ⟨s1, f1, E0, O1, R1, F1, P1, W1⟩ := hiSt (k := 0) (by omega) O0 r0 F0 P0
  obtain ⟨s2, f2, E1, O2, R2, F2, P2, W2⟩ := hiSt (k := 1) (by omega) O1 R1 F1 P1
  obtain ⟨s3, f3, E2, O3, R3, F3, P3, W3⟩ := hiSt (k := 2) (by omega) O2 R2 F2 P2
  obtain ⟨s4, f4, E3, O4, R4, F4, P4, W4⟩ := hiSt (k := 3) (by omega) O3 R3 F3 P3
  obtain ⟨s5, f5, E4, O5, R5, F5, P5, W5⟩ := hiSt (k := 4) (by omega) O4 R4 F4 P4
  obtain ⟨s6, f6, E5, O6, R6, F6, P6, W6⟩ := hiSt (k := 5) (by omega) O5 R5 F5 P5
  obtain ⟨s7, f7, E6, O7, R7, F7, P7, W7⟩ := hiSt (k := 6) (by omega) O6 R6 F6 P6
  obtain ⟨s8, f8, E7, O8, R8, F8, P8, W8⟩ := hiSt (k := 7) (by omega) O7 R7 F7 P7
  obtain ⟨s9, f9, E8, O9, R9, F9, P9, W9⟩ := hiSt (k := 8) (by omega) O8 R8 F8 P8
  obtain ⟨s10, f10, E9, O10, R10, F10, P10, W10⟩ := hiSt (k := 9) (by omega) O9 R9 F9 P9
  obtain ⟨s11, f11, E10, O11, R11, F11, P11, W11⟩ := hiSt (k := 10) (by omega) O10 R10 F10 P10
  obtain ⟨s12, f12, E11, O12, R12, F12, P12, W12⟩ := hiSt (k := 11) (by omega) O11 R11 F11 P11
  obtain ⟨s13, f13, E12, O13, R13, F13, P13, W13⟩ := hiSt (k := 12) (by omega) O12 R12 F12 P12
  obtain ⟨s14, f14, E13, O14, R14, F14, P14, W14⟩ := hiSt (k := 13) (by omega) O13 R13 F13 P13
  refine ⟨s14, ?_, ⟨0, f14, by omega, Nat.zero_le _, O14, R14, F14, fun i hi => isP_cr (P14 i hi), fun j hj => absurd hj (Nat.not_lt_zero _)⟩, fun a ha => by rw [W14 a (by omega) (by omega), W13 a (by omega) (by omega), W12 a (by omega) (by omega), W11 a (by omega) (by omega), W10 a (by omega) (by omega), W9 a (by omega) (by omega), W8 a (by omega) (by omega), W7 a (by omega) (by omega), W6 a (by omega) (by omega), W5 a (by omega) (by omega), W4 a (by omega) (by omega), W3 a (by omega) (by omega), W2 a (by omega) (by omega), W1 a (by omega) (by omega), f0 a (by omega) (by omega)]⟩
  unfold FX1_init
  refine (e0 _).trans ?_
  refine (E0 _).trans ?_
  refine (E1 _).trans ?_
  refine (E2 _).trans ?_
  refine (E3 _).trans ?_
  refine (E4 _).trans ?_
  refine (E5 _).trans ?_
  refine (E6 _).trans ?_
  refine (E7 _).trans ?_
  refine (E8 _).trans ?_
  refine (E9 _).trans ?_
  refine (E10 _).trans ?_
  refine (E11 _).trans ?_
  refine (E12 _).trans ?_
  refine (E13 _).trans ?_
  have hl : aL s14 (b + 1) = some (nI 14) := aL_e R14 (by omega)
  rw [(H_r O14).2.1, b1_s, hl, b1_s, if_pos (show nI 14 ≤ (14 : Int32) by decide)]
