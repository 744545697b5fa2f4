/-! Layer 2: the objects that the law makes. -/
theorem init5 {σ : qH} {b : Nat} {f : Nat → Nat} (h : σ b = some (.inr (3, [.null, .int 0, .int 0, .int 0, .null]))) : ∃ σ', FX5_init b σ (b + 1) = some σ' ∧ cTxt σ' b 0 f ∧ Ch σ σ' b (b + 2) := by
  obtain ⟨s1, e1, b1', a1, f1⟩ := mkA (α := qH) (i := 0) (a := b + 1) (e := iA 120 (fun _ => 0)) h (Nat.le_of_ble_eq_true rfl) (by omega)
  obtain ⟨s2, e2, b2', a2, f2⟩ := mkA (α := qH) (i := 4) (a := b + 1 + 1) (e := iA 6 (fun _ => 0)) b1' (Nat.le_of_ble_eq_true rfl) (by omega)
  refine ⟨s2, ?_, ⟨0, 0, fun _ => 0, fun _ => 0, ⟨b2', by rw [f2 _ (by omega) (by omega)]; exact a1, a2⟩, fun i hi => absurd hi (Nat.not_lt_zero _)⟩, fun a ha => by rw [f2 _ (by omega) (by omega), f1 _ (by omega) (by omega)]⟩
  unfold FX5_init
  refine (e1 _).trans ((e2 _).trans rfl)
theorem init0 {σ : qH} {b : Nat} (h : σ b = some (.inr (0, [.null, .int 0, .int 0, .int 0]))) : ∃ σ', FX0_init b σ (b + 1) = some σ' ∧ cBal σ' b ∧ Ch σ σ' b (b + 1) := by
  obtain ⟨s1, e1, b1', a1, f1⟩ := mkA (α := qH) (i := 0) (a := b + 1) (e := iA 1001 (fun _ => 0)) h (Nat.le_of_ble_eq_true rfl) (by omega)
  refine ⟨s1, ?_, ⟨0, 0, 0, fun _ => 0, b1', a1⟩, fun a ha => f1 a (by omega) (by omega)⟩
  unfold FX0_init
  refine (e1 _).trans rfl
/-- a new cell that a part fills, and the owner's field set to it -/
theorem mkO {σ σ1 : qH} {b i a : Nat} {fs : List Value} (hb : σ b = some (.inr (4, fs))) (hi : i < fs.length) (ho : σ1 b = σ b) : ∃ σ', gP σ1 b 4 i (.ref a) = some σ' ∧ σ' b = some (.inr (4, fs.set i (.ref a))) ∧ OfZ σ1 σ' b :=
  ⟨_, gP_e (by rw [ho]; exact hb) hi, qU_s, fun _ hb => qU_n hb⟩
theorem init6 {σ : qH} {n : Nat} {f : Nat → Nat} (h : σ n = some (.inr (4, [.null, .null, .null, .null, .null, .null, .null]))) : ∃ σ', FX6_init n σ (n + 1) = some σ' ∧ isC σ' n newA [] (fun _ => none) 0 f ∧ Ch σ σ' n (n + 135) := by
  obtain ⟨s1, e1, p1, o1⟩ := new2 (σ := σ) (n + 1)
  obtain ⟨s2, e2, b2', o2⟩ := mkO (σ := σ) (σ1 := s1) (i := 0) (a := n + 1) h (Nat.le_of_ble_eq_true rfl) (o1 _ (by omega))
  obtain ⟨s3, e3, p3, o3⟩ := new2 (σ := s2) (n + 1 + 7)
  obtain ⟨s4, e4, b4', o4⟩ := mkO (σ := s2) (σ1 := s3) (i := 1) (a := n + 1 + 7) b2' (Nat.le_of_ble_eq_true rfl) (o3 _ (by omega))
  obtain ⟨s5, e5, b5', a5, f5⟩ := mkA (α := qH) (i := 2) (a := n + 1 + 14) (e := rA 2 (fun _ => none)) b4' (Nat.le_of_ble_eq_true rfl) (by omega)
  obtain ⟨s6, e6, b6', a6, f6⟩ := mkA (α := qH) (i := 3) (a := n + 1 + 15) (e := zA 2 (fun _ => 0)) b5' (Nat.le_of_ble_eq_true rfl) (by omega)
  obtain ⟨s7, e7, p7, o7⟩ := init1 (σ := qU s6 (n + 1 + 16) (.inr (1, [.null, .int 0, .int 0]))) (b := n + 1 + 16) qU_s
  have o7' : Ch s6 s7 (n + 1 + 16) (n + 1 + 16 + 99) := fun a ha => by rw [o7 a ha]; exact qU_n (by omega)
  obtain ⟨s8, e8, b8', o8⟩ := mkO (σ := s6) (σ1 := s7) (i := 4) (a := n + 1 + 16) b6' (Nat.le_of_ble_eq_true rfl) (o7' _ (by omega))
  obtain ⟨s9, e9, p9, o9⟩ := init5 (σ := qU s8 (n + 1 + 116) (.inr (3, [.null, .int 0, .int 0, .int 0, .null]))) (b := n + 1 + 116) (f := f) qU_s
  have o9' : Ch s8 s9 (n + 1 + 116) (n + 1 + 116 + 2) := fun a ha => by rw [o9 a ha]; exact qU_n (by omega)
  obtain ⟨s10, e10, b10', o10⟩ := mkO (σ := s8) (σ1 := s9) (i := 5) (a := n + 1 + 116) b8' (Nat.le_of_ble_eq_true rfl) (o9' _ (by omega))
  obtain ⟨s11, e11, p11, o11⟩ := init0 (σ := qU s10 (n + 1 + 119) (.inr (0, [.null, .int 0, .int 0, .int 0]))) (b := n + 1 + 119) qU_s
  have o11' : Ch s10 s11 (n + 1 + 119) (n + 1 + 119 + 1) := fun a ha => by rw [o11 a ha]; exact qU_n (by omega)
  obtain ⟨s12, e12, b12', o12⟩ := mkO (σ := s10) (σ1 := s11) (i := 6) (a := n + 1 + 119) b10' (Nat.le_of_ble_eq_true rfl) (o11' _ (by omega))
  have hO : s12 n = some (oC n) := b12'
  have k12 : ∀ a, n + 1 ≤ a → a ≤ n + 16 → s12 a = s6 a := fun a h1 h2 => by rw [o12 _ (by omega), o11' _ (by omega), o10 _ (by omega), o9' _ (by omega), o8 _ (by omega), o7' _ (by omega)]
  have r12 : s12 (n + 15) = some (rA 2 (fun _ => none)) := by rw [k12 _ (by omega) (by omega), f6 _ (by omega) (by omega)]; exact a5
  have g12 : gR s12 n 4 2 = some (n + 15) := gR_e hO rfl
  obtain ⟨s13, e13, r13, p13, o13⟩ := putP (α := qH) (k := 0) (q := n + 1 + 121) hO g12 r12 (by omega) (by omega) (by omega) (by omega)
  have hO13 : s13 n = some (oC n) := by rw [o13 _ (by omega) (by omega)]; exact hO
  have g13 : gR s13 n 4 2 = some (n + 15) := gR_e hO13 rfl
  obtain ⟨s14, e14, r14, p14, o14⟩ := putP (α := qH) (k := 1) (q := n + 1 + 128) hO13 g13 r13 (by omega) (by omega) (by omega) (by omega)
  have hO14 : s14 n = some (oC n) := by rw [o14 _ (by omega) (by omega)]; exact hO13
  have g14 : gR s14 n 4 2 = some (n + 15) := gR_e hO14 rfl
  have hl : aL s14 (n + 15) = some (nI 2) := aL_e r14 (by omega)
  have k14 : ∀ a, a ≠ n + 15 → a ≤ n + 121 → s14 a = s12 a := fun a h1 h2 => by rw [o14 _ h1 (by omega), o13 _ h1 (by omega)]
  have q13 : isP s14 (n + 122) newA := isP_s p13 (fun a ha hb => o14 a (by omega) (by omega))
  refine ⟨s14, ?_, ⟨hO14, ?_, ?_, ⟨_, fun _ => 0, r14, fun i hi => ?_, ?_, fun i hi => rfl, fun i hi => ?_, fun i B hi hB => (by cases hB)⟩, ?_, ?_, ?_⟩, fun a ha => ?_⟩
  · unfold FX6_init
    rw [b1_s, e1, b1_s, e2, b1_s, b1_s, e3, b1_s, e4, b1_s]
    refine (e5 _).trans ((e6 _).trans ?_)
    rw [b1_s, e7, b1_s, e8, b1_s, b1_s, e9, b1_s, e10, b1_s, b1_s, e11, b1_s, e12, b1_s]
    refine (e13 _).trans ((e14 _).trans ?_)
    rw [g14, b1_s, hl, b1_s, if_pos (show nI 2 ≤ (2 : Int32) by decide)]
  · exact isP_s p1 (fun a ha hb => by rw [k14 _ (by omega) (by omega), k12 _ (by omega) (by omega), f6 _ (by omega) (by omega), f5 _ (by omega) (by omega), o4 _ (by omega), o3 _ (by omega), o2 _ (by omega)])
  · exact isP_cr (isP_s (q := n + 8) p3 (fun a ha hb => by rw [k14 _ (by omega) (by omega), k12 _ (by omega) (by omega), f6 _ (by omega) (by omega), f5 _ (by omega) (by omega), o4 _ (by omega)]))
  · rcases (show i = 0 ∨ i = 1 by omega) with rfl | rfl
    · rw [up_n (by omega), up_e]
    · rw [up_e]
  · rw [k14 _ (by omega) (by omega), k12 _ (by omega) (by omega)]; exact a6
  · rcases (show i = 0 ∨ i = 1 by omega) with rfl | rfl
    · exact isP_cr q13
    · exact isP_cr p14
  · exact cHis_s (b := n + 17) p7 (fun a ha hb => by rw [k14 _ (by omega) (by omega), o12 _ (by omega), o11' _ (by omega), o10 _ (by omega), o9' _ (by omega), o8 _ (by omega)])
  · exact cTxt_s (b := n + 117) p9 (fun a ha hb => by rw [k14 _ (by omega) (by omega), o12 _ (by omega), o11' _ (by omega), o10 _ (by omega)])
  · exact cBal_s (b := n + 120) p11 (fun a ha hb => by rw [k14 _ (by omega) (by omega), o12 _ (by omega)])
  · rw [o14 _ (by omega) (by omega), o13 _ (by omega) (by omega), o12 _ (by omega), o11' _ (by omega), o10 _ (by omega), o9' _ (by omega), o8 _ (by omega), o7' _ (by omega), f6 _ (by omega) (by omega), f5 _ (by omega) (by omega), o4 _ (by omega), o3 _ (by omega), o2 _ (by omega), o1 _ (by omega)]
