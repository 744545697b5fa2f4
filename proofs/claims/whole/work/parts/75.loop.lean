/-! Layer 2: the law's loop. -/
theorem cmp_s (x : Int64) : lg_cmp x x = 0 := Int32.le_antisymm ((lg_cmp_le x x).mpr (Int64.le_refl x)) ((lg_cmp_ge x x).mpr (Int64.le_refl x))
theorem tail_e {k v : Int32} {σ2 : qH} {a : Nat} {R X Y : Option (Int32 × qH)} (h : k = 0 → aJ σ2 a 0 = some v.toInt64) : (if k = k then (if k = 0 then b1 (aJ σ2 a 0) fun v27 => if lg_cmp v27 v.toInt64 = 0 then R else X else R) else Y) = R := by
  rw [if_pos rfl]
  by_cases c : k = 0
  · rw [if_pos c, h c, b1_s, if_pos (cmp_s _)]
  · rw [if_neg c]
section LW
variable {n M p0 : Nat} {g : Nat → Int32} {tst : Nat → Nat}
theorem sc_1 {σ : qH} {i : Nat} (h : σ p0 = some (.inl (4, (M, .inl g)))) (hM : M ≤ 4096) (j : Nat) (hi : i + j < M) : aI σ p0 (nI i + nI j) = some (g (i + j)) := by
  rw [nI_add]; exact aI_e4 h hi (by omega)
set_option maxHeartbeats 4000000 in
set_option maxRecDepth 100000 in
theorem lawL (hM : M ≤ 4096) (hp0 : p0 < n) (htn : ∀ i, i < 7 → tst i < n) : ∀ (d i q : Nat) (σ : qH), M < i + 8 * (d + 1) → i ≤ M + 8 → σ p0 = some (.inl (4, (M, .inl g))) → stA σ tst → (∃ A L K N f rf, Wd σ n A L K N f rf) → ∃ σ', FL_law_L23 tst p0 n (n + 136) (n + 143) (d + 1 + q) (nI i) σ = some (1, σ')
  | 0, i, q, σ, hd, hi, hp, hs, hW => by
    have hL : aL σ p0 = some (nI M) := aL_e hp (by omega)
    have eM : (nI M - 8).toInt = (M : Int) - 8 := nI_sT (b := 8) (by omega) (by omega)
    have ei : (nI i).toInt = (i : Int) := nI_toInt (by omega)
    have cnd : (nI M - 8 < nI i) ↔ M < i + 8 := by rw [Int32.lt_iff_toInt_lt, eM, ei]; omega
    rw [show 0 + 1 + q = q + 1 by omega, FL_law_L23, hL, b1_s, if_pos (cnd.mpr (by omega))]
    exact ⟨σ, rfl⟩
  | d + 1, i, q, σ, hd, hi, hp, hs, hW => by
    have hL : aL σ p0 = some (nI M) := aL_e hp (by omega)
    have eM : (nI M - 8).toInt = (M : Int) - 8 := nI_sT (b := 8) (by omega) (by omega)
    have ei : (nI i).toInt = (i : Int) := nI_toInt (by omega)
    have cnd : (nI M - 8 < nI i) ↔ M < i + 8 := by rw [Int32.lt_iff_toInt_lt, eM, ei]; omega
    rw [show d + 1 + 1 + q = (d + 1 + q) + 1 by omega, FL_law_L23, hL, b1_s]
    by_cases c : M < i + 8
    · rw [if_pos (cnd.mpr c)]; exact ⟨σ, rfl⟩
    rw [if_neg (fun z => c (cnd.mp z))]
    have s0 : aI σ p0 (nI i) = some (g i) := aI_e4 hp (by omega) (by omega)
    rw [s0, b1_s]
    have sc : ∀ σ' : qH, (∀ a, a < n → σ' a = σ a) → σ' p0 = some (.inl (4, (M, .inl g))) := fun σ' h => by rw [h _ hp0]; exact hp
    have nx : ∀ σ' : qH, (∀ a, a < n → σ' a = σ a) → (∃ A L K N f rf, Wd σ' n A L K N f rf) → ∃ σ'', FL_law_L23 tst p0 n (n + 136) (n + 143) (d + 1 + q) (nI i + 8) σ' = some (1, σ'') := fun σ' h W' => by
      have e8 : nI i + 8 = nI (i + 8) := nI_add i 8
      rw [e8]
      exact lawL hM hp0 htn d (i + 8) q σ' (by omega) (by omega) (sc σ' h) (stA_s hs (fun j hj => h _ (htn j hj))) W'
    have t1 : ∀ σ' : qH, σ' p0 = some (.inl (4, (M, .inl g))) → aI σ' p0 (nI i + (1 : Int32)) = some (g (i + 1)) := fun σ' h => sc_1 h hM 1 (by omega)
    have t2 : ∀ σ' : qH, σ' p0 = some (.inl (4, (M, .inl g))) → aI σ' p0 (nI i + (2 : Int32)) = some (g (i + 2)) := fun σ' h => sc_1 h hM 2 (by omega)
    have t3 : ∀ σ' : qH, σ' p0 = some (.inl (4, (M, .inl g))) → aI σ' p0 (nI i + (3 : Int32)) = some (g (i + 3)) := fun σ' h => sc_1 h hM 3 (by omega)
    have t4 : ∀ σ' : qH, σ' p0 = some (.inl (4, (M, .inl g))) → aI σ' p0 (nI i + (4 : Int32)) = some (g (i + 4)) := fun σ' h => sc_1 h hM 4 (by omega)
    have t5 : ∀ σ' : qH, σ' p0 = some (.inl (4, (M, .inl g))) → aI σ' p0 (nI i + (5 : Int32)) = some (g (i + 5)) := fun σ' h => sc_1 h hM 5 (by omega)
    have t6 : ∀ σ' : qH, σ' p0 = some (.inl (4, (M, .inl g))) → aI σ' p0 (nI i + (6 : Int32)) = some (g (i + 6)) := fun σ' h => sc_1 h hM 6 (by omega)
    have t7 : ∀ σ' : qH, σ' p0 = some (.inl (4, (M, .inl g))) → aI σ' p0 (nI i + (7 : Int32)) = some (g (i + 7)) := fun σ' h => sc_1 h hM 7 (by omega)
    obtain ⟨A, L, K, N, f, rf, W⟩ := hW
    by_cases c0 : (g i &&& (31 : Int32)) = (0 : Int32)
    · rw [if_pos c0]
      obtain ⟨k, σ1, v, σ2, e1, e2, e3, e4, W', f1, f2⟩ := op_append (x := g (i + 1)) W
      obtain ⟨σ3, e5⟩ := nx σ2 f2 W'
      refine ⟨σ3, ?_⟩
      rw [t1 σ hp, b1_s, e1, b2_s, t1 σ1 (sc σ1 f1), b1_s, e2, b2_s, e3, b1_s]
      exact (tail_e e4).trans e5
    rw [if_neg c0]
    by_cases c1 : (g i &&& (31 : Int32)) = (1 : Int32)
    · rw [if_pos c1]
      obtain ⟨σ1, v, σ2, e1, e2, W', f1, f2⟩ := op_clear W
      obtain ⟨σ3, e3⟩ := nx σ2 f2 W'
      exact ⟨σ3, by rw [e1, b2_s, e2, b2_s, if_pos rfl]; exact e3⟩
    rw [if_neg c1]
    by_cases c2 : (g i &&& (31 : Int32)) = (2 : Int32)
    · rw [if_pos c2]
      obtain ⟨σ1, v, σ2, e1, e2, W', f1, f2⟩ := op_error W hs htn
      obtain ⟨σ3, e3⟩ := nx σ2 f2 W'
      exact ⟨σ3, by rw [e1, b2_s, e2, b2_s, if_pos rfl]; exact e3⟩
    rw [if_neg c2]
    by_cases c3 : (g i &&& (31 : Int32)) = (3 : Int32)
    · rw [if_pos c3]
      obtain ⟨k, σ1, v, σ2, e1, e2, e3, e4, W', f1, f2⟩ := op_load W hs htn
      obtain ⟨σ3, e5⟩ := nx σ2 f2 W'
      refine ⟨σ3, ?_⟩
      rw [e1, b2_s, e2, b2_s, e3, b1_s]
      exact (tail_e e4).trans e5
    rw [if_neg c3]
    by_cases c4 : (g i &&& (31 : Int32)) = (4 : Int32)
    · rw [if_pos c4]
      obtain ⟨k, σ1, v, σ2, e1, e2, e3, e4, W', f1, f2⟩ := op_about (x := g (i + 1)) W
      obtain ⟨σ3, e5⟩ := nx σ2 f2 W'
      refine ⟨σ3, ?_⟩
      rw [t1 σ hp, b1_s, e1, b2_s, t1 σ1 (sc σ1 f1), b1_s, e2, b2_s, e3, b1_s]
      exact (tail_e e4).trans e5
    rw [if_neg c4]
    by_cases c5 : (g i &&& (31 : Int32)) = (5 : Int32)
    · rw [if_pos c5]
      obtain ⟨k, σ1, v, σ2, e1, e2, e3, e4, W', f1, f2⟩ := op_measureOf (x := g (i + 1)) (y := g (i + 2)) W
      obtain ⟨σ3, e5⟩ := nx σ2 f2 W'
      refine ⟨σ3, ?_⟩
      rw [t1 σ hp, b1_s, t2 σ hp, b1_s, e1, b2_s, t1 σ1 (sc σ1 f1), b1_s, t2 σ1 (sc σ1 f1), b1_s, e2, b2_s, e3, b1_s]
      exact (tail_e e4).trans e5
    rw [if_neg c5]
    by_cases c6 : (g i &&& (31 : Int32)) = (6 : Int32)
    · rw [if_pos c6]
      obtain ⟨k, σ1, v, σ2, e1, e2, e3, e4, W', f1, f2⟩ := op_tellerOf (x := g (i + 1)) (y := g (i + 2)) W
      obtain ⟨σ3, e5⟩ := nx σ2 f2 W'
      refine ⟨σ3, ?_⟩
      rw [t1 σ hp, b1_s, t2 σ hp, b1_s, e1, b2_s, t1 σ1 (sc σ1 f1), b1_s, t2 σ1 (sc σ1 f1), b1_s, e2, b2_s, e3, b1_s]
      exact (tail_e e4).trans e5
    rw [if_neg c6]
    by_cases c7 : (g i &&& (31 : Int32)) = (7 : Int32)
    · rw [if_pos c7]
      obtain ⟨k, σ1, v, σ2, e1, e2, e3, e4, W', f1, f2⟩ := op_steepleOf (x := g (i + 1)) (y := g (i + 2)) W
      obtain ⟨σ3, e5⟩ := nx σ2 f2 W'
      refine ⟨σ3, ?_⟩
      rw [t1 σ hp, b1_s, t2 σ hp, b1_s, e1, b2_s, t1 σ1 (sc σ1 f1), b1_s, t2 σ1 (sc σ1 f1), b1_s, e2, b2_s, e3, b1_s]
      exact (tail_e e4).trans e5
    rw [if_neg c7]
    by_cases c8 : (g i &&& (31 : Int32)) = (8 : Int32)
    · rw [if_pos c8]
      obtain ⟨k, σ1, v, σ2, e1, e2, e3, e4, W', f1, f2⟩ := op_vote (x := g (i + 1)) (y := g (i + 2)) W
      obtain ⟨σ3, e5⟩ := nx σ2 f2 W'
      refine ⟨σ3, ?_⟩
      rw [t1 σ hp, b1_s, t2 σ hp, b1_s, e1, b2_s, t1 σ1 (sc σ1 f1), b1_s, t2 σ1 (sc σ1 f1), b1_s, e2, b2_s, e3, b1_s]
      exact (tail_e e4).trans e5
    rw [if_neg c8]
    by_cases c9 : (g i &&& (31 : Int32)) = (9 : Int32)
    · rw [if_pos c9]
      obtain ⟨k, σ1, v, σ2, e1, e2, e3, e4, W', f1, f2⟩ := op_best (x := g (i + 1)) (y := g (i + 2)) (z := g (i + 3)) W
      obtain ⟨σ3, e5⟩ := nx σ2 f2 W'
      refine ⟨σ3, ?_⟩
      rw [t1 σ hp, b1_s, t2 σ hp, b1_s, t3 σ hp, b1_s, e1, b2_s, t1 σ1 (sc σ1 f1), b1_s, t2 σ1 (sc σ1 f1), b1_s, t3 σ1 (sc σ1 f1), b1_s, e2, b2_s, e3, b1_s]
      exact (tail_e e4).trans e5
    rw [if_neg c9]
    by_cases c10 : (g i &&& (31 : Int32)) = (10 : Int32)
    · rw [if_pos c10]
      obtain ⟨k, σ1, v, σ2, e1, e2, e3, e4, W', f1, f2⟩ := op_setting (x := g (i + 1)) W
      obtain ⟨σ3, e5⟩ := nx σ2 f2 W'
      refine ⟨σ3, ?_⟩
      rw [t1 σ hp, b1_s, e1, b2_s, t1 σ1 (sc σ1 f1), b1_s, e2, b2_s, e3, b1_s]
      exact (tail_e e4).trans e5
    rw [if_neg c10]
    by_cases c11 : (g i &&& (31 : Int32)) = (11 : Int32)
    · rw [if_pos c11]
      obtain ⟨k, σ1, v, σ2, e1, e2, e3, e4, W', f1, f2⟩ := op_measure (s := g (i + 1)) (t := g (i + 2)) (k := g (i + 3)) (a := g (i + 4)) (b := g (i + 5)) (c := g (i + 6)) (e := g (i + 7)) W
      obtain ⟨σ3, e5⟩ := nx σ2 f2 W'
      refine ⟨σ3, ?_⟩
      rw [t1 σ hp, b1_s, t2 σ hp, b1_s, t3 σ hp, b1_s, t4 σ hp, b1_s, t5 σ hp, b1_s, t6 σ hp, b1_s, t7 σ hp, b1_s, e1, b2_s, t1 σ1 (sc σ1 f1), b1_s, t2 σ1 (sc σ1 f1), b1_s, t3 σ1 (sc σ1 f1), b1_s, t4 σ1 (sc σ1 f1), b1_s, t5 σ1 (sc σ1 f1), b1_s, t6 σ1 (sc σ1 f1), b1_s, t7 σ1 (sc σ1 f1), b1_s, e2, b2_s, e3, b1_s]
      exact (tail_e e4).trans e5
    rw [if_neg c11]
    by_cases c12 : (g i &&& (31 : Int32)) = (12 : Int32)
    · rw [if_pos c12]
      obtain ⟨k, σ1, v, σ2, e1, e2, e3, e4, W', f1, f2⟩ := op_drop (x := g (i + 1)) W
      obtain ⟨σ3, e5⟩ := nx σ2 f2 W'
      refine ⟨σ3, ?_⟩
      rw [t1 σ hp, b1_s, e1, b2_s, t1 σ1 (sc σ1 f1), b1_s, e2, b2_s, e3, b1_s]
      exact (tail_e e4).trans e5
    rw [if_neg c12]
    by_cases c13 : (g i &&& (31 : Int32)) = (13 : Int32)
    · rw [if_pos c13]
      obtain ⟨k, σ1, v, σ2, e1, e2, e3, e4, W', f1, f2⟩ := op_trust (x := g (i + 1)) (y := g (i + 2)) W
      obtain ⟨σ3, e5⟩ := nx σ2 f2 W'
      refine ⟨σ3, ?_⟩
      rw [t1 σ hp, b1_s, t2 σ hp, b1_s, e1, b2_s, t1 σ1 (sc σ1 f1), b1_s, t2 σ1 (sc σ1 f1), b1_s, e2, b2_s, e3, b1_s]
      exact (tail_e e4).trans e5
    rw [if_neg c13]
    by_cases c14 : (g i &&& (31 : Int32)) = (14 : Int32)
    · rw [if_pos c14]
      obtain ⟨σ1, v, σ2, e1, e2, W', f1, f2⟩ := op_evening W
      obtain ⟨σ3, e3⟩ := nx σ2 f2 W'
      exact ⟨σ3, by rw [e1, b2_s, e2, b2_s, if_pos rfl]; exact e3⟩
    rw [if_neg c14]
    by_cases c15 : (g i &&& (31 : Int32)) = (15 : Int32)
    · rw [if_pos c15]
      obtain ⟨k, σ1, v, σ2, e1, e2, e3, e4, W', f1, f2⟩ := op_survey (x := g (i + 1)) (y := g (i + 2)) W
      obtain ⟨σ3, e5⟩ := nx σ2 f2 W'
      refine ⟨σ3, ?_⟩
      rw [t1 σ hp, b1_s, t2 σ hp, b1_s, e1, b2_s, t1 σ1 (sc σ1 f1), b1_s, t2 σ1 (sc σ1 f1), b1_s, e2, b2_s, e3, b1_s]
      exact (tail_e e4).trans e5
    rw [if_neg c15]
    by_cases c16 : (g i &&& (31 : Int32)) = (16 : Int32)
    · rw [if_pos c16]
      obtain ⟨k, σ1, v, σ2, e1, e2, e3, e4, W', f1, f2⟩ := op_set (x := g (i + 1)) (y := g (i + 2)) W
      obtain ⟨σ3, e5⟩ := nx σ2 f2 W'
      refine ⟨σ3, ?_⟩
      rw [t1 σ hp, b1_s, t2 σ hp, b1_s, e1, b2_s, t1 σ1 (sc σ1 f1), b1_s, t2 σ1 (sc σ1 f1), b1_s, e2, b2_s, e3, b1_s]
      exact (tail_e e4).trans e5
    rw [if_neg c16]
    by_cases c17 : (g i &&& (31 : Int32)) = (17 : Int32)
    · rw [if_pos c17]
      obtain ⟨k, σ1, v, σ2, e1, e2, e3, e4, W', f1, f2⟩ := op_undo W
      obtain ⟨σ3, e5⟩ := nx σ2 f2 W'
      refine ⟨σ3, ?_⟩
      rw [e1, b2_s, e2, b2_s, e3, b1_s]
      exact (tail_e e4).trans e5
    rw [if_neg c17]
    by_cases c18 : (g i &&& (31 : Int32)) = (18 : Int32)
    · rw [if_pos c18]
      obtain ⟨k, σ1, v, σ2, e1, e2, e3, e4, W', f1, f2⟩ := op_apart (x := g (i + 1)) (y := g (i + 2)) W
      obtain ⟨σ3, e5⟩ := nx σ2 f2 W'
      refine ⟨σ3, ?_⟩
      rw [t1 σ hp, b1_s, t2 σ hp, b1_s, e1, b2_s, t1 σ1 (sc σ1 f1), b1_s, t2 σ1 (sc σ1 f1), b1_s, e2, b2_s, e3, b1_s]
      exact (tail_e e4).trans e5
    rw [if_neg c18]
    by_cases c19 : (g i &&& (31 : Int32)) = (19 : Int32)
    · rw [if_pos c19]
      obtain ⟨k, σ1, v, σ2, e1, e2, e3, e4, W', f1, f2⟩ := op_against (x := g (i + 1)) W
      obtain ⟨σ3, e5⟩ := nx σ2 f2 W'
      refine ⟨σ3, ?_⟩
      rw [t1 σ hp, b1_s, e1, b2_s, t1 σ1 (sc σ1 f1), b1_s, e2, b2_s, e3, b1_s]
      exact (tail_e e4).trans e5
    rw [if_neg c19]
    by_cases c20 : (g i &&& (31 : Int32)) = (20 : Int32)
    · rw [if_pos c20]
      obtain ⟨k, σ1, v, σ2, e1, e2, e3, e4, W', f1, f2⟩ := op_without (x := g (i + 1)) (y := g (i + 2)) W
      obtain ⟨σ3, e5⟩ := nx σ2 f2 W'
      refine ⟨σ3, ?_⟩
      rw [t1 σ hp, b1_s, t2 σ hp, b1_s, e1, b2_s, t1 σ1 (sc σ1 f1), b1_s, t2 σ1 (sc σ1 f1), b1_s, e2, b2_s, e3, b1_s]
      exact (tail_e e4).trans e5
    rw [if_neg c20]
    by_cases c21 : (g i &&& (31 : Int32)) = (21 : Int32)
    · rw [if_pos c21]
      obtain ⟨k, σ1, v, σ2, e1, e2, e3, e4, W', f1, f2⟩ := op_swings (x := g (i + 1)) (y := g (i + 2)) W
      obtain ⟨σ3, e5⟩ := nx σ2 f2 W'
      refine ⟨σ3, ?_⟩
      rw [t1 σ hp, b1_s, t2 σ hp, b1_s, e1, b2_s, t1 σ1 (sc σ1 f1), b1_s, t2 σ1 (sc σ1 f1), b1_s, e2, b2_s, e3, b1_s]
      exact (tail_e e4).trans e5
    rw [if_neg c21]
    by_cases c22 : (g i &&& (31 : Int32)) = (22 : Int32)
    · rw [if_pos c22]
      obtain ⟨v, e1, σ2, e2, W', f2⟩ := op_truest W
      obtain ⟨σ3, e3⟩ := nx σ2 f2 W'
      exact ⟨σ3, by rw [e1, b1_s, e2, b2_s, if_pos rfl]; exact e3⟩
    rw [if_neg c22]
    by_cases c23 : (g i &&& (31 : Int32)) = (23 : Int32)
    · rw [if_pos c23]
      obtain ⟨k, σ1, v, σ2, e1, e2, e3, e4, W', f1, f2⟩ := op_script (x := g (i + 1)) (p := ((g (i + 2)).toInt64 <<< ((32 : Int32).toInt64 &&& 63) ||| (g (i + 3)).toInt64 &&& (4294967295 : Int64))) W
      obtain ⟨σ3, e5⟩ := nx σ2 f2 W'
      refine ⟨σ3, ?_⟩
      rw [t1 σ hp, b1_s, t2 σ hp, b1_s, t3 σ hp, b1_s, e1, b2_s, t1 σ1 (sc σ1 f1), b1_s, t2 σ1 (sc σ1 f1), b1_s, t3 σ1 (sc σ1 f1), b1_s, e2, b2_s, e3, b1_s]
      exact (tail_e e4).trans e5
    rw [if_neg c23]
    by_cases c24 : (g i &&& (31 : Int32)) = (24 : Int32)
    · rw [if_pos c24]
      obtain ⟨k, σ1, v, σ2, e1, e2, e3, e4, W', f1, f2⟩ := op_simulate (p := ((g (i + 1)).toInt64 <<< ((32 : Int32).toInt64 &&& 63) ||| (g (i + 2)).toInt64 &&& (4294967295 : Int64))) (x := g (i + 3)) W
      obtain ⟨σ3, e5⟩ := nx σ2 f2 W'
      refine ⟨σ3, ?_⟩
      rw [t1 σ hp, b1_s, t2 σ hp, b1_s, t3 σ hp, b1_s, e1, b2_s, t1 σ1 (sc σ1 f1), b1_s, t2 σ1 (sc σ1 f1), b1_s, t3 σ1 (sc σ1 f1), b1_s, e2, b2_s, e3, b1_s]
      exact (tail_e e4).trans e5
    rw [if_neg c24]
    by_cases c25 : (g i &&& (31 : Int32)) = (25 : Int32)
    · rw [if_pos c25]
      obtain ⟨k, σ1, v, σ2, e1, e2, e3, e4, W', f1, f2⟩ := op_save (x := g (i + 1)) W
      obtain ⟨σ3, e5⟩ := nx σ2 f2 W'
      refine ⟨σ3, ?_⟩
      rw [t1 σ hp, b1_s, e1, b2_s, t1 σ1 (sc σ1 f1), b1_s, e2, b2_s, e3, b1_s]
      exact (tail_e e4).trans e5
    rw [if_neg c25]
    by_cases c26 : (g i &&& (31 : Int32)) = (26 : Int32)
    · rw [if_pos c26]
      obtain ⟨k, σ1, v, σ2, e1, e2, e3, e4, W', f1, f2⟩ := op_restore (x := g (i + 1)) W
      obtain ⟨σ3, e5⟩ := nx σ2 f2 W'
      refine ⟨σ3, ?_⟩
      rw [t1 σ hp, b1_s, e1, b2_s, t1 σ1 (sc σ1 f1), b1_s, e2, b2_s, e3, b1_s]
      exact (tail_e e4).trans e5
    rw [if_neg c26]
    exact nx σ (fun _ _ => rfl) ⟨A, L, K, N, f, rf, W⟩
theorem law_true {σ : qH} (hM : M ≤ 4096) (hp0 : p0 < n) (htn : ∀ i, i < 7 → tst i < n) (hp : σ p0 = some (.inl (4, (M, .inl g)))) (hs : stA σ tst) : ∃ σ', FL_law tst p0 σ n = some (1, σ') := by
  obtain ⟨s1, e1, h1, o1⟩ := init6 (σ := qU σ n (.inr (4, [.null, .null, .null, .null, .null, .null, .null]))) (n := n) (f := fun _ => 0) qU_s
  have o1' : ∀ a, a < n → s1 a = σ a := fun a ha => by rw [o1 a (by omega)]; exact qU_n (by omega)
  obtain ⟨s2, e2, h2, o2⟩ := init7 (σ := qU s1 (n + 136) (.inr (5, [.int 0, .null, .int 0, .null, .null, .null, .int 0, .null, .null, .int 0, .int 0]))) (m := n + 136) (f := fun _ => 0) qU_s
  have o2' : Ch s1 s2 (n + 136) (n + 142) := fun a ha => by rw [o2 a ha]; exact qU_n (by omega)
  have o3 : OfZ s2 (qU s2 (n + 143) (oJ (fun _ => 0))) (n + 143) := fun _ hb => qU_n hb
  have g3 : qU s2 (n + 143) (oJ (fun _ => 0)) (n + 143) = some (oJ (fun _ => 0)) := qU_s
  have fr : ∀ a, a < n → qU s2 (n + 143) (oJ (fun _ => 0)) a = σ a := fun a ha => by rw [o3 a (by omega), o2' a (by omega), o1' a ha]
  have hS : okS newA [] (fun _ => none) 0 (fun _ => 0) := ⟨newA_ok, fun B hB => (by cases hB), fun i B hi hB => (by cases hB), Nat.zero_le _, fun i hi => absurd hi (Nat.not_lt_zero _)⟩
  have W : Wd (qU s2 (n + 143) (oJ (fun _ => 0))) n newA [] (fun _ => none) 0 (fun _ => 0) 0 := ⟨C_all h1 (fun a ha hb => by rw [o3 a (by omega), o2' a (by omega)]), M_all h2 (fun a ha hb => o3 a (by omega)), ⟨_, g3⟩, hS⟩
  obtain ⟨q3, hq⟩ := qf (n := 512) (by omega)
  obtain ⟨σ', e⟩ := lawL (M := M) (g := g) hM hp0 htn 512 0 q3 (qU s2 (n + 143) (oJ (fun _ => 0))) (by omega) (by omega) (by rw [fr _ hp0]; exact hp) (stA_s hs (fun j hj => fr _ (htn j hj))) ⟨_, _, _, _, _, _, W⟩
  rw [← hq] at e
  refine ⟨σ', ?_⟩
  unfold FL_law
  rw [b1_s, e1, b1_s, b1_s, e2, b1_s, b1_s]
  exact e
end LW
