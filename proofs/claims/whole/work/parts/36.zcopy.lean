/-! Layer 2: the reference's copies; a row within a longer array. -/
def isZa (σ : qH) (a N o : Nat) (A : AS) : Prop := ∃ z : Nat → Int32, σ a = some (iA N z) ∧ zR A (fun j => z (o + j))
theorem zR_c {A : AS} {z z' : Nat → Int32} (h : zR A z) (hA : okA A) (e : ∀ j, j < 142 → z' j = z j) : zR A z' := by
  have n16' : (aM A).length ≤ 16 := hA.1
  obtain ⟨h0, h1, h2, h3, h4, h5, h6, hs, ht', hv, hm⟩ := h
  refine ⟨?_, ?_, ?_, ?_, ?_, ?_, ?_, fun i hi => ?_, fun i hi => ⟨?_, ?_, ?_⟩, fun i hi => ?_, fun k hk j hj => ?_⟩ <;> rw [e _ (by omega)]
  · exact h0
  · exact h1
  · exact h2
  · exact h3
  · exact h4
  · exact h5
  · exact h6
  · exact hs i hi
  · exact (ht' i hi).1
  · exact (ht' i hi).2.1
  · exact (ht' i hi).2.2
  · exact hv i hi
  · exact hm k hk j hj
def cpz (f g : Nat → Int32) (o1 o2 y e : Nat) : Nat → Int32 := fun j => if o2 + y ≤ j ∧ j < o2 + e then f (o1 + (j - o2)) else g j
theorem cpL {a0 a2 n0 n2 o1 o2 : Nat} {f : Nat → Int32} (ha : a0 ≠ a2) (h1 : o1 + 142 ≤ n0) (h2 : o2 + 142 ≤ n2) (b0 : n0 < 2 ^ 31) (b2 : n2 < 2 ^ 31) : ∀ (d y q : Nat) (σ : qH) (g : Nat → Int32), y + d = 142 → σ a0 = some (iA n0 f) → σ a2 = some (iA n2 g) → ∃ σ', FX7_copyState_L3 a0 (nI o1) a2 (nI o2) (d + 1 + q) (nI y) σ = some σ' ∧ σ' a2 = some (iA n2 (cpz f g o1 o2 y 142)) ∧ OfZ σ σ' a2
  | 0, y, q, σ, g, hy, hf, hg => by
    refine ⟨σ, ?_, ?_, OfZ.rf⟩
    · rw [show 0 + 1 + q = q + 1 by omega, FX7_copyState_L3, show (142 : Int32) = nI 142 from rfl, if_pos ((nI_leI (by omega) (by omega)).mpr (by omega))]
    · have : cpz f g o1 o2 y 142 = g := by funext j; unfold cpz; rw [if_neg (by omega)]
      rw [this]; exact hg
  | d + 1, y, q, σ, g, hy, hf, hg => by
    have w1 : aI σ a0 (nI (o1 + y)) = some (f (o1 + y)) := aI_e hf (by omega) b0
    have w2 : sI σ a2 (nI (o2 + y)) (f (o1 + y)) = some (qU σ a2 (iA n2 (upd g (o2 + y) (f (o1 + y))))) := sI_e hg (by omega) b2
    obtain ⟨σ', e', g', o'⟩ := cpL ha h1 h2 b0 b2 d (y + 1) q (qU σ a2 (iA n2 (upd g (o2 + y) (f (o1 + y))))) (upd g (o2 + y) (f (o1 + y))) (by omega) (by rw [qU_n ha]; exact hf) qU_s
    refine ⟨σ', ?_, ?_, OfZ.tr (fun _ hb => qU_n hb) o'⟩
    · rw [show d + 1 + 1 + q = (d + 1 + q) + 1 by omega, FX7_copyState_L3, show (142 : Int32) = nI 142 from rfl, if_neg (fun hh => absurd ((nI_leI (by omega) (by omega)).mp hh) (by omega)), nI_add, w1, b1_s, nI_add, w2, b1_s, nI_1, e']
    · rw [g']
      have : cpz f (upd g (o2 + y) (f (o1 + y))) o1 o2 (y + 1) 142 = cpz f g o1 o2 y 142 := by
        funext j
        unfold cpz
        by_cases c : j = o2 + y
        · subst c
          rw [if_neg (by omega), if_pos (by omega), upd_e, show o2 + y - o2 = y by omega]
        · by_cases c2 : o2 + y ≤ j ∧ j < o2 + 142
          · rw [if_pos (by omega), if_pos c2]
          · rw [if_neg (by omega), if_neg c2, upd_n c]
      rw [this]
theorem copyState_e {σ : qH} {a0 a2 n0 n2 o1 o2 : Nat} {f g : Nat → Int32} (ha : a0 ≠ a2) (h1 : o1 + 142 ≤ n0) (h2 : o2 + 142 ≤ n2) (b0 : n0 < 2 ^ 31) (b2 : n2 < 2 ^ 31) (hf : σ a0 = some (iA n0 f)) (hg : σ a2 = some (iA n2 g)) : ∃ σ', FX7_copyState a0 (nI o1) a2 (nI o2) σ = some σ' ∧ σ' a2 = some (iA n2 (cpz f g o1 o2 0 142)) ∧ OfZ σ σ' a2 := by
  obtain ⟨q3, hq⟩ := qf (n := 142) (by omega)
  obtain ⟨σ', e', g', o'⟩ := cpL (f := f) ha h1 h2 b0 b2 142 0 q3 σ g (by omega) hf hg
  rw [← hq] at e'
  refine ⟨σ', ?_, g', o'⟩
  unfold FX7_copyState
  have e2 : FX7_copyState_L3 a0 (nI o1) a2 (nI o2) qfuel 0 σ = some σ' := e'
  rw [e2, b1_s]
theorem cpz_in {f g : Nat → Int32} {o1 o2 j : Nat} (h : j < 142) : cpz f g o1 o2 0 142 (o2 + j) = f (o1 + j) := by
  unfold cpz; rw [if_pos (by omega), show o2 + j - o2 = j by omega]
theorem cpz_out {f g : Nat → Int32} {o1 o2 j : Nat} (h : j < o2 ∨ o2 + 142 ≤ j) : cpz f g o1 o2 0 142 j = g j := by
  unfold cpz; rw [if_neg (by omega)]
/-- the beginning: a new parish -/
abbrev newA : AS := ([], fun _ => 5, fun _ => 0, fun _ => 0, fun _ => -1, fun i => if i = 0 then 1 else 5, (0, 0, 0, 0))
theorem newA_ok : okA newA := ⟨Nat.zero_le _, fun k hk => absurd hk (Nat.not_lt_zero _), fun _ _ => (by show 5 ≤ 9; omega), (by show 1 ≤ 5; omega), (by show 5 ≤ 50; omega)⟩
def clz (g : Nat → Int32) (e : Nat) : Nat → Int32 := fun j => if j < e then (if j < 9 then 0 else if j < 15 then 5 else if j < 27 then 0 else if j < 30 then -1 else 0) else g j
theorem clL {a : Nat} : ∀ (d y q : Nat) (σ : qH) (g : Nat → Int32), y + d = 142 → σ a = some (iA 142 g) → ∃ σ', FX7_clear_L2 a (d + 1 + q) (nI y) σ = some σ' ∧ (∃ g', σ' a = some (iA 142 g') ∧ ∀ j, (y ≤ j ∧ j < 142 → g' j = clz g 142 j) ∧ (j < y → g' j = g j)) ∧ OfZ σ σ' a
  | 0, y, q, σ, g, hy, hg => by
    refine ⟨σ, ?_, ⟨g, hg, fun j => ⟨fun hh => absurd hh (by omega), fun _ => rfl⟩⟩, OfZ.rf⟩
    rw [show 0 + 1 + q = q + 1 by omega, FX7_clear_L2, show (142 : Int32) = nI 142 from rfl, if_pos ((nI_leI (by omega) (by omega)).mpr (by omega))]
  | d + 1, y, q, σ, g, hy, hg => by
    obtain ⟨σ1, e1, g1, o1⟩ := zW hg (i := y) (by omega) (clz g 142 y)
    obtain ⟨σ2, e2, ⟨g2, hg2, hj⟩, o2⟩ := clL d (y + 1) q σ1 _ (by omega) g1
    refine ⟨σ2, ?_, ⟨g2, hg2, fun j => ⟨fun hh => ?_, fun hh => ?_⟩⟩, o1.tr o2⟩
    · rw [show d + 1 + 1 + q = (d + 1 + q) + 1 by omega, FX7_clear_L2]
      have l142 : ((142 : Int32) ≤ nI y) = (142 ≤ y) := le_nI (a := 142) (by omega) (by omega)
      have l9 : (nI y < (9 : Int32)) = (y < 9) := lt_nI (b := 9) (by omega) (by omega)
      have l27 : (nI y < (27 : Int32)) = (y < 27) := lt_nI (b := 27) (by omega) (by omega)
      have l30 : ((30 : Int32) ≤ nI y) = (30 ≤ y) := le_nI (a := 30) (by omega) (by omega)
      have l15 : ((15 : Int32) ≤ nI y) = (15 ≤ y) := le_nI (a := 15) (by omega) (by omega)
      simp only [l142, l9, l27, l30, l15, if_neg (show ¬ 142 ≤ y by omega)]
      have hx : (if y < 9 then (if y < 27 then some (0 : Int32) else if 30 ≤ y then some 0 else some (-1)) else if 15 ≤ y then (if y < 27 then some 0 else if 30 ≤ y then some 0 else some (-1)) else some 5) = some (clz g 142 y) := by
        unfold clz
        rw [if_pos (show y < 142 by omega)]
        by_cases c1 : y < 9
        · rw [if_pos c1, if_pos (by omega), if_pos c1]
        · by_cases c2 : y < 15
          · rw [if_neg c1, if_neg (by omega), if_neg c1, if_pos c2]
          · by_cases c3 : y < 27
            · rw [if_neg c1, if_pos (by omega), if_pos c3, if_neg c1, if_neg c2, if_pos c3]
            · by_cases c4 : y < 30
              · rw [if_neg c1, if_pos (by omega), if_neg c3, if_neg (by omega), if_neg c1, if_neg c2, if_neg c3, if_pos c4]
              · rw [if_neg c1, if_pos (by omega), if_neg c3, if_pos (by omega), if_neg c1, if_neg c2, if_neg c3, if_neg c4]
      rw [hx, b1_s, e1, b1_s, nI_1, e2]
    · by_cases c : j = y
      · subst c
        rw [(hj j).2 (by omega), upd_e]
      · rw [(hj j).1 ⟨by omega, hh.2⟩]
        unfold clz
        rw [if_pos hh.2, if_pos hh.2]
    · rw [(hj j).2 (by omega), upd_n (by omega)]
theorem clear_e {σ : qH} {a : Nat} {g : Nat → Int32} (hg : σ a = some (iA 142 g)) : ∃ σ', FX7_clear a σ = some σ' ∧ isZ σ' a newA ∧ OfZ σ σ' a := by
  obtain ⟨q3, hq⟩ := qf (n := 142) (by omega)
  obtain ⟨σ1, e1, ⟨g1, hg1, hj⟩, o1⟩ := clL (a := a) 142 0 q3 σ g (by omega) hg
  rw [← hq] at e1
  have e1' : FX7_clear_L2 a qfuel 0 σ = some σ1 := e1
  obtain ⟨σ2, e2, g2, o2⟩ := zW hg1 (i := 7) (by omega) 1
  obtain ⟨σ3, e3, g3, o3⟩ := zW g2 (i := 8) (by omega) 5
  have e2' : sI σ1 a 7 1 = some σ2 := e2
  have e3' : sI σ2 a 8 5 = some σ3 := e3
  refine ⟨σ3, ?_, R_isZ g3 ?_, (o1.tr o2).tr o3⟩
  · unfold FX7_clear
    rw [e1', b1_s, e2', b1_s, e3', b1_s]
  · have lo : ∀ j, j < 142 → j ≠ 7 → j ≠ 8 → upd (upd g1 7 1) 8 5 j = clz g 142 j := fun j hj1 h7 h8 => by
      rw [upd_n h8, upd_n h7, (hj j).1 ⟨by omega, hj1⟩]
    have z0 : ∀ j, j < 9 → j ≠ 7 → j ≠ 8 → upd (upd g1 7 1) 8 5 j = nI 0 := fun j hj1 h7 h8 => by
      rw [lo j (by omega) h7 h8]; unfold clz; rw [if_pos (by omega), if_pos hj1]; rfl
    refine ⟨z0 0 (by omega) (by omega) (by omega), z0 1 (by omega) (by omega) (by omega), z0 2 (by omega) (by omega) (by omega), z0 3 (by omega) (by omega) (by omega), z0 4 (by omega) (by omega) (by omega), z0 5 (by omega) (by omega) (by omega), z0 6 (by omega) (by omega) (by omega), fun i hi => ?_, fun i hi => ⟨?_, ?_, ?_⟩, fun i hi => ?_, fun k hk => absurd hk (Nat.not_lt_zero _)⟩
    · rcases (show i = 0 ∨ i = 1 by omega) with rfl | rfl
      · rw [upd_n (by omega), upd_e]; rfl
      · rw [upd_e]; rfl
    · rw [lo _ (by omega) (by omega) (by omega)]; unfold clz; rw [if_pos (by omega), if_neg (by omega), if_pos (by omega)]; rfl
    · rw [lo _ (by omega) (by omega) (by omega)]; unfold clz; rw [if_pos (by omega), if_neg (by omega), if_neg (by omega), if_pos (by omega)]; rfl
    · rw [lo _ (by omega) (by omega) (by omega)]; unfold clz; rw [if_pos (by omega), if_neg (by omega), if_neg (by omega), if_pos (by omega)]; rfl
    · rw [lo _ (by omega) (by omega) (by omega)]; unfold clz; rw [if_pos (by omega), if_neg (by omega), if_neg (by omega), if_neg (by omega), if_pos (by omega)]
