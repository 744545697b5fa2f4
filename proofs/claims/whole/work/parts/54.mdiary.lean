/-! Layer 2: the reference's diary and its kept rows. -/
def shd (z : Nat → Int32) (y : Nat) : Nat → Int32 := fun j => if y ≤ j ∧ j < 1846 then z (j + 142) else z j
theorem remL {m a : Nat} (ha : m ≠ a) : ∀ (d y q : Nat) (σ : qH) (z : Nat → Int32), y + d = 1846 → gR σ m 5 5 = some a → σ a = some (iA 1988 z) → ∃ σ', FX7_remember_L11 m (d + 1 + q) (nI y) σ = some σ' ∧ σ' a = some (iA 1988 (shd z y)) ∧ OfZ σ σ' a
  | 0, y, q, σ, z, hy, hg, hz => by
    refine ⟨σ, ?_, ?_, OfZ.rf⟩
    · rw [show 0 + 1 + q = q + 1 by omega, FX7_remember_L11, show (1846 : Int32) = nI 1846 from rfl, if_pos ((nI_leI (by omega) (by omega)).mpr (by omega))]
    · have : shd z y = z := by funext j; unfold shd; rw [if_neg (by omega)]
      rw [this]; exact hz
  | d + 1, y, q, σ, z, hy, hg, hz => by
    have w1 : aI σ a (nI (y + 142)) = some (z (y + 142)) := aI_e hz (by omega) (by omega)
    have w2 : sI σ a (nI y) (z (y + 142)) = some (qU σ a (iA 1988 (upd z y (z (y + 142))))) := sI_e hz (by omega) (by omega)
    have hg2 : gR (qU σ a (iA 1988 (upd z y (z (y + 142))))) m 5 5 = some a := by
      unfold gR; rw [qU_n ha]; exact hg
    obtain ⟨σ', e', g', o'⟩ := remL ha d (y + 1) q (qU σ a (iA 1988 (upd z y (z (y + 142))))) (upd z y (z (y + 142))) (by omega) hg2 qU_s
    refine ⟨σ', ?_, ?_, OfZ.tr (fun _ hb => qU_n hb) o'⟩
    · rw [show d + 1 + 1 + q = (d + 1 + q) + 1 by omega, FX7_remember_L11, show (1846 : Int32) = nI 1846 from rfl, if_neg (fun hh => absurd ((nI_leI (by omega) (by omega)).mp hh) (by omega)), hg, b1_s, b1_s, show (142 : Int32) = nI 142 from rfl, nI_add, w1, b1_s, w2, b1_s, nI_1, e']
    · rw [g']
      have : shd (upd z y (z (y + 142))) (y + 1) = shd z y := by
        funext j
        unfold shd
        by_cases c : j = y
        · subst c
          rw [if_neg (by omega), if_pos (by omega), upd_e]
        · by_cases c2 : y ≤ j ∧ j < 1846
          · rw [if_pos (by omega), if_pos c2, upd_n (by omega)]
          · rw [if_neg (by omega), if_neg c2, upd_n c]
      rw [this]
section MD
variable {σ : qH} {m N : Nat} {A : AS} {L : List AS} {K : Nat → Option AS} {f : Nat → Nat} {rf : Int32}
theorem take14 {A : AS} {L : List AS} {j : Nat} (h : j + 1 < 14) : ((A :: L).take 14).getD (j + 1) newA = L.getD j newA := by
  rw [List.getD_eq_getElem?_getD, List.getElem?_take_of_lt h, List.getElem?_cons_succ, ← List.getD_eq_getElem?_getD]
theorem take14l {A : AS} {L : List AS} : ((A :: L).take 14).length = min 14 (L.length + 1) := by
  rw [List.length_take, List.length_cons]
/-- the copy of now into the diary, behind the n states that it has -/
theorem rem_k {sp ou : Int32} {n : Nat} {d : Nat → Int32} (hA : okA A) (hn : n < 14) (h0 : σ m = some (oM m N n rf sp ou)) (hz : isZ σ (m + 2) A) (hd : σ (m + 4) = some (iA 1988 d)) : ∃ σ' d', (b1 (FX7_copyState (m + 2) 0 (m + 4) ((142 : Int32) * nI n) σ) fun s25 => b1 (gI s25 m 5 6) fun v26 => b1 (gP s25 m 5 6 (.int (v26 + (1 : Int32)))) fun s28 => some s28) = some σ' ∧ σ' m = some (oM m N (n + 1) rf sp ou) ∧ σ' (m + 4) = some (iA 1988 d') ∧ zR A (fun i => d' (142 * n + i)) ∧ (∀ i, (i < 142 * n ∨ 142 * n + 142 ≤ i) → d' i = d i) ∧ ∀ a, a ≠ m → a ≠ m + 4 → σ' a = σ a := by
  obtain ⟨z, hz0, hr⟩ := hz
  obtain ⟨σ1, e1, g1, o1⟩ := copyState_e (a0 := m + 2) (a2 := m + 4) (o1 := 0) (o2 := 142 * n) (f := z) (g := d) (by omega) (Nat.le_refl _) (by omega) (by omega) (by omega) hz0 hd
  have h01 : σ1 m = some (oM m N n rf sp ou) := by rw [o1 _ (by omega)]; exact h0
  obtain ⟨σ2, e2, g2, o2⟩ := M_w6 h01 (n + 1)
  have e1' : FX7_copyState (m + 2) 0 (m + 4) ((142 : Int32) * nI n) σ = some σ1 := by
    rw [show (142 : Int32) = nI 142 from rfl, pk_mul]; exact e1
  refine ⟨σ2, cpz z d 0 (142 * n) 0 142, ?_, g2, ?_, ?_, fun i hi => cpz_out hi, fun a h1 h2 => by rw [o2 a h1, o1 a h2]⟩
  · rw [e1', b1_s, (M_r h01).2.2.2.2.2.2.2.1, b1_s, nI_1, e2, b1_s]
  · rw [o2 _ (by omega)]; exact g1
  · exact zR_c hr hA (fun j hj => by
      have := cpz_in (f := z) (g := d) (o1 := 0) (o2 := 142 * n) hj
      rw [Nat.zero_add] at this; exact this)
theorem M_rem (h : isM σ m A L K N f rf) (hA : okA A) (hL : ∀ B, B ∈ L → okA B) : ∃ σ', FX7_remember m σ = some σ' ∧ isM σ' m A ((A :: L).take 14) K N f rf ∧ Ch σ σ' m (m + 6) := by
  obtain ⟨⟨sp, ou, h0⟩, h1, h2, h3, ⟨d, d1, d2, d3⟩, h5⟩ := h
  have r0 := M_r h0
  by_cases c : L.length = 14
  · have hg : gR σ m 5 5 = some (m + 4) := r0.2.2.2.2.2.2.1
    obtain ⟨q3, hq⟩ := qf (n := 1846) (by omega)
    obtain ⟨σ1, e1, g1, o1⟩ := remL (a := m + 4) (by omega) 1846 0 q3 σ d (by omega) hg d2
    rw [← hq] at e1
    have e1' : FX7_remember_L11 m qfuel 0 σ = some σ1 := e1
    have h01 : σ1 m = some (oM m N L.length rf sp ou) := by rw [o1 _ (by omega)]; exact h0
    obtain ⟨σ2, e2, g2, o2⟩ := M_w6 h01 13
    have hz2 : isZ σ2 (m + 2) A := isZ_s h2 (by rw [o2 _ (by omega), o1 _ (by omega)])
    have hd2 : σ2 (m + 4) = some (iA 1988 (shd d 0)) := by rw [o2 _ (by omega)]; exact g1
    obtain ⟨σ3, d', e3, g3, gd, rd, kd, o3⟩ := rem_k hA (by omega) g2 hz2 hd2
    have keep : ∀ a, a ≠ m → a ≠ m + 4 → σ3 a = σ a := fun a h1 h2 => by rw [o3 a h1 h2, o2 a h1, o1 a h2]
    have hl : ((A :: L).take 14).length = 14 := by rw [take14l, c]; rfl
    refine ⟨σ3, ?_, ⟨⟨sp, ou, ?_⟩, mT_s h1 (keep _ (by omega) (by omega)), isZ_s h2 (keep _ (by omega) (by omega)), mR_s h3 (keep _ (by omega) (by omega)), ⟨d', by omega, gd, fun j hj => ?_⟩, mK_s h5 (keep _ (by omega) (by omega)) (keep _ (by omega) (by omega))⟩, fun a ha => keep a (by omega) (by omega)⟩
    · unfold FX7_remember
      have hb : (if nI L.length = (14 : Int32) then (b1 (FX7_remember_L11 m qfuel (0 : Int32) σ) fun s12 => b1 (gI s12 m 5 6) fun v13 => b1 (gP s12 m 5 6 (.int (v13 - (1 : Int32)))) fun s15 => some s15) else some σ) = some σ2 := by
        rw [if_pos (by rw [c]; rfl), e1', b1_s, (M_r h01).2.2.2.2.2.2.2.1, b1_s, c, show nI 14 - 1 = nI 13 from nI_pred 13, e2, b1_s]
      have r2 := M_r g2
      rw [r0.1, b1_s, r0.2.2.2.2.2.2.2.1, b1_s, hb, b1_s, r2.2.2.2.2.1, b1_s, r2.2.2.2.2.2.2.1, b1_s, r2.2.2.2.2.2.2.2.1, b1_s]
      exact e3
    · rw [hl]; exact g3
    · rw [hl] at hj ⊢
      cases j with
      | zero => exact rd
      | succ j =>
        rw [take14 (by omega)]
        have hB : okA (L.getD j newA) := hL _ (by rw [List.getD_eq_getElem?_getD, List.getElem?_eq_getElem (by omega)]; exact List.getElem_mem _)
        refine zR_c (d3 j (by omega)) hB (fun i hi => ?_)
        rw [kd _ (by omega), c]
        unfold shd
        rw [if_pos (by omega)]
        congr 1; omega
  · have hlt : L.length < 14 := by omega
    obtain ⟨σ3, d', e3, g3, gd, rd, kd, keep⟩ := rem_k hA hlt h0 h2 d2
    have hl : ((A :: L).take 14).length = L.length + 1 := by rw [take14l]; omega
    refine ⟨σ3, ?_, ⟨⟨sp, ou, ?_⟩, mT_s h1 (keep _ (by omega) (by omega)), isZ_s h2 (keep _ (by omega) (by omega)), mR_s h3 (keep _ (by omega) (by omega)), ⟨d', by omega, gd, fun j hj => ?_⟩, mK_s h5 (keep _ (by omega) (by omega)) (keep _ (by omega) (by omega))⟩, fun a ha => keep a (by omega) (by omega)⟩
    · unfold FX7_remember
      have hb : (if nI L.length = (14 : Int32) then (b1 (FX7_remember_L11 m qfuel (0 : Int32) σ) fun s12 => b1 (gI s12 m 5 6) fun v13 => b1 (gP s12 m 5 6 (.int (v13 - (1 : Int32)))) fun s15 => some s15) else some σ) = some σ :=
        if_neg (fun hh => c ((nI_eq (a := L.length) (b := 14) (by omega) (by omega)).mp hh))
      rw [r0.1, b1_s, r0.2.2.2.2.2.2.2.1, b1_s, hb, b1_s, r0.2.2.2.2.1, b1_s, r0.2.2.2.2.2.2.1, b1_s, r0.2.2.2.2.2.2.2.1, b1_s]
      exact e3
    · rw [hl]; exact g3
    · rw [hl] at hj ⊢
      cases j with
      | zero =>
        have : (fun i => d' (142 * (L.length + 1 - 1 - 0) + i)) = (fun i => d' (142 * L.length + i)) := by funext i; congr 2
        rw [this]
        have e : ((A :: L).take 14).getD 0 newA = A := rfl
        rw [e]; exact rd
      | succ j =>
        rw [take14 (by omega)]
        have hB : okA (L.getD j newA) := hL _ (by rw [List.getD_eq_getElem?_getD, List.getElem?_eq_getElem (by omega)]; exact List.getElem_mem _)
        refine zR_c (d3 j (by omega)) hB (fun i hi => ?_)
        rw [kd _ (by omega)]
        congr 1; omega
/-- the row in a longer array is copied into now -/
theorem M_fro {a n o : Nat} {d : Nat → Int32} {B : AS} (h : isM σ m A L K N f rf) (hB : okA B) (ha : a ≠ m + 2) (hn : o + 142 ≤ n) (hn2 : n < 2 ^ 31) (hd : σ a = some (iA n d)) (hr : zR B (fun i => d (o + i))) : ∃ σ', FX7_copyState a (nI o) (m + 2) 0 σ = some σ' ∧ isM σ' m B L K N f rf ∧ OfZ σ σ' (m + 2) := by
  obtain ⟨z, hz0, hz⟩ := h.2.2.1
  obtain ⟨σ1, e1, g1, o1⟩ := copyState_e (a0 := a) (a2 := m + 2) (o1 := o) (o2 := 0) (f := d) (g := z) ha hn (Nat.le_refl _) hn2 (by omega) hd hz0
  have p1 : isZ σ1 (m + 2) B := R_isZ g1 (zR_c hr hB (fun j hj => by
    have := cpz_in (f := d) (g := z) (o1 := o) (o2 := 0) hj
    rw [Nat.zero_add] at this; exact this))
  exact ⟨σ1, e1, M_now h p1 o1, o1⟩
/-- fewer states are remembered -/
theorem M_acts {L' : List AS} (h : isM σ m A L K N f rf) (hd : mD σ (m + 4) L') : ∃ σ', gP σ m 5 6 (.int (nI L'.length)) = some σ' ∧ isM σ' m A L' K N f rf ∧ OfZ σ σ' m := by
  obtain ⟨⟨sp, ou, h0⟩, h1, h2, h3, h4, h5⟩ := h
  obtain ⟨σ1, e1, g1, o1⟩ := M_w6 h0 L'.length
  exact ⟨σ1, e1, ⟨⟨sp, ou, g1⟩, mT_s h1 (o1 _ (by omega)), isZ_s h2 (o1 _ (by omega)), mR_s h3 (o1 _ (by omega)), mD_s hd (o1 _ (by omega)), mK_s h5 (o1 _ (by omega)) (o1 _ (by omega))⟩, o1⟩
theorem M_keep (h : isM σ m A L K N f rf) (hA : okA A) (hK : ∀ i B, i < 2 → K i = some B → okA B) {i : Nat} (hi : i < 2) : ∃ σ1, FX7_copyState (m + 2) 0 (m + 5) ((142 : Int32) * nI i) σ = some σ1 ∧ gR σ1 m 5 8 = some (m + 6) ∧ ∃ σ2, sZ σ1 (m + 6) (nI i) 1 = some σ2 ∧ isM σ2 m A L (fset K i (some A)) N f rf ∧ Ch σ σ2 m (m + 6) := by
  have hi8 := M_i h
  obtain ⟨⟨sp, ou, h0⟩, h1, h2, h3, h4, ⟨kk, g, k1, k2, k3, k4⟩⟩ := h
  obtain ⟨z, hz0, hr⟩ := h2
  obtain ⟨σ1, e1, g1, o1⟩ := copyState_e (a0 := m + 2) (a2 := m + 5) (o1 := 0) (o2 := 142 * i) (f := z) (g := kk) (by omega) (Nat.le_refl _) (by omega) (by omega) (by omega) hz0 k1
  have e1' : FX7_copyState (m + 2) 0 (m + 5) ((142 : Int32) * nI i) σ = some σ1 := by
    rw [show (142 : Int32) = nI 142 from rfl, pk_mul]; exact e1
  have hg : σ1 (m + 6) = some (zA 2 g) := by rw [o1 _ (by omega)]; exact k3
  have e2 := sZ_e (x := 1) hg hi (by omega)
  rw [nar_1] at e2
  refine ⟨σ1, e1', by unfold gR; rw [o1 _ (by omega)]; exact hi8, _, e2, ?_⟩
  have o2 : OfZ σ1 (qU σ1 (m + 6) (zA 2 (upd g i 1))) (m + 6) := fun _ hb => qU_n hb
  have g2 : qU σ1 (m + 6) (zA 2 (upd g i 1)) (m + 6) = some (zA 2 (upd g i 1)) := qU_s
  generalize qU σ1 (m + 6) (zA 2 (upd g i 1)) = σ2 at o2 g2
  have keep : ∀ a, a ≠ m + 5 → a ≠ m + 6 → σ2 a = σ a := fun a ha hb => by rw [o2 a hb, o1 a ha]
  refine ⟨⟨⟨sp, ou, by rw [keep _ (by omega) (by omega)]; exact h0⟩, mT_s h1 (keep _ (by omega) (by omega)), isZ_s ⟨z, hz0, hr⟩ (keep _ (by omega) (by omega)), mR_s h3 (keep _ (by omega) (by omega)), mD_s h4 (keep _ (by omega) (by omega)), ⟨cpz z kk 0 (142 * i) 0 142, upd g i 1, by rw [o2 _ (by omega)]; exact g1, fun j B hj hB => ?_, g2, fun j hj => ?_⟩⟩, fun a ha => keep a (by omega) (by omega)⟩
  · by_cases c : j = i
    · subst c
      have hB' : (if j = j then some A else K j) = some B := hB
      rw [if_pos rfl] at hB'
      cases hB'
      exact zR_c hr hA (fun x hx => by
        have := cpz_in (f := z) (g := kk) (o1 := 0) (o2 := 142 * j) hx
        rw [Nat.zero_add] at this; exact this)
    · have hB' : (if j = i then some A else K j) = some B := hB
      rw [if_neg c] at hB'
      refine zR_c (k2 j B hj hB') (hK j B hj hB') (fun x hx => ?_)
      rw [cpz_out (by omega)]
  · by_cases c : j = i
    · subst c; rw [upd_e]; show _ = bit (if j = j then some A else K j); rw [if_pos rfl]; rfl
    · rw [upd_n c, k4 j hj]; show _ = bit (if j = i then some A else K j); rw [if_neg c]
theorem M_isk (h : isM σ m A L K N f rf) {i : Nat} (hi : i < 2) : aZ σ (m + 6) (nI i) = some (bit (K i)) := by
  obtain ⟨kk, g, k1, k2, k3, k4⟩ := h.2.2.2.2.2
  rw [aZ_e k3 hi (by omega), k4 i hi]
end MD
