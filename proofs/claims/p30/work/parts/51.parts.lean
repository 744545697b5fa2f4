/-! Layer 2: the state's parts, each over its own addresses; the class's history. -/
def Ch (σ σ' : qH) (lo hi : Nat) : Prop := ∀ a, (a < lo ∨ hi < a) → σ' a = σ a
theorem Ch.tr {σ σ1 σ2 : qH} {lo hi : Nat} (h1 : Ch σ σ1 lo hi) (h2 : Ch σ1 σ2 lo hi) : Ch σ σ2 lo hi := fun a h => (h2 a h).trans (h1 a h)
theorem Ch.rf {σ : qH} {lo hi : Nat} : Ch σ σ lo hi := fun _ _ => rfl
theorem Ch.wk {σ σ' : qH} {lo hi lo' hi' : Nat} (h : Ch σ σ' lo hi) (h1 : lo' ≤ lo) (h2 : hi ≤ hi') : Ch σ σ' lo' hi' := fun a ha => h a (by omega)
theorem Off.ch {σ σ' : qH} {q lo hi : Nat} (o : Off σ σ' q) (h1 : lo ≤ q) (h2 : q + 6 ≤ hi) : Ch σ σ' lo hi := fun a ha => o a (by omega)
theorem OfZ.ch {σ σ' : qH} {b lo hi : Nat} (o : OfZ σ σ' b) (h1 : lo ≤ b) (h2 : b ≤ hi) : Ch σ σ' lo hi := fun a ha => o a (by omega)
def cRaw (σ : qH) (q : Nat) : Prop := ∃ m t r w v s c, rawP σ q m t r w v s c
theorem isP_cr {σ : qH} {q : Nat} {A : AS} (h : isP σ q A) : cRaw σ q := by
  obtain ⟨m, t, r, w, v, s, c, hr, -⟩ := isP_raw h
  exact ⟨m, t, r, w, v, s, c, hr⟩
theorem raw_s {σ σ' : qH} {q : Nat} {m t r w v s c : Nat → Int32} (h : rawP σ q m t r w v s c) (e : ∀ a, q ≤ a → a ≤ q + 6 → σ' a = σ a) : rawP σ' q m t r w v s c := by
  obtain ⟨h0, h1, h2, h3, h4, h5, h6⟩ := h
  exact ⟨by rw [e _ (by omega) (by omega)]; exact h0, by rw [e _ (by omega) (by omega)]; exact h1, by rw [e _ (by omega) (by omega)]; exact h2, by rw [e _ (by omega) (by omega)]; exact h3, by rw [e _ (by omega) (by omega)]; exact h4, by rw [e _ (by omega) (by omega)]; exact h5, by rw [e _ (by omega) (by omega)]; exact h6⟩
theorem cRaw_s {σ σ' : qH} {q : Nat} (h : cRaw σ q) (e : ∀ a, q ≤ a → a ≤ q + 6 → σ' a = σ a) : cRaw σ' q := by
  obtain ⟨m, t, r, w, v, s, c, hr⟩ := h
  exact ⟨m, t, r, w, v, s, c, raw_s hr e⟩
theorem isP_s {σ σ' : qH} {q : Nat} {A : AS} (h : isP σ q A) (e : ∀ a, q ≤ a → a ≤ q + 6 → σ' a = σ a) : isP σ' q A := by
  obtain ⟨m, t, r, w, v, s, c, hr, hp⟩ := isP_raw h
  exact raw_isP (raw_s hr e) hp
theorem isZ_s {σ σ' : qH} {a : Nat} {A : AS} (h : isZ σ a A) (e : σ' a = σ a) : isZ σ' a A := by
  obtain ⟨z, h0, hr⟩ := h
  exact ⟨z, by rw [e]; exact h0, hr⟩
abbrev rA (n : Nat) (f : Nat → Option Nat) : qE := .inl (2, (n, .inr (.inr (.inr (.inr f)))))
abbrev zA (n : Nat) (f : Nat → Int32) : qE := .inl (1, (n, .inl f))
theorem aQ_e {σ : qH} {a n i v : Nat} {f : Nat → Option Nat} (h : σ a = some (rA n f)) (hi : i < n) (hn : n < 2 ^ 31) (hv : f i = some v) : aQ σ a (nI i) = some v := by
  have h2 := qin_n hi hn
  unfold aQ
  rw [h]
  show (if 2 = 2 ∧ qin (nI i) n then f (nI i).toNatClampNeg else none) = _
  rw [if_pos ⟨rfl, h2⟩, nI_clamp (by omega), hv]
theorem aZ_e {σ : qH} {a n i : Nat} {f : Nat → Int32} (h : σ a = some (zA n f)) (hi : i < n) (hn : n < 2 ^ 31) : aZ σ a (nI i) = some (f i) := by
  have h2 := qin_n hi hn
  unfold aZ
  rw [h]
  show (if 1 = 1 ∧ qin (nI i) n then some (f (nI i).toNatClampNeg) else none) = _
  rw [if_pos ⟨rfl, h2⟩, nI_clamp (by omega)]
theorem sZ_e {σ : qH} {a n i : Nat} {f : Nat → Int32} {x : Int32} (h : σ a = some (zA n f)) (hi : i < n) (hn : n < 2 ^ 31) : sZ σ a (nI i) x = some (qU σ a (zA n (upd f i (vp_nar .boolean x)))) := by
  have h2 := qin_n hi hn
  unfold sZ
  rw [h]
  show (if 1 = 1 ∧ qin (nI i) n then some (qU σ a (.inl (1, (n, .inl (upd f (nI i).toNatClampNeg (vp_nar .boolean x)))))) else none) = _
  rw [if_pos ⟨rfl, h2⟩, nI_clamp (by omega)]
theorem nar_0 : vp_nar .boolean (0 : Int32) = 0 := rfl
theorem nar_1 : vp_nar .boolean (1 : Int32) = 1 := rfl
/-- the remembered states, the newest first, in a ring -/
abbrev oH (b nx k : Nat) : qE := .inr (1, [.ref (b + 1), .int (nI nx), .int (nI k)])
def cHis (σ : qH) (b : Nat) (L : List AS) : Prop := ∃ (nx : Nat) (f : Nat → Option Nat), nx < 14 ∧ L.length ≤ 14 ∧ σ b = some (oH b nx L.length) ∧ σ (b + 1) = some (rA 14 f) ∧ (∀ i, i < 14 → f i = some (b + 2 + 7 * i)) ∧ (∀ i, i < 14 → cRaw σ (b + 2 + 7 * i)) ∧ ∀ j, j < L.length → isP σ (b + 2 + 7 * ((nx + 13 - j) % 14)) (L.getD j newA)
theorem cHis_s {σ σ' : qH} {b : Nat} {L : List AS} (h : cHis σ b L) (e : ∀ a, b ≤ a → a ≤ b + 99 → σ' a = σ a) : cHis σ' b L := by
  obtain ⟨nx, f, h1, h2, h3, h4, h5, h6, h7⟩ := h
  refine ⟨nx, f, h1, h2, by rw [e _ (by omega) (by omega)]; exact h3, by rw [e _ (by omega) (by omega)]; exact h4, h5, fun i hi => cRaw_s (h6 i hi) (fun a ha hb => e a (by omega) (by omega)), fun j hj => isP_s (h7 j hj) (fun a ha hb => e a (by omega) (by omega))⟩
theorem H_r {σ : qH} {b nx k : Nat} (h : σ b = some (oH b nx k)) : gC σ b 1 = some () ∧ gR σ b 1 0 = some (b + 1) ∧ gI σ b 1 1 = some (nI nx) ∧ gI σ b 1 2 = some (nI k) :=
  ⟨gC_e h, gR_e h rfl, gI_e h rfl, gI_e h rfl⟩
theorem H_w1 {σ : qH} {b nx k : Nat} (h : σ b = some (oH b nx k)) (x : Nat) : ∃ σ', gP σ b 1 1 (.int (nI x)) = some σ' ∧ σ' b = some (oH b x k) ∧ OfZ σ σ' b := ⟨_, gP_e h (Nat.le_of_ble_eq_true rfl), qU_s, fun _ hb => qU_n hb⟩
theorem H_w2 {σ : qH} {b nx k : Nat} (h : σ b = some (oH b nx k)) (x : Nat) : ∃ σ', gP σ b 1 2 (.int (nI x)) = some σ' ∧ σ' b = some (oH b nx x) ∧ OfZ σ σ' b := ⟨_, gP_e h (Nat.le_of_ble_eq_true rfl), qU_s, fun _ hb => qU_n hb⟩
theorem mn_14 {a : Nat} (h : a < 2 ^ 30) : mn 14 (nI a + 1) = nI (min 14 (a + 1)) := by
  rw [nI_1]
  unfold mn
  simp only [show (14 : Int32) = nI 14 from rfl, lt_nI (show a + 1 < 2 ^ 31 by omega) (show 14 < 2 ^ 31 by omega)]
  split
  · congr 1; omega
  · congr 1; omega
theorem remember_e {σ : qH} {b q : Nat} {A : AS} {L : List AS} (h : cHis σ b L) (hp : isP σ q A) (hA : okA A) (hd : q + 6 < b ∨ b + 99 < q) : ∃ σ', FX1_remember b q σ = some σ' ∧ cHis σ' b ((A :: L).take 14) ∧ Ch σ σ' b (b + 99) := by
  obtain ⟨nx, f, h1, h2, h3, h4, h5, h6, h7⟩ := h
  have aq := aQ_e h4 h1 (by omega) (h5 nx h1)
  obtain ⟨m, t, r, w, v, s, c, hraw⟩ := h6 nx h1
  obtain ⟨σ1, e1, p1, o1⟩ := takeFrom_e hraw hp hA (by omega)
  have g1 : σ1 b = some (oH b nx L.length) := by rw [o1 b (by omega)]; exact h3
  obtain ⟨σ2, e2, g2, o2⟩ := H_w1 g1 ((nx + 1) % 14)
  obtain ⟨σ3, e3, g3, o3⟩ := H_w2 g2 (min 14 (L.length + 1))
  have hx : (if (14 : Int32) ≤ nI nx + 1 then some (0 : Int32) else some (nI nx + 1)) = some (nI ((nx + 1) % 14)) := by
    have l14 : ((14 : Int32) ≤ nI (nx + 1)) = (14 ≤ nx + 1) := le_nI (a := 14) (by omega) (by omega)
    rw [nI_1]
    by_cases c14 : 14 ≤ nx + 1
    · rw [if_pos (l14 ▸ c14), show (nx + 1) % 14 = 0 by omega]; rfl
    · rw [if_neg (l14 ▸ c14), show (nx + 1) % 14 = nx + 1 by omega]
  have keep : ∀ a, a ≠ b → (a < b + 2 + 7 * nx ∨ b + 2 + 7 * nx + 6 < a) → σ3 a = σ a := fun a ha hb => by rw [o3 a ha, o2 a ha, o1 a hb]
  have keep1 : ∀ a, a ≠ b → σ3 a = σ1 a := fun a ha => by rw [o3 a ha, o2 a ha]
  refine ⟨σ3, ?_, ⟨(nx + 1) % 14, f, by omega, ?_, ?_, ?_, h5, fun i hi => ?_, fun j hj => ?_⟩, fun a ha => keep a (by omega) (by omega)⟩
  · unfold FX1_remember
    simp only [(H_r h3).1, (H_r h3).2.1, (H_r h3).2.2.1, b1_s, aq, e1, (H_r g1).2.2.1, hx, e2, (H_r g2).2.2.2, min_e, mn_14 (show L.length < 2 ^ 30 by omega), e3]
  · rw [List.length_take]; exact Nat.min_le_left _ _
  · rw [g3, List.length_take, List.length_cons]
  · rw [keep _ (by omega) (by omega)]; exact h4
  · by_cases ci : i = nx
    · rw [ci]; exact cRaw_s (isP_cr p1) (fun a ha hb => keep1 a (by omega))
    · exact cRaw_s (h6 i hi) (fun a ha hb => keep a (by omega) (by omega))
  · rw [List.length_take, List.length_cons] at hj
    cases j with
    | zero =>
      rw [show ((nx + 1) % 14 + 13 - 0) % 14 = nx by omega]
      exact isP_s p1 (fun a ha hb => keep1 a (by omega))
    | succ j =>
      have hj2 : j < L.length := by omega
      have hj3 : j + 1 < 14 := by omega
      have e : ((A :: L).take 14).getD (j + 1) newA = L.getD j newA := by
        rw [List.getD_eq_getElem?_getD, List.getElem?_take_of_lt hj3, List.getElem?_cons_succ, ← List.getD_eq_getElem?_getD]
      rw [e, show ((nx + 1) % 14 + 13 - (j + 1)) % 14 = (nx + 13 - j) % 14 by omega]
      exact isP_s (h7 j hj2) (fun a ha hb => keep a (by omega) (by omega))
theorem isEmpty_e {σ : qH} {b : Nat} {L : List AS} (h : cHis σ b L) : FX1_isEmpty b σ = some (if L = [] then 1 else 0) := by
  obtain ⟨nx, f, h1, h2, h3, -⟩ := h
  unfold FX1_isEmpty
  simp only [(H_r h3).1, (H_r h3).2.2.2, b1_s]
  cases L with
  | nil => rfl
  | cons B L =>
    have : ¬ nI (B :: L).length = 0 := fun hh => by
      have := (nI_eq (a := (B :: L).length) (b := 0) (by omega) (by omega)).mp hh
      cases this
    rw [if_neg this, if_neg (fun hh => by cases hh)]; rfl
theorem forget_e {σ : qH} {b : Nat} {L : List AS} (h : cHis σ b L) : ∃ σ', FX1_forget b σ = some σ' ∧ cHis σ' b [] ∧ OfZ σ σ' b := by
  obtain ⟨nx, f, h1, h2, h3, h4, h5, h6, h7⟩ := h
  obtain ⟨σ1, e1, g1, o1⟩ := H_w2 h3 0
  refine ⟨σ1, ?_, ⟨nx, f, h1, Nat.zero_le _, g1, ?_, h5, fun i hi => cRaw_s (h6 i hi) (fun a ha hb => o1 a (by omega)), fun j hj => absurd hj (Nat.not_lt_zero _)⟩, o1⟩
  · have e1' : gP σ b 1 2 (.int 0) = some σ1 := e1
    unfold FX1_forget
    simp only [(H_r h3).1, b1_s, e1']
  · rw [o1 _ (by omega)]; exact h4
theorem takeBack_e {σ : qH} {b q : Nat} {B : AS} {L : List AS} (h : cHis σ b (B :: L)) (hq : cRaw σ q) (hB : okA B) (hd : q + 6 < b ∨ b + 99 < q) : ∃ σ', FX1_takeBack b q σ = some (nI L.length, σ') ∧ isP σ' q B ∧ cHis σ' b L ∧ (∀ a, a ≠ b → (a < q ∨ q + 6 < a) → σ' a = σ a) := by
  obtain ⟨nx, f, h1, h2, h3, h4, h5, h6, h7⟩ := h
  rw [List.length_cons] at h2 h3
  obtain ⟨σ1, e1, g1, o1⟩ := H_w1 h3 ((nx + 13) % 14)
  obtain ⟨σ2, e2, g2, o2⟩ := H_w2 g1 L.length
  have k2 : ∀ a, a ≠ b → σ2 a = σ a := fun a ha => by rw [o2 a ha, o1 a ha]
  have h42 : σ2 (b + 1) = some (rA 14 f) := by rw [k2 _ (by omega)]; exact h4
  have hn : (nx + 13) % 14 < 14 := Nat.mod_lt _ (by omega)
  have aq := aQ_e h42 hn (by omega) (h5 _ hn)
  have pB := isP_s (h7 0 (by rw [List.length_cons]; omega)) (σ' := σ2) (fun a ha hb => k2 a (by omega))
  rw [show (nx + 13 - 0) % 14 = (nx + 13) % 14 by omega] at pB
  have pB' : isP σ2 (b + 2 + 7 * ((nx + 13) % 14)) B := pB
  obtain ⟨m, t, r, w, v, s, c, hraw⟩ := cRaw_s hq (σ' := σ2) (fun a ha hb => k2 a (by omega))
  obtain ⟨σ3, e3, p3, o3⟩ := takeFrom_e hraw pB' hB (by omega)
  have g3 : σ3 b = some (oH b ((nx + 13) % 14) L.length) := by rw [o3 b (by omega)]; exact g2
  have keep : ∀ a, a ≠ b → (a < q ∨ q + 6 < a) → σ3 a = σ a := fun a ha hb => by rw [o3 a hb, k2 a ha]
  have hx : (if nI nx ≤ 0 then some (13 : Int32) else some (nI nx - 1)) = some (nI ((nx + 13) % 14)) := by
    have l0' : (nI nx ≤ (0 : Int32)) = (nx ≤ 0) := le_nI (b := 0) (by omega) (by omega)
    by_cases c0 : nx ≤ 0
    · rw [if_pos (l0' ▸ c0), show (nx + 13) % 14 = 13 by omega]; rfl
    · rw [if_neg (l0' ▸ c0), show (nx + 13) % 14 = nx - 1 by omega, show nI nx - 1 = nI (nx - 1) from pk_sub (b := 1) (by omega)]
  have hy : nI (L.length + 1) - 1 = nI L.length := nI_pred _
  refine ⟨σ3, ?_, p3, ⟨(nx + 13) % 14, f, hn, by omega, g3, ?_, h5, fun i hi => cRaw_s (h6 i hi) (fun a ha hb => keep a (by omega) (by omega)), fun j hj => ?_⟩, keep⟩
  · unfold FX1_takeBack
    simp only [(H_r h3).1, (H_r h3).2.2.1, b1_s, hx, e1, (H_r g1).2.2.2, hy, e2, (H_r g2).2.1, (H_r g2).2.2.1, aq, e3, (H_r g3).2.2.2]
  · rw [keep _ (by omega) (by omega)]; exact h4
  · have e : (B :: L).getD (j + 1) newA = L.getD j newA := rfl
    have hh := h7 (j + 1) (by rw [List.length_cons]; omega)
    rw [e] at hh
    rw [show ((nx + 13) % 14 + 13 - j) % 14 = (nx + 13 - (j + 1)) % 14 by omega]
    exact isP_s hh (fun a ha hb => keep a (by omega) (by omega))
