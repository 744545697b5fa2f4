/-! Layer 2: the reference's state. -/
abbrev oM (m N k : Nat) (rf sp ou : Int32) : qE := .inr (5, [.int rf, .ref (m + 1), .int (nI N), .ref (m + 2), .ref (m + 3), .ref (m + 4), .int (nI k), .ref (m + 5), .ref (m + 6), .int sp, .int ou])
def mT (σ : qH) (a N : Nat) (f : Nat → Nat) : Prop := ∃ ts, σ a = some (iA 120 ts) ∧ txR N f ts
def mR (σ : qH) (a : Nat) : Prop := ∃ z, σ a = some (iA 142 z)
def mD (σ : qH) (a : Nat) (L : List AS) : Prop := ∃ d : Nat → Int32, L.length ≤ 14 ∧ σ a = some (iA 1988 d) ∧ ∀ j, j < L.length → zR (L.getD j newA) (fun i => d (142 * (L.length - 1 - j) + i))
def mK (σ : qH) (m : Nat) (K : Nat → Option AS) : Prop := ∃ kk g : Nat → Int32, σ (m + 5) = some (iA 284 kk) ∧ (∀ i B, i < 2 → K i = some B → zR B (fun j => kk (142 * i + j))) ∧ σ (m + 6) = some (zA 2 g) ∧ ∀ i, i < 2 → g i = bit (K i)
def isM (σ : qH) (m : Nat) (A : AS) (L : List AS) (K : Nat → Option AS) (N : Nat) (f : Nat → Nat) (rf : Int32) : Prop := (∃ sp ou, σ m = some (oM m N L.length rf sp ou)) ∧ mT σ (m + 1) N f ∧ isZ σ (m + 2) A ∧ mR σ (m + 3) ∧ mD σ (m + 4) L ∧ mK σ m K
section MO
variable {σ : qH} {m N k : Nat} {rf sp ou : Int32}
theorem M_r (h : σ m = some (oM m N k rf sp ou)) : gC σ m 5 = some () ∧ gI σ m 5 0 = some rf ∧ gR σ m 5 1 = some (m + 1) ∧ gI σ m 5 2 = some (nI N) ∧ gR σ m 5 3 = some (m + 2) ∧ gR σ m 5 4 = some (m + 3) ∧ gR σ m 5 5 = some (m + 4) ∧ gI σ m 5 6 = some (nI k) ∧ gR σ m 5 7 = some (m + 5) ∧ gR σ m 5 8 = some (m + 6) ∧ gI σ m 5 9 = some sp ∧ gI σ m 5 10 = some ou :=
  ⟨gC_e h, gI_e h rfl, gR_e h rfl, gI_e h rfl, gR_e h rfl, gR_e h rfl, gR_e h rfl, gI_e h rfl, gR_e h rfl, gR_e h rfl, gI_e h rfl, gI_e h rfl⟩
theorem M_w0 (h : σ m = some (oM m N k rf sp ou)) (x : Int32) : ∃ σ', gP σ m 5 0 (.int x) = some σ' ∧ σ' m = some (oM m N k x sp ou) ∧ OfZ σ σ' m := ⟨_, gP_e h (Nat.le_of_ble_eq_true rfl), qU_s, fun _ hb => qU_n hb⟩
theorem M_w2 (h : σ m = some (oM m N k rf sp ou)) (x : Nat) : ∃ σ', gP σ m 5 2 (.int (nI x)) = some σ' ∧ σ' m = some (oM m x k rf sp ou) ∧ OfZ σ σ' m := ⟨_, gP_e h (Nat.le_of_ble_eq_true rfl), qU_s, fun _ hb => qU_n hb⟩
theorem M_w6 (h : σ m = some (oM m N k rf sp ou)) (x : Nat) : ∃ σ', gP σ m 5 6 (.int (nI x)) = some σ' ∧ σ' m = some (oM m N x rf sp ou) ∧ OfZ σ σ' m := ⟨_, gP_e h (Nat.le_of_ble_eq_true rfl), qU_s, fun _ hb => qU_n hb⟩
theorem M_w9 (h : σ m = some (oM m N k rf sp ou)) (x : Int32) : ∃ σ', gP σ m 5 9 (.int x) = some σ' ∧ σ' m = some (oM m N k rf x ou) ∧ OfZ σ σ' m := ⟨_, gP_e h (Nat.le_of_ble_eq_true rfl), qU_s, fun _ hb => qU_n hb⟩
theorem M_w10 (h : σ m = some (oM m N k rf sp ou)) (x : Int32) : ∃ σ', gP σ m 5 10 (.int x) = some σ' ∧ σ' m = some (oM m N k rf sp x) ∧ OfZ σ σ' m := ⟨_, gP_e h (Nat.le_of_ble_eq_true rfl), qU_s, fun _ hb => qU_n hb⟩
theorem mT_s {σ' : qH} {a : Nat} {f : Nat → Nat} (h : mT σ a N f) (e : σ' a = σ a) : mT σ' a N f := by
  obtain ⟨ts, h1, h2⟩ := h
  exact ⟨ts, by rw [e]; exact h1, h2⟩
theorem mR_s {σ' : qH} {a : Nat} (h : mR σ a) (e : σ' a = σ a) : mR σ' a := by
  obtain ⟨z, h1⟩ := h
  exact ⟨z, by rw [e]; exact h1⟩
theorem mR_z {a : Nat} {A : AS} (h : isZ σ a A) : mR σ a := by
  obtain ⟨z, h1, -⟩ := h
  exact ⟨z, h1⟩
theorem mD_s {σ' : qH} {a : Nat} {L : List AS} (h : mD σ a L) (e : σ' a = σ a) : mD σ' a L := by
  obtain ⟨d, h1, h2, h3⟩ := h
  exact ⟨d, h1, by rw [e]; exact h2, h3⟩
theorem mK_s {σ' : qH} {K : Nat → Option AS} (h : mK σ m K) (e : σ' (m + 5) = σ (m + 5)) (e2 : σ' (m + 6) = σ (m + 6)) : mK σ' m K := by
  obtain ⟨kk, g, h1, h2, h3, h4⟩ := h
  exact ⟨kk, g, by rw [e]; exact h1, h2, by rw [e2]; exact h3, h4⟩
end MO
section MS
variable {σ σ' : qH} {m N N' : Nat} {A A' : AS} {L L' : List AS} {K K' : Nat → Option AS} {f f' : Nat → Nat} {rf x : Int32}
theorem M_all (h : isM σ m A L K N f rf) (o : ∀ a, m ≤ a → a ≤ m + 6 → σ' a = σ a) : isM σ' m A L K N f rf := by
  obtain ⟨⟨sp, ou, h0⟩, h1, h2, h3, h4, h5⟩ := h
  exact ⟨⟨sp, ou, by rw [o _ (by omega) (by omega)]; exact h0⟩, mT_s h1 (o _ (by omega) (by omega)), isZ_s h2 (o _ (by omega) (by omega)), mR_s h3 (o _ (by omega) (by omega)), mD_s h4 (o _ (by omega) (by omega)), mK_s h5 (o _ (by omega) (by omega)) (o _ (by omega) (by omega))⟩
theorem M_obj (h : isM σ m A L K N f rf) {sp ou : Int32} (g : σ' m = some (oM m N L.length x sp ou)) (o : OfZ σ σ' m) : isM σ' m A L K N f x := by
  obtain ⟨-, h1, h2, h3, h4, h5⟩ := h
  exact ⟨⟨sp, ou, g⟩, mT_s h1 (o _ (by omega)), isZ_s h2 (o _ (by omega)), mR_s h3 (o _ (by omega)), mD_s h4 (o _ (by omega)), mK_s h5 (o _ (by omega)) (o _ (by omega))⟩
theorem M_now (h : isM σ m A L K N f rf) (p : isZ σ' (m + 2) A') (o : OfZ σ σ' (m + 2)) : isM σ' m A' L K N f rf := by
  obtain ⟨⟨sp, ou, h0⟩, h1, h2, h3, h4, h5⟩ := h
  exact ⟨⟨sp, ou, by rw [o _ (by omega)]; exact h0⟩, mT_s h1 (o _ (by omega)), p, mR_s h3 (o _ (by omega)), mD_s h4 (o _ (by omega)), mK_s h5 (o _ (by omega)) (o _ (by omega))⟩
theorem M_tri (h : isM σ m A L K N f rf) (p : mR σ' (m + 3)) (o : OfZ σ σ' (m + 3)) : isM σ' m A L K N f rf := by
  obtain ⟨⟨sp, ou, h0⟩, h1, h2, h3, h4, h5⟩ := h
  exact ⟨⟨sp, ou, by rw [o _ (by omega)]; exact h0⟩, mT_s h1 (o _ (by omega)), isZ_s h2 (o _ (by omega)), p, mD_s h4 (o _ (by omega)), mK_s h5 (o _ (by omega)) (o _ (by omega))⟩
theorem M_get (h : isM σ m A L K N f rf) : gC σ m 5 = some () ∧ gI σ m 5 0 = some rf ∧ gR σ m 5 1 = some (m + 1) ∧ gI σ m 5 2 = some (nI N) ∧ gR σ m 5 3 = some (m + 2) ∧ gR σ m 5 4 = some (m + 3) ∧ gR σ m 5 5 = some (m + 4) ∧ gI σ m 5 6 = some (nI L.length) ∧ gR σ m 5 7 = some (m + 5) ∧ gR σ m 5 8 = some (m + 6) := by
  obtain ⟨⟨sp, ou, h0⟩, -⟩ := h
  have r := M_r h0
  exact ⟨r.1, r.2.1, r.2.2.1, r.2.2.2.1, r.2.2.2.2.1, r.2.2.2.2.2.1, r.2.2.2.2.2.2.1, r.2.2.2.2.2.2.2.1, r.2.2.2.2.2.2.2.2.1, r.2.2.2.2.2.2.2.2.2.1⟩
theorem M_c (h : isM σ m A L K N f rf) : gC σ m 5 = some () := (M_get h).1
theorem M_n (h : isM σ m A L K N f rf) : gR σ m 5 3 = some (m + 2) := (M_get h).2.2.2.2.1
theorem M_t (h : isM σ m A L K N f rf) : gR σ m 5 4 = some (m + 3) := (M_get h).2.2.2.2.2.1
theorem M_d (h : isM σ m A L K N f rf) : gR σ m 5 5 = some (m + 4) := (M_get h).2.2.2.2.2.2.1
theorem M_a (h : isM σ m A L K N f rf) : gI σ m 5 6 = some (nI L.length) := (M_get h).2.2.2.2.2.2.2.1
theorem M_k (h : isM σ m A L K N f rf) : gR σ m 5 7 = some (m + 5) := (M_get h).2.2.2.2.2.2.2.2.1
theorem M_i (h : isM σ m A L K N f rf) : gR σ m 5 8 = some (m + 6) := (M_get h).2.2.2.2.2.2.2.2.2
theorem M_z (h : isM σ m A L K N f rf) : isZ σ (m + 2) A := h.2.2.1
/-- thrown is told, 0 or a number -/
theorem ref_w (h : isM σ m A L K N f rf) (y : Int32) : ∃ σ', gP σ m 5 0 (.int y) = some σ' ∧ isM σ' m A L K N f y ∧ OfZ σ σ' m := by
  obtain ⟨sp, ou, h0⟩ := h.1
  obtain ⟨σ1, e1, g1, o1⟩ := M_w0 h0 y
  exact ⟨σ1, e1, M_obj h g1 o1, o1⟩
theorem ref_0 (h : isM σ m A L K N f rf) : ∃ σ', FX7_refused m 0 σ = some (0, σ') ∧ isM σ' m A L K N f 0 ∧ OfZ σ σ' m := by
  obtain ⟨σ1, e1, g1, o1⟩ := ref_w h 0
  refine ⟨σ1, ?_, g1, o1⟩
  unfold FX7_refused
  rw [M_c h, b1_s, e1, b1_s]; rfl
theorem ref_1 (h : isM σ m A L K N f rf) : ∃ σ', FX7_refused m 1 σ = some (1, σ') ∧ isM σ' m A L K N f 1 ∧ OfZ σ σ' m := by
  obtain ⟨σ1, e1, g1, o1⟩ := ref_w h 1
  refine ⟨σ1, ?_, g1, o1⟩
  unfold FX7_refused
  rw [M_c h, b1_s, e1, b1_s, if_neg (by decide), b1_s, if_pos (Or.inr rfl)]
theorem ref_2 (h : isM σ m A L K N f rf) : ∃ σ', FX7_refused m 2 σ = some (1, σ') ∧ isM σ' m A L K N f 2 ∧ OfZ σ σ' m := by
  obtain ⟨σ1, e1, g1, o1⟩ := ref_w h 2
  refine ⟨σ1, ?_, g1, o1⟩
  unfold FX7_refused
  rw [M_c h, b1_s, e1, b1_s, if_neg (by decide), b1_s, if_pos (Or.inr rfl)]
theorem ref_3 (h : isM σ m A L K N f rf) : ∃ σ', FX7_refused m 3 σ = some (1, σ') ∧ isM σ' m A L K N f 3 ∧ OfZ σ σ' m := by
  obtain ⟨σ1, e1, g1, o1⟩ := ref_w h 3
  refine ⟨σ1, ?_, g1, o1⟩
  unfold FX7_refused
  rw [M_c h, b1_s, e1, b1_s, if_neg (by decide), b1_s, if_pos (Or.inr rfl)]
/-- the trial row is a copy of now -/
theorem M_cpy (h : isM σ m A L K N f rf) (hA : okA A) : ∃ σ', FX7_copyState (m + 2) 0 (m + 3) 0 σ = some σ' ∧ isZ σ' (m + 3) A ∧ isM σ' m A L K N f rf ∧ OfZ σ σ' (m + 3) := by
  obtain ⟨z, h0, hr⟩ := h.2.2.1
  obtain ⟨z2, h1⟩ := h.2.2.2.1
  obtain ⟨σ1, e1, g1, o1⟩ := copyState_e (a0 := m + 2) (a2 := m + 3) (o1 := 0) (o2 := 0) (f := z) (by omega) (Nat.le_refl _) (Nat.le_refl _) (by omega) (by omega) h0 h1
  have p1 : isZ σ1 (m + 3) A := R_isZ g1 (zR_c hr hA (fun j hj => by
    have := cpz_in (f := z) (g := z2) (o1 := 0) (o2 := 0) hj
    rw [Nat.zero_add] at this; exact this))
  exact ⟨σ1, e1, p1, M_tri h ⟨_, g1⟩ o1, o1⟩
end MS
section MQ
variable {σ : qH} {x y k a b c e : Int32}
theorem zin_0_1 : FX7_in x.toInt64 0 1 σ = some (bI (inZ x 0 1)) := in_l 0 1 rfl rfl
theorem zin_0_2 : FX7_in x.toInt64 0 2 σ = some (bI (inZ x 0 2)) := in_l 0 2 rfl rfl
theorem zin_0_4 : FX7_in x.toInt64 0 4 σ = some (bI (inZ x 0 4)) := in_l 0 4 rfl rfl
theorem zin_0_5 : FX7_in x.toInt64 0 5 σ = some (bI (inZ x 0 5)) := in_l 0 5 rfl rfl
theorem zin_0_9 : FX7_in x.toInt64 0 9 σ = some (bI (inZ x 0 9)) := in_l 0 9 rfl rfl
theorem zin_0_10 : FX7_in x.toInt64 0 10 σ = some (bI (inZ x 0 10)) := in_l 0 10 rfl rfl
theorem zin_0_20 : FX7_in x.toInt64 0 20 σ = some (bI (inZ x 0 20)) := in_l 0 20 rfl rfl
theorem zin_0_50 : FX7_in x.toInt64 0 50 σ = some (bI (inZ x 0 50)) := in_l 0 50 rfl rfl
theorem zin_0_255 : FX7_in x.toInt64 0 255 σ = some (bI (inZ x 0 255)) := in_l 0 255 rfl rfl
theorem zin_1_3 : FX7_in x.toInt64 1 3 σ = some (bI (inZ x 1 3)) := in_l 1 3 rfl rfl
theorem zin_1_9 : FX7_in x.toInt64 1 9 σ = some (bI (inZ x 1 9)) := in_l 1 9 rfl rfl
theorem zin_1_20 : FX7_in x.toInt64 1 20 σ = some (bI (inZ x 1 20)) := in_l 1 20 rfl rfl
theorem zin_1_40 : FX7_in x.toInt64 1 40 σ = some (bI (inZ x 1 40)) := in_l 1 40 rfl rfl
theorem zin_1_60 : FX7_in x.toInt64 1 60 σ = some (bI (inZ x 1 60)) := in_l 1 60 rfl rfl
theorem zin_1_400 : FX7_in x.toInt64 1 400 σ = some (bI (inZ x 1 400)) := in_l 1 400 rfl rfl
theorem zin_1_999 : FX7_in x.toInt64 1 999 σ = some (bI (inZ x 1 999)) := in_l 1 999 rfl rfl
theorem zisS_e : FX7_isSteeple x σ = some (bI (inZ x 0 2)) := by
  unfold FX7_isSteeple; rw [zin_0_2, b1_s, bI_g]
theorem zisT_e : FX7_isTeller x σ = some (bI (inZ x 0 5)) := by
  unfold FX7_isTeller; rw [zin_0_5, b1_s, bI_g]
theorem zisM_e {q : Nat} {A : AS} (h : isZ σ q A) (hA : okA A) : FX7_isMeasure q x σ = some (bI (inZ x 0 ((nM A : Int) - 1))) := by
  have n16' : nM A ≤ 16 := hA.1
  have e1 : (nI (nM A) - 1).toInt = (nM A : Int) - 1 := nI_sT (b := 1) (by omega) (by omega)
  have e2 : FX7_in x.toInt64 0 (nI (nM A) - 1).toInt64 σ = some (bI (inZ x 0 (nI (nM A) - 1).toInt)) := in_l 0 (nI (nM A) - 1) rfl rfl
  unfold FX7_isMeasure
  rw [z_n h, b1_s, e2, b1_s, bI_g]
  exact congrArg some (bI_c (by rw [e1]))
theorem zset_e : FX7_isSetting x y σ = some (bI (setP x y)) := by
  unfold FX7_isSetting
  simp only [zin_0_5, zin_0_50, b1_s, bI_ite]
  by_cases c0 : x = 0
  · rw [if_pos c0]
    have c1 : ¬ x = 1 := fun hh => by rw [c0] at hh; exact absurd hh (by decide)
    by_cases c2 : inZ y 0 5
    · rw [if_pos c2, b1_s, if_pos (Or.inr rfl), bI_t (Or.inl ⟨c0, c2⟩)]
    · rw [if_neg c2, if_neg c1, b1_s, if_pos (Or.inl rfl), bI_f]
      rintro (z | z)
      · exact c2 z.2
      · exact c1 z.1
  · rw [if_neg c0]
    by_cases c1 : x = 1
    · rw [if_pos c1]
      by_cases c2 : inZ y 0 50
      · rw [if_pos c2, b1_s, if_pos (Or.inr rfl), bI_t (Or.inr ⟨c1, c2⟩)]
      · rw [if_neg c2, b1_s, if_pos (Or.inl rfl), bI_f]
        rintro (z | z)
        · exact c0 z.1
        · exact c2 z.2
    · rw [if_neg c1, b1_s, if_pos (Or.inl rfl), bI_f]
      rintro (z | z)
      · exact c0 z.1
      · exact c1 z.1
theorem zfine_e : FX7_areFine k a b c e σ = some (bI (fitP k a b c e)) := by
  unfold FX7_areFine
  have e9 : FX7_in b.toInt64 a.toInt64 999 σ = some (bI (inZ b a.toInt 999)) := in_l a 999 rfl rfl
  simp only [zin_1_20, zin_1_40, zin_1_400, zin_0_20, zin_1_9, zin_1_60, zin_1_999, e9, b1_s, bI_ite, bI_1, bI_and, bI_g]
  by_cases k0 : k = 0
  · rw [if_pos k0]
    subst k0
    congr 1; refine bI_c ⟨fun z => Or.inl ⟨rfl, z⟩, fun z => ?_⟩
    rcases z with z | z | z
    · exact z.2
    · exact absurd z.1 (by decide)
    · exact absurd z.1 (by decide)
  · rw [if_neg k0]
    by_cases k1 : k = 1
    · rw [if_pos k1]
      subst k1
      congr 1; refine bI_c ⟨fun z => Or.inr (Or.inl ⟨rfl, z⟩), fun z => ?_⟩
      rcases z with z | z | z
      · exact absurd z.1 (by decide)
      · exact z.2
      · exact absurd z.1 (by decide)
    · rw [if_neg k1]
      congr 1; refine bI_c ⟨fun z => Or.inr (Or.inr ⟨z.1, z.2.1, ⟨?_, z.2.2.1.2⟩, z.2.2.1.1, z.2.2.2.1, z.2.2.2.2⟩), fun z => ?_⟩
      · have := z.2.1.1; have := z.2.2.1.1; omega
      · rcases z with z | z | z
        · exact absurd z.1 k0
        · exact absurd z.1 k1
        · exact ⟨z.1, z.2.1, ⟨z.2.2.2.1, z.2.2.1.2⟩, z.2.2.2.2.1, z.2.2.2.2.2⟩
end MQ
