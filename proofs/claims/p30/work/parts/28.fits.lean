abbrev inZ (x : Int32) (lo hi : Int) : Prop := lo ≤ x.toInt ∧ x.toInt ≤ hi
theorem rgR {α : Type} {x lo hi : Int32} {z r : α} : (if x < lo then z else if hi < x then z else r) = if inZ x lo.toInt hi.toInt then r else z := by
  simp only [Int32.lt_iff_toInt_lt]
  by_cases c1 : x.toInt < lo.toInt
  · rw [if_pos c1, if_neg (fun h => by have := h.1; omega)]
  · rw [if_neg c1]
    by_cases c2 : hi.toInt < x.toInt
    · rw [if_pos c2, if_neg (fun h => by have := h.2; omega)]
    · rw [if_neg c2, if_pos ⟨by omega, by omega⟩]
theorem rgL {α : Type} {x lo hi : Int32} {z r : α} : (if x < lo then z else if hi ≤ x then z else r) = if inZ x lo.toInt (hi.toInt - 1) then r else z := by
  simp only [Int32.lt_iff_toInt_lt, Int32.le_iff_toInt_le]
  by_cases c1 : x.toInt < lo.toInt
  · rw [if_pos c1, if_neg (fun h => by have := h.1; omega)]
  · rw [if_neg c1]
    by_cases c2 : hi.toInt ≤ x.toInt
    · rw [if_pos c2, if_neg (fun h => by have := h.2; omega)]
    · rw [if_neg c2, if_pos ⟨by omega, by omega⟩]
theorem bI_1 {p : Prop} [Decidable p] : (if p then some (1 : Int32) else some 0) = some (bI p) := by
  by_cases h : p
  · rw [if_pos h, bI_t h]
  · rw [if_neg h, bI_f h]
theorem bI_and {p q : Prop} [Decidable p] [Decidable q] : (if p then some (bI q) else some 0) = some (bI (p ∧ q)) := by
  by_cases h : p
  · rw [if_pos h]; congr 1; exact bI_c ⟨fun z => ⟨h, z⟩, fun z => z.2⟩
  · rw [if_neg h, bI_f (fun z => h z.1)]
theorem l0 : (0 : Int32).toInt = 0 := rfl
theorem l1 : (1 : Int32).toInt = 1 := rfl
theorem l2 : (2 : Int32).toInt = 2 := rfl
theorem l3 : (3 : Int32).toInt = 3 := rfl
theorem l5 : (5 : Int32).toInt = 5 := rfl
theorem l6 : (6 : Int32).toInt = 6 := rfl
theorem l9 : (9 : Int32).toInt = 9 := rfl
theorem l16 : (16 : Int32).toInt = 16 := rfl
theorem l20 : (20 : Int32).toInt = 20 := rfl
theorem l40 : (40 : Int32).toInt = 40 := rfl
theorem l50 : (50 : Int32).toInt = 50 := rfl
theorem l60 : (60 : Int32).toInt = 60 := rfl
theorem l400 : (400 : Int32).toInt = 400 := rfl
theorem l999 : (999 : Int32).toInt = 999 := rfl
theorem inZ_n {x : Int32} {h : Int} {lo : Int} (z : inZ x lo h) (hl : 0 ≤ lo) : ∃ n : Nat, x = nI n ∧ lo ≤ (n : Int) ∧ (n : Int) ≤ h := by
  refine ⟨x.toInt.toNat, ?_, ?_, ?_⟩
  · apply Int32.toInt_inj.mp
    have h1 := z.1
    have h2 := fb_rng x
    rw [nI_toInt (by omega)]
    omega
  · have h1 := z.1; omega
  · have h1 := z.2; have h2 := z.1; omega
theorem inZ_nI {n : Nat} {lo hi : Int} (h : n < 2 ^ 31) : inZ (nI n) lo hi ↔ lo ≤ (n : Int) ∧ (n : Int) ≤ hi := by unfold inZ; rw [nI_toInt h]
section FI
variable {x y a b c e k : Int32} {σ : qH}
theorem isSteeple_e : FX2_isSteeple x σ = some (bI (inZ x 0 2)) := by
  unfold FX2_isSteeple; simp only [rgL, bI_1, b1_s, bI_g]; rfl
theorem isTeller_e : FX2_isTeller x σ = some (bI (inZ x 0 5)) := by
  unfold FX2_isTeller; simp only [rgL, bI_1, b1_s, bI_g]; rfl
theorem isTrust_e : FX2_isTrust x σ = some (bI (inZ x 0 9)) := by
  unfold FX2_isTrust; simp only [rgR, bI_1, b1_s, bI_g]; rfl
theorem isHeight_e : FX2_isHeight x σ = some (bI (inZ x 1 999)) := by
  unfold FX2_isHeight; simp only [rgR, bI_1, b1_s, bI_g]; rfl
theorem isSetting_e : FX2_isSetting x σ = some (bI (inZ x 0 1)) := by
  unfold FX2_isSetting; simp only [rgL, bI_1, b1_s, bI_g]; rfl
theorem farSide_e : FX2_fitsFarSide x y σ = some (bI (inZ x 1 400 ∧ inZ y 0 20)) := by
  unfold FX2_fitsFarSide; simp only [rgR, bI_1, bI_and, b1_s, bI_g]; rfl
abbrev setP (i v : Int32) : Prop := (i = 0 ∧ inZ v 0 5) ∨ (i = 1 ∧ inZ v 0 50)
theorem fitsSetting_e : FX2_fitsSetting x y σ = some (bI (setP x y)) := by
  unfold FX2_fitsSetting
  simp only [isSetting_e, b1_s, bI_ite]
  by_cases c : inZ x 0 1
  · rw [if_pos c]
    by_cases c0 : x = 0
    · simp only [if_pos c0, b1_s, rgR, bI_1, bI_g]
      congr 1; refine bI_c ⟨fun z => Or.inl ⟨c0, z⟩, fun z => ?_⟩
      rcases z with z | z
      · exact z.2
      · rw [c0] at z; exact absurd z.1 (by decide)
    · simp only [if_neg c0, b1_s, rgR, bI_1, bI_g]
      have c1 : x = 1 := by
        apply Int32.toInt_inj.mp
        have h0 : x.toInt ≠ 0 := fun z => c0 (Int32.toInt_inj.mp z)
        have := c.1
        have := c.2
        rw [l1]; omega
      congr 1; refine bI_c ⟨fun z => Or.inr ⟨c1, z⟩, fun z => ?_⟩
      rcases z with z | z
      · exact absurd z.1 c0
      · exact z.2
  · rw [if_neg c, bI_f]
    · rfl
    · rintro (z | z)
      · exact c (by rw [z.1]; decide)
      · exact c (by rw [z.1]; decide)
abbrev fitP (k a b c e : Int32) : Prop := (k = 0 ∧ inZ a 1 20 ∧ inZ b 1 40 ∧ inZ c 1 400 ∧ inZ e 0 20) ∨ (k = 1 ∧ inZ a 1 9 ∧ inZ b 1 60 ∧ inZ c 1 400 ∧ inZ e 0 20) ∨ (k = 2 ∧ inZ a 1 999 ∧ inZ b 1 999 ∧ a.toInt ≤ b.toInt ∧ c = 0 ∧ e = 0)
theorem fits_e : FX2_fits k a b c e σ = some (bI (fitP k a b c e)) := by
  unfold FX2_fits
  simp only [farSide_e, isHeight_e, b1_s, bI_ite, rgR]
  by_cases k0 : k = 0
  · rw [if_pos k0]
    subst k0
    simp only [bI_1, bI_and, b1_s, bI_g]
    congr 1; refine bI_c ⟨fun z => Or.inl ⟨rfl, z⟩, fun z => ?_⟩
    rcases z with z | z | z
    · exact z.2
    · exact absurd z.1 (by decide)
    · exact absurd z.1 (by decide)
  · rw [if_neg k0]
    by_cases k1 : k = 1
    · rw [if_pos k1]
      subst k1
      simp only [bI_1, bI_and, b1_s, bI_g]
      congr 1; refine bI_c ⟨fun z => Or.inr (Or.inl ⟨rfl, z⟩), fun z => ?_⟩
      rcases z with z | z | z
      · exact absurd z.1 (by decide)
      · exact z.2
      · exact absurd z.1 (by decide)
    · rw [if_neg k1]
      by_cases k2 : k = 2
      · rw [if_pos k2]
        subst k2
        have e1 : (if b < a then some (0 : Int32) else if c = 0 then if e = 0 then some 1 else some 0 else some 0) = some (bI (a.toInt ≤ b.toInt ∧ c = 0 ∧ e = 0)) := by
          by_cases q1 : b < a
          · rw [if_pos q1, bI_f]; intro z; have := Int32.lt_iff_toInt_lt.mp q1; have := z.1; omega
          · have q1' : a.toInt ≤ b.toInt := Int.not_lt.mp fun h => q1 (Int32.lt_iff_toInt_lt.mpr h)
            rw [if_neg q1]
            by_cases q2 : c = 0
            · rw [if_pos q2]
              by_cases q3 : e = 0
              · rw [if_pos q3, bI_t ⟨q1', q2, q3⟩]
              · rw [if_neg q3, bI_f (fun z => q3 z.2.2)]
            · rw [if_neg q2, bI_f (fun z => q2 z.2.1)]
        simp only [e1, bI_and, b1_s, bI_g]
        congr 1; refine bI_c ⟨fun z => Or.inr (Or.inr ⟨rfl, z⟩), fun z => ?_⟩
        rcases z with z | z | z
        · exact absurd z.1 (by decide)
        · exact absurd z.1 (by decide)
        · exact z.2
      · rw [if_neg k2, bI_f]
        rintro (z | z | z)
        · exact k0 z.1
        · exact k1 z.1
        · exact k2 z.1
/-- a measure out of its numbers -/
abbrev mm7 (n0 n1 n2 n3 n4 n5 n6 : Nat) : Me := fun j => if j = 0 then n0 else if j = 1 then n1 else if j = 2 then n2 else if j = 3 then n3 else if j = 4 then n4 else if j = 5 then n5 else n6
theorem mm7_ok {n0 n1 n2 n3 n4 n5 n6 : Nat} (h0 : n0 < 3) (h1 : n1 < 6) (h2 : n2 ≤ 2) (h3 : 1 ≤ n3) (h3' : n3 ≤ 999) (h4 : 1 ≤ n4) (h4' : n4 ≤ 999) (h5 : n5 ≤ 400) (h6 : n6 ≤ 20) (h7 : n2 = 2 → n3 ≤ n4) : okM (mm7 n0 n1 n2 n3 n4 n5 n6) := ⟨h0, h1, h2, h3, h3', h4, h4', h5, h6, h7⟩
theorem fit_ok {s t k a b c e : Int32} (hs : inZ s 0 2) (ht : inZ t 0 5) (h : fitP k a b c e) : ∃ x : Me, okM x ∧ s = nI (x 0) ∧ t = nI (x 1) ∧ k = nI (x 2) ∧ a = nI (x 3) ∧ b = nI (x 4) ∧ c = nI (x 5) ∧ e = nI (x 6) := by
  obtain ⟨ns, rfl, hs1, hs2⟩ := inZ_n hs (by omega)
  obtain ⟨nt, rfl, ht1, ht2⟩ := inZ_n ht (by omega)
  rcases h with ⟨rfl, ha, hb, hc, he⟩ | ⟨rfl, ha, hb, hc, he⟩ | ⟨rfl, ha, hb, hab, rfl, rfl⟩
  · obtain ⟨na, rfl, ha1, ha2⟩ := inZ_n ha (by omega)
    obtain ⟨nb, rfl, hb1, hb2⟩ := inZ_n hb (by omega)
    obtain ⟨nc, rfl, hc1, hc2⟩ := inZ_n hc (by omega)
    obtain ⟨ne, rfl, he1, he2⟩ := inZ_n he (by omega)
    exact ⟨mm7 ns nt 0 na nb nc ne, mm7_ok (by omega) (by omega) (by omega) (by omega) (by omega) (by omega) (by omega) (by omega) (by omega) (by omega), rfl, rfl, rfl, rfl, rfl, rfl, rfl⟩
  · obtain ⟨na, rfl, ha1, ha2⟩ := inZ_n ha (by omega)
    obtain ⟨nb, rfl, hb1, hb2⟩ := inZ_n hb (by omega)
    obtain ⟨nc, rfl, hc1, hc2⟩ := inZ_n hc (by omega)
    obtain ⟨ne, rfl, he1, he2⟩ := inZ_n he (by omega)
    exact ⟨mm7 ns nt 1 na nb nc ne, mm7_ok (by omega) (by omega) (by omega) (by omega) (by omega) (by omega) (by omega) (by omega) (by omega) (by omega), rfl, rfl, rfl, rfl, rfl, rfl, rfl⟩
  · obtain ⟨na, rfl, ha1, ha2⟩ := inZ_n ha (by omega)
    obtain ⟨nb, rfl, hb1, hb2⟩ := inZ_n hb (by omega)
    rw [nI_toInt (by omega), nI_toInt (by omega)] at hab
    exact ⟨mm7 ns nt 2 na nb 0 0, mm7_ok (by omega) (by omega) (by omega) (by omega) (by omega) (by omega) (by omega) (by omega) (by omega) (by omega), rfl, rfl, rfl, rfl, rfl, rfl, rfl⟩
end FI
section TR
variable {σ : qH} {q : Nat} {A : AS}
theorem hasMeasure_e {x : Int32} (h : isP σ q A) (hA : okA A) : FX2_hasMeasure q x σ = some (bI (inZ x 0 ((nM A : Int) - 1))) := by
  have n0 : (nI (aM A).length).toInt = ((aM A).length : Int) := nI_toInt (n16 hA)
  unfold FX2_hasMeasure
  simp only [p_gC h, p_cnt h, b1_s, rgL, bI_1, bI_g, n0, l0]
theorem isFull_e (h : isP σ q A) (hA : okA A) : FX2_isFull q σ = some (bI (16 ≤ nM A)) := by
  have h16 := hA.1
  unfold FX2_isFull
  simp only [p_gC h, p_cnt h, b1_s, show (16 : Int32) = nI 16 from rfl, lt_nI (n16 hA) (show 16 < 2 ^ 31 by omega)]
  by_cases c : nM A < 16
  · rw [if_pos c, bI_f (by omega)]; rfl
  · rw [if_neg c, bI_t (by omega)]; rfl
theorem tryMeasure_e {s t k a b c e : Int32} (h : isP σ q A) (hA : okA A) : (∃ x : Me, okM x ∧ nM A < 16 ∧ (s = nI (x 0) ∧ t = nI (x 1) ∧ k = nI (x 2) ∧ a = nI (x 3) ∧ b = nI (x 4) ∧ c = nI (x 5) ∧ e = nI (x 6)) ∧ (inZ s 0 2 ∧ inZ t 0 5 ∧ fitP k a b c e) ∧ ∃ σ', FX2_tryMeasure q s t k a b c e σ = some (1, σ') ∧ isP σ' q (addA A x) ∧ Off σ σ' q) ∨ (¬ (inZ s 0 2 ∧ inZ t 0 5 ∧ fitP k a b c e ∧ nM A < 16) ∧ FX2_tryMeasure q s t k a b c e σ = some (0, σ)) := by
  unfold FX2_tryMeasure
  simp only [p_gC h, b1_s, isSteeple_e, isTeller_e, fits_e, isFull_e h hA, bI_ite]
  by_cases c1 : inZ s 0 2
  · rw [if_pos c1]
    by_cases c2 : inZ t 0 5
    · rw [if_pos c2]
      by_cases c3 : fitP k a b c e
      · rw [if_pos c3]
        by_cases c4 : 16 ≤ nM A
        · rw [if_pos c4]; exact Or.inr ⟨fun z => by have := z.2.2.2; omega, rfl⟩
        · rw [if_neg c4]
          obtain ⟨x, hx, rfl, rfl, rfl, rfl, rfl, rfl, rfl⟩ := fit_ok c1 c2 c3
          obtain ⟨σ1, e1, h1, o1⟩ := addMeasure_e h hA (by omega) hx
          simp only [e1, b2_s]
          exact Or.inl ⟨x, hx, by omega, ⟨rfl, rfl, rfl, rfl, rfl, rfl, rfl⟩, ⟨c1, c2, c3⟩, σ1, rfl, h1, o1⟩
      · rw [if_neg c3]; exact Or.inr ⟨fun z => c3 z.2.2.1, rfl⟩
    · rw [if_neg c2]; exact Or.inr ⟨fun z => c2 z.2.1, rfl⟩
  · rw [if_neg c1]; exact Or.inr ⟨fun z => c1 z.1, rfl⟩
theorem tryDrop_e {x : Int32} (h : isP σ q A) (hA : okA A) : (∃ k : Nat, k < nM A ∧ x = nI k ∧ ∃ σ', FX2_tryDrop q x σ = some (1, σ') ∧ isP σ' q (drpA A k) ∧ Off σ σ' q) ∨ (¬ inZ x 0 ((nM A : Int) - 1) ∧ FX2_tryDrop q x σ = some (0, σ)) := by
  unfold FX2_tryDrop
  simp only [p_gC h, b1_s, hasMeasure_e h hA, bI_ite]
  by_cases c1 : inZ x 0 ((nM A : Int) - 1)
  · rw [if_pos c1]
    obtain ⟨k, rfl, k1, k2⟩ := inZ_n c1 (by omega)
    obtain ⟨σ1, e1, h1, o1⟩ := removeMeasure_e h hA (k := k) (by omega)
    simp only [e1, b2_s]
    exact Or.inl ⟨k, by omega, rfl, σ1, rfl, h1, o1⟩
  · rw [if_neg c1]; exact Or.inr ⟨c1, rfl⟩
theorem tryTrust_e {x y : Int32} (h : isP σ q A) : (∃ t v : Nat, t < 6 ∧ v ≤ 9 ∧ x = nI t ∧ y = nI v ∧ ∃ σ', FX2_tryTrust q x y σ = some (1, σ') ∧ isP σ' q (truA A t v) ∧ Off σ σ' q) ∨ (¬ (inZ x 0 5 ∧ inZ y 0 9) ∧ FX2_tryTrust q x y σ = some (0, σ)) := by
  unfold FX2_tryTrust
  simp only [p_gC h, b1_s, isTeller_e, isTrust_e, bI_ite]
  by_cases c1 : inZ x 0 5
  · rw [if_pos c1]
    by_cases c2 : inZ y 0 9
    · rw [if_pos c2]
      obtain ⟨t, rfl, t1, t2⟩ := inZ_n c1 (by omega)
      obtain ⟨v, rfl, v1, v2⟩ := inZ_n c2 (by omega)
      obtain ⟨σ1, e1, h1, o1⟩ := changeTrust_e (v := v) h (t := t) (by omega)
      simp only [e1, b2_s]
      exact Or.inl ⟨t, v, by omega, by omega, rfl, rfl, σ1, rfl, h1, o1⟩
    · rw [if_neg c2]; exact Or.inr ⟨fun z => c2 z.2, rfl⟩
  · rw [if_neg c1]; exact Or.inr ⟨fun z => c1 z.1, rfl⟩
theorem trySurvey_e {x y : Int32} (h : isP σ q A) (hA : okA A) : (∃ s v : Nat, s < 3 ∧ 1 ≤ v ∧ v ≤ 999 ∧ x = nI s ∧ y = nI v ∧ ∃ σ', FX2_trySurvey q x y σ = some (1, σ') ∧ isP σ' q (srv A s v).2 ∧ okA (srv A s v).2 ∧ Off σ σ' q) ∨ (¬ (inZ x 0 2 ∧ inZ y 1 999) ∧ FX2_trySurvey q x y σ = some (0, σ)) := by
  unfold FX2_trySurvey
  simp only [p_gC h, b1_s, isSteeple_e, isHeight_e, bI_ite]
  by_cases c1 : inZ x 0 2
  · rw [if_pos c1]
    by_cases c2 : inZ y 1 999
    · rw [if_pos c2]
      obtain ⟨t, rfl, t1, t2⟩ := inZ_n c1 (by omega)
      obtain ⟨v, rfl, v1, v2⟩ := inZ_n c2 (by omega)
      obtain ⟨σ1, e1, h1, ok1, o1⟩ := survey_e (s := t) (x := v) (by omega) (by omega) h hA
      simp only [e1, b2_s]
      exact Or.inl ⟨t, v, by omega, by omega, by omega, rfl, rfl, σ1, rfl, h1, ok1, o1⟩
    · rw [if_neg c2]; exact Or.inr ⟨fun z => c2 z.2, rfl⟩
  · rw [if_neg c1]; exact Or.inr ⟨fun z => c1 z.1, rfl⟩
end TR
