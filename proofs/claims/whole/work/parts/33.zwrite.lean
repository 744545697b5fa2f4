/-! Layer 2: the reference's row written. -/
def OfZ (σ σ' : qH) (a : Nat) : Prop := ∀ b, b ≠ a → σ' b = σ b
theorem OfZ.tr {σ σ1 σ2 : qH} {a : Nat} (h : OfZ σ σ1 a) (h2 : OfZ σ1 σ2 a) : OfZ σ σ2 a := fun b hb => by rw [h2 b hb, h b hb]
theorem OfZ.rf {σ : qH} {a : Nat} : OfZ σ σ a := fun _ _ => rfl
def zR (A : AS) (z : Nat → Int32) : Prop := z 0 = nI (aM A).length ∧ z 1 = nI (aCm A) ∧ z 2 = nI (aEv A) ∧ z 3 = nI (aSu A) ∧ z 4 = nI (aLo A) ∧ z 5 = nI (fb_sm (aRt A) 6) ∧ z 6 = nI (fb_sm (aWr A) 6) ∧ (∀ i, i < 2 → z (7 + i) = nI (aSt A i)) ∧ (∀ i, i < 6 → z (9 + i) = nI (aT A i) ∧ z (15 + i) = nI (aRt A i) ∧ z (21 + i) = nI (aWr A i)) ∧ (∀ i, i < 3 → z (27 + i) = aSv A i) ∧ (∀ k, k < (aM A).length → ∀ j, j < 7 → z (30 + 7 * k + j) = nI (mk A k j))
theorem isZ_R {σ : qH} {a : Nat} {A : AS} (h : isZ σ a A) : ∃ z, σ a = some (iA 142 z) ∧ zR A z := h
theorem R_isZ {σ : qH} {a : Nat} {A : AS} {z : Nat → Int32} (h : σ a = some (iA 142 z)) (r : zR A z) : isZ σ a A := ⟨z, h, r⟩
theorem zI {σ : qH} {a i : Nat} {z : Nat → Int32} (h : σ a = some (iA 142 z)) (hi : i < 142) : aI σ a (nI i) = some (z i) := aI_e h hi (by omega)
theorem zW {σ : qH} {a i : Nat} {z : Nat → Int32} (h : σ a = some (iA 142 z)) (hi : i < 142) (v : Int32) : ∃ σ', sI σ a (nI i) v = some σ' ∧ σ' a = some (iA 142 (upd z i v)) ∧ OfZ σ σ' a :=
  ⟨_, sI_e h hi (by omega), qU_s, fun _ hb => qU_n hb⟩
theorem upd_sh {z : Nat → Int32} {g : Nat → Nat} {o t i v : Nat} (h : z (o + i) = nI (g i)) : upd z (o + t) (nI v) (o + i) = nI (fset g t v i) := by
  show _ = nI (if i = t then v else g i)
  by_cases c : i = t
  · rw [if_pos c, c, upd_e]
  · rw [if_neg c, upd_n (by omega), h]
theorem zR_t {A : AS} {z : Nat → Int32} {t v : Nat} (h : zR A z) (ht : t < 6) : zR (truA A t v) (upd z (9 + t) (nI v)) := by
  obtain ⟨h0, h1, h2, h3, h4, h5, h6, hs, ht', hv, hm⟩ := h
  refine ⟨?_, ?_, ?_, ?_, ?_, ?_, ?_, fun i hi => ?_, fun i hi => ⟨upd_sh (ht' i hi).1, ?_, ?_⟩, fun i hi => ?_, fun k hk j hj => ?_⟩ <;> rw [upd_n (by omega)]
  · exact h0
  · exact h1
  · exact h2
  · exact h3
  · exact h4
  · exact h5
  · exact h6
  · exact hs i hi
  · exact (ht' i hi).2.1
  · exact (ht' i hi).2.2
  · exact hv i hi
  · exact hm k hk j hj
theorem zR_s {A : AS} {z : Nat → Int32} {t v : Nat} (h : zR A z) (ht : t < 2) : zR (setA A t v) (upd z (7 + t) (nI v)) := by
  obtain ⟨h0, h1, h2, h3, h4, h5, h6, hs, ht', hv, hm⟩ := h
  refine ⟨?_, ?_, ?_, ?_, ?_, ?_, ?_, fun i hi => upd_sh (hs i hi), fun i hi => ⟨?_, ?_, ?_⟩, fun i hi => ?_, fun k hk j hj => ?_⟩ <;> rw [upd_n (by omega)]
  · exact h0
  · exact h1
  · exact h2
  · exact h3
  · exact h4
  · exact h5
  · exact h6
  · exact (ht' i hi).1
  · exact (ht' i hi).2.1
  · exact (ht' i hi).2.2
  · exact hv i hi
  · exact hm k hk j hj
theorem trustOn_e {σ : qH} {a t v : Nat} {A : AS} (h : isZ σ a A) (ht : t < 6) : ∃ σ', FX7_trustOn a (nI t) (nI v) σ = some (nI (aT A t), σ') ∧ isZ σ' a (truA A t v) ∧ OfZ σ σ' a := by
  obtain ⟨z, h0, hr⟩ := isZ_R h
  obtain ⟨σ1, e1, g1, o1⟩ := zW h0 (i := 9 + t) (by omega) (nI v)
  unfold FX7_trustOn
  simp only [(z_t h ht).1, b1_s]
  rw [show (9 : Int32) = nI 9 from rfl, nI_add, e1, b1_s]
  exact ⟨σ1, rfl, R_isZ g1 (zR_t hr ht), o1⟩
theorem change_e {σ : qH} {a t v : Nat} {A : AS} (h : isZ σ a A) (ht : t < 2) : ∃ σ', FX7_change a (nI t) (nI v) σ = some (nI (aSt A t), σ') ∧ isZ σ' a (setA A t v) ∧ OfZ σ σ' a := by
  obtain ⟨z, h0, hr⟩ := isZ_R h
  obtain ⟨σ1, e1, g1, o1⟩ := zW h0 (i := 7 + t) (by omega) (nI v)
  unfold FX7_change
  rw [show (7 : Int32) = nI 7 from rfl, nI_add, z_s h ht]
  simp only [b1_s, e1]
  exact ⟨σ1, rfl, R_isZ g1 (zR_s hr ht), o1⟩
def shf (z : Nat → Int32) (y e : Nat) : Nat → Int32 := fun j => if y ≤ j ∧ j < e then z (j + 7) else z j
theorem dropL {a n e : Nat} (hn : 1 ≤ n) (hn2 : n ≤ 16) (he : e = 30 + 7 * (n - 1)) : ∀ (d y q : Nat) (σ : qH) (z : Nat → Int32), y + d = e → 1 ≤ y → σ a = some (iA 142 z) → z 0 = nI n → ∃ σ', FX7_dropOn_L8 a (d + 1 + q) (nI y) σ = some σ' ∧ σ' a = some (iA 142 (shf z y e)) ∧ OfZ σ σ' a
  | 0, y, q, σ, z, hy, h1, h, hz => by
    have e0 : aI σ a 0 = some (nI n) := by rw [show (0 : Int32) = nI 0 from rfl, zI h (by omega), hz]
    refine ⟨σ, ?_, ?_, OfZ.rf⟩
    · rw [show 0 + 1 + q = q + 1 by omega, FX7_dropOn_L8]
      simp only [e0, b1_s, show (30 : Int32) = nI 30 from rfl, show (7 : Int32) = nI 7 from rfl, show (1 : Int32) = nI 1 from rfl, pk_sub hn, pk_mul, nI_add, le_nI (show 30 + 7 * (n - 1) < 2 ^ 31 by omega) (show y < 2 ^ 31 by omega), if_pos (show 30 + 7 * (n - 1) ≤ y by omega)]
    · have : shf z y e = z := by funext j; unfold shf; rw [if_neg (by omega)]
      rw [this]; exact h
  | d + 1, y, q, σ, z, hy, h1, h, hz => by
    have e0 : aI σ a 0 = some (nI n) := by rw [show (0 : Int32) = nI 0 from rfl, zI h (by omega), hz]
    obtain ⟨σ1, e1, g1, o1⟩ := zW h (i := y) (by omega) (z (y + 7))
    obtain ⟨σ2, e2, g2, o2⟩ := dropL hn hn2 he d (y + 1) q σ1 (upd z y (z (y + 7))) (by omega) (by omega) g1 (by rw [upd_n (by omega)]; exact hz)
    refine ⟨σ2, ?_, ?_, o1.tr o2⟩
    · rw [show d + 1 + 1 + q = (d + 1 + q) + 1 by omega, FX7_dropOn_L8]
      simp only [e0, b1_s, show (30 : Int32) = nI 30 from rfl, show (7 : Int32) = nI 7 from rfl, show (1 : Int32) = nI 1 from rfl, pk_sub hn, pk_mul, nI_add, le_nI (show 30 + 7 * (n - 1) < 2 ^ 31 by omega) (show y < 2 ^ 31 by omega), if_neg (show ¬ 30 + 7 * (n - 1) ≤ y by omega), zI h (show y + 7 < 142 by omega), e1, e2]
    · rw [g2]
      have : shf (upd z y (z (y + 7))) (y + 1) e = shf z y e := by
        funext j
        unfold shf
        by_cases c : j = y
        · subst c; rw [if_neg (by omega), if_pos (by omega), upd_e]
        · by_cases c2 : y ≤ j ∧ j < e
          · rw [if_pos (by omega), if_pos c2, upd_n (by omega)]
          · rw [if_neg (by omega), if_neg c2, upd_n c]
      rw [this]
theorem zR_d {A : AS} {z : Nat → Int32} {k : Nat} (h : zR A z) (hA : okA A) (hk : k < nM A) : zR (drpA A k) (upd (shf z (30 + 7 * k) (30 + 7 * (nM A - 1))) 0 (nI (nM A - 1))) := by
  have h16 : nM A ≤ 16 := hA.1
  have lo : ∀ j, j < 30 → 0 < j → upd (shf z (30 + 7 * k) (30 + 7 * (nM A - 1))) 0 (nI (nM A - 1)) j = z j := fun j hj h0 => by rw [upd_n (by omega)]; unfold shf; rw [if_neg (by omega)]
  obtain ⟨h0, h1, h2, h3, h4, h5, h6, hs, ht', hv, hm⟩ := h
  refine ⟨?_, ?_, ?_, ?_, ?_, ?_, ?_, fun i hi => ?_, fun i hi => ⟨?_, ?_, ?_⟩, fun i hi => ?_, fun i hi j hj => ?_⟩
  · rw [upd_e]; show _ = nI (nM (drpA A k)); rw [n_drp hk]
  · rw [lo 1 (by omega) (by omega)]; exact h1
  · rw [lo 2 (by omega) (by omega)]; exact h2
  · rw [lo 3 (by omega) (by omega)]; exact h3
  · rw [lo 4 (by omega) (by omega)]; exact h4
  · rw [lo 5 (by omega) (by omega)]; exact h5
  · rw [lo 6 (by omega) (by omega)]; exact h6
  · rw [lo _ (by omega) (by omega)]; exact hs i hi
  · rw [lo _ (by omega) (by omega)]; exact (ht' i hi).1
  · rw [lo _ (by omega) (by omega)]; exact (ht' i hi).2.1
  · rw [lo _ (by omega) (by omega)]; exact (ht' i hi).2.2
  · rw [lo _ (by omega) (by omega)]; exact hv i hi
  · have hi' : i < nM (drpA A k) := hi
    rw [n_drp hk] at hi'
    rw [upd_n (by omega), mk_drp]
    unfold shf
    by_cases c : i < k
    · rw [if_neg (by omega), if_pos c]; exact hm i (by show i < nM A; omega) j hj
    · rw [if_pos (by omega), if_neg c, show 30 + 7 * i + j + 7 = 30 + 7 * (i + 1) + j by omega]; exact hm (i + 1) (by show i + 1 < nM A; omega) j hj
theorem dropOn_e {σ : qH} {a k : Nat} {A : AS} (h : isZ σ a A) (hA : okA A) (hk : k < nM A) : ∃ σ', FX7_dropOn a (nI k) σ = some (nI (nM A - 1), σ') ∧ isZ σ' a (drpA A k) ∧ OfZ σ σ' a := by
  have h16 : nM A ≤ 16 := hA.1
  obtain ⟨z, h0, hr⟩ := isZ_R h
  obtain ⟨q3, hq⟩ := qf (n := 7 * (nM A - 1) - 7 * k) (by omega)
  obtain ⟨σ1, e1, g1, o1⟩ := dropL (a := a) (n := nM A) (by omega) h16 rfl (7 * (nM A - 1) - 7 * k) (30 + 7 * k) q3 σ z (by omega) (by omega) h0 hr.1
  rw [← hq] at e1
  have hz1 : shf z (30 + 7 * k) (30 + 7 * (nM A - 1)) 0 = nI (nM A) := by unfold shf; rw [if_neg (by omega)]; exact hr.1
  obtain ⟨σ2, e2, g2, o2⟩ := zW g1 (i := 0) (by omega) (nI (nM A - 1))
  have r1 : aI σ1 a 0 = some (nI (nM A)) := by rw [show (0 : Int32) = nI 0 from rfl, zI g1 (by omega), hz1]
  have r2 : aI σ2 a 0 = some (nI (nM A - 1)) := by rw [show (0 : Int32) = nI 0 from rfl, zI g2 (by omega), upd_e]
  unfold FX7_dropOn
  rw [show (30 : Int32) + 7 * nI k = nI (30 + 7 * k) by rw [show (30 : Int32) = nI 30 from rfl, show (7 : Int32) = nI 7 from rfl, pk_mul, nI_add]]
  have e2' : sI σ1 a 0 (nI (nM A) - 1) = some σ2 := by rw [show (1 : Int32) = nI 1 from rfl, pk_sub (by omega)]; exact e2
  simp only [e1, b1_s, r1, e2', r2]
  exact ⟨σ2, rfl, R_isZ g2 (zR_d hr hA hk), o1.tr o2⟩
theorem measureOn_e {σ : qH} {a : Nat} {A : AS} (h : isZ σ a A) (hA : okA A) (hn : nM A < 16) {x : Me} : ∃ σ', FX7_measureOn a (nI (x 0)) (nI (x 1)) (nI (x 2)) (nI (x 3)) (nI (x 4)) (nI (x 5)) (nI (x 6)) σ = some (nI (nM A), σ') ∧ isZ σ' a (addA A x) ∧ OfZ σ σ' a := by
  obtain ⟨z, h0, hr⟩ := isZ_R h
  have ix : (30 : Int32) + 7 * nI (nM A) = nI (30 + 7 * nM A) := by rw [show (30 : Int32) = nI 30 from rfl, show (7 : Int32) = nI 7 from rfl, pk_mul, nI_add]
  obtain ⟨σ0, e0, g0, o0⟩ := zW h0 (i := 30 + 7 * nM A) (by omega) (nI (x 0))
  obtain ⟨σ1, e1, g1, o1⟩ := zW g0 (i := 30 + 7 * nM A + 1) (by omega) (nI (x 1))
  obtain ⟨σ2, e2, g2, o2⟩ := zW g1 (i := 30 + 7 * nM A + 2) (by omega) (nI (x 2))
  obtain ⟨σ3, e3, g3, o3⟩ := zW g2 (i := 30 + 7 * nM A + 3) (by omega) (nI (x 3))
  obtain ⟨σ4, e4, g4, o4⟩ := zW g3 (i := 30 + 7 * nM A + 4) (by omega) (nI (x 4))
  obtain ⟨σ5, e5, g5, o5⟩ := zW g4 (i := 30 + 7 * nM A + 5) (by omega) (nI (x 5))
  obtain ⟨σ6, e6, g6, o6⟩ := zW g5 (i := 30 + 7 * nM A + 6) (by omega) (nI (x 6))
  obtain ⟨σ7, e7, g7, o7⟩ := zW g6 (i := 0) (by omega) (nI (nM A + 1))
  obtain ⟨σ8, e8, g8, o8⟩ := zW g7 (i := 1) (by omega) (nI (aCm A + 1))
  obtain ⟨h0', h1, h2, h3, h4, h5, h6, hs, ht', hv, hm⟩ := hr
  have r0 : aI σ a 0 = some (nI (nM A)) := z_n h
  have r6 : aI σ6 a 0 = some (nI (nM A)) := by
    rw [show (0 : Int32) = nI 0 from rfl, zI g6 (by omega)]
    simp only [upd_n (show 0 ≠ 30 + 7 * nM A by omega), upd_n (show 0 ≠ 30 + 7 * nM A + 1 by omega), upd_n (show 0 ≠ 30 + 7 * nM A + 2 by omega), upd_n (show 0 ≠ 30 + 7 * nM A + 3 by omega), upd_n (show 0 ≠ 30 + 7 * nM A + 4 by omega), upd_n (show 0 ≠ 30 + 7 * nM A + 5 by omega), upd_n (show 0 ≠ 30 + 7 * nM A + 6 by omega), h0']
  have r7 : aI σ7 a 1 = some (nI (aCm A)) := by
    rw [show (1 : Int32) = nI 1 from rfl, zI g7 (by omega)]
    simp only [upd_n (show 1 ≠ 0 by omega), upd_n (show 1 ≠ 30 + 7 * nM A by omega), upd_n (show 1 ≠ 30 + 7 * nM A + 1 by omega), upd_n (show 1 ≠ 30 + 7 * nM A + 2 by omega), upd_n (show 1 ≠ 30 + 7 * nM A + 3 by omega), upd_n (show 1 ≠ 30 + 7 * nM A + 4 by omega), upd_n (show 1 ≠ 30 + 7 * nM A + 5 by omega), upd_n (show 1 ≠ 30 + 7 * nM A + 6 by omega), h1]
  have r8 : aI σ8 a 0 = some (nI (nM A + 1)) := by
    rw [show (0 : Int32) = nI 0 from rfl, zI g8 (by omega), upd_n (by omega), upd_e]
  have e7' : sI σ6 a 0 (nI (nM A + 1)) = some σ7 := e7
  have e8' : sI σ7 a 1 (nI (aCm A + 1)) = some σ8 := e8
  unfold FX7_measureOn
  simp only [r0, b1_s, ix, e0, nI_1, e1, show nI (30 + 7 * nM A) + 2 = nI (30 + 7 * nM A + 2) from nI_add _ 2, show nI (30 + 7 * nM A) + 3 = nI (30 + 7 * nM A + 3) from nI_add _ 3, show nI (30 + 7 * nM A) + 4 = nI (30 + 7 * nM A + 4) from nI_add _ 4, show nI (30 + 7 * nM A) + 5 = nI (30 + 7 * nM A + 5) from nI_add _ 5, show nI (30 + 7 * nM A) + 6 = nI (30 + 7 * nM A + 6) from nI_add _ 6, e2, e3, e4, e5, e6, r6, e7', r7, e8', r8, show nI (nM A + 1) - 1 = nI (nM A) from pk_sub (a := nM A + 1) (b := 1) (by omega)]
  refine ⟨σ8, rfl, R_isZ g8 ?_, (((((((o0.tr o1).tr o2).tr o3).tr o4).tr o5).tr o6).tr o7).tr o8⟩
  have lo : ∀ j, 1 < j → j < 30 + 7 * nM A → upd (upd (upd (upd (upd (upd (upd (upd (upd z (30 + 7 * nM A) (nI (x 0))) (30 + 7 * nM A + 1) (nI (x 1))) (30 + 7 * nM A + 2) (nI (x 2))) (30 + 7 * nM A + 3) (nI (x 3))) (30 + 7 * nM A + 4) (nI (x 4))) (30 + 7 * nM A + 5) (nI (x 5))) (30 + 7 * nM A + 6) (nI (x 6))) 0 (nI (nM A + 1))) 1 (nI (aCm A + 1)) j = z j := fun j hj hj2 => by
    rw [upd_n (by omega), upd_n (by omega), upd_n (by omega), upd_n (by omega), upd_n (by omega), upd_n (by omega), upd_n (by omega), upd_n (by omega), upd_n (by omega)]
  refine ⟨?_, ?_, ?_, ?_, ?_, ?_, ?_, fun i hi => ?_, fun i hi => ⟨?_, ?_, ?_⟩, fun i hi => ?_, fun i hi j hj => ?_⟩
  · rw [upd_n (by omega), upd_e]; show _ = nI (aM A ++ [x]).length; simp
  · rw [upd_e]
  · rw [lo 2 (by omega) (by omega)]; exact h2
  · rw [lo 3 (by omega) (by omega)]; exact h3
  · rw [lo 4 (by omega) (by omega)]; exact h4
  · rw [lo 5 (by omega) (by omega)]; exact h5
  · rw [lo 6 (by omega) (by omega)]; exact h6
  · rw [lo _ (by omega) (by omega)]; exact hs i hi
  · rw [lo _ (by omega) (by omega)]; exact (ht' i hi).1
  · rw [lo _ (by omega) (by omega)]; exact (ht' i hi).2.1
  · rw [lo _ (by omega) (by omega)]; exact (ht' i hi).2.2
  · rw [lo _ (by omega) (by omega)]; exact hv i hi
  · have hi' : i < (aM A ++ [x]).length := hi
    rw [List.length_append, List.length_singleton] at hi'
    show _ = nI ((aM A ++ [x]).getD i M0 j)
    by_cases c : i < nM A
    · rw [lo _ (by omega) (by omega), List.getD_eq_getElem?_getD, List.getElem?_append_left c, ← List.getD_eq_getElem?_getD]; exact hm i c j hj
    · have : i = nM A := by show i = (aM A).length; have : ¬ i < (aM A).length := c; omega
      subst this
      rw [List.getD_eq_getElem?_getD, List.getElem?_append_right (Nat.le_refl _), Nat.sub_self]
      show _ = nI (x j)
      rcases (show j = 0 ∨ j = 1 ∨ j = 2 ∨ j = 3 ∨ j = 4 ∨ j = 5 ∨ j = 6 by omega) with rfl | rfl | rfl | rfl | rfl | rfl | rfl
      · rw [upd_n (by omega), upd_n (by omega), upd_n (by omega), upd_n (by omega), upd_n (by omega), upd_n (by omega), upd_n (by omega), upd_n (by omega), Nat.add_zero, upd_e]
      · rw [upd_n (by omega), upd_n (by omega), upd_n (by omega), upd_n (by omega), upd_n (by omega), upd_n (by omega), upd_n (by omega), upd_e]
      · rw [upd_n (by omega), upd_n (by omega), upd_n (by omega), upd_n (by omega), upd_n (by omega), upd_n (by omega), upd_e]
      · rw [upd_n (by omega), upd_n (by omega), upd_n (by omega), upd_n (by omega), upd_n (by omega), upd_e]
      · rw [upd_n (by omega), upd_n (by omega), upd_n (by omega), upd_n (by omega), upd_e]
      · rw [upd_n (by omega), upd_n (by omega), upd_n (by omega), upd_e]
      · rw [upd_n (by omega), upd_n (by omega), upd_e]
