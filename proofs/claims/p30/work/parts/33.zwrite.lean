/-! Layer 2: the reference's row written. -/
def OfZ (σ σ' : qH) (a : Nat) : Prop := ∀ b, b ≠ a → σ' b = σ b
theorem OfZ.tr {σ σ1 σ2 : qH} {a : Nat} (h : OfZ σ σ1 a) (h2 : OfZ σ1 σ2 a) : OfZ σ σ2 a := fun b hb => by rw [h2 b hb, h b hb]
theorem OfZ.rf {σ : qH} {a : Nat} : OfZ σ σ a := fun _ _ => rfl
def zR (A : AS) (z : Nat → Int32) : Prop := z 0 = nI (aM A).length ∧ z 1 = nI (aCm A) ∧ z 2 = nI (aEv A) ∧ z 3 = nI (aSu A) ∧ z 4 = nI (aLo A) ∧ z 5 = nI (fb_sm (aRt A) 6) ∧ z 6 = nI (fb_sm (aWr A) 6) ∧ (∀ i, i < 2 → z (7 + i) = nI (aSt A i)) ∧ (∀ i, i < 6 → z (9 + i) = nI (aT A i) ∧ z (15 + i) = nI (aRt A i) ∧ z (21 + i) = nI (aWr A i)) ∧ (∀ i, i < 3 → z (27 + i) = aSv A i) ∧ (∀ k, k < (aM A).length → ∀ j, j < 7 → z (30 + 7 * k + j) = nI (mk A k j))
theorem isZ_R {σ : qH} {a : Nat} {A : AS} (h : isZ σ a A) : ∃ z, σ a = some (iA 142 z) ∧ zR A z := h
theorem R_isZ {σ : qH} {a : Nat} {A : AS} {z : Nat → Int32} (h : σ a = some (iA 142 z)) (r : zR A z) : isZ σ a A := ⟨z, h, r⟩
theorem zI {σ : qH} {a i : Nat} {z : Nat → Int32} (h : σ a = some (iA 142 z)) (hi : i < 142) : aI σ a (nI i) = some (z i) := aI_e h hi (by omega)
theorem zW {σ : qH} {a i : Nat} {z : Nat → Int32} (h : σ a = some (iA 142 z)) (hi : i < 142) (v : Int32) : ∃ σ', sI σ a (nI i) v = some σ' ∧ σ' a = some (iA 142 (upd z i v)) ∧ OfZ σ σ' a :=
  ⟨_, sI_e h hi (by omega), qU_s, fun _ hb => qU_n hb⟩
theorem upd_sh {z : Nat → Int32} {g : Nat → Nat} {o t i v : Nat} (h : z (o + i) = nI (g i)) : upd z (o + t) (nI v) (o + i) = nI (fset g t v i) := by
  show _ = nI (if i = t then v else g i)
  by_cases c : i = t
  · rw [if_pos c, c, upd_e]
  · rw [if_neg c, upd_n (by omega), h]
theorem zR_t {A : AS} {z : Nat → Int32} {t v : Nat} (h : zR A z) (ht : t < 6) : zR (truA A t v) (upd z (9 + t) (nI v)) := by
  obtain ⟨h0, h1, h2, h3, h4, h5, h6, hs, ht', hv, hm⟩ := h
  refine ⟨?_, ?_, ?_, ?_, ?_, ?_, ?_, fun i hi => ?_, fun i hi => ⟨upd_sh (ht' i hi).1, ?_, ?_⟩, fun i hi => ?_, fun k hk j hj => ?_⟩ <;> rw [upd_n (by omega)]
  · exact h0
  · exact h1
  · exact h2
  · exact h3
  · exact h4
  · exact h5
  · exact h6
  · exact hs i hi
  · exact (ht' i hi).2.1
  · exact (ht' i hi).2.2
  · exact hv i hi
  · exact hm k hk j hj
theorem zR_s {A : AS} {z : Nat → Int32} {t v : Nat} (h : zR A z) (ht : t < 2) : zR (setA A t v) (upd z (7 + t) (nI v)) := by
  obtain ⟨h0, h1, h2, h3, h4, h5, h6, hs, ht', hv, hm⟩ := h
  refine ⟨?_, ?_, ?_, ?_, ?_, ?_, ?_, fun i hi => upd_sh (hs i hi), fun i hi => ⟨?_, ?_, ?_⟩, fun i hi => ?_, fun k hk j hj => ?_⟩ <;> rw [upd_n (by omega)]
  · exact h0
  · exact h1
  · exact h2
  · exact h3
  · exact h4
  · exact h5
  · exact h6
  · exact (ht' i hi).1
  · exact (ht' i hi).2.1
  · exact (ht' i hi).2.2
  · exact hv i hi
  · exact hm k hk j hj
def shf (z : Nat → Int32) (y e : Nat) : Nat → Int32 := fun j => if y ≤ j ∧ j < e then z (j + 7) else z j
theorem zR_d {A : AS} {z : Nat → Int32} {k : Nat} (h : zR A z) (hA : okA A) (hk : k < nM A) : zR (drpA A k) (upd (shf z (30 + 7 * k) (30 + 7 * (nM A - 1))) 0 (nI (nM A - 1))) := by
  have h16 : nM A ≤ 16 := hA.1
  have lo : ∀ j, j < 30 → 0 < j → upd (shf z (30 + 7 * k) (30 + 7 * (nM A - 1))) 0 (nI (nM A - 1)) j = z j := fun j hj h0 => by rw [upd_n (by omega)]; unfold shf; rw [if_neg (by omega)]
  obtain ⟨h0, h1, h2, h3, h4, h5, h6, hs, ht', hv, hm⟩ := h
  refine ⟨?_, ?_, ?_, ?_, ?_, ?_, ?_, fun i hi => ?_, fun i hi => ⟨?_, ?_, ?_⟩, fun i hi => ?_, fun i hi j hj => ?_⟩
  · rw [upd_e]; show _ = nI (nM (drpA A k)); rw [n_drp hk]
  · rw [lo 1 (by omega) (by omega)]; exact h1
  · rw [lo 2 (by omega) (by omega)]; exact h2
  · rw [lo 3 (by omega) (by omega)]; exact h3
  · rw [lo 4 (by omega) (by omega)]; exact h4
  · rw [lo 5 (by omega) (by omega)]; exact h5
  · rw [lo 6 (by omega) (by omega)]; exact h6
  · rw [lo _ (by omega) (by omega)]; exact hs i hi
  · rw [lo _ (by omega) (by omega)]; exact (ht' i hi).1
  · rw [lo _ (by omega) (by omega)]; exact (ht' i hi).2.1
  · rw [lo _ (by omega) (by omega)]; exact (ht' i hi).2.2
  · rw [lo _ (by omega) (by omega)]; exact hv i hi
  · have hi' : i < nM (drpA A k) := hi
    rw [n_drp hk] at hi'
    rw [upd_n (by omega), mk_drp]
    unfold shf
    by_cases c : i < k
    · rw [if_neg (by omega), if_pos c]; exact hm i (by show i < nM A; omega) j hj
    · rw [if_pos (by omega), if_neg c, show 30 + 7 * i + j + 7 = 30 + 7 * (i + 1) + j by omega]; exact hm (i + 1) (by show i + 1 < nM A; omega) j hj
