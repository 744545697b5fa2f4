/-! Layer 2: the reference's evening. -/
theorem zR_l {A : AS} {z : Nat → Int32} {t : Nat} (h : zR A z) (ht : t < 6) (h0t : aT A t ≠ 0) : zR (shmT A t) (upd (upd z (9 + t) (nI (aT A t - 1))) 4 (nI (aLo A + 1))) := by
  have h2 := zR_t (v := aT A t - 1) h ht
  obtain ⟨h0, h1, h2, h3, h4, h5, h6, hs, ht', hv, hm⟩ := h2
  unfold shmT
  rw [if_neg h0t]
  refine ⟨?_, ?_, ?_, ?_, upd_e, ?_, ?_, fun i hi => ?_, fun i hi => ⟨?_, ?_, ?_⟩, fun i hi => ?_, fun k hk j hj => ?_⟩
  · rw [upd_n (by omega)]; exact h0
  · rw [upd_n (by omega)]; exact h1
  · rw [upd_n (by omega)]; exact h2
  · rw [upd_n (by omega)]; exact h3
  · rw [upd_n (by omega)]; exact h5
  · rw [upd_n (by omega)]; exact h6
  · rw [upd_n (show 7 + i ≠ 4 by omega)]; exact hs i hi
  · rw [upd_n (show 9 + i ≠ 4 by omega)]; exact (ht' i hi).1
  · rw [upd_n (show 15 + i ≠ 4 by omega)]; exact (ht' i hi).2.1
  · rw [upd_n (show 21 + i ≠ 4 by omega)]; exact (ht' i hi).2.2
  · rw [upd_n (show 27 + i ≠ 4 by omega)]; exact hv i hi
  · rw [upd_n (show 30 + 7 * k + j ≠ 4 by omega)]; exact hm k hk j hj
section ZE
variable {σ : qH} {a : Nat} {A : AS}
theorem dif_le {x y : Nat} (hx : x < 2 ^ 30) (hy : y < 2 ^ 30) : (0 ≤ nI x - nI y) = (y ≤ x) := by
  apply propext
  rw [Int32.le_iff_toInt_le, nI_sT hx hy, show (0 : Int32).toInt = 0 from rfl]; omega
theorem dif_eq {x y : Nat} (hx : x < 2 ^ 30) (hy : y < 2 ^ 30) : (nI x - nI y = 0) = (x = y) := by
  apply propext
  rw [← Int32.toInt_inj, nI_sT hx hy, show (0 : Int32).toInt = 0 from rfl]; omega
theorem ze_step (h : isZ σ a A) (hA : okA A) {k i : Nat} (hk : k < nM A) (hi : i < nM A) (hki : k < i) : ∃ σ', (b1 (FX7_quarrel a (nI k) (nI i) σ) fun v19 => ((if v19 = 0 then some σ else
            b1 (FX7_gap a (nI k) (nI i) σ) fun v22 =>
            b1 (aI σ a (8 : Int32)) fun v23 =>
            if v22 ≤ v23 then some σ
            else
              if (nI (wt A (mk A k)) - nI (wt A (mk A i))) = 0 then some σ
              else
                b1 (aI σ a ((9 : Int32) + nI (mk A (if wt A (mk A k) < wt A (mk A i) then k else i) 1))) fun v25 =>
                if v25 ≤ 0 then some σ
                else
                  b1 (aI σ a ((9 : Int32) + nI (mk A (if wt A (mk A k) < wt A (mk A i) then k else i) 1))) fun v27 =>
                  b1 (sI σ a ((9 : Int32) + nI (mk A (if wt A (mk A k) < wt A (mk A i) then k else i) 1)) (v27 - (1 : Int32))) fun s29 =>
                  b1 (aI s29 a (4 : Int32)) fun v31 =>
                  b1 (sI s29 a (4 : Int32) (v31 + (1 : Int32))) fun s33 =>
                  some s33) : Option qH)) = some σ' ∧ isZ σ' a (if matt A (mk A k) (mk A i) then shm A k i else A) ∧ OfZ σ σ' a := by
  have hw1 := wt_b hA hk
  have hw2 := wt_b hA hi
  have hg := gap_b hA hk hi
  have hS := hA.2.2.2.2
  have hL : (if wt A (mk A k) < wt A (mk A i) then k else i) < nM A := by split <;> assumption
  have ht := (mk_b hA hL).2.1
  have hT := hA.2.2.1 _ ht
  simp only [zquarrel_e h hA hk hi, zgap_e h hA hk hi, z_s1 h, (z_t h ht).1, b1_s, bI_ite, le_nI (show gap (mk A k) (mk A i) < 2 ^ 31 by omega) (show aSt A 1 < 2 ^ 31 by omega), dif_eq (show wt A (mk A k) < 2 ^ 30 by omega) (show wt A (mk A i) < 2 ^ 30 by omega)]
  simp only [show ((nI (aT A (mk A (if wt A (mk A k) < wt A (mk A i) then k else i) 1)) ≤ 0) = (aT A (mk A (if wt A (mk A k) < wt A (mk A i) then k else i) 1) ≤ 0)) from le_nI (by omega) (by omega : 0 < 2 ^ 31)]
  by_cases cm : matt A (mk A k) (mk A i)
  · rw [if_pos cm, if_pos (show quar (mk A k) (mk A i) from ⟨cm.1, cm.2.1, by have := cm.2.2; omega⟩), if_neg (by have := cm.2.2; omega)]
    unfold shm
    by_cases cw : wt A (mk A k) = wt A (mk A i)
    · rw [if_pos cw, if_pos cw]; exact ⟨σ, rfl, h, OfZ.rf⟩
    · rw [if_neg cw, if_neg cw]
      by_cases c0 : aT A (mk A (if wt A (mk A k) < wt A (mk A i) then k else i) 1) = 0
      · rw [if_pos (by omega)]
        refine ⟨σ, rfl, ?_, OfZ.rf⟩
        unfold shmT; rw [if_pos c0]; exact h
      · rw [if_neg (by omega)]
        obtain ⟨z, h0, hr⟩ := isZ_R h
        obtain ⟨σ1, e1, g1, o1⟩ := zW h0 (i := 9 + mk A (if wt A (mk A k) < wt A (mk A i) then k else i) 1) (by omega) (nI (aT A (mk A (if wt A (mk A k) < wt A (mk A i) then k else i) 1) - 1))
        obtain ⟨σ2, e2, g2, o2⟩ := zW g1 (i := 4) (by omega) (nI (aLo A + 1))
        have e1' : sI σ a (9 + nI (mk A (if wt A (mk A k) < wt A (mk A i) then k else i) 1)) (nI (aT A (mk A (if wt A (mk A k) < wt A (mk A i) then k else i) 1)) - 1) = some σ1 := by
          rw [show (9 : Int32) = nI 9 from rfl, nI_add, show (1 : Int32) = nI 1 from rfl, pk_sub (by omega)]; exact e1
        have r1 : aI σ1 a 4 = some (nI (aLo A)) := by
          rw [show (4 : Int32) = nI 4 from rfl, zI g1 (by omega), upd_n (by omega), hr.2.2.2.2.1]
        have e2' : sI σ1 a 4 (nI (aLo A + 1)) = some σ2 := e2
        rw [e1', b1_s, r1, b1_s, nI_1, e2', b1_s]
        exact ⟨σ2, rfl, R_isZ g2 (zR_l hr ht c0), o1.tr o2⟩
  · rw [if_neg cm]
    refine ⟨σ, ?_, h, OfZ.rf⟩
    by_cases cq : quar (mk A k) (mk A i)
    · rw [if_pos cq, if_pos (by have : ¬ aSt A 1 < gap (mk A k) (mk A i) := fun hh => cm ⟨cq.1, cq.2.1, hh⟩
                                omega)]
    · rw [if_neg cq]
theorem zevI_e {v : Int32} {k : Nat} : ∀ (d : Nat) (A : AS) (i : Nat) (σ : qH) (q2 : Nat), isZ σ a A → okA A → k < i → i + d = nM A → ∃ σ', FX7_eveningOn_L24 a v (nI k) (d + 1 + q2) (nI i) σ = some σ' ∧ isZ σ' a (evI d A k i) ∧ OfZ σ σ' a
  | 0, A, i, σ, q2, h, hA, hk, hi => by
    refine ⟨σ, ?_, h, OfZ.rf⟩
    have n31 := n16 hA
    rw [show 0 + 1 + q2 = q2 + 1 by omega, FX7_eveningOn_L24]
    simp only [z_n h, b1_s, le_nI (n16 hA) (show i < 2 ^ 31 by omega), if_pos (show nM A ≤ i by omega)]
  | d + 1, A, i, σ, q2, h, hA, hk, hi => by
    have n31 := n16 hA
    have hkn : k < nM A := by omega
    have hin : i < nM A := by omega
    have hw1 := wt_b hA hkn
    have hw2 := wt_b hA hin
    obtain ⟨σ1, e1, h1, o1⟩ := ze_step h hA hkn hin hk
    have hM := (evS_M (A := A) (k := k) (i := i)).1
    obtain ⟨σ2, e2, h2, o2⟩ := zevI_e (v := v) (k := k) d _ (i + 1) σ1 q2 h1 (evS_ok hA) (by omega) (by show i + 1 + d = (aM _).length; rw [hM]; show _ = nM A; omega)
    refine ⟨σ2, ?_, h2, o1.tr o2⟩
    have hL : (if wt A (mk A k) < wt A (mk A i) then k else i) < nM A := by split <;> assumption
    have hx : (if wt A (mk A i) ≤ wt A (mk A k) then some (nI i) else some (nI k)) = some (nI (if wt A (mk A k) < wt A (mk A i) then k else i)) := by
      by_cases c : wt A (mk A i) ≤ wt A (mk A k)
      · rw [if_pos c, if_neg (by omega)]
      · rw [if_neg c, if_pos (by omega)]
    rw [show d + 1 + 1 + q2 = (d + 1 + q2) + 1 by omega, FX7_eveningOn_L24]
    simp only [z_n h, b1_s, le_nI (n16 hA) (show i < 2 ^ 31 by omega), if_neg (show ¬ nM A ≤ i by omega), zweight_e h hA hkn, zweight_e h hA hin, dif_le (show wt A (mk A k) < 2 ^ 30 by omega) (show wt A (mk A i) < 2 ^ 30 by omega), hx, (of_l h hA hL).2.1, nI_1]
    simp only [zquarrel_e h hA hkn hin, b1_s] at e1 ⊢
    rw [e1, b1_s, e2]
theorem zevO_e {v : Int32} : ∀ (d : Nat) (A : AS) (k : Nat) (σ : qH) (q2 : Nat), isZ σ a A → okA A → k + d = nM A → ∃ σ', FX7_eveningOn_L13 a v (d + 1 + q2) (nI k) σ = some σ' ∧ isZ σ' a (evO d A k) ∧ OfZ σ σ' a
  | 0, A, k, σ, q2, h, hA, hk => by
    refine ⟨σ, ?_, h, OfZ.rf⟩
    have n31 := n16 hA
    rw [show 0 + 1 + q2 = q2 + 1 by omega, FX7_eveningOn_L13]
    simp only [z_n h, b1_s, le_nI (n16 hA) (show k < 2 ^ 31 by omega), if_pos (show nM A ≤ k by omega)]
  | d + 1, A, k, σ, q2, h, hA, hk => by
    have n31 := n16 hA
    have n9 : nM A ≤ 16 := hA.1
    obtain ⟨q3, hq⟩ := qf (n := nM A - (k + 1)) (by omega)
    obtain ⟨σ1, e1, h1, o1⟩ := zevI_e (v := v) (k := k) (nM A - (k + 1)) A (k + 1) σ q3 h hA (by omega) (by omega)
    rw [← hq] at e1
    obtain ⟨σ2, e2, h2, o2⟩ := zevO_e (v := v) d _ (k + 1) σ1 q2 h1 (evI_ok _ _ _ _ hA) (by show k + 1 + d = (aM _).length; rw [(evI_M _ _ _ _).1]; show _ = nM A; omega)
    refine ⟨σ2, ?_, h2, o1.tr o2⟩
    rw [show d + 1 + 1 + q2 = (d + 1 + q2) + 1 by omega, FX7_eveningOn_L13]
    simp only [z_n h, b1_s, le_nI (n16 hA) (show k < 2 ^ 31 by omega), if_neg (show ¬ nM A ≤ k by omega), nI_1, e1, e2]
theorem shmT_1 {A : AS} {t : Nat} : shmT (evn1 A) t = evn1 (shmT A t) := by
  unfold shmT
  by_cases c : aT A t = 0
  · rw [if_pos c, if_pos (show aT (evn1 A) t = 0 from c)]
  · rw [if_neg c, if_neg (show ¬ aT (evn1 A) t = 0 from c)]
theorem shm_1 {A : AS} {i j : Nat} : shm (evn1 A) i j = evn1 (shm A i j) := by
  unfold shm
  show (if wt A (mk A i) = wt A (mk A j) then evn1 A else shmT (evn1 A) (mk A (if wt A (mk A i) < wt A (mk A j) then i else j) 1)) = _
  split
  · rfl
  · exact shmT_1
theorem evI_1 : ∀ (d : Nat) (A : AS) (k i : Nat), evI d (evn1 A) k i = evn1 (evI d A k i)
  | 0, _, _, _ => rfl
  | d + 1, A, k, i => by
    rw [evI, evI, ← evI_1 d]
    congr 1
    show (if matt A (mk A k) (mk A i) then shm (evn1 A) k i else evn1 A) = _
    rw [shm_1]; split <;> rfl
theorem evO_1 : ∀ (d : Nat) (A : AS) (k : Nat), evO d (evn1 A) k = evn1 (evO d A k)
  | 0, _, _ => rfl
  | d + 1, A, k => by
    rw [evO, evO, ← evO_1 d, ← evI_1]
theorem eveningOn_e (h : isZ σ a A) (hA : okA A) : ∃ σ', FX7_eveningOn a σ = some (nI (aLo (eve A)) - nI (aLo A), σ') ∧ isZ σ' a (eve A) ∧ OfZ σ σ' a := by
  have n9 : nM A ≤ 16 := hA.1
  obtain ⟨z, h0, hr⟩ := isZ_R h
  obtain ⟨σ0, e0, g0, o0⟩ := zW h0 (i := 2) (by omega) (nI (aEv A + 1))
  have hz : isZ σ0 a (evn1 A) := by
    refine R_isZ g0 ?_
    obtain ⟨h0, h1, h2, h3, h4, h5, h6, hs, ht', hv, hm⟩ := hr
    refine ⟨?_, ?_, upd_e, ?_, ?_, ?_, ?_, fun i hi => ?_, fun i hi => ⟨?_, ?_, ?_⟩, fun i hi => ?_, fun k hk j hj => ?_⟩ <;> rw [upd_n (by omega)]
    · exact h0
    · exact h1
    · exact h3
    · exact h4
    · exact h5
    · exact h6
    · exact hs i hi
    · exact (ht' i hi).1
    · exact (ht' i hi).2.1
    · exact (ht' i hi).2.2
    · exact hv i hi
    · exact hm k hk j hj
  obtain ⟨q3, hq⟩ := qf (n := nM A) (by omega)
  obtain ⟨σ1, e1, h1, o1⟩ := zevO_e (a := a) (v := nI (aLo A)) (nM A) (evn1 A) 0 σ0 q3 hz hA (by show 0 + nM A = nM A; omega)
  rw [← hq] at e1
  rw [evO_1] at h1
  have e0' : sI σ a 2 (nI (aEv A + 1)) = some σ0 := e0
  have e1' : FX7_eveningOn_L13 a (nI (aLo A)) qfuel 0 σ0 = some σ1 := e1
  unfold FX7_eveningOn
  simp only [(z_c h).2.2.2.1, (z_c h).2.1, b1_s, nI_1, e0', e1', (z_c h1).2.2.2.1]
  exact ⟨σ1, rfl, h1, o0.tr o1⟩
end ZE
