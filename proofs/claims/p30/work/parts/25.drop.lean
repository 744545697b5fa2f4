theorem sC_e {σ : qH} {a b n0 n1 sp dp n : Nat} {f g : Nat → Int32} (ha : σ a = some (iA n0 f)) (hb : σ b = some (iA n1 g)) (h0 : n0 < 2 ^ 31) (h1 : n1 < 2 ^ 31) (h2 : sp + n ≤ n0) (h3 : dp + n ≤ n1) : sC σ a (nI sp) b (nI dp) (nI n) = some (qU σ b (iA n1 (va_cpy f g sp dp n))) := by
  unfold sC
  rw [ha, hb]
  show (if (0 = 0 ∧ 0 = 0) ∧ (¬ nI sp < 0 ∧ ¬ nI dp < 0 ∧ ¬ nI n < 0) ∧ (nI sp).toNatClampNeg + (nI n).toNatClampNeg ≤ n0 ∧ (nI dp).toNatClampNeg + (nI n).toNatClampNeg ≤ n1 then some (qU σ b (iA n1 (va_cpy f g (nI sp).toNatClampNeg (nI dp).toNatClampNeg (nI n).toNatClampNeg))) else none) = _
  rw [nI_clamp (show sp < 2 ^ 31 by omega), nI_clamp (show dp < 2 ^ 31 by omega), nI_clamp (show n < 2 ^ 31 by omega), if_pos ⟨⟨rfl, rfl⟩, ⟨nI_pos (by omega), nI_pos (by omega), nI_pos (by omega)⟩, h2, h3⟩]
abbrev drpA (A : AS) (k : Nat) : AS := ((aM A).eraseIdx k, aT A, aRt A, aWr A, aSv A, aSt A, (aCm A, aEv A, aSu A, aLo A))
theorem mk_drp {A : AS} {k i : Nat} : mk (drpA A k) i = if i < k then mk A i else mk A (i + 1) := by
  show ((aM A).eraseIdx k).getD i M0 = _
  rw [List.getD_eq_getElem?_getD, List.getElem?_eraseIdx]
  by_cases c : i < k
  · rw [if_pos c, if_pos c, ← List.getD_eq_getElem?_getD]
  · rw [if_neg c, if_neg c, ← List.getD_eq_getElem?_getD]
theorem n_drp {A : AS} {k : Nat} (hk : k < nM A) : nM (drpA A k) = nM A - 1 := by
  show ((aM A).eraseIdx k).length = _
  rw [List.length_eraseIdx_of_lt hk]
theorem drpA_ok {A : AS} {k : Nat} (hA : okA A) (hk : k < nM A) : okA (drpA A k) := by
  obtain ⟨h1, h2, h3, h4, h5⟩ := hA
  have n9 : nM A = (aM A).length := rfl
  have hn := n_drp hk
  have n8 : nM (drpA A k) = (aM (drpA A k)).length := rfl
  refine ⟨by omega, fun i hi => ?_, h3, h4, h5⟩
  rw [mk_drp]
  split
  · exact h2 i (by omega)
  · exact h2 (i + 1) (by omega)
theorem removeMeasure_e {σ : qH} {q k : Nat} {A : AS} (h : isP σ q A) (hA : okA A) (hk : k < nM A) : ∃ σ', FX2_removeMeasure q (nI k) σ = some (nI (nM A - 1), σ') ∧ isP σ' q (drpA A k) ∧ Off σ σ' q := by
  obtain ⟨m, t, r, w, v, s, c, hr, ⟨⟨c0, c1, c2, c3, c4⟩, hm, ht, hv, hs⟩⟩ := isP_raw h
  have n9 : nM A = (aM A).length := rfl
  have h16 := hA.1
  have hn := n_drp hk
  have e := sC_e (sp := (k + 1) * 9) (dp := k * 9) (n := (nM A - 1 - k) * 9) hr.2.1 hr.2.1 (by omega) (by omega) (by omega) (by omega)
  have r1 : rawP (qU σ (q + 1) (iA 144 (va_cpy m m ((k + 1) * 9) (k * 9) ((nM A - 1 - k) * 9)))) q (va_cpy m m ((k + 1) * 9) (k * 9) ((nM A - 1 - k) * 9)) t r w v s c := by
    obtain ⟨h0, h1, h2, h3, h4, h5, h6⟩ := hr
    refine ⟨?_, ?_, ?_, ?_, ?_, ?_, ?_⟩ <;> simp [qU, *]
  have o1 : Off σ (qU σ (q + 1) (iA 144 (va_cpy m m ((k + 1) * 9) (k * 9) ((nM A - 1 - k) * 9)))) q := Off.u (by omega)
  generalize qU σ (q + 1) (iA 144 (va_cpy m m ((k + 1) * 9) (k * 9) ((nM A - 1 - k) * 9))) = σ1 at e r1 o1
  obtain ⟨σ2, e2, r2, o2⟩ := w_c r1 (i := 0) (by omega) (nI (nM A) - 1)
  have e2' : gP σ1 q 2 6 (.int (nI (aM A).length - 1)) = some σ2 := e2
  unfold FX2_removeMeasure
  have ia : (nI k + 1) * (9 : Int32) = nI ((k + 1) * 9) := by
    show (nI k + nI 1) * nI 9 = _
    rw [nI_add, pk_mul]
  have ib : nI k * (9 : Int32) = nI (k * 9) := by
    show nI k * nI 9 = _
    rw [pk_mul]
  have ic : (nI (aM A).length - 1 - nI k) * (9 : Int32) = nI ((nM A - 1 - k) * 9) := by
    show (nI (aM A).length - nI 1 - nI k) * nI 9 = _
    rw [pk_sub (by omega), pk_sub (by omega), pk_mul]
  simp only [r_C hr, (r_c hr).1, c0, (r_R hr).1, b1_s, ia, ib, ic, e, (r_c r1).1, e2', (r_c r2).1, upd_e]
  have ed : nI (aM A).length - 1 = nI (nM A - 1) := by
    show nI (aM A).length - nI 1 = _
    rw [pk_sub (by omega)]
  refine ⟨σ2, by rw [ed], raw_isP r2 ⟨⟨?_, ?_, ?_, ?_, ?_⟩, ?_, ht, hv, hs⟩, o1.tr o2⟩
  · rw [upd_e]; show nI (aM A).length - 1 = nI (nM (drpA A k)); rw [hn, ed]
  · rw [upd_n (by omega), c1]
  · rw [upd_n (by omega), c2]
  · rw [upd_n (by omega), c3]
  · rw [upd_n (by omega), c4]
  · intro i hi
    have hi2 : i < nM A - 1 := by
      have h9 : i < nM (drpA A k) := hi
      omega
    rw [mk_drp]
    by_cases c : i < k
    · rw [if_pos c]
      obtain ⟨g1, g2, g3⟩ := hm i (by omega)
      refine ⟨fun j hj => ?_, ?_, ?_⟩
      · rw [pk_cpy_out (by omega)]; exact g1 j hj
      · rw [pk_cpy_out (by omega)]; exact g2
      · rw [pk_cpy_out (by omega)]; exact g3
    · rw [if_neg c]
      obtain ⟨g1, g2, g3⟩ := hm (i + 1) (by omega)
      refine ⟨fun j hj => ?_, ?_, ?_⟩
      · rw [pk_cpy_in (by omega) (by omega), show (k + 1) * 9 + (9 * i + j - k * 9) = 9 * (i + 1) + j by omega]; exact g1 j hj
      · rw [pk_cpy_in (by omega) (by omega), show (k + 1) * 9 + (9 * i + 7 - k * 9) = 9 * (i + 1) + 7 by omega]; exact g2
      · rw [pk_cpy_in (by omega) (by omega), show (k + 1) * 9 + (9 * i + 8 - k * 9) = 9 * (i + 1) + 8 by omega]; exact g3
abbrev fset {α : Type} (f : Nat → α) (i : Nat) (x : α) : Nat → α := fun j => if j = i then x else f j
abbrev truA (A : AS) (t v : Nat) : AS := (aM A, fset (aT A) t v, aRt A, aWr A, aSv A, aSt A, (aCm A, aEv A, aSu A, aLo A))
theorem upd_nI {f : Nat → Int32} {g : Nat → Nat} {i j v : Nat} (h : f j = nI (g j)) : upd f i (nI v) j = nI (fset g i v j) := by
  by_cases c : j = i
  · subst c; rw [upd_e]; show _ = nI (if j = j then v else g j); rw [if_pos rfl]
  · rw [upd_n c, h]; show _ = nI (if j = i then v else g j); rw [if_neg c]
theorem changeTrust_e {σ : qH} {q t v : Nat} {A : AS} (h : isP σ q A) (ht6 : t < 6) : ∃ σ', FX2_changeTrust q (nI t) (nI v) σ = some (nI (aT A t), σ') ∧ isP σ' q (truA A t v) ∧ Off σ σ' q := by
  have ha := (p_t h ht6).1
  obtain ⟨m, t0, r, w, v0, s, c, hr, ⟨hc, hm, ht, hv, hs⟩⟩ := isP_raw h
  obtain ⟨σ1, e1, r1, o1⟩ := w_t hr ht6 (nI v)
  unfold FX2_changeTrust
  simp only [r_C hr, (r_R hr).2.1, b1_s, ha, e1]
  exact ⟨σ1, rfl, raw_isP r1 ⟨hc, hm, fun i hi => ⟨upd_nI (ht i hi).1, (ht i hi).2⟩, hv, hs⟩, o1⟩
theorem truA_ok {A : AS} {t v : Nat} (hA : okA A) (hv : v ≤ 9) : okA (truA A t v) := by
  obtain ⟨h1, h2, h3, h4, h5⟩ := hA
  refine ⟨h1, h2, fun i hi => ?_, h4, h5⟩
  show fset (aT A) t v i ≤ 9
  simp only [fset]; split
  · exact hv
  · exact h3 i hi
abbrev setA (A : AS) (i v : Nat) : AS := (aM A, aT A, aRt A, aWr A, aSv A, fset (aSt A) i v, (aCm A, aEv A, aSu A, aLo A))
theorem changeSetting_e {σ : qH} {q i v : Nat} {A : AS} (h : isP σ q A) (hi : i < 2) : ∃ σ', FX2_changeSetting q (nI i) (nI v) σ = some (nI (aSt A i), σ') ∧ isP σ' q (setA A i v) ∧ Off σ σ' q := by
  have ha := p_s h hi
  obtain ⟨m, t0, r, w, v0, s, c, hr, ⟨hc, hm, ht, hv, hs⟩⟩ := isP_raw h
  obtain ⟨σ1, e1, r1, o1⟩ := w_s hr hi (nI v)
  unfold FX2_changeSetting
  simp only [r_C hr, (r_R hr).2.2.2.2.2, b1_s, ha, e1]
  exact ⟨σ1, rfl, raw_isP r1 ⟨hc, hm, ht, hv, fun j hj => upd_nI (hs j hj)⟩, o1⟩
theorem setA_ok {A : AS} {i v : Nat} (hA : okA A) (hv : v ≤ if i = 0 then 5 else 50) : okA (setA A i v) := by
  obtain ⟨h1, h2, h3, h4, h5⟩ := hA
  refine ⟨h1, h2, h3, ?_, ?_⟩
  · show (if 0 = i then v else aSt A 0) ≤ 5
    split
    · rename_i e; subst e; simpa using hv
    · exact h4
  · show (if 1 = i then v else aSt A 1) ≤ 50
    split
    · rename_i e; subst e; simpa using hv
    · exact h5
/-- of two who quarrel the lighter one loses -/
def shmT (A : AS) (t : Nat) : AS := if aT A t = 0 then A else (aM A, fset (aT A) t (aT A t - 1), aRt A, aWr A, aSv A, aSt A, (aCm A, aEv A, aSu A, aLo A + 1))
def shm (A : AS) (i j : Nat) : AS := if wt A (mk A i) = wt A (mk A j) then A else shmT A (mk A (if wt A (mk A i) < wt A (mk A j) then i else j) 1)
theorem shmT_M {A : AS} {t : Nat} : aM (shmT A t) = aM A ∧ aSt (shmT A t) = aSt A ∧ aEv (shmT A t) = aEv A ∧ aRt (shmT A t) = aRt A ∧ aWr (shmT A t) = aWr A ∧ (aLo (shmT A t) = aLo A ∨ aLo (shmT A t) = aLo A + 1) := by
  unfold shmT; split
  · exact ⟨rfl, rfl, rfl, rfl, rfl, Or.inl rfl⟩
  · exact ⟨rfl, rfl, rfl, rfl, rfl, Or.inr rfl⟩
theorem shm_M {A : AS} {i j : Nat} : aM (shm A i j) = aM A ∧ aSt (shm A i j) = aSt A ∧ aEv (shm A i j) = aEv A ∧ aRt (shm A i j) = aRt A ∧ aWr (shm A i j) = aWr A ∧ (aLo (shm A i j) = aLo A ∨ aLo (shm A i j) = aLo A + 1) := by
  unfold shm; split
  · exact ⟨rfl, rfl, rfl, rfl, rfl, Or.inl rfl⟩
  · exact shmT_M
theorem shmT_ok {A : AS} {t : Nat} (hA : okA A) : okA (shmT A t) := by
  unfold shmT; split
  · exact hA
  · obtain ⟨h1, h2, h3, h4, h5⟩ := hA
    refine ⟨h1, h2, fun k hk => ?_, h4, h5⟩
    show (if k = t then aT A t - 1 else aT A k) ≤ 9
    have := h3 k hk
    split
    · rename_i e; subst e; omega
    · exact this
theorem shm_ok {A : AS} {i j : Nat} (hA : okA A) : okA (shm A i j) := by
  unfold shm; split
  · exact hA
  · exact shmT_ok hA
theorem shame_e {σ : qH} {q i j : Nat} {A : AS} (h : isP σ q A) (hA : okA A) (hi : i < nM A) (hj : j < nM A) : ∃ σ', FX2_shameLighter q (nI i) (nI j) σ = some σ' ∧ isP σ' q (shm A i j) ∧ Off σ σ' q := by
  have wi := wt_b hA hi
  have wj := wt_b hA hj
  have n9 : nM A = (aM A).length := rfl
  have h16 := hA.1
  unfold FX2_shameLighter
  simp only [p_gC h, b1_s, weight_e h hA hi, weight_e h hA hj, b1_eta]
  have e1 := nI_sT (a := wt A (mk A i)) (b := wt A (mk A j)) (by omega) (by omega)
  have z0 : (0 : Int32).toInt = 0 := rfl
  have q1 : (nI (wt A (mk A i)) - nI (wt A (mk A j)) = 0) ↔ wt A (mk A i) = wt A (mk A j) := by
    rw [← Int32.toInt_inj, e1, z0]; omega
  have q2 : (0 ≤ nI (wt A (mk A i)) - nI (wt A (mk A j))) ↔ ¬ wt A (mk A i) < wt A (mk A j) := by
    rw [Int32.le_iff_toInt_le, e1, z0]; omega
  unfold shm shmT
  by_cases c : wt A (mk A i) = wt A (mk A j)
  · rw [if_pos (q1.mpr c), if_pos c]; exact ⟨σ, rfl, h, Off.rf⟩
  · rw [if_neg (fun z => c (q1.mp z)), if_neg c]
    have hx : (if 0 ≤ nI (wt A (mk A i)) - nI (wt A (mk A j)) then some (nI j) else some (nI i)) = some (nI (if wt A (mk A i) < wt A (mk A j) then i else j)) := by
      by_cases c2 : wt A (mk A i) < wt A (mk A j)
      · rw [if_neg (fun z => q2.mp z c2), if_pos c2]
      · rw [if_pos (q2.mpr c2), if_neg c2]
    rw [hx]
    generalize hk : (if wt A (mk A i) < wt A (mk A j) then i else j) = k
    have hkn : k < nM A := by rw [← hk]; split <;> omega
    have hb := mk_b hA hkn
    have ht := (p_t h hb.2.1).1
    have h9 := hA.2.2.1 _ hb.2.1
    simp only [b1_s, number_1 h hA hkn, (p_R h).2.1, ht, show (0 : Int32) = nI 0 from rfl, le_nI (show aT A (mk A k 1) < 2 ^ 31 by omega) (show 0 < 2 ^ 31 by omega)]
    by_cases c3 : aT A (mk A k 1) = 0
    · rw [if_pos (by omega), if_pos c3]; exact ⟨σ, rfl, h, Off.rf⟩
    · rw [if_neg (by omega), if_neg c3]
      obtain ⟨m, t0, r, w, v0, s, cc, hr, ⟨⟨c0, c1, c2, c3', c4⟩, hm, ht0, hv, hs⟩⟩ := isP_raw h
      obtain ⟨σ1, e2, r1, o1⟩ := w_t hr hb.2.1 (nI (aT A (mk A k 1)) - 1)
      obtain ⟨σ2, e3, r2, o2⟩ := w_c r1 (i := 4) (by omega) (nI (aLo A) + 1)
      have e3' : gP σ1 q 2 10 (.int (nI (aLo A) + 1)) = some σ2 := e3
      simp only [e2, b1_s, (r_c r1).2.2.2.2, c4, e3']
      refine ⟨σ2, rfl, raw_isP r2 ⟨⟨?_, ?_, ?_, ?_, ?_⟩, hm, fun x hx => ⟨?_, (ht0 x hx).2⟩, hv, hs⟩, o1.tr o2⟩
      · rw [upd_n (by omega), c0]
      · rw [upd_n (by omega), c1]
      · rw [upd_n (by omega), c2]
      · rw [upd_n (by omega), c3']
      · rw [upd_e, nI_1]
      · show upd t0 (mk A k 1) (nI (aT A (mk A k 1)) - nI 1) x = _
        rw [pk_sub (by omega)]
        exact upd_nI (ht0 x hx).1
