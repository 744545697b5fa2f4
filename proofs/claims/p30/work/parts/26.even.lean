def evI : Nat → AS → Nat → Nat → AS
  | 0, A, _, _ => A
  | d + 1, A, k, i => evI d (if matt A (mk A k) (mk A i) then shm A k i else A) k (i + 1)
def evO : Nat → AS → Nat → AS
  | 0, A, _ => A
  | d + 1, A, k => evO d (evI (nM A - (k + 1)) A k (k + 1)) (k + 1)
abbrev evn1 (B : AS) : AS := (aM B, aT B, aRt B, aWr B, aSv B, aSt B, (aCm B, aEv B + 1, aSu B, aLo B))
def eve (A : AS) : AS := evn1 (evO (nM A) A 0)
theorem evS_M {A : AS} {k i : Nat} : aM (if matt A (mk A k) (mk A i) then shm A k i else A) = aM A ∧ (aLo A ≤ aLo (if matt A (mk A k) (mk A i) then shm A k i else A) ∧ aLo (if matt A (mk A k) (mk A i) then shm A k i else A) ≤ aLo A + 1) := by
  split
  · have h := shm_M (A := A) (i := k) (j := i)
    refine ⟨h.1, ?_⟩
    rcases h.2.2.2.2.2 with e | e <;> omega
  · exact ⟨rfl, by omega, by omega⟩
theorem evS_ok {A : AS} {k i : Nat} (hA : okA A) : okA (if matt A (mk A k) (mk A i) then shm A k i else A) := by
  split
  · exact shm_ok hA
  · exact hA
theorem evI_M : ∀ (d : Nat) (A : AS) (k i : Nat), aM (evI d A k i) = aM A ∧ aLo A ≤ aLo (evI d A k i) ∧ aLo (evI d A k i) ≤ aLo A + d
  | 0, A, k, i => ⟨rfl, by show aLo A ≤ aLo A; omega, by show aLo A ≤ aLo A + 0; omega⟩
  | d + 1, A, k, i => by
    obtain ⟨h1, h2, h3⟩ := evI_M d (if matt A (mk A k) (mk A i) then shm A k i else A) k (i + 1)
    obtain ⟨g1, g2, g3⟩ := evS_M (A := A) (k := k) (i := i)
    rw [evI]
    exact ⟨h1.trans g1, by omega, by omega⟩
theorem evI_ok : ∀ (d : Nat) (A : AS) (k i : Nat), okA A → okA (evI d A k i)
  | 0, A, k, i, h => h
  | d + 1, A, k, i, h => by rw [evI]; exact evI_ok d _ k (i + 1) (evS_ok h)
theorem evO_M : ∀ (d : Nat) (A : AS) (k : Nat), aM (evO d A k) = aM A ∧ aLo A ≤ aLo (evO d A k) ∧ aLo (evO d A k) ≤ aLo A + d * nM A
  | 0, A, k => ⟨rfl, by show aLo A ≤ aLo A; omega, by show aLo A ≤ aLo A + 0 * nM A; omega⟩
  | d + 1, A, k => by
    obtain ⟨h1, h2, h3⟩ := evO_M d (evI (nM A - (k + 1)) A k (k + 1)) (k + 1)
    obtain ⟨g1, g2, g3⟩ := evI_M (nM A - (k + 1)) A k (k + 1)
    have e : nM (evI (nM A - (k + 1)) A k (k + 1)) = nM A := by show (aM _).length = _; rw [g1]
    rw [evO]
    rw [e] at h3
    exact ⟨h1.trans g1, by omega, by rw [Nat.succ_mul]; omega⟩
theorem evO_ok : ∀ (d : Nat) (A : AS) (k : Nat), okA A → okA (evO d A k)
  | 0, A, k, h => h
  | d + 1, A, k, h => by rw [evO]; exact evO_ok d _ (k + 1) (evI_ok _ _ _ _ h)
theorem eve_ok {A : AS} (hA : okA A) : okA (eve A) := evO_ok _ A 0 hA
theorem eve_M {A : AS} (hA : okA A) : aM (eve A) = aM A ∧ aLo A ≤ aLo (eve A) ∧ aLo (eve A) ≤ aLo A + 256 := by
  obtain ⟨h1, h2, h3⟩ := evO_M (nM A) A 0
  have h16 := hA.1
  have n9 : nM A = (aM A).length := rfl
  have : nM A * nM A ≤ 16 * 16 := Nat.mul_le_mul (by omega) (by omega)
  exact ⟨h1, h2, by show aLo (evO (nM A) A 0) ≤ _; omega⟩
theorem evI_e {q k : Nat} {v : Int32} : ∀ (d : Nat) (A : AS) (i : Nat) (σ : qH) (q2 : Nat), isP σ q A → okA A → k < nM A → i + d = nM A → ∃ σ', FX2_passEvening_L19 q v (nI k) (d + 1 + q2) (nI i) σ = some σ' ∧ isP σ' q (evI d A k i) ∧ Off σ σ' q
  | 0, A, i, σ, q2, h, hA, hk, hi => by
    have e : i = nM A := by omega
    subst e
    rw [show 0 + 1 + q2 = q2 + 1 by omega, FX2_passEvening_L19]
    simp only [p_cnt h, b1_s, le_nI (n16 hA) (n16 hA), Nat.le_refl, if_true]
    exact ⟨σ, rfl, h, Off.rf⟩
  | d + 1, A, i, σ, q2, h, hA, hk, hi => by
    have hi2 : i < nM A := by omega
    rw [show d + 1 + 1 + q2 = (d + 1 + q2) + 1 by omega, FX2_passEvening_L19]
    simp only [p_cnt h, b1_s, le_nI (n16 hA) (show i < 2 ^ 31 by have := n16 hA; omega), if_neg (Nat.not_le.mpr hi2), matters_e h hA hk hi2, bI_ite, nI_1, b1_eta]
    rw [evI]
    by_cases c : matt A (mk A k) (mk A i)
    · obtain ⟨σ1, e1, h1, o1⟩ := shame_e h hA hk hi2
      simp only [if_pos c, e1, b1_s]
      have hn : nM (shm A k i) = nM A := by show (aM _).length = _; rw [shm_M.1]
      obtain ⟨σ2, e2, h2, o2⟩ := evI_e d (shm A k i) (i + 1) σ1 q2 h1 (shm_ok hA) (by rw [hn]; exact hk) (by rw [hn]; omega)
      exact ⟨σ2, e2, h2, o1.tr o2⟩
    · simp only [if_neg c, b1_s]
      obtain ⟨σ2, e2, h2, o2⟩ := evI_e d A (i + 1) σ q2 h hA hk (by omega)
      exact ⟨σ2, e2, h2, o2⟩
theorem evO_e {q : Nat} {v : Int32} : ∀ (d : Nat) (A : AS) (k : Nat) (σ : qH) (q2 : Nat), isP σ q A → okA A → k + d = nM A → ∃ σ', FX2_passEvening_L7 q v (d + 1 + q2) (nI k) σ = some σ' ∧ isP σ' q (evO d A k) ∧ Off σ σ' q
  | 0, A, k, σ, q2, h, hA, hk => by
    have e : k = nM A := by omega
    subst e
    rw [show 0 + 1 + q2 = q2 + 1 by omega, FX2_passEvening_L7]
    simp only [p_cnt h, b1_s, le_nI (n16 hA) (n16 hA), Nat.le_refl, if_true]
    exact ⟨σ, rfl, h, Off.rf⟩
  | d + 1, A, k, σ, q2, h, hA, hk => by
    have hk2 : k < nM A := by omega
    have h16 := hA.1
    have n9 : nM A = (aM A).length := rfl
    rw [show d + 1 + 1 + q2 = (d + 1 + q2) + 1 by omega, FX2_passEvening_L7]
    obtain ⟨q3, hq⟩ := qf (n := nM A - (k + 1)) (by omega)
    obtain ⟨σ1, e1, h1, o1⟩ := evI_e (v := v) (nM A - (k + 1)) A (k + 1) σ q3 h hA hk2 (by omega)
    rw [← hq] at e1
    simp only [p_cnt h, b1_s, le_nI (n16 hA) (show k < 2 ^ 31 by have := n16 hA; omega), if_neg (Nat.not_le.mpr hk2), nI_1, e1]
    obtain ⟨g1, -⟩ := evI_M (nM A - (k + 1)) A k (k + 1)
    have hn : nM (evI (nM A - (k + 1)) A k (k + 1)) = nM A := by show (aM _).length = _; rw [g1]
    rw [evO]
    obtain ⟨σ2, e2, h2, o2⟩ := evO_e d (evI (nM A - (k + 1)) A k (k + 1)) (k + 1) σ1 q2 h1 (evI_ok _ _ _ _ hA) (by omega)
    exact ⟨σ2, e2, h2, o1.tr o2⟩
theorem passEvening_e {σ : qH} {q : Nat} {A : AS} (h : isP σ q A) (hA : okA A) : ∃ σ', FX2_passEvening q σ = some (nI (aLo (eve A)) - nI (aLo A), σ') ∧ isP σ' q (eve A) ∧ Off σ σ' q := by
  have h16 := hA.1
  have n9 : nM A = (aM A).length := rfl
  obtain ⟨q3, hq⟩ := qf (n := nM A) (by omega)
  obtain ⟨σ1, e1, h1, o1⟩ := evO_e (v := nI (aLo A)) (nM A) A 0 σ q3 h hA (by omega)
  rw [← hq] at e1
  unfold FX2_passEvening
  have e1' : FX2_passEvening_L7 q (nI (aLo A)) qfuel 0 σ = some σ1 := e1
  simp only [p_gC h, p_lost h, b1_s, e1', p_even h1]
  obtain ⟨m, t0, r, w, v0, s, c, hr, ⟨⟨c0, c1, c2, c3, c4⟩, hm, ht0, hv, hs⟩⟩ := isP_raw h1
  obtain ⟨σ2, e2, r2, o2⟩ := w_c hr (i := 2) (by omega) (nI (aEv (evO (nM A) A 0)) + 1)
  have e2' : gP σ1 q 2 8 (.int (nI (aEv (evO (nM A) A 0)) + 1)) = some σ2 := e2
  simp only [e2', b1_s, (r_c r2).2.2.2.2, upd_n (show (4 : Nat) ≠ 2 by omega), c4]
  refine ⟨σ2, rfl, raw_isP r2 ⟨⟨?_, ?_, ?_, ?_, ?_⟩, hm, ht0, hv, hs⟩, o1.tr o2⟩
  · rw [upd_n (by omega), c0]; rfl
  · rw [upd_n (by omega), c1]; rfl
  · rw [upd_e, nI_1]; rfl
  · rw [upd_n (by omega), c3]; rfl
  · rw [upd_n (by omega), c4]; rfl
def jdg (A : AS) (t : Nat) (b : Bool) : AS := if b then (aM A, fset (aT A) t (min 9 (aT A t + 1)), fset (aRt A) t (aRt A t + 1), aWr A, aSv A, aSt A, (aCm A, aEv A, aSu A, aLo A)) else (aM A, fset (aT A) t (aT A t - 1), aRt A, fset (aWr A) t (aWr A t + 1), aSv A, aSt A, (aCm A, aEv A, aSu A, aLo A))
theorem jdg_M {A : AS} {t : Nat} {b : Bool} : aM (jdg A t b) = aM A := by unfold jdg; split <;> rfl
theorem jdg_ok {A : AS} {t : Nat} {b : Bool} (hA : okA A) : okA (jdg A t b) := by
  obtain ⟨h1, h2, h3, h4, h5⟩ := hA
  unfold jdg; split
  · refine ⟨h1, h2, fun i hi => ?_, h4, h5⟩
    show (if i = t then min 9 (aT A t + 1) else aT A i) ≤ 9
    have := h3 i hi
    split <;> omega
  · refine ⟨h1, h2, fun i hi => ?_, h4, h5⟩
    show (if i = t then aT A t - 1 else aT A i) ≤ 9
    have := h3 i hi
    split
    · rename_i e; subst e; omega
    · exact this
theorem mx_pred {a : Nat} (h : a < 2 ^ 30) : mx 0 (nI a - 1) = nI (a - 1) := by
  apply Int32.toInt_inj.mp
  have e1 : (nI a - 1).toInt = (a : Int) - 1 := nI_sT (b := 1) h (by omega)
  have e0 : (0 : Int32).toInt = 0 := rfl
  rw [nI_toInt (by omega)]
  unfold mx
  simp only [Int32.lt_iff_toInt_lt]
  split <;> simp_all <;> omega
theorem mn_succ {a : Nat} (h : a < 2 ^ 30) : mn 9 (nI a + 1) = nI (min 9 (a + 1)) := by
  rw [nI_1]
  unfold mn
  simp only [show (9 : Int32) = nI 9 from rfl, lt_nI (show a + 1 < 2 ^ 31 by omega) (show 9 < 2 ^ 31 by omega)]
  split
  · congr 1; omega
  · congr 1; omega
theorem judge_e {σ : qH} {q t : Nat} {A : AS} {p : Prop} [Decidable p] (h : isP σ q A) (hA : okA A) (ht6 : t < 6) : ∃ σ', FX2_judge q (nI t) (bI p) σ = some σ' ∧ isP σ' q (jdg A t (decide p)) ∧ Off σ σ' q := by
  have h9 := hA.2.2.1 t ht6
  obtain ⟨pt1, pt2, pt3⟩ := p_t h ht6
  obtain ⟨m, t0, r, w, v0, s, c, hr, ⟨hc, hm, ht, hv, hs⟩⟩ := isP_raw h
  unfold FX2_judge
  simp only [r_C hr, b1_s, b1_eta, bI_ite]
  by_cases c : p
  · obtain ⟨σ1, e1, r1, o1⟩ := w_r hr ht6 (nI (aRt A t) + 1)
    obtain ⟨σ2, e2, r2, o2⟩ := w_t r1 ht6 (nI (min 9 (aT A t + 1)))
    have a1 : aI σ1 (q + 2) (nI t) = some (nI (aT A t)) := by rw [aI_e r1.2.2.1 ht6 (by omega), (ht t ht6).1]
    simp only [if_pos c, (r_R hr).2.2.1, b1_s, pt2, e1, (r_R r1).2.1, a1, min_e, mn_succ (show aT A t < 2 ^ 30 by omega), e2]
    refine ⟨σ2, rfl, ?_, o1.tr o2⟩
    rw [decide_eq_true c]
    refine raw_isP r2 ⟨hc, hm, fun i hi => ⟨upd_nI (ht i hi).1, ?_, (ht i hi).2.2⟩, hv, hs⟩
    rw [nI_1]
    exact upd_nI (ht i hi).2.1
  · obtain ⟨σ1, e1, r1, o1⟩ := w_w hr ht6 (nI (aWr A t) + 1)
    obtain ⟨σ2, e2, r2, o2⟩ := w_t r1 ht6 (nI (aT A t - 1))
    have a1 : aI σ1 (q + 2) (nI t) = some (nI (aT A t)) := by rw [aI_e r1.2.2.1 ht6 (by omega), (ht t ht6).1]
    simp only [if_neg c, (r_R hr).2.2.2.1, b1_s, pt3, e1, (r_R r1).2.1, a1, max_e, mx_pred (show aT A t < 2 ^ 30 by omega), e2]
    refine ⟨σ2, rfl, ?_, o1.tr o2⟩
    rw [decide_eq_false c]
    refine raw_isP r2 ⟨hc, hm, fun i hi => ⟨upd_nI (ht i hi).1, (ht i hi).2.1, ?_⟩, hv, hs⟩
    rw [nI_1]
    exact upd_nI (ht i hi).2.2
