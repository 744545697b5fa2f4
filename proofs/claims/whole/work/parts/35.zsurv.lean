/-! Layer 2: the reference's survey. -/
theorem fsm_set {f : Nat → Nat} {t v : Nat} : ∀ {n : Nat}, t < n → fb_sm (fset f t (f t + 1)) n = fb_sm f n + 1
  | 0, h => absurd h (by omega)
  | n + 1, h => by
    simp only [fb_sm]
    by_cases c : t < n
    · have := fsm_set (f := f) (v := v) c
      have e2 : fset f t (f t + 1) n = f n := if_neg (by omega)
      rw [this, e2]; omega
    · have e : n = t := by omega
      subst e
      have e2 : fset f n (f n + 1) n = f n + 1 := if_pos rfl
      rw [fsm_c (f := fset f n (f n + 1)) (g := f) (fun k hk => by show (if k = n then f n + 1 else f k) = f k; rw [if_neg (by omega)]), e2]; omega
theorem zR_jt {A : AS} {z : Nat → Int32} {t : Nat} (h : zR A z) (ht : t < 6) : zR (jdg A t true) (upd (upd (upd z (9 + t) (nI (min 9 (aT A t + 1)))) 5 (nI (fb_sm (aRt A) 6 + 1))) (15 + t) (nI (aRt A t + 1))) := by
  obtain ⟨h0, h1, h2, h3, h4, h5, h6, hs, ht', hv, hm⟩ := h
  unfold jdg
  rw [if_pos rfl]
  refine ⟨?_, ?_, ?_, ?_, ?_, ?_, ?_, fun i hi => ?_, fun i hi => ⟨?_, upd_sh ?_, ?_⟩, fun i hi => ?_, fun k hk j hj => ?_⟩
  · rw [upd_n (by omega), upd_n (by omega), upd_n (by omega)]; exact h0
  · rw [upd_n (by omega), upd_n (by omega), upd_n (by omega)]; exact h1
  · rw [upd_n (by omega), upd_n (by omega), upd_n (by omega)]; exact h2
  · rw [upd_n (by omega), upd_n (by omega), upd_n (by omega)]; exact h3
  · rw [upd_n (by omega), upd_n (by omega), upd_n (by omega)]; exact h4
  · rw [upd_n (by omega), upd_e]; exact congrArg nI (fsm_set (f := aRt A) (v := 0) ht).symm
  · rw [upd_n (by omega), upd_n (by omega), upd_n (by omega)]; exact h6
  · rw [upd_n (by omega), upd_n (by omega), upd_n (by omega)]; exact hs i hi
  · rw [upd_n (by omega), upd_n (by omega)]; exact upd_sh (ht' i hi).1
  · rw [upd_n (by omega), upd_n (by omega)]; exact (ht' i hi).2.1
  · rw [upd_n (by omega), upd_n (by omega), upd_n (by omega)]; exact (ht' i hi).2.2
  · rw [upd_n (by omega), upd_n (by omega), upd_n (by omega)]; exact hv i hi
  · rw [upd_n (by omega), upd_n (by omega), upd_n (by omega)]; exact hm k hk j hj
theorem zR_jf {A : AS} {z : Nat → Int32} {t : Nat} (h : zR A z) (ht : t < 6) : zR (jdg A t false) (upd (upd (upd z (9 + t) (nI (aT A t - 1))) 6 (nI (fb_sm (aWr A) 6 + 1))) (21 + t) (nI (aWr A t + 1))) := by
  obtain ⟨h0, h1, h2, h3, h4, h5, h6, hs, ht', hv, hm⟩ := h
  unfold jdg
  rw [if_neg (by decide)]
  refine ⟨?_, ?_, ?_, ?_, ?_, ?_, ?_, fun i hi => ?_, fun i hi => ⟨?_, ?_, upd_sh ?_⟩, fun i hi => ?_, fun k hk j hj => ?_⟩
  · rw [upd_n (by omega), upd_n (by omega), upd_n (by omega)]; exact h0
  · rw [upd_n (by omega), upd_n (by omega), upd_n (by omega)]; exact h1
  · rw [upd_n (by omega), upd_n (by omega), upd_n (by omega)]; exact h2
  · rw [upd_n (by omega), upd_n (by omega), upd_n (by omega)]; exact h3
  · rw [upd_n (by omega), upd_n (by omega), upd_n (by omega)]; exact h4
  · rw [upd_n (by omega), upd_n (by omega), upd_n (by omega)]; exact h5
  · rw [upd_n (by omega), upd_e]; exact congrArg nI (fsm_set (f := aWr A) (v := 0) ht).symm
  · rw [upd_n (by omega), upd_n (by omega), upd_n (by omega)]; exact hs i hi
  · rw [upd_n (by omega), upd_n (by omega)]; exact upd_sh (ht' i hi).1
  · rw [upd_n (by omega), upd_n (by omega), upd_n (by omega)]; exact (ht' i hi).2.1
  · rw [upd_n (by omega), upd_n (by omega)]; exact (ht' i hi).2.2
  · rw [upd_n (by omega), upd_n (by omega), upd_n (by omega)]; exact hv i hi
  · rw [upd_n (by omega), upd_n (by omega), upd_n (by omega)]; exact hm k hk j hj
section ZS
variable {σ : qH} {a : Nat} {A : AS}
theorem up_9 {T : Nat} (hT : T ≤ 9) : (if 0 ≤ nI T + 1 then (if nI T + 1 ≤ 9 then some (nI T + 1) else some 9) else some (0 : Int32)) = some (nI (min 9 (T + 1))) := by
  rcases (show T = 0 ∨ T = 1 ∨ T = 2 ∨ T = 3 ∨ T = 4 ∨ T = 5 ∨ T = 6 ∨ T = 7 ∨ T = 8 ∨ T = 9 by omega) with rfl | rfl | rfl | rfl | rfl | rfl | rfl | rfl | rfl | rfl <;> decide
theorem dn_0 {T : Nat} (hT : T ≤ 9) : (if 0 ≤ nI T + -1 then (if nI T + -1 ≤ 9 then some (nI T + -1) else some 9) else some (0 : Int32)) = some (nI (T - 1)) := by
  rcases (show T = 0 ∨ T = 1 ∨ T = 2 ∨ T = 3 ∨ T = 4 ∨ T = 5 ∨ T = 6 ∨ T = 7 ∨ T = 8 ∨ T = 9 by omega) with rfl | rfl | rfl | rfl | rfl | rfl | rfl | rfl | rfl | rfl <;> decide
def sees_k (a : Nat) (i9 i5 i15 x4 : Int32) (σ : qH) : Option qH :=
  b1 (sI σ a i9 x4) fun s5 => b1 (aI s5 a i5) fun v8 => b1 (sI s5 a i5 (v8 + 1)) fun s10 => b1 (aI s10 a i15) fun v13 => b1 (sI s10 a i15 (v13 + 1)) fun s15 => some s15
theorem sees_u {x y : Int32} : FX7_sees a x y σ = b1 (aI σ a (9 + x)) fun v1 => b1 (if y = 0 then some (-1 : Int32) else some 1) fun x3 => b1 (if 0 ≤ v1 + x3 then (if v1 + x3 ≤ 9 then some (v1 + x3) else some 9) else some (0 : Int32)) fun x4 => b1 (sI σ a (9 + x) x4) fun s5 => b1 (if y = 0 then some (6 : Int32) else some 5) fun x7 => b1 (aI s5 a x7) fun v8 => b1 (sI s5 a x7 (v8 + 1)) fun s10 => b1 (if y = 0 then some (21 : Int32) else some 15) fun x12 => b1 (aI s10 a (x12 + x)) fun v13 => b1 (sI s10 a (x12 + x) (v13 + 1)) fun s15 => some s15 := rfl
theorem sees_t {t : Nat} (h : isZ σ a A) (hA : okA A) (ht : t < 6) : FX7_sees a (nI t) 1 σ = sees_k a (nI (9 + t)) 5 (nI (15 + t)) (nI (min 9 (aT A t + 1))) σ := by
  have hT := hA.2.2.1 t ht
  have r9 := (z_t h ht).1
  have i9 : (9 : Int32) + nI t = nI (9 + t) := nI_add 9 t
  have i15 : (15 : Int32) + nI t = nI (15 + t) := nI_add 15 t
  rw [sees_u, r9]
  simp only [b1_s, if_neg (show ¬ (1 : Int32) = 0 by decide), up_9 hT, i9, i15, sees_k]
theorem sees_f {t : Nat} (h : isZ σ a A) (hA : okA A) (ht : t < 6) : FX7_sees a (nI t) 0 σ = sees_k a (nI (9 + t)) 6 (nI (21 + t)) (nI (aT A t - 1)) σ := by
  have hT := hA.2.2.1 t ht
  have r9 := (z_t h ht).1
  have i9 : (9 : Int32) + nI t = nI (9 + t) := nI_add 9 t
  have i21 : (21 : Int32) + nI t = nI (21 + t) := nI_add 21 t
  rw [sees_u, r9]
  rw [if_pos (show (0 : Int32) = 0 from rfl), if_pos (show (0 : Int32) = 0 from rfl), if_pos (show (0 : Int32) = 0 from rfl)]
  rw [b1_s, b1_s, dn_0 hT, b1_s]
  simp only [b1_s, i9, i21, sees_k]
theorem sees_kt {t : Nat} (h : isZ σ a A) (ht : t < 6) : ∃ σ', sees_k a (nI (9 + t)) 5 (nI (15 + t)) (nI (min 9 (aT A t + 1))) σ = some σ' ∧ isZ σ' a (jdg A t true) ∧ OfZ σ σ' a := by
  obtain ⟨z, h0, hr⟩ := isZ_R h
  have c5 := hr.2.2.2.2.2.1
  have c15 := (hr.2.2.2.2.2.2.2.2.1 t ht).2.1
  obtain ⟨σ1, e1, g1, o1⟩ := zW h0 (i := 9 + t) (by omega) (nI (min 9 (aT A t + 1)))
  obtain ⟨σ2, e2, g2, o2⟩ := zW g1 (i := 5) (by omega) (nI (fb_sm (aRt A) 6 + 1))
  obtain ⟨σ3, e3, g3, o3⟩ := zW g2 (i := 15 + t) (by omega) (nI (aRt A t + 1))
  have r1 : aI σ1 a (nI 5) = some (nI (fb_sm (aRt A) 6)) := by rw [zI g1 (by omega), upd_n (by omega), c5]
  have r2 : aI σ2 a (nI (15 + t)) = some (nI (aRt A t)) := by rw [zI g2 (by omega), upd_n (by omega), upd_n (by omega), c15]
  refine ⟨σ3, ?_, R_isZ g3 (zR_jt hr ht), (o1.tr o2).tr o3⟩
  unfold sees_k
  rw [show (5 : Int32) = nI 5 from rfl]
  rw [e1, b1_s, r1, b1_s, nI_1, e2, b1_s, r2, b1_s, nI_1, e3, b1_s]
theorem sees_kf {t : Nat} (h : isZ σ a A) (ht : t < 6) : ∃ σ', sees_k a (nI (9 + t)) 6 (nI (21 + t)) (nI (aT A t - 1)) σ = some σ' ∧ isZ σ' a (jdg A t false) ∧ OfZ σ σ' a := by
  obtain ⟨z, h0, hr⟩ := isZ_R h
  have c6 := hr.2.2.2.2.2.2.1
  have c21 := (hr.2.2.2.2.2.2.2.2.1 t ht).2.2
  obtain ⟨σ1, e1, g1, o1⟩ := zW h0 (i := 9 + t) (by omega) (nI (aT A t - 1))
  obtain ⟨σ2, e2, g2, o2⟩ := zW g1 (i := 6) (by omega) (nI (fb_sm (aWr A) 6 + 1))
  obtain ⟨σ3, e3, g3, o3⟩ := zW g2 (i := 21 + t) (by omega) (nI (aWr A t + 1))
  have r1 : aI σ1 a (nI 6) = some (nI (fb_sm (aWr A) 6)) := by rw [zI g1 (by omega), upd_n (by omega), c6]
  have r2 : aI σ2 a (nI (21 + t)) = some (nI (aWr A t)) := by rw [zI g2 (by omega), upd_n (by omega), upd_n (by omega), c21]
  refine ⟨σ3, ?_, R_isZ g3 (zR_jf hr ht), (o1.tr o2).tr o3⟩
  unfold sees_k
  rw [show (6 : Int32) = nI 6 from rfl]
  rw [e1, b1_s, r1, b1_s, nI_1, e2, b1_s, r2, b1_s, nI_1, e3, b1_s]
theorem sees_e {t : Nat} {p : Prop} [Decidable p] (h : isZ σ a A) (hA : okA A) (ht : t < 6) : ∃ σ', FX7_sees a (nI t) (bI p) σ = some σ' ∧ isZ σ' a (jdg A t (decide p)) ∧ OfZ σ σ' a := by
  by_cases c : p
  · rw [bI_t c, decide_eq_true c, sees_t h hA ht]; exact sees_kt h ht
  · rw [bI_f c, decide_eq_false c, sees_f h hA ht]; exact sees_kf h ht
theorem svF_l {s x n : Nat} {l l' : List Me} {C : (Nat → Nat) × (Nat → Nat) × (Nat → Nat) × (Nat → Int32) × (Nat → Nat) × (Nat × Nat × Nat × Nat)} {m : Me} : svF s x (n, (l, C)) m = ((svF s x (n, (l', C)) m).1, (l, (svF s x (n, (l', C)) m).2.2)) := by
  unfold svF jdg
  by_cases c : m 0 = s
  · simp only [if_pos c]
    generalize decide (telP m x) = b
    cases b <;> rfl
  · simp only [if_neg c]
theorem fold_l {s x : Nat} {l l' : List Me} : ∀ (r : List Me) (n : Nat) (C : (Nat → Nat) × (Nat → Nat) × (Nat → Nat) × (Nat → Int32) × (Nat → Nat) × (Nat × Nat × Nat × Nat)), r.foldl (svF s x) (n, (l, C)) = ((r.foldl (svF s x) (n, (l', C))).1, (l, (r.foldl (svF s x) (n, (l', C))).2.2))
  | [], _, _ => rfl
  | m :: r, n, C => by
    simp only [List.foldl_cons]
    rw [svF_l (l := l) (l' := l')]
    have e : svF s x (n, (l', C)) m = ((svF s x (n, (l', C)) m).1, (l', (svF s x (n, (l', C)) m).2.2)) := svF_l (l := l') (l' := l')
    rw [fold_l r _ _]
theorem zs_e {s x : Nat} (hs : s < 2 ^ 31) (hx : x < 2 ^ 31) : ∀ (r p : List Me) (C : (Nat → Nat) × (Nat → Nat) × (Nat → Nat) × (Nat → Int32) × (Nat → Nat) × (Nat × Nat × Nat × Nat)) (n : Nat) (σ : qH) (q2 : Nat), isZ σ a (p ++ r, C) → okA (p ++ r, C) → ∃ σ', FX7_surveyOn_L5 a (nI s) (nI x) (r.length + 1 + q2) (nI n) (nI p.length) σ = some (nI (r.foldl (svF s x) (n, (p ++ r, C))).1, σ') ∧ isZ σ' a (p ++ r.filter (fun m => decide (m 0 ≠ s)), (r.foldl (svF s x) (n, (p ++ r, C))).2.2) ∧ OfZ σ σ' a
  | [], p, C, n, σ, q2, h, hA => by
    have n31 := n16 hA
    have hn : nM ((p ++ [], C) : AS) = p.length := by show (p ++ []).length = _; simp
    refine ⟨σ, ?_, h, OfZ.rf⟩
    rw [show ([] : List Me).length + 1 + q2 = q2 + 1 by simp; omega, FX7_surveyOn_L5]
    simp only [z_n h, b1_s, hn, le_nI (show p.length < 2 ^ 31 by omega) (show p.length < 2 ^ 31 by omega), Nat.le_refl, if_true]
    rfl
  | m :: r, p, C, n, σ, q2, h, hA => by
    have n31 := n16 hA
    have hn : nM ((p ++ m :: r, C) : AS) = p.length + (r.length + 1) := by show (p ++ m :: r).length = _; simp
    have hk : p.length < nM ((p ++ m :: r, C) : AS) := by omega
    have hmk : mk ((p ++ m :: r, C) : AS) p.length = m := by
      show (p ++ m :: r).getD p.length M0 = m
      rw [List.getD_eq_getElem?_getD, List.getElem?_append_right (Nat.le_refl _), Nat.sub_self]; rfl
    have hb := mk_b hA hk
    have hf := of_l h hA hk
    have htl := ztells_e h hA hk hx
    rw [hmk] at hb hf htl
    rw [show (m :: r).length + 1 + q2 = (r.length + 1 + q2) + 1 by simp; omega, FX7_surveyOn_L5]
    simp only [z_n h, b1_s, le_nI n31 (show p.length < 2 ^ 31 by omega), if_neg (show ¬ nM ((p ++ m :: r, C) : AS) ≤ p.length by omega), hf.1, eq_nI (show m 0 < 2 ^ 31 by omega) hs]
    by_cases c : m 0 = s
    · obtain ⟨σ1, e1, h1, o1⟩ := sees_e (p := telP m x) h hA hb.2.1
      have hA1 := jdg_ok (t := m 1) (b := decide (telP m x)) hA
      have hM1 := jdg_M (A := (p ++ m :: r, C)) (t := m 1) (b := decide (telP m x))
      obtain ⟨σ2, e2, h2, o2⟩ := dropOn_e h1 hA1 (k := p.length) (by show _ < (aM _).length; rw [hM1]; exact hk)
      have hd : drpA (jdg (p ++ m :: r, C) (m 1) (decide (telP m x))) p.length = (p ++ r, (jdg (p ++ m :: r, C) (m 1) (decide (telP m x))).2) := by
        show ((aM (jdg (p ++ m :: r, C) (m 1) (decide (telP m x)))).eraseIdx p.length, (jdg (p ++ m :: r, C) (m 1) (decide (telP m x))).2) = _
        rw [hM1]
        show ((p ++ m :: r).eraseIdx p.length, _) = _
        rw [List.eraseIdx_append_of_length_le (Nat.le_refl _), Nat.sub_self]; rfl
      have hA2 := drpA_ok hA1 (k := p.length) (by show _ < (aM _).length; rw [hM1]; exact hk)
      rw [hd] at h2 hA2
      obtain ⟨σ3, e3, h3, o3⟩ := zs_e hs hx r p _ (n + if telP m x then 1 else 0) σ2 q2 h2 hA2
      have hfold : (m :: r).foldl (svF s x) (n, (p ++ m :: r, C)) = r.foldl (svF s x) (n + (if telP m x then 1 else 0), (p ++ m :: r, (jdg (p ++ m :: r, C) (m 1) (decide (telP m x))).2)) := by
        rw [List.foldl_cons]
        congr 1
        unfold svF; rw [if_pos c]
        refine Prod.ext rfl (Prod.ext ?_ rfl)
        exact hM1
      have hfl := fold_l (s := s) (x := x) (l := p ++ m :: r) (l' := p ++ r) r (n + if telP m x then 1 else 0) (jdg (p ++ m :: r, C) (m 1) (decide (telP m x))).2
      refine ⟨σ3, ?_, ?_, (o1.tr o2).tr o3⟩
      · have hx11 : (if telP m x then some (1 : Int32) else some (0 : Int32)) = some (nI (if telP m x then 1 else 0)) := by split <;> rfl
        simp only [if_pos c, htl, hf.2.1, e1, b1_s, bI_ite, hx11, e2, b2_s, nI_add, e3]
        rw [hfold, hfl]
      · rw [hfold, hfl, List.filter_cons_of_neg (by simp [c])]
        exact h3
    · have hA1 : okA ((p ++ [m]) ++ r, C) := by rw [List.append_assoc]; exact hA
      have h1 : isZ σ a ((p ++ [m]) ++ r, C) := by rw [List.append_assoc]; exact h
      obtain ⟨σ3, e3, h3, o3⟩ := zs_e hs hx r (p ++ [m]) C n σ q2 h1 hA1
      have hfold : (m :: r).foldl (svF s x) (n, (p ++ m :: r, C)) = r.foldl (svF s x) (n, (p ++ [m] ++ r, C)) := by
        rw [List.foldl_cons, List.append_assoc]
        congr 1
        unfold svF; rw [if_neg c]; rfl
      refine ⟨σ3, ?_, ?_, o3⟩
      · simp only [if_neg c, nI_1]
        rw [hfold, ← e3, List.length_append]; rfl
      · rw [hfold, List.filter_cons_of_pos (by simp [c])]
        rw [List.append_assoc] at h3; exact h3
theorem surveyOn_e {s x : Nat} (hs : s < 3) (hx : x < 2 ^ 31) (h : isZ σ a A) (hA : okA A) : ∃ σ', FX7_surveyOn a (nI s) (nI x) σ = some (nI (srv A s x).1, σ') ∧ isZ σ' a (srv A s x).2 ∧ OfZ σ σ' a := by
  have n9 : nM A ≤ 16 := hA.1
  obtain ⟨q3, hq⟩ := qf (n := (aM A).length) (by show nM A < _; omega)
  obtain ⟨σ1, e1, h1, o1⟩ := zs_e (a := a) (show s < 2 ^ 31 by omega) hx (aM A) [] A.2 0 σ q3 h hA
  rw [← hq] at e1
  obtain ⟨z, g0, hr⟩ := isZ_R h1
  obtain ⟨σ2, e2, g2, o2⟩ := zW g0 (i := 3) (by omega) (nI (aSu ((aM A).foldl (svF s x) (0, A)).2 + 1))
  obtain ⟨σ3, e3, g3, o3⟩ := zW g2 (i := 27 + s) (by omega) (nI x)
  have e1' : FX7_surveyOn_L5 a (nI s) (nI x) qfuel 0 0 σ = some (nI ((aM A).foldl (svF s x) (0, A)).1, σ1) := e1
  have r1 : aI σ1 a 3 = some (nI (aSu ((aM A).foldl (svF s x) (0, A)).2)) := (z_c h1).2.2.1
  have e2' : sI σ1 a 3 (nI (aSu ((aM A).foldl (svF s x) (0, A)).2 + 1)) = some σ2 := e2
  have i27 : (27 : Int32) + nI s = nI (27 + s) := nI_add 27 s
  have hM : aM ((aM A).foldl (svF s x) (0, A)).2 = aM A := by
    have := fold_l (s := s) (x := x) (l := aM A) (l' := aM A) (aM A) 0 A.2
    exact congrArg (fun q => q.2.1) this
  unfold FX7_surveyOn
  simp only [e1', b2_s, r1, b1_s, nI_1, e2', i27, e3]
  refine ⟨σ3, rfl, R_isZ g3 ?_, (o1.tr o2).tr o3⟩
  obtain ⟨h0, h1, h2, h3, h4, h5, h6, hs', ht', hv, hm⟩ := hr
  have hM2 : aM (srv A s x).2 = (aM A).filter (fun m => decide (m 0 ≠ s)) := by
    show (aM ((aM A).foldl (svF s x) (0, A)).2).filter _ = _; rw [hM]
  refine ⟨?_, ?_, ?_, ?_, ?_, ?_, ?_, fun i hi => ?_, fun i hi => ⟨?_, ?_, ?_⟩, fun i hi => ?_, fun k hk j hj => ?_⟩
  · rw [upd_n (by omega), upd_n (by omega), hM2]; exact h0
  · rw [upd_n (by omega), upd_n (by omega)]; exact h1
  · rw [upd_n (by omega), upd_n (by omega)]; exact h2
  · rw [upd_n (by omega), upd_e]; rfl
  · rw [upd_n (by omega), upd_n (by omega)]; exact h4
  · rw [upd_n (by omega), upd_n (by omega)]; exact h5
  · rw [upd_n (by omega), upd_n (by omega)]; exact h6
  · rw [upd_n (by omega), upd_n (by omega)]; exact hs' i hi
  · rw [upd_n (by omega), upd_n (by omega)]; exact (ht' i hi).1
  · rw [upd_n (by omega), upd_n (by omega)]; exact (ht' i hi).2.1
  · rw [upd_n (by omega), upd_n (by omega)]; exact (ht' i hi).2.2
  · show _ = (if i = s then nI x else aSv ((aM A).foldl (svF s x) (0, A)).2 i)
    by_cases c : i = s
    · rw [c, upd_e, if_pos rfl]
    · rw [upd_n (by omega), upd_n (by omega), if_neg c]; exact hv i hi
  · rw [hM2] at hk
    rw [upd_n (by omega), upd_n (by omega)]
    show _ = nI ((aM (srv A s x).2).getD k M0 j)
    rw [hM2]; exact hm k hk j hj
end ZS
