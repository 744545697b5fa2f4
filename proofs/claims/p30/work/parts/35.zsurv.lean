/-! Layer 2: the reference's survey. -/
theorem fsm_set {f : Nat → Nat} {t v : Nat} : ∀ {n : Nat}, t < n → fb_sm (fset f t (f t + 1)) n = fb_sm f n + 1
  | 0, h => absurd h (by omega)
  | n + 1, h => by
    simp only [fb_sm]
    by_cases c : t < n
    · have := fsm_set (f := f) (v := v) c
      have e2 : fset f t (f t + 1) n = f n := if_neg (by omega)
      rw [this, e2]; omega
    · have e : n = t := by omega
      subst e
      have e2 : fset f n (f n + 1) n = f n + 1 := if_pos rfl
      rw [fsm_c (f := fset f n (f n + 1)) (g := f) (fun k hk => by show (if k = n then f n + 1 else f k) = f k; rw [if_neg (by omega)]), e2]; omega
theorem zR_jt {A : AS} {z : Nat → Int32} {t : Nat} (h : zR A z) (ht : t < 6) : zR (jdg A t true) (upd (upd (upd z (9 + t) (nI (min 9 (aT A t + 1)))) 5 (nI (fb_sm (aRt A) 6 + 1))) (15 + t) (nI (aRt A t + 1))) := by
  obtain ⟨h0, h1, h2, h3, h4, h5, h6, hs, ht', hv, hm⟩ := h
  unfold jdg
  rw [if_pos rfl]
  refine ⟨?_, ?_, ?_, ?_, ?_, ?_, ?_, fun i hi => ?_, fun i hi => ⟨?_, upd_sh ?_, ?_⟩, fun i hi => ?_, fun k hk j hj => ?_⟩
  · rw [upd_n (by omega), upd_n (by omega), upd_n (by omega)]; exact h0
  · rw [upd_n (by omega), upd_n (by omega), upd_n (by omega)]; exact h1
  · rw [upd_n (by omega), upd_n (by omega), upd_n (by omega)]; exact h2
  · rw [upd_n (by omega), upd_n (by omega), upd_n (by omega)]; exact h3
  · rw [upd_n (by omega), upd_n (by omega), upd_n (by omega)]; exact h4
  · rw [upd_n (by omega), upd_e]; exact congrArg nI (fsm_set (f := aRt A) (v := 0) ht).symm
  · rw [upd_n (by omega), upd_n (by omega), upd_n (by omega)]; exact h6
  · rw [upd_n (by omega), upd_n (by omega), upd_n (by omega)]; exact hs i hi
  · rw [upd_n (by omega), upd_n (by omega)]; exact upd_sh (ht' i hi).1
  · rw [upd_n (by omega), upd_n (by omega)]; exact (ht' i hi).2.1
  · rw [upd_n (by omega), upd_n (by omega), upd_n (by omega)]; exact (ht' i hi).2.2
  · rw [upd_n (by omega), upd_n (by omega), upd_n (by omega)]; exact hv i hi
  · rw [upd_n (by omega), upd_n (by omega), upd_n (by omega)]; exact hm k hk j hj
theorem zR_jf {A : AS} {z : Nat → Int32} {t : Nat} (h : zR A z) (ht : t < 6) : zR (jdg A t false) (upd (upd (upd z (9 + t) (nI (aT A t - 1))) 6 (nI (fb_sm (aWr A) 6 + 1))) (21 + t) (nI (aWr A t + 1))) := by
  obtain ⟨h0, h1, h2, h3, h4, h5, h6, hs, ht', hv, hm⟩ := h
  unfold jdg
  rw [if_neg (by decide)]
  refine ⟨?_, ?_, ?_, ?_, ?_, ?_, ?_, fun i hi => ?_, fun i hi => ⟨?_, ?_, upd_sh ?_⟩, fun i hi => ?_, fun k hk j hj => ?_⟩
  · rw [upd_n (by omega), upd_n (by omega), upd_n (by omega)]; exact h0
  · rw [upd_n (by omega), upd_n (by omega), upd_n (by omega)]; exact h1
  · rw [upd_n (by omega), upd_n (by omega), upd_n (by omega)]; exact h2
  · rw [upd_n (by omega), upd_n (by omega), upd_n (by omega)]; exact h3
  · rw [upd_n (by omega), upd_n (by omega), upd_n (by omega)]; exact h4
  · rw [upd_n (by omega), upd_n (by omega), upd_n (by omega)]; exact h5
  · rw [upd_n (by omega), upd_e]; exact congrArg nI (fsm_set (f := aWr A) (v := 0) ht).symm
  · rw [upd_n (by omega), upd_n (by omega), upd_n (by omega)]; exact hs i hi
  · rw [upd_n (by omega), upd_n (by omega)]; exact upd_sh (ht' i hi).1
  · rw [upd_n (by omega), upd_n (by omega), upd_n (by omega)]; exact (ht' i hi).2.1
  · rw [upd_n (by omega), upd_n (by omega)]; exact (ht' i hi).2.2
  · rw [upd_n (by omega), upd_n (by omega), upd_n (by omega)]; exact hv i hi
  · rw [upd_n (by omega), upd_n (by omega), upd_n (by omega)]; exact hm k hk j hj
section ZS
variable {σ : qH} {a : Nat} {A : AS}
theorem up_9 {T : Nat} (hT : T ≤ 9) : (if 0 ≤ nI T + 1 then (if nI T + 1 ≤ 9 then some (nI T + 1) else some 9) else some (0 : Int32)) = some (nI (min 9 (T + 1))) := by
  rcases (show T = 0 ∨ T = 1 ∨ T = 2 ∨ T = 3 ∨ T = 4 ∨ T = 5 ∨ T = 6 ∨ T = 7 ∨ T = 8 ∨ T = 9 by omega) with rfl | rfl | rfl | rfl | rfl | rfl | rfl | rfl | rfl | rfl <;> decide
theorem dn_0 {T : Nat} (hT : T ≤ 9) : (if 0 ≤ nI T + -1 then (if nI T + -1 ≤ 9 then some (nI T + -1) else some 9) else some (0 : Int32)) = some (nI (T - 1)) := by
  rcases (show T = 0 ∨ T = 1 ∨ T = 2 ∨ T = 3 ∨ T = 4 ∨ T = 5 ∨ T = 6 ∨ T = 7 ∨ T = 8 ∨ T = 9 by omega) with rfl | rfl | rfl | rfl | rfl | rfl | rfl | rfl | rfl | rfl <;> decide
def sees_k (a : Nat) (i9 i5 i15 x4 : Int32) (σ : qH) : Option qH :=
  b1 (sI σ a i9 x4) fun s5 => b1 (aI s5 a i5) fun v8 => b1 (sI s5 a i5 (v8 + 1)) fun s10 => b1 (aI s10 a i15) fun v13 => b1 (sI s10 a i15 (v13 + 1)) fun s15 => some s15
theorem sees_kt {t : Nat} (h : isZ σ a A) (ht : t < 6) : ∃ σ', sees_k a (nI (9 + t)) 5 (nI (15 + t)) (nI (min 9 (aT A t + 1))) σ = some σ' ∧ isZ σ' a (jdg A t true) ∧ OfZ σ σ' a := by
  obtain ⟨z, h0, hr⟩ := isZ_R h
  have c5 := hr.2.2.2.2.2.1
  have c15 := (hr.2.2.2.2.2.2.2.2.1 t ht).2.1
  obtain ⟨σ1, e1, g1, o1⟩ := zW h0 (i := 9 + t) (by omega) (nI (min 9 (aT A t + 1)))
  obtain ⟨σ2, e2, g2, o2⟩ := zW g1 (i := 5) (by omega) (nI (fb_sm (aRt A) 6 + 1))
  obtain ⟨σ3, e3, g3, o3⟩ := zW g2 (i := 15 + t) (by omega) (nI (aRt A t + 1))
  have r1 : aI σ1 a (nI 5) = some (nI (fb_sm (aRt A) 6)) := by rw [zI g1 (by omega), upd_n (by omega), c5]
  have r2 : aI σ2 a (nI (15 + t)) = some (nI (aRt A t)) := by rw [zI g2 (by omega), upd_n (by omega), upd_n (by omega), c15]
  refine ⟨σ3, ?_, R_isZ g3 (zR_jt hr ht), (o1.tr o2).tr o3⟩
  unfold sees_k
  rw [show (5 : Int32) = nI 5 from rfl]
  rw [e1, b1_s, r1, b1_s, nI_1, e2, b1_s, r2, b1_s, nI_1, e3, b1_s]
theorem sees_kf {t : Nat} (h : isZ σ a A) (ht : t < 6) : ∃ σ', sees_k a (nI (9 + t)) 6 (nI (21 + t)) (nI (aT A t - 1)) σ = some σ' ∧ isZ σ' a (jdg A t false) ∧ OfZ σ σ' a := by
  obtain ⟨z, h0, hr⟩ := isZ_R h
  have c6 := hr.2.2.2.2.2.2.1
  have c21 := (hr.2.2.2.2.2.2.2.2.1 t ht).2.2
  obtain ⟨σ1, e1, g1, o1⟩ := zW h0 (i := 9 + t) (by omega) (nI (aT A t - 1))
  obtain ⟨σ2, e2, g2, o2⟩ := zW g1 (i := 6) (by omega) (nI (fb_sm (aWr A) 6 + 1))
  obtain ⟨σ3, e3, g3, o3⟩ := zW g2 (i := 21 + t) (by omega) (nI (aWr A t + 1))
  have r1 : aI σ1 a (nI 6) = some (nI (fb_sm (aWr A) 6)) := by rw [zI g1 (by omega), upd_n (by omega), c6]
  have r2 : aI σ2 a (nI (21 + t)) = some (nI (aWr A t)) := by rw [zI g2 (by omega), upd_n (by omega), upd_n (by omega), c21]
  refine ⟨σ3, ?_, R_isZ g3 (zR_jf hr ht), (o1.tr o2).tr o3⟩
  unfold sees_k
  rw [show (6 : Int32) = nI 6 from rfl]
  rw [e1, b1_s, r1, b1_s, nI_1, e2, b1_s, r2, b1_s, nI_1, e3, b1_s]
theorem svF_l {s x n : Nat} {l l' : List Me} {C : (Nat → Nat) × (Nat → Nat) × (Nat → Nat) × (Nat → Int32) × (Nat → Nat) × (Nat × Nat × Nat × Nat)} {m : Me} : svF s x (n, (l, C)) m = ((svF s x (n, (l', C)) m).1, (l, (svF s x (n, (l', C)) m).2.2)) := by
  unfold svF jdg
  by_cases c : m 0 = s
  · simp only [if_pos c]
    generalize decide (telP m x) = b
    cases b <;> rfl
  · simp only [if_neg c]
theorem fold_l {s x : Nat} {l l' : List Me} : ∀ (r : List Me) (n : Nat) (C : (Nat → Nat) × (Nat → Nat) × (Nat → Nat) × (Nat → Int32) × (Nat → Nat) × (Nat × Nat × Nat × Nat)), r.foldl (svF s x) (n, (l, C)) = ((r.foldl (svF s x) (n, (l', C))).1, (l, (r.foldl (svF s x) (n, (l', C))).2.2))
  | [], _, _ => rfl
  | m :: r, n, C => by
    simp only [List.foldl_cons]
    rw [svF_l (l := l) (l' := l')]
    have e : svF s x (n, (l', C)) m = ((svF s x (n, (l', C)) m).1, (l', (svF s x (n, (l', C)) m).2.2)) := svF_l (l := l') (l' := l')
    rw [fold_l r _ _]
end ZS
