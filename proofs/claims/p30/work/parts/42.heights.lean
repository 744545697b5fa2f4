/-! Layer 2: the ballot of the class, by heights. -/
def pre (c : Nat → Int32) : Nat → Int32
  | 0 => 0
  | h + 1 => pre c h + c (h + 1)
theorem pre_upd {c : Nat → Int32} {i : Nat} {w : Int32} (hi : 1 ≤ i) : ∀ h, pre (upd c i (c i + w)) h = pre c h + (if i ≤ h then w else 0)
  | 0 => by
    rw [if_neg (by omega)]; show (0 : Int32) = 0 + 0; rfl
  | h + 1 => by
    show pre (upd c i (c i + w)) h + upd c i (c i + w) (h + 1) = pre c h + c (h + 1) + _
    rw [pre_upd hi h]
    by_cases e : h + 1 = i
    · rw [e, upd_e, if_neg (by omega), if_pos (Nat.le_refl _), Int32.add_zero, Int32.add_assoc]
    · rw [upd_n e]
      by_cases e2 : i ≤ h
      · rw [if_pos e2, if_pos (by omega), Int32.add_assoc, Int32.add_assoc, Int32.add_comm w]
      · rw [if_neg e2, if_neg (by omega), Int32.add_zero, Int32.add_zero]
theorem pre_0 {c : Nat → Int32} {n : Nat} (hc : ∀ j, j < n → c j = 0) : ∀ h, h < n → pre c h = 0
  | 0, _ => rfl
  | h + 1, hh => by
    show pre c h + c (h + 1) = 0
    rw [pre_0 hc h (by omega), hc (h + 1) hh]; rfl
theorem ncL {q b s : Nat} {A : AS} {l h m : Int32} (hd : b + 1 < q ∨ q + 6 < b) (hA : okA A) (hs : s < 2 ^ 31) : ∀ (d k q2 : Nat) (σ : qH) (c : Nat → Int32), k + d = nM A → isP σ q A → isB σ b l h m → σ (b + 1) = some (iA 1001 c) → (∀ x, x ≤ 999 → pre c x = nI (fb_sm (fun i => vt1 A s x (mk A i)) k)) → ∃ σ' c', FX0_noteChanges_L10 b q (nI s) (d + 1 + q2) (nI k) σ = some σ' ∧ σ' (b + 1) = some (iA 1001 c') ∧ (∀ x, x ≤ 999 → pre c' x = nI (vot A s x)) ∧ OfZ σ σ' (b + 1)
  | 0, k, q2, σ, c, hk, hp, hb, hc, hx => by
    have n31 := n16 hA
    have e : k = nM A := by omega
    subst e
    refine ⟨σ, c, ?_, hc, hx, OfZ.rf⟩
    rw [show 0 + 1 + q2 = q2 + 1 by omega, FX0_noteChanges_L10]
    simp only [count_e hp, b1_s, le_nI n31 n31, Nat.le_refl, if_true]
  | d + 1, k, q2, σ, c, hk, hp, hb, hc, hx => by
    have n31 := n16 hA
    have hkn : k < nM A := by omega
    have mb := mk_b hA hkn
    have lg := lst_gst (hA.2.1 k hkn)
    rw [show d + 1 + 1 + q2 = (d + 1 + q2) + 1 by omega, FX0_noteChanges_L10]
    simp only [count_e hp, b1_s, le_nI n31 (show k < 2 ^ 31 by omega), if_neg (show ¬ nM A ≤ k by omega), isOf_e hp hA hkn hs, bI_ite, nI_1, (B_r hb).2.1, number_7 hp hA hkn, weight_e hp hA hkn]
    by_cases c2 : mk A k 0 = s
    · have w1 : sI σ (b + 1) (nI (lst (mk A k))) (c (lst (mk A k)) + nI (wt A (mk A k))) = some (qU σ (b + 1) (iA 1001 (upd c (lst (mk A k)) (c (lst (mk A k)) + nI (wt A (mk A k)))))) := sI_e hc (by omega) (by omega)
      generalize hc1 : upd c (lst (mk A k)) (c (lst (mk A k)) + nI (wt A (mk A k))) = c1 at w1
      have o1 : OfZ σ (qU σ (b + 1) (iA 1001 c1)) (b + 1) := fun _ hb => qU_n hb
      have g1 : qU σ (b + 1) (iA 1001 c1) (b + 1) = some (iA 1001 c1) := qU_s
      generalize qU σ (b + 1) (iA 1001 c1) = σ1 at w1 o1 g1
      have p1 := isP_z hp o1 (by omega)
      have hb1 : isB σ1 b l h m := by show σ1 b = _; rw [o1 b (by omega)]; exact hb
      have w2 : sI σ1 (b + 1) (nI (gst (mk A k) + 1)) (c1 (gst (mk A k) + 1) - nI (wt A (mk A k))) = some (qU σ1 (b + 1) (iA 1001 (upd c1 (gst (mk A k) + 1) (c1 (gst (mk A k) + 1) - nI (wt A (mk A k)))))) := sI_e g1 (by omega) (by omega)
      generalize hc2 : upd c1 (gst (mk A k) + 1) (c1 (gst (mk A k) + 1) - nI (wt A (mk A k))) = c3 at w2
      have o2 : OfZ σ1 (qU σ1 (b + 1) (iA 1001 c3)) (b + 1) := fun _ hb => qU_n hb
      have g2 : qU σ1 (b + 1) (iA 1001 c3) (b + 1) = some (iA 1001 c3) := qU_s
      generalize qU σ1 (b + 1) (iA 1001 c3) = σ2 at w2 o2 g2
      have p2 := isP_z p1 o2 (by omega)
      have hb2 : isB σ2 b l h m := by show σ2 b = _; rw [o2 b (by omega)]; exact hb1
      have hx2 : ∀ x, x ≤ 999 → pre c3 x = nI (fb_sm (fun i => vt1 A s x (mk A i)) (k + 1)) := fun x hx' => by
        rw [← hc2, Int32.sub_eq_add_neg, pre_upd (by omega), ← hc1, pre_upd (by omega), hx x hx']
        simp only [fb_sm]
        rw [← nI_add]
        unfold vt1
        by_cases d1 : lst (mk A k) ≤ x
        · by_cases d2 : gst (mk A k) + 1 ≤ x
          · rw [if_pos d1, if_pos d2, if_neg (show ¬ (mk A k 0 = s ∧ lst (mk A k) ≤ x ∧ x ≤ gst (mk A k)) by omega), Int32.add_assoc, ← Int32.sub_eq_add_neg, Int32.sub_self]; rfl
          · rw [if_pos d1, if_neg d2, if_pos ⟨c2, d1, by omega⟩, Int32.add_zero]
        · rw [if_neg d1, if_neg (show ¬ gst (mk A k) + 1 ≤ x by omega), if_neg (show ¬ (mk A k 0 = s ∧ lst (mk A k) ≤ x ∧ x ≤ gst (mk A k)) by omega), Int32.add_zero]; rfl
      obtain ⟨σ3, c', e3, g3, x3, o3⟩ := ncL hd hA hs d (k + 1) q2 σ2 c3 (by omega) p2 hb2 g2 hx2
      refine ⟨σ3, c', ?_, g3, x3, (o1.tr o2).tr o3⟩
      have a1 : aI σ (b + 1) (nI (lst (mk A k))) = some (c (lst (mk A k))) := aI_e hc (by omega) (by omega)
      have a2 : aI σ1 (b + 1) (nI (gst (mk A k) + 1)) = some (c1 (gst (mk A k) + 1)) := aI_e g1 (by omega) (by omega)
      rw [if_pos c2]
      simp only [a1, b1_s, w1, (B_r hb1).2.1, number_8 p1 hA hkn, nI_1, a2, weight_e p1 hA hkn, w2]
      exact e3
    · have hx2 : ∀ x, x ≤ 999 → pre c x = nI (fb_sm (fun i => vt1 A s x (mk A i)) (k + 1)) := fun x hx' => by
        rw [hx x hx']
        simp only [fb_sm]
        have : vt1 A s x (mk A k) = 0 := by unfold vt1; rw [if_neg (fun hh => c2 hh.1)]
        rw [this, Nat.add_zero]
      obtain ⟨σ3, c', e3, g3, x3, o3⟩ := ncL hd hA hs d (k + 1) q2 σ c (by omega) hp hb hc hx2
      refine ⟨σ3, c', ?_, g3, x3, o3⟩
      rw [if_neg c2]
      exact e3
theorem noteChanges_e {σ : qH} {q b s : Nat} {A : AS} {l h m : Int32} {c : Nat → Int32} (hd : b + 1 < q ∨ q + 6 < b) (hA : okA A) (hs : s < 2 ^ 31) (hp : isP σ q A) (hb : isB σ b l h m) (hc : σ (b + 1) = some (iA 1001 c)) : ∃ σ' c', FX0_noteChanges b q (nI s) σ = some σ' ∧ σ' (b + 1) = some (iA 1001 c') ∧ (∀ x, x ≤ 999 → pre c' x = nI (vot A s x)) ∧ OfZ σ σ' (b + 1) := by
  have n16' : nM A ≤ 16 := hA.1
  obtain ⟨σ1, c1, e1, g1, j1, o1⟩ := fill_e (x := 0) (show 1001 < 99999 by omega) hc
  obtain ⟨q3, hq⟩ := qf (n := nM A) (by omega)
  have hb1 : isB σ1 b l h m := by show σ1 b = _; rw [o1 b (by omega)]; exact hb
  obtain ⟨σ2, c2, e2, g2, x2, o2⟩ := ncL hd hA hs (nM A) 0 q3 σ1 c1 (by omega) (isP_z hp o1 (by omega)) hb1 g1 (fun x hx => by rw [pre_0 (n := 1001) j1 x (by omega)]; rfl)
  rw [← hq] at e2
  refine ⟨σ2, c2, ?_, g2, x2, o1.tr o2⟩
  have e2' : FX0_noteChanges_L10 b q (nI s) qfuel 0 σ1 = some σ2 := e2
  unfold FX0_noteChanges
  rw [(B_r hb).1, b1_s, (B_r hb).2.1, b1_s, e1, b1_s, e2', b1_s]
