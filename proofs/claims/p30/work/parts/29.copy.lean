theorem raw_off {σ σ' : qH} {q p : Nat} {m t r w v s c : Nat → Int32} (h : rawP σ p m t r w v s c) (o : Off σ σ' q) (hd : p + 6 < q ∨ q + 6 < p) : rawP σ' p m t r w v s c := by
  obtain ⟨h0, h1, h2, h3, h4, h5, h6⟩ := h
  exact ⟨by rw [o _ (by omega)]; exact h0, by rw [o _ (by omega)]; exact h1, by rw [o _ (by omega)]; exact h2, by rw [o _ (by omega)]; exact h3, by rw [o _ (by omega)]; exact h4, by rw [o _ (by omega)]; exact h5, by rw [o _ (by omega)]; exact h6⟩
theorem isP_off {σ σ' : qH} {q p : Nat} {A : AS} (h : isP σ p A) (o : Off σ σ' q) (hd : p + 6 < q ∨ q + 6 < p) : isP σ' p A := by
  obtain ⟨m, t, r, w, v, s, c, hr, hp⟩ := isP_raw h
  exact raw_isP (raw_off hr o hd) hp
section CP
variable {σ : qH} {q : Nat} {m t r w v s c : Nat → Int32}
theorem cp_m (h : rawP σ q m t r w v s c) {p : Nat} {f : Nat → Int32} (hp : σ (p + 1) = some (iA 144 f)) : aL σ (q + 1) = some (nI 144) ∧ ∃ σ', sC σ (p + 1) 0 (q + 1) 0 (nI 144) = some σ' ∧ rawP σ' q (va_cpy f m 0 0 144) t r w v s c ∧ Off σ σ' q := by
  refine ⟨aL_e h.2.1 (by omega), _, sC_e (sp := 0) (dp := 0) (n := 144) hp h.2.1 (by omega) (by omega) (by omega) (by omega), ?_, Off.u (by omega)⟩
  obtain ⟨h0, h1, h2, h3, h4, h5, h6⟩ := h
  refine ⟨?_, ?_, ?_, ?_, ?_, ?_, ?_⟩ <;> simp [qU, *]
theorem cp_t (h : rawP σ q m t r w v s c) {p : Nat} {f : Nat → Int32} (hp : σ (p + 2) = some (iA 6 f)) : aL σ (q + 2) = some (nI 6) ∧ ∃ σ', sC σ (p + 2) 0 (q + 2) 0 (nI 6) = some σ' ∧ rawP σ' q m (va_cpy f t 0 0 6) r w v s c ∧ Off σ σ' q := by
  refine ⟨aL_e h.2.2.1 (by omega), _, sC_e (sp := 0) (dp := 0) (n := 6) hp h.2.2.1 (by omega) (by omega) (by omega) (by omega), ?_, Off.u (by omega)⟩
  obtain ⟨h0, h1, h2, h3, h4, h5, h6⟩ := h
  refine ⟨?_, ?_, ?_, ?_, ?_, ?_, ?_⟩ <;> simp [qU, *]
theorem cp_r (h : rawP σ q m t r w v s c) {p : Nat} {f : Nat → Int32} (hp : σ (p + 3) = some (iA 6 f)) : aL σ (q + 3) = some (nI 6) ∧ ∃ σ', sC σ (p + 3) 0 (q + 3) 0 (nI 6) = some σ' ∧ rawP σ' q m t (va_cpy f r 0 0 6) w v s c ∧ Off σ σ' q := by
  refine ⟨aL_e h.2.2.2.1 (by omega), _, sC_e (sp := 0) (dp := 0) (n := 6) hp h.2.2.2.1 (by omega) (by omega) (by omega) (by omega), ?_, Off.u (by omega)⟩
  obtain ⟨h0, h1, h2, h3, h4, h5, h6⟩ := h
  refine ⟨?_, ?_, ?_, ?_, ?_, ?_, ?_⟩ <;> simp [qU, *]
theorem cp_w (h : rawP σ q m t r w v s c) {p : Nat} {f : Nat → Int32} (hp : σ (p + 4) = some (iA 6 f)) : aL σ (q + 4) = some (nI 6) ∧ ∃ σ', sC σ (p + 4) 0 (q + 4) 0 (nI 6) = some σ' ∧ rawP σ' q m t r (va_cpy f w 0 0 6) v s c ∧ Off σ σ' q := by
  refine ⟨aL_e h.2.2.2.2.1 (by omega), _, sC_e (sp := 0) (dp := 0) (n := 6) hp h.2.2.2.2.1 (by omega) (by omega) (by omega) (by omega), ?_, Off.u (by omega)⟩
  obtain ⟨h0, h1, h2, h3, h4, h5, h6⟩ := h
  refine ⟨?_, ?_, ?_, ?_, ?_, ?_, ?_⟩ <;> simp [qU, *]
theorem cp_v (h : rawP σ q m t r w v s c) {p : Nat} {f : Nat → Int32} (hp : σ (p + 5) = some (iA 3 f)) : aL σ (q + 5) = some (nI 3) ∧ ∃ σ', sC σ (p + 5) 0 (q + 5) 0 (nI 3) = some σ' ∧ rawP σ' q m t r w (va_cpy f v 0 0 3) s c ∧ Off σ σ' q := by
  refine ⟨aL_e h.2.2.2.2.2.1 (by omega), _, sC_e (sp := 0) (dp := 0) (n := 3) hp h.2.2.2.2.2.1 (by omega) (by omega) (by omega) (by omega), ?_, Off.u (by omega)⟩
  obtain ⟨h0, h1, h2, h3, h4, h5, h6⟩ := h
  refine ⟨?_, ?_, ?_, ?_, ?_, ?_, ?_⟩ <;> simp [qU, *]
theorem cp_s (h : rawP σ q m t r w v s c) {p : Nat} {f : Nat → Int32} (hp : σ (p + 6) = some (iA 2 f)) : aL σ (q + 6) = some (nI 2) ∧ ∃ σ', sC σ (p + 6) 0 (q + 6) 0 (nI 2) = some σ' ∧ rawP σ' q m t r w v (va_cpy f s 0 0 2) c ∧ Off σ σ' q := by
  refine ⟨aL_e h.2.2.2.2.2.2 (by omega), _, sC_e (sp := 0) (dp := 0) (n := 2) hp h.2.2.2.2.2.2 (by omega) (by omega) (by omega) (by omega), ?_, Off.u (by omega)⟩
  obtain ⟨h0, h1, h2, h3, h4, h5, h6⟩ := h
  refine ⟨?_, ?_, ?_, ?_, ?_, ?_, ?_⟩ <;> simp [qU, *]
theorem cpy0 {f g : Nat → Int32} {n j : Nat} (h : j < n) : va_cpy f g 0 0 n j = f j := by
  rw [pk_cpy_in (by omega) (by omega)]; simp
theorem takeFrom_e {A : AS} {p : Nat} (h : rawP σ q m t r w v s c) (hp : isP σ p A) (hA : okA A) (hd : p + 6 < q ∨ q + 6 < p) : ∃ σ', FX2_takeFrom q p σ = some σ' ∧ isP σ' q A ∧ Off σ σ' q := by
  obtain ⟨m1, t1, r1, w1, v1, s1, c1, a0, hrel⟩ := isP_raw hp
  have h16 := hA.1
  have n9 : nM A = (aM A).length := rfl
  obtain ⟨x1, σ1, e1, b1', o1⟩ := cp_m h a0.2.1
  have a1 := raw_off a0 o1 hd
  obtain ⟨x2, σ2, e2, b2', o2⟩ := cp_t b1' a1.2.2.1
  have a2 := raw_off a1 o2 hd
  obtain ⟨x3, σ3, e3, b3', o3⟩ := cp_r b2' a2.2.2.2.1
  have a3 := raw_off a2 o3 hd
  obtain ⟨x4, σ4, e4, b4', o4⟩ := cp_w b3' a3.2.2.2.2.1
  have a4 := raw_off a3 o4 hd
  obtain ⟨x5, σ5, e5, b5', o5⟩ := cp_v b4' a4.2.2.2.2.2.1
  have a5 := raw_off a4 o5 hd
  obtain ⟨x6, σ6, e6, b6', o6⟩ := cp_s b5' a5.2.2.2.2.2.2
  have a6 := raw_off a5 o6 hd
  obtain ⟨σ7, e7, b7', o7⟩ := w_c b6' (i := 0) (by omega) (c1 0)
  have a7 := raw_off a6 o7 hd
  obtain ⟨σ8, e8, b8', o8⟩ := w_c b7' (i := 1) (by omega) (c1 1)
  have a8 := raw_off a7 o8 hd
  obtain ⟨σ9, e9, b9', o9⟩ := w_c b8' (i := 2) (by omega) (c1 2)
  have a9 := raw_off a8 o9 hd
  obtain ⟨σ10, e10, b10', o10⟩ := w_c b9' (i := 3) (by omega) (c1 3)
  have a10 := raw_off a9 o10 hd
  obtain ⟨σ11, e11, b11', o11⟩ := w_c b10' (i := 4) (by omega) (c1 4)
  simp only [Nat.reduceAdd] at e7 e8 e9 e10 e11
  unfold FX2_takeFrom
  simp only [r_C h, b1_s, (r_R a0).1, (r_R h).1, x1, e1, (r_R a1).2.1, (r_R b1').2.1, x2, e2, (r_R a2).2.2.1, (r_R b2').2.2.1, x3, e3, (r_R a3).2.2.2.1, (r_R b3').2.2.2.1, x4, e4, (r_R a4).2.2.2.2.1, (r_R b4').2.2.2.2.1, x5, e5, (r_R a5).2.2.2.2.2, (r_R b5').2.2.2.2.2, x6, e6, (r_c a6).1, e7, (r_c a7).2.1, e8, (r_c a8).2.2.1, e9, (r_c a9).2.2.2.1, e10, (r_c a10).2.2.2.2, e11]
  obtain ⟨⟨c0', c1', c2', c3', c4'⟩, hm, ht, hv, hs⟩ := hrel
  refine ⟨σ11, rfl, raw_isP b11' ⟨⟨?_, ?_, ?_, ?_, ?_⟩, fun k hk => ?_, fun i hi => ?_, fun i hi => ?_, fun i hi => ?_⟩, ?_⟩
  · simp only [upd_n (show (0 : Nat) ≠ 4 by omega), upd_n (show (0 : Nat) ≠ 3 by omega), upd_n (show (0 : Nat) ≠ 2 by omega), upd_n (show (0 : Nat) ≠ 1 by omega), upd_e, c0']
  · simp only [upd_n (show (1 : Nat) ≠ 4 by omega), upd_n (show (1 : Nat) ≠ 3 by omega), upd_n (show (1 : Nat) ≠ 2 by omega), upd_e, c1']
  · simp only [upd_n (show (2 : Nat) ≠ 4 by omega), upd_n (show (2 : Nat) ≠ 3 by omega), upd_e, c2']
  · simp only [upd_n (show (3 : Nat) ≠ 4 by omega), upd_e, c3']
  · simp only [upd_e, c4']
  · obtain ⟨g1, g2, g3⟩ := hm k hk
    exact ⟨fun j hj => by rw [cpy0 (by omega)]; exact g1 j hj, by rw [cpy0 (by omega)]; exact g2, by rw [cpy0 (by omega)]; exact g3⟩
  · obtain ⟨g1, g2, g3⟩ := ht i hi
    exact ⟨by rw [cpy0 hi]; exact g1, by rw [cpy0 hi]; exact g2, by rw [cpy0 hi]; exact g3⟩
  · rw [cpy0 hi]; exact hv i hi
  · rw [cpy0 hi]; exact hs i hi
  · exact ((((((((((o1.tr o2).tr o3).tr o4).tr o5).tr o6).tr o7).tr o8).tr o9).tr o10).tr o11)
end CP
