abbrev oP (q : Nat) (c : Nat → Int32) : qE := .inr (2, [.ref (q + 1), .ref (q + 2), .ref (q + 3), .ref (q + 4), .ref (q + 5), .ref (q + 6), .int (c 0), .int (c 1), .int (c 2), .int (c 3), .int (c 4)])
abbrev iA (n : Nat) (f : Nat → Int32) : qE := .inl (0, (n, .inl f))
def rawP (σ : qH) (q : Nat) (m t r w v s c : Nat → Int32) : Prop := σ q = some (oP q c) ∧ σ (q + 1) = some (iA 144 m) ∧ σ (q + 2) = some (iA 6 t) ∧ σ (q + 3) = some (iA 6 r) ∧ σ (q + 4) = some (iA 6 w) ∧ σ (q + 5) = some (iA 3 v) ∧ σ (q + 6) = some (iA 2 s)
def PRel (m t r w v s c : Nat → Int32) (A : AS) : Prop := (c 0 = nI (aM A).length ∧ c 1 = nI (aCm A) ∧ c 2 = nI (aEv A) ∧ c 3 = nI (aSu A) ∧ c 4 = nI (aLo A)) ∧
  (∀ k, k < (aM A).length → (∀ j, j < 7 → m (9 * k + j) = nI (mk A k j)) ∧ m (9 * k + 7) = nI (lst (mk A k)) ∧ m (9 * k + 8) = nI (gst (mk A k))) ∧
  (∀ i, i < 6 → t i = nI (aT A i) ∧ r i = nI (aRt A i) ∧ w i = nI (aWr A i)) ∧ (∀ i, i < 3 → v i = aSv A i) ∧ (∀ i, i < 2 → s i = nI (aSt A i))
def Off (σ σ' : qH) (q : Nat) : Prop := ∀ a, (a < q ∨ q + 6 < a) → σ' a = σ a
theorem isP_raw {σ : qH} {q : Nat} {A : AS} (h : isP σ q A) : ∃ m t r w v s c, rawP σ q m t r w v s c ∧ PRel m t r w v s c A := by
  obtain ⟨m, t, r, w, v, s, h0, h1, h2, h3, h4, h5, h6, hm, ht, hv, hs⟩ := h
  refine ⟨m, t, r, w, v, s, fun i => if i = 0 then nI (aM A).length else if i = 1 then nI (aCm A) else if i = 2 then nI (aEv A) else if i = 3 then nI (aSu A) else nI (aLo A), ⟨h0, h1, h2, h3, h4, h5, h6⟩, ⟨rfl, rfl, rfl, rfl, rfl⟩, hm, ht, hv, hs⟩
theorem raw_isP {σ : qH} {q : Nat} {A : AS} {m t r w v s c : Nat → Int32} (h : rawP σ q m t r w v s c) (p : PRel m t r w v s c A) : isP σ q A := by
  obtain ⟨h0, h1, h2, h3, h4, h5, h6⟩ := h
  obtain ⟨⟨c0, c1, c2, c3, c4⟩, hm, ht, hv, hs⟩ := p
  refine ⟨m, t, r, w, v, s, ?_, h1, h2, h3, h4, h5, h6, hm, ht, hv, hs⟩
  rw [h0, ← c0, ← c1, ← c2, ← c3, ← c4]
theorem Off.tr {σ σ1 σ2 : qH} {q : Nat} (h1 : Off σ σ1 q) (h2 : Off σ1 σ2 q) : Off σ σ2 q := fun a h => (h2 a h).trans (h1 a h)
theorem Off.rf {σ : qH} {q : Nat} : Off σ σ q := fun _ _ => rfl
theorem Off.u {σ : qH} {q i : Nat} {e : qE} (hi : i ≤ 6) : Off σ (qU σ (q + i) e) q := fun a h => by
  simp only [qU]
  rw [if_neg (by omega)]
section WR
variable {σ : qH} {q : Nat} {m t r w v s c : Nat → Int32}
theorem r_R (h : rawP σ q m t r w v s c) : gR σ q 2 0 = some (q + 1) ∧ gR σ q 2 1 = some (q + 2) ∧ gR σ q 2 2 = some (q + 3) ∧ gR σ q 2 3 = some (q + 4) ∧ gR σ q 2 4 = some (q + 5) ∧ gR σ q 2 5 = some (q + 6) :=
  ⟨gR_e h.1 rfl, gR_e h.1 rfl, gR_e h.1 rfl, gR_e h.1 rfl, gR_e h.1 rfl, gR_e h.1 rfl⟩
theorem r_C (h : rawP σ q m t r w v s c) : gC σ q 2 = some () := gC_e h.1
theorem r_c (h : rawP σ q m t r w v s c) : gI σ q 2 6 = some (c 0) ∧ gI σ q 2 7 = some (c 1) ∧ gI σ q 2 8 = some (c 2) ∧ gI σ q 2 9 = some (c 3) ∧ gI σ q 2 10 = some (c 4) :=
  ⟨gI_e h.1 rfl, gI_e h.1 rfl, gI_e h.1 rfl, gI_e h.1 rfl, gI_e h.1 rfl⟩
theorem w_m (h : rawP σ q m t r w v s c) {i : Nat} (hi : i < 144) (x : Int32) : ∃ σ', sI σ (q + 1) (nI i) x = some σ' ∧ rawP σ' q (upd m i x) t r w v s c ∧ Off σ σ' q := by
  refine ⟨_, sI_e h.2.1 hi (by omega), ?_, Off.u (by omega)⟩
  obtain ⟨h0, h1, h2, h3, h4, h5, h6⟩ := h
  refine ⟨?_, ?_, ?_, ?_, ?_, ?_, ?_⟩ <;> simp [qU, *]
theorem w_t (h : rawP σ q m t r w v s c) {i : Nat} (hi : i < 6) (x : Int32) : ∃ σ', sI σ (q + 2) (nI i) x = some σ' ∧ rawP σ' q m (upd t i x) r w v s c ∧ Off σ σ' q := by
  refine ⟨_, sI_e h.2.2.1 hi (by omega), ?_, Off.u (by omega)⟩
  obtain ⟨h0, h1, h2, h3, h4, h5, h6⟩ := h
  refine ⟨?_, ?_, ?_, ?_, ?_, ?_, ?_⟩ <;> simp [qU, *]
theorem w_r (h : rawP σ q m t r w v s c) {i : Nat} (hi : i < 6) (x : Int32) : ∃ σ', sI σ (q + 3) (nI i) x = some σ' ∧ rawP σ' q m t (upd r i x) w v s c ∧ Off σ σ' q := by
  refine ⟨_, sI_e h.2.2.2.1 hi (by omega), ?_, Off.u (by omega)⟩
  obtain ⟨h0, h1, h2, h3, h4, h5, h6⟩ := h
  refine ⟨?_, ?_, ?_, ?_, ?_, ?_, ?_⟩ <;> simp [qU, *]
theorem w_w (h : rawP σ q m t r w v s c) {i : Nat} (hi : i < 6) (x : Int32) : ∃ σ', sI σ (q + 4) (nI i) x = some σ' ∧ rawP σ' q m t r (upd w i x) v s c ∧ Off σ σ' q := by
  refine ⟨_, sI_e h.2.2.2.2.1 hi (by omega), ?_, Off.u (by omega)⟩
  obtain ⟨h0, h1, h2, h3, h4, h5, h6⟩ := h
  refine ⟨?_, ?_, ?_, ?_, ?_, ?_, ?_⟩ <;> simp [qU, *]
theorem w_v (h : rawP σ q m t r w v s c) {i : Nat} (hi : i < 3) (x : Int32) : ∃ σ', sI σ (q + 5) (nI i) x = some σ' ∧ rawP σ' q m t r w (upd v i x) s c ∧ Off σ σ' q := by
  refine ⟨_, sI_e h.2.2.2.2.2.1 hi (by omega), ?_, Off.u (by omega)⟩
  obtain ⟨h0, h1, h2, h3, h4, h5, h6⟩ := h
  refine ⟨?_, ?_, ?_, ?_, ?_, ?_, ?_⟩ <;> simp [qU, *]
theorem w_s (h : rawP σ q m t r w v s c) {i : Nat} (hi : i < 2) (x : Int32) : ∃ σ', sI σ (q + 6) (nI i) x = some σ' ∧ rawP σ' q m t r w v (upd s i x) c ∧ Off σ σ' q := by
  refine ⟨_, sI_e h.2.2.2.2.2.2 hi (by omega), ?_, Off.u (by omega)⟩
  obtain ⟨h0, h1, h2, h3, h4, h5, h6⟩ := h
  refine ⟨?_, ?_, ?_, ?_, ?_, ?_, ?_⟩ <;> simp [qU, *]
theorem w_c (h : rawP σ q m t r w v s c) {i : Nat} (hi : i < 5) (x : Int32) : ∃ σ', gP σ q 2 (6 + i) (.int x) = some σ' ∧ rawP σ' q m t r w v s (upd c i x) ∧ Off σ σ' q := by
  refine ⟨_, gP_e h.1 (by show 6 + i < 11; omega), ?_, Off.u (i := 0) (by omega)⟩
  obtain ⟨h0, h1, h2, h3, h4, h5, h6⟩ := h
  rcases (show i = 0 ∨ i = 1 ∨ i = 2 ∨ i = 3 ∨ i = 4 by omega) with rfl | rfl | rfl | rfl | rfl <;> refine ⟨?_, ?_, ?_, ?_, ?_, ?_, ?_⟩ <;> simp [qU, upd, *]
end WR
abbrev addA (A : AS) (x : Me) : AS := (aM A ++ [x], aT A, aRt A, aWr A, aSv A, aSt A, (aCm A + 1, aEv A, aSu A, aLo A))
theorem upd_e {f : Nat → Int32} {i : Nat} {x : Int32} : upd f i x i = x := by simp [upd]
theorem upd_n {f : Nat → Int32} {i j : Nat} {x : Int32} (h : j ≠ i) : upd f i x j = f j := by simp [upd, h]
theorem addMeasure_e {σ : qH} {q : Nat} {A : AS} (h : isP σ q A) (hA : okA A) (hn : nM A < 16) {x : Me} (hx : okM x) : ∃ σ', FX2_addMeasure q (nI (x 0)) (nI (x 1)) (nI (x 2)) (nI (x 3)) (nI (x 4)) (nI (x 5)) (nI (x 6)) σ = some (nI (nM A), σ') ∧ isP σ' q (addA A x) ∧ Off σ σ' q := by
  obtain ⟨m, t, r, w, v, s, c, hr, ⟨⟨c0, c1, c2, c3, c4⟩, hm, ht, hv, hs⟩⟩ := isP_raw h
  have n9 : nM A = (aM A).length := rfl
  unfold FX2_addMeasure
  have ix : ∀ j : Nat, nI (nM A) * nI 9 + nI j = nI (nM A * 9 + j) := fun j => by rw [pk_mul, nI_add]
  obtain ⟨σ0, e0, r0, o0⟩ := w_m hr (i := nM A * 9 + 0) (by omega) (nI (x 0))
  obtain ⟨σ1, e1, r1, o1⟩ := w_m r0 (i := nM A * 9 + 1) (by omega) (nI (x 1))
  obtain ⟨σ2, e2, r2, o2⟩ := w_m r1 (i := nM A * 9 + 2) (by omega) (nI (x 2))
  obtain ⟨σ3, e3, r3, o3⟩ := w_m r2 (i := nM A * 9 + 3) (by omega) (nI (x 3))
  obtain ⟨σ4, e4, r4, o4⟩ := w_m r3 (i := nM A * 9 + 4) (by omega) (nI (x 4))
  obtain ⟨σ5, e5, r5, o5⟩ := w_m r4 (i := nM A * 9 + 5) (by omega) (nI (x 5))
  obtain ⟨σ6, e6, r6, o6⟩ := w_m r5 (i := nM A * 9 + 6) (by omega) (nI (x 6))
  obtain ⟨σ7, e7, r7, o7⟩ := w_m r6 (i := nM A * 9 + 7) (by omega) (nI (lst x))
  obtain ⟨σ8, e8, r8, o8⟩ := w_m r7 (i := nM A * 9 + 8) (by omega) (nI (gst x))
  obtain ⟨σ9, e9, r9, o9⟩ := w_c r8 (i := 0) (by omega) (nI (nM A) + 1)
  obtain ⟨σ10, e10, r10, o10⟩ := w_c r9 (i := 1) (by omega) (nI (aCm A) + 1)
  obtain ⟨vl, hl, rfl⟩ := least_e (σ := σ6) hx
  obtain ⟨vg, hg, rfl⟩ := greatest_e (σ := σ7) hx
  obtain ⟨y1, hy1, hy2⟩ := b1_inv hl
  obtain ⟨y2, hz1, hz2⟩ := b1_inv hg
  rw [b1_eta] at hy2 hz2
  have i0 : nI (aM A).length * (9 : Int32) + 0 = nI (nM A * 9 + 0) := ix 0
  have i1 : nI (aM A).length * (9 : Int32) + 1 = nI (nM A * 9 + 1) := ix 1
  have i2 : nI (aM A).length * (9 : Int32) + 2 = nI (nM A * 9 + 2) := ix 2
  have i3 : nI (aM A).length * (9 : Int32) + 3 = nI (nM A * 9 + 3) := ix 3
  have i4 : nI (aM A).length * (9 : Int32) + 4 = nI (nM A * 9 + 4) := ix 4
  have i5 : nI (aM A).length * (9 : Int32) + 5 = nI (nM A * 9 + 5) := ix 5
  have i6 : nI (aM A).length * (9 : Int32) + 6 = nI (nM A * 9 + 6) := ix 6
  have i7 : nI (aM A).length * (9 : Int32) + 7 = nI (nM A * 9 + 7) := ix 7
  have i8 : nI (aM A).length * (9 : Int32) + 8 = nI (nM A * 9 + 8) := ix 8
  simp only [r_C hr, (r_c hr).1, c0, (r_R hr).1, b1_s, i0, i1, i2, i3, i4, i5, i6, i7, i8, e0, (r_R r0).1, e1, (r_R r1).1, e2, (r_R r2).1, e3, (r_R r3).1, e4, (r_R r4).1, e5, (r_R r5).1, e6, (r_R r6).1, hy1, hy2, e7, (r_R r7).1, hz1, hz2, e8, (r_c r8).1]
  have e9' : gP σ8 q 2 6 (.int (nI (aM A).length + 1)) = some σ9 := e9
  have e10' : gP σ9 q 2 7 (.int (nI (aCm A) + 1)) = some σ10 := e10
  have d1 : upd c 0 (nI (nM A) + 1) 1 = nI (aCm A) := by rw [upd_n (by omega), c1]
  have d0 : upd (upd c 0 (nI (nM A) + 1)) 1 (nI (aCm A) + 1) 0 = nI (nM A) + 1 := by rw [upd_n (by omega), upd_e]
  simp only [e9', b1_s, (r_c r9).2.1, d1, e10', (r_c r10).1, d0]
  refine ⟨σ10, ?_, raw_isP r10 ⟨⟨?_, ?_, ?_, ?_, ?_⟩, ?_, ?_, ?_, ?_⟩, ?_⟩
  · congr 2
    rw [nI_1]; exact nI_pred _
  · rw [d0, nI_1]; congr 1; show _ = (aM A ++ [x]).length; simp
  · rw [upd_e, nI_1]
  · rw [upd_n (by omega), upd_n (by omega), c2]
  · rw [upd_n (by omega), upd_n (by omega), c3]
  · rw [upd_n (by omega), upd_n (by omega), c4]
  · intro k hk
    have hk2 : k < nM A + 1 := by
      have : (aM A ++ [x]).length = nM A + 1 := by simp
      have h9 : k < (aM A ++ [x]).length := hk
      omega
    by_cases hkn : k < nM A
    · have e : mk (addA A x) k = mk A k := by
        show (aM A ++ [x]).getD k M0 = _
        rw [List.getD_eq_getElem?_getD, List.getElem?_append_left hkn, ← List.getD_eq_getElem?_getD]
      rw [e]
      obtain ⟨g1, g2, g3⟩ := hm k hkn
      refine ⟨fun j hj => ?_, ?_, ?_⟩
      · simp only [upd_n (show 9 * k + j ≠ nM A * 9 + 8 by omega), upd_n (show 9 * k + j ≠ nM A * 9 + 7 by omega), upd_n (show 9 * k + j ≠ nM A * 9 + 6 by omega), upd_n (show 9 * k + j ≠ nM A * 9 + 5 by omega), upd_n (show 9 * k + j ≠ nM A * 9 + 4 by omega), upd_n (show 9 * k + j ≠ nM A * 9 + 3 by omega), upd_n (show 9 * k + j ≠ nM A * 9 + 2 by omega), upd_n (show 9 * k + j ≠ nM A * 9 + 1 by omega), upd_n (show 9 * k + j ≠ nM A * 9 + 0 by omega), g1 j hj]
      · simp only [upd_n (show 9 * k + 7 ≠ nM A * 9 + 8 by omega), upd_n (show 9 * k + 7 ≠ nM A * 9 + 7 by omega), upd_n (show 9 * k + 7 ≠ nM A * 9 + 6 by omega), upd_n (show 9 * k + 7 ≠ nM A * 9 + 5 by omega), upd_n (show 9 * k + 7 ≠ nM A * 9 + 4 by omega), upd_n (show 9 * k + 7 ≠ nM A * 9 + 3 by omega), upd_n (show 9 * k + 7 ≠ nM A * 9 + 2 by omega), upd_n (show 9 * k + 7 ≠ nM A * 9 + 1 by omega), upd_n (show 9 * k + 7 ≠ nM A * 9 + 0 by omega), g2]
      · simp only [upd_n (show 9 * k + 8 ≠ nM A * 9 + 8 by omega), upd_n (show 9 * k + 8 ≠ nM A * 9 + 7 by omega), upd_n (show 9 * k + 8 ≠ nM A * 9 + 6 by omega), upd_n (show 9 * k + 8 ≠ nM A * 9 + 5 by omega), upd_n (show 9 * k + 8 ≠ nM A * 9 + 4 by omega), upd_n (show 9 * k + 8 ≠ nM A * 9 + 3 by omega), upd_n (show 9 * k + 8 ≠ nM A * 9 + 2 by omega), upd_n (show 9 * k + 8 ≠ nM A * 9 + 1 by omega), upd_n (show 9 * k + 8 ≠ nM A * 9 + 0 by omega), g3]
    · have hk3 : k = nM A := by omega
      have e : mk (addA A x) k = x := by
        show (aM A ++ [x]).getD k M0 = _
        rw [hk3, List.getD_eq_getElem?_getD, List.getElem?_append_right (Nat.le_refl _)]
        simp
      rw [e, hk3]
      refine ⟨fun j hj => ?_, ?_, ?_⟩
      · rcases (show j = 0 ∨ j = 1 ∨ j = 2 ∨ j = 3 ∨ j = 4 ∨ j = 5 ∨ j = 6 by omega) with rfl | rfl | rfl | rfl | rfl | rfl | rfl <;> simp [upd, Nat.mul_comm 9]
      · simp [upd, Nat.mul_comm 9]
      · simp [upd, Nat.mul_comm 9]
  · exact ht
  · exact hv
  · exact hs
  · exact ((((((((((o0.tr o1).tr o2).tr o3).tr o4).tr o5).tr o6).tr o7).tr o8).tr o9).tr o10)
theorem addA_ok {A : AS} {x : Me} (hA : okA A) (hn : nM A < 16) (hx : okM x) : okA (addA A x) := by
  obtain ⟨h1, h2, h3, h4, h5⟩ := hA
  have n9 : nM A = (aM A).length := rfl
  refine ⟨?_, fun k hk => ?_, h3, h4, h5⟩
  · show (aM A ++ [x]).length ≤ 16
    simp; omega
  · have hk2 : k < (aM A ++ [x]).length := hk
    simp at hk2
    show okM ((aM A ++ [x]).getD k M0)
    rw [List.getD_eq_getElem?_getD]
    by_cases c : k < (aM A).length
    · rw [List.getElem?_append_left c, ← List.getD_eq_getElem?_getD]; exact h2 k c
    · rw [List.getElem?_append_right (by omega), show k - (aM A).length = 0 by omega]; exact hx
