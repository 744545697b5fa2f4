/-! Layer 2: the class's new parish. -/
theorem fillL {a n : Nat} {x : Int32} (hn : n < 2 ^ 31) : ∀ (d y q : Nat) (σ : qH) (g : Nat → Int32), y + d = n → σ a = some (iA n g) → ∃ σ', FJ7_fill_53178_L5 a x (nI n) (d + 1 + q) (nI y) σ = some σ' ∧ (∃ g', σ' a = some (iA n g') ∧ ∀ j, (y ≤ j ∧ j < n → g' j = x) ∧ (j < y → g' j = g j)) ∧ OfZ σ σ' a
  | 0, y, q, σ, g, hy, hg => by
    refine ⟨σ, ?_, ⟨g, hg, fun j => ⟨fun hh => absurd hh (by omega), fun _ => rfl⟩⟩, OfZ.rf⟩
    rw [show 0 + 1 + q = q + 1 by omega, FJ7_fill_53178_L5, if_pos ((nI_leI hn (by omega)).mpr (by omega))]
  | d + 1, y, q, σ, g, hy, hg => by
    have w1 : sI σ a (nI y) x = some (qU σ a (iA n (upd g y x))) := sI_e hg (by omega) hn
    obtain ⟨σ2, e2, ⟨g2, hg2, hj⟩, o2⟩ := fillL (x := x) hn d (y + 1) q (qU σ a (iA n (upd g y x))) _ (by omega) qU_s
    refine ⟨σ2, ?_, ⟨g2, hg2, fun j => ⟨fun hh => ?_, fun hh => ?_⟩⟩, OfZ.tr (fun _ hb => qU_n hb) o2⟩
    · rw [show d + 1 + 1 + q = (d + 1 + q) + 1 by omega, FJ7_fill_53178_L5, if_neg (fun hh => absurd ((nI_leI hn (by omega)).mp hh) (by omega)), w1, b1_s, nI_1, e2]
    · by_cases c : j = y
      · subst c
        rw [(hj j).2 (by omega), upd_e]
      · exact (hj j).1 ⟨by omega, hh.2⟩
    · rw [(hj j).2 (by omega), upd_n (by omega)]
theorem fill_e {σ : qH} {a n : Nat} {x : Int32} {g : Nat → Int32} (hn : n < 99999) (hg : σ a = some (iA n g)) : ∃ σ' g', FJ7_fill_53178 a x σ = some σ' ∧ σ' a = some (iA n g') ∧ (∀ j, j < n → g' j = x) ∧ OfZ σ σ' a := by
  obtain ⟨q3, hq⟩ := qf (n := n) (by omega)
  obtain ⟨σ1, e1, ⟨g1, hg1, hj⟩, o1⟩ := fillL (a := a) (x := x) (show n < 2 ^ 31 by omega) n 0 q3 σ g (by omega) hg
  rw [← hq] at e1
  refine ⟨σ1, g1, ?_, hg1, fun j h => (hj j).1 ⟨by omega, h⟩, o1⟩
  unfold FJ7_fill_53178
  have e1' : FJ7_fill_53178_L5 a x (nI n) qfuel 0 σ = some σ1 := e1
  rw [aL_e hg (by omega), b1_s, e1', b1_s]
theorem makeNew_e {σ : qH} {q : Nat} {m t r w v s c : Nat → Int32} (h : rawP σ q m t r w v s c) : ∃ σ', FX2_makeNew q σ = some σ' ∧ isP σ' q newA ∧ Off σ σ' q := by
  have offz : ∀ {σ σ' : qH} {i : Nat}, i < 7 → OfZ σ σ' (q + i) → Off σ σ' q := fun hi o b hb => o b (by omega)
  obtain ⟨σ1, m1, e1, g1, j1, o1⟩ := fill_e (x := 0) (show 144 < 99999 by omega) h.2.1
  have a1 : rawP σ1 q m1 t r w v s c := ⟨by rw [o1 _ (by omega)]; exact h.1, g1, by rw [o1 _ (by omega)]; exact h.2.2.1, by rw [o1 _ (by omega)]; exact h.2.2.2.1, by rw [o1 _ (by omega)]; exact h.2.2.2.2.1, by rw [o1 _ (by omega)]; exact h.2.2.2.2.2.1, by rw [o1 _ (by omega)]; exact h.2.2.2.2.2.2⟩
  obtain ⟨σ2, m2, e2, g2, j2, o2⟩ := fill_e (x := 5) (show 6 < 99999 by omega) a1.2.2.1
  have a2 : rawP σ2 q m1 m2 r w v s c := ⟨by rw [o2 _ (by omega)]; exact a1.1, by rw [o2 _ (by omega)]; exact a1.2.1, g2, by rw [o2 _ (by omega)]; exact a1.2.2.2.1, by rw [o2 _ (by omega)]; exact a1.2.2.2.2.1, by rw [o2 _ (by omega)]; exact a1.2.2.2.2.2.1, by rw [o2 _ (by omega)]; exact a1.2.2.2.2.2.2⟩
  obtain ⟨σ3, m3, e3, g3, j3, o3⟩ := fill_e (x := 0) (show 6 < 99999 by omega) a2.2.2.2.1
  have a3 : rawP σ3 q m1 m2 m3 w v s c := ⟨by rw [o3 _ (by omega)]; exact a2.1, by rw [o3 _ (by omega)]; exact a2.2.1, by rw [o3 _ (by omega)]; exact a2.2.2.1, g3, by rw [o3 _ (by omega)]; exact a2.2.2.2.2.1, by rw [o3 _ (by omega)]; exact a2.2.2.2.2.2.1, by rw [o3 _ (by omega)]; exact a2.2.2.2.2.2.2⟩
  obtain ⟨σ4, m4, e4, g4, j4, o4⟩ := fill_e (x := 0) (show 6 < 99999 by omega) a3.2.2.2.2.1
  have a4 : rawP σ4 q m1 m2 m3 m4 v s c := ⟨by rw [o4 _ (by omega)]; exact a3.1, by rw [o4 _ (by omega)]; exact a3.2.1, by rw [o4 _ (by omega)]; exact a3.2.2.1, by rw [o4 _ (by omega)]; exact a3.2.2.2.1, g4, by rw [o4 _ (by omega)]; exact a3.2.2.2.2.2.1, by rw [o4 _ (by omega)]; exact a3.2.2.2.2.2.2⟩
  obtain ⟨σ5, m5, e5, g5, j5, o5⟩ := fill_e (x := -1) (show 3 < 99999 by omega) a4.2.2.2.2.2.1
  have a5 : rawP σ5 q m1 m2 m3 m4 m5 s c := ⟨by rw [o5 _ (by omega)]; exact a4.1, by rw [o5 _ (by omega)]; exact a4.2.1, by rw [o5 _ (by omega)]; exact a4.2.2.1, by rw [o5 _ (by omega)]; exact a4.2.2.2.1, by rw [o5 _ (by omega)]; exact a4.2.2.2.2.1, g5, by rw [o5 _ (by omega)]; exact a4.2.2.2.2.2.2⟩
  obtain ⟨σ6, e6, a6, o6⟩ := w_s a5 (i := 0) (by omega) 1
  obtain ⟨σ7, e7, a7, o7⟩ := w_s a6 (i := 1) (by omega) 5
  obtain ⟨σ8, e8, a8, o8⟩ := w_c a7 (i := 0) (by omega) 0
  obtain ⟨σ9, e9, a9, o9⟩ := w_c a8 (i := 1) (by omega) 0
  obtain ⟨σ10, e10, a10, o10⟩ := w_c a9 (i := 2) (by omega) 0
  obtain ⟨σ11, e11, a11, o11⟩ := w_c a10 (i := 3) (by omega) 0
  obtain ⟨σ12, e12, a12, o12⟩ := w_c a11 (i := 4) (by omega) 0
  have e6' : sI σ5 (q + 6) 0 1 = some σ6 := e6
  have e7' : sI σ6 (q + 6) 1 5 = some σ7 := e7
  simp only [Nat.reduceAdd] at e8 e9 e10 e11 e12
  refine ⟨σ12, ?_, raw_isP a12 ⟨⟨?_, ?_, ?_, ?_, ?_⟩, fun k hk => absurd hk (Nat.not_lt_zero _), fun i hi => ⟨?_, ?_, ?_⟩, fun i hi => ?_, fun i hi => ?_⟩, ?_⟩
  · unfold FX2_makeNew
    simp only [r_C h, (r_R h).1, e1, b1_s, (r_R a1).2.1, e2, (r_R a2).2.2.1, e3, (r_R a3).2.2.2.1, e4, (r_R a4).2.2.2.2.1, e5, (r_R a5).2.2.2.2.2, e6', (r_R a6).2.2.2.2.2, e7', e8, e9, e10, e11, e12]
  · rw [upd_n (by omega), upd_n (by omega), upd_n (by omega), upd_n (by omega), upd_e]; rfl
  · rw [upd_n (by omega), upd_n (by omega), upd_n (by omega), upd_e]; rfl
  · rw [upd_n (by omega), upd_n (by omega), upd_e]; rfl
  · rw [upd_n (by omega), upd_e]; rfl
  · rw [upd_e]; rfl
  · rw [j2 i hi]; rfl
  · rw [j3 i hi]; rfl
  · rw [j4 i hi]; rfl
  · rw [j5 i hi]
  · rcases (show i = 0 ∨ i = 1 by omega) with rfl | rfl
    · rw [upd_n (by omega), upd_e]; rfl
    · rw [upd_e]; rfl
  · exact ((((((((((((offz (i := 1) (by omega) o1).tr (offz (i := 2) (by omega) o2)).tr (offz (i := 3) (by omega) o3)).tr (offz (i := 4) (by omega) o4)).tr (offz (i := 5) (by omega) o5)).tr o6).tr o7).tr o8).tr o9).tr o10).tr o11).tr o12)
