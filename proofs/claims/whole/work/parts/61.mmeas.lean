/-! Layer 2: the reference reads a measure of a text. -/
theorem fold_ok {s x : Nat} : ∀ (l : List Me) (n : Nat) (B : AS), okA B → okA (l.foldl (svF s x) (n, B)).2
  | [], _, _, h => h
  | y :: l, n, B, h => by
    have h2 : okA (svF s x (n, B) y).2 := svF_ok h
    show okA (l.foldl (svF s x) (svF s x (n, B) y)).2
    generalize svF s x (n, B) y = z at h2
    obtain ⟨z1, z2⟩ := z
    exact fold_ok l z1 z2 h2
theorem fold_b {s x : Nat} : ∀ (l : List Me) (n : Nat) (B : AS), (l.foldl (svF s x) (n, B)).1 ≤ n + l.length
  | [], n, B => Nat.le_refl _
  | y :: l, n, B => by
    have h2 : (svF s x (n, B) y).1 ≤ n + 1 := by
      unfold svF
      split
      · show n + (if telP y x then 1 else 0) ≤ n + 1
        split <;> omega
      · show n ≤ n + 1; omega
    show (l.foldl (svF s x) (svF s x (n, B) y)).1 ≤ _
    generalize svF s x (n, B) y = z at h2
    obtain ⟨z1, z2⟩ := z
    have := fold_b (s := s) (x := x) l z1 z2
    have h3 : z1 ≤ n + 1 := h2
    rw [List.length_cons]; omega
theorem flA_ok {B : AS} {s : Nat} (h : okA B) : okA (flA B s) := by
  obtain ⟨h1, h2, h3, h4, h5⟩ := h
  refine ⟨Nat.le_trans (List.length_filter_le _ _) h1, fun k hk => ?_, h3, h4, h5⟩
  have hk' : k < ((aM B).filter (fun m => decide (m 0 ≠ s))).length := hk
  have e : mk (flA B s) k = ((aM B).filter (fun m => decide (m 0 ≠ s)))[k] := by
    show ((aM B).filter (fun m => decide (m 0 ≠ s))).getD k M0 = _
    rw [List.getD_eq_getElem?_getD, List.getElem?_eq_getElem hk']; rfl
  have hm : mk (flA B s) k ∈ (aM B).filter (fun m => decide (m 0 ≠ s)) := by rw [e]; exact List.getElem_mem _
  obtain ⟨j, hj, ej⟩ := List.getElem_of_mem ((List.mem_filter.mp hm).1)
  have := h2 j hj
  rw [show mk B j = (aM B)[j] by show (aM B).getD j M0 = _; rw [List.getD_eq_getElem?_getD, List.getElem?_eq_getElem hj]; rfl, ej] at this
  exact this
theorem srv_ok {A : AS} {s x : Nat} (hA : okA A) : okA (srv A s x).2 := flA_ok (fold_ok _ _ _ hA)
theorem srv_b {A : AS} {s x : Nat} (hA : okA A) : (srv A s x).1 ≤ 16 := by
  have h1 := fold_b (s := s) (x := x) (aM A) 0 A
  have h16 := hA.1
  show ((aM A).foldl (svF s x) (0, A)).1 ≤ 16
  omega
theorem doC_ok {c : Nat} {l : List Nat} {A : AS} {F : FT} (hA : okA A) (hF : frm c = some F) (hl : inF F l) : okA (doC c l A).1 := by
  rcases frm_c hF with ⟨rfl, rfl⟩ | ⟨rfl, rfl⟩ | ⟨rfl, rfl⟩ | ⟨rfl, rfl⟩ | ⟨rfl, rfl⟩ | ⟨rfl, rfl⟩ | ⟨rfl, rfl⟩
  · rw [doC_100]; split
    · rename_i c; exact drpA_ok hA c
    · exact hA
  · rw [doC_111]; split
    · rename_i c; exact addA_ok hA c (mmO hl).1
    · exact hA
  · rw [doC_113]; exact eve_ok hA
  · rw [doC_115]; split
    · rename_i c; exact addA_ok hA c (mmS hl).1
    · exact hA
  · rw [doC_116]
    have l1 : 0 ≤ l.getD 1 0 ∧ l.getD 1 0 ≤ 9 := hl 1 _ rfl
    exact truA_ok hA l1.2
  · rw [doC_118]; exact srv_ok hA
  · rw [doC_119]; split
    · rename_i c; exact addA_ok hA c.2 (mmW hl c.1)
    · exact hA
section RM
variable {σ : qH} {m N k p o : Nat} {A : AS} {f : Nat → Nat} {ts : Nat → Int32} {rf : Int32}
theorem done_1 {sp : Int32} (h : σ m = some (oM m N k rf sp (nI o))) : ∃ σ', FX7_done m 1 σ = some (1, σ') ∧ σ' m = some (oM m N k rf sp (nI o)) ∧ OfZ σ σ' m := by
  obtain ⟨σ1, e1, g1, o1⟩ := M_w10 h (nI o)
  have r := M_r h
  refine ⟨σ1, ?_, g1, o1⟩
  unfold FX7_done
  rw [r.1, b1_s, r.2.2.2.2.2.2.2.2.2.2.2, b1_s, if_neg (by decide), b1_s, Int32.add_zero, e1, b1_s]
theorem done_0 {sp : Int32} (h : σ m = some (oM m N k rf sp (nI o))) : ∃ σ', FX7_done m 0 σ = some (1, σ') ∧ σ' m = some (oM m N k rf sp (nI (o + 1))) ∧ OfZ σ σ' m := by
  obtain ⟨σ1, e1, g1, o1⟩ := M_w10 h (nI (o + 1))
  have r := M_r h
  refine ⟨σ1, ?_, g1, o1⟩
  unfold FX7_done
  rw [r.1, b1_s, r.2.2.2.2.2.2.2.2.2.2.2, b1_s, if_pos rfl, b1_s, nI_1, e1, b1_s]
/-- what a command read leaves -/
def pst (σ σ' : qH) (m N k : Nat) (rf : Int32) (A : AS) (o c : Nat) (r : Option (List Nat) × Nat) : Prop := (∀ a, a ≠ m → a ≠ m + 3 → σ' a = σ a) ∧ (r.1 = none → σ' m = some (oM m N k rf (nI r.2) (nI o)) ∧ isZ σ' (m + 3) A) ∧ ∀ l, r.1 = some l → σ' m = some (oM m N k rf (nI r.2) (nI (o + (doC c l A).2))) ∧ isZ σ' (m + 3) (doC c l A).1
theorem pst_n {σ' : qH} {c : Nat} {r : Option (List Nat) × Nat} (e : r.1 = none) (h : σ' m = some (oM m N k rf (nI r.2) (nI o))) (z : isZ σ' (m + 3) A) (fr : ∀ a, a ≠ m → a ≠ m + 3 → σ' a = σ a) : pst σ σ' m N k rf A o c r := ⟨fr, fun _ => ⟨h, z⟩, fun l hl => by rw [e] at hl; cases hl⟩
theorem pst_s {σ' : qH} {c : Nat} {l : List Nat} {r : Option (List Nat) × Nat} (e : r.1 = some l) (h : σ' m = some (oM m N k rf (nI r.2) (nI (o + (doC c l A).2)))) (z : isZ σ' (m + 3) (doC c l A).1) (fr : ∀ a, a ≠ m → a ≠ m + 3 → σ' a = σ a) : pst σ σ' m N k rf A o c r := ⟨fr, fun h0 => (by rw [e] at h0; cases h0), fun l' hl => by rw [e] at hl; cases hl; exact ⟨h, z⟩⟩
theorem rdM_S (hA : okA A) (hN : N ≤ 120) (hf : txR N f ts) (hf2 : ∀ i, i < N → f i ≤ 255) (hp : p ≤ N) (ht : σ (m + 1) = some (iA 120 ts)) (h : σ m = some (oM m N k rf (nI p) (nI o))) (hz : isZ σ (m + 3) A) : ∃ σ', FX7_readMeasure m (m + 3) 0 σ = some (if (rdF f N fS p).1.isSome then 1 else 0, σ') ∧ pst σ σ' m N k rf A o 115 (rdF f N fS p) := by
  obtain ⟨σ1, e1, g1, o1, w1, p1, t1⟩ := fig_o (m := m) (k := k) (rf := rf) (ou := nI o) (1, 0, 2) (st := (some 0, p)) hN hf hf2 (by decide) (fun w hw => by cases hw; omega) hp ht h
  generalize hs1 : stp f N (1, 0, 2) (some 0, p) = s1 at e1 g1 w1 p1
  have e1' : FX7_figures m 0 1 0 2 σ = some (enc s1.1, σ1) := e1
  obtain ⟨σ2, e2, g2, o2, w2, p2, t2⟩ := fig_o (m := m) (k := k) (rf := rf) (ou := nI o) (1, 0, 5) (st := s1) hN hf hf2 (by decide) w1 p1 t1 g1
  generalize hs2 : stp f N (1, 0, 5) s1 = s2 at e2 g2 w2 p2
  have e2' : FX7_figures m (enc s1.1) 1 0 5 σ1 = some (enc s2.1, σ2) := e2
  obtain ⟨σ3, e3, g3, o3, w3, p3, t3⟩ := fig_o (m := m) (k := k) (rf := rf) (ou := nI o) (2, 1, 20) (st := s2) hN hf hf2 (by decide) w2 p2 t2 g2
  generalize hs3 : stp f N (2, 1, 20) s2 = s3 at e3 g3 w3 p3
  have e3' : FX7_figures m (enc s2.1) 10 1 20 σ2 = some (enc s3.1, σ3) := e3
  obtain ⟨σ4, e4, g4, o4, w4, p4, t4⟩ := fig_o (m := m) (k := k) (rf := rf) (ou := nI o) (2, 1, 40) (st := s3) hN hf hf2 (by decide) w3 p3 t3 g3
  generalize hs4 : stp f N (2, 1, 40) s3 = s4 at e4 g4 w4 p4
  have e4' : FX7_figures m (enc s3.1) 10 1 40 σ3 = some (enc s4.1, σ4) := e4
  obtain ⟨σ5, e5, g5, o5, w5, p5, t5⟩ := fig_o (m := m) (k := k) (rf := rf) (ou := nI o) (3, 1, 400) (st := s4) hN hf hf2 (by decide) w4 p4 t4 g4
  generalize hs5 : stp f N (3, 1, 400) s4 = s5 at e5 g5 w5 p5
  have e5' : FX7_figures m (enc s4.1) 100 1 400 σ4 = some (enc s5.1, σ5) := e5
  obtain ⟨σ6, e6, g6, o6, w6, p6, t6⟩ := fig_o (m := m) (k := k) (rf := rf) (ou := nI o) (2, 0, 20) (st := s5) hN hf hf2 (by decide) w5 p5 t5 g5
  generalize hs6 : stp f N (2, 0, 20) s5 = s6 at e6 g6 w6 p6
  have e6' : FX7_figures m (enc s5.1) 10 0 20 σ5 = some (enc s6.1, σ6) := e6
  have fr : ∀ a, a ≠ m → σ6 a = σ a := fun a ha => by rw [o6 a ha, o5 a ha, o4 a ha, o3 a ha, o2 a ha, o1 a ha]
  have hn := nst_e (f := f) (N := N) fS p 0
  have q1 : nst f N ((fS).take 1) (some 0, p) = s1 := by subst hs1; rfl
  have q2 : nst f N ((fS).take 2) (some 0, p) = s2 := by subst hs1; subst hs2; rfl
  have q3 : nst f N ((fS).take 3) (some 0, p) = s3 := by subst hs1; subst hs2; subst hs3; rfl
  have q4 : nst f N ((fS).take 4) (some 0, p) = s4 := by subst hs1; subst hs2; subst hs3; subst hs4; rfl
  have q5 : nst f N ((fS).take 5) (some 0, p) = s5 := by subst hs1; subst hs2; subst hs3; subst hs4; subst hs5; rfl
  have q6 : nst f N ((fS).take 6) (some 0, p) = s6 := by subst hs1; subst hs2; subst hs3; subst hs4; subst hs5; subst hs6; rfl
  have hz6 : isZ σ6 (m + 3) A := isZ_s hz (fr _ (by omega))
  have h16 : nM A ≤ 16 := hA.1
  have hpos : (rdF f N fS p).2 = s6.2 := by rw [hn.1]; exact congrArg Prod.snd q6
  unfold FX7_readMeasure
  rw [(M_r h).1, b1_s, e1', b2_s, e2', b2_s, if_pos (show (0 : Int32) = 0 from rfl), e3', b2_s, b2_s, if_neg (show ¬ (0 : Int32) = 2 by decide), if_pos (show (0 : Int32) = 0 from rfl), b1_s, e4', b2_s, b2_s, if_neg (show ¬ (0 : Int32) = 2 by decide), e5', b2_s, b2_s, if_neg (show ¬ (0 : Int32) = 2 by decide), e6', b2_s, b2_s]
  rcases opt_or (rdF f N fS p).1 with ev | ⟨l, ev⟩
  · have en : s6.1 = none := by rw [← q6]; exact hn.2.1 ev
    rw [en, if_pos (show enc none = (-1 : Int32) from rfl), b2_s, if_pos (Or.inl rfl), ev]
    exact ⟨σ6, rfl, pst_n ev (by rw [hpos]; exact g6) hz6 (fun a ha _ => fr a ha)⟩
  · have hr := (rdF_r fS p l (fun x hx => (okFS.2 x hx).1) ev).2
    have v1 : s1.1 = some (l.getD 0 0) := by rw [← q1]; exact hn.2.2 l ev 0 (by decide)
    have b1 : l.getD 0 0 ≤ 2 := (hr 0 _ rfl).2
    have v2 : s2.1 = some (l.getD 1 0) := by rw [← q2]; exact hn.2.2 l ev 1 (by decide)
    have b2 : l.getD 1 0 ≤ 5 := (hr 1 _ rfl).2
    have v3 : s3.1 = some (l.getD 2 0) := by rw [← q3]; exact hn.2.2 l ev 2 (by decide)
    have b3 : l.getD 2 0 ≤ 20 := (hr 2 _ rfl).2
    have v4 : s4.1 = some (l.getD 3 0) := by rw [← q4]; exact hn.2.2 l ev 3 (by decide)
    have b4 : l.getD 3 0 ≤ 40 := (hr 3 _ rfl).2
    have v5 : s5.1 = some (l.getD 4 0) := by rw [← q5]; exact hn.2.2 l ev 4 (by decide)
    have b5 : l.getD 4 0 ≤ 400 := (hr 4 _ rfl).2
    have v6 : s6.1 = some (l.getD 5 0) := by rw [← q6]; exact hn.2.2 l ev 5 (by decide)
    have b6 : l.getD 5 0 ≤ 20 := (hr 5 _ rfl).2
    rw [v1, v2, v3, v4, v5, v6, if_neg (enc_v (by omega)), zfine_e, b1_s, ev]
    simp only [bI_ite, z_n hz6, b1_s]
    have l16 : ((16 : Int32) ≤ nI (nM A)) = (16 ≤ nM A) := le_nI (a := 16) (by omega) (by omega)
    have ff : fitP 0 (enc (some (l.getD 2 0))) (enc (some (l.getD 3 0))) (enc (some (l.getD 4 0))) (enc (some (l.getD 5 0))) := (mmS hr).2
    rw [if_pos ff]
    by_cases c16 : 16 ≤ nM A
    · obtain ⟨σ8, e8, g8, o8⟩ := done_0 g6
      have ed : doC 115 l A = (A, 1) := by rw [doC_115, if_neg (by omega)]
      rw [if_pos (show (16 : Int32) ≤ nI (nM A) from l16 ▸ c16), b2_s, e8, b2_s, if_neg (by decide), b2_s, if_pos (Or.inr rfl)]
      exact ⟨σ8, rfl, pst_s ev (by rw [hpos, ed]; exact g8) (by rw [ed]; exact isZ_s hz6 (o8 _ (by omega))) (fun a ha _ => by rw [o8 a ha, fr a ha])⟩
    · obtain ⟨σ7, e7, z7, o7⟩ := measureOn_e (x := (mm7 (l.getD 0 0) (l.getD 1 0) 0 (l.getD 2 0) (l.getD 3 0) (l.getD 4 0) (l.getD 5 0))) hz6 hA (by omega)
      have e7' : FX7_measureOn (m + 3) (enc (some (l.getD 0 0))) (enc (some (l.getD 1 0))) 0 (enc (some (l.getD 2 0))) (enc (some (l.getD 3 0))) (enc (some (l.getD 4 0))) (enc (some (l.getD 5 0))) σ6 = some (nI (nM A), σ7) := e7
      have g7 : σ7 m = some (oM m N k rf (nI s6.2) (nI o)) := by rw [o7 _ (by omega)]; exact g6
      obtain ⟨σ8, e8, g8, o8⟩ := done_1 g7
      have ed : doC 115 l A = (addA A (mm7 (l.getD 0 0) (l.getD 1 0) 0 (l.getD 2 0) (l.getD 3 0) (l.getD 4 0) (l.getD 5 0)), 0) := by rw [doC_115, if_pos (by omega)]
      rw [if_neg (show ¬ (16 : Int32) ≤ nI (nM A) from fun z => c16 (l16 ▸ z)), e7', b2_s, if_neg (nI_pos (by omega)), b2_s, e8, b2_s, if_neg (by decide), b2_s, if_pos (Or.inr rfl)]
      exact ⟨σ8, rfl, pst_s ev (by rw [hpos, ed]; exact g8) (by rw [ed]; exact isZ_s z7 (o8 _ (by omega))) (fun a ha hb => by rw [o8 a ha, o7 a hb, fr a ha])⟩
theorem rdM_O (hA : okA A) (hN : N ≤ 120) (hf : txR N f ts) (hf2 : ∀ i, i < N → f i ≤ 255) (hp : p ≤ N) (ht : σ (m + 1) = some (iA 120 ts)) (h : σ m = some (oM m N k rf (nI p) (nI o))) (hz : isZ σ (m + 3) A) : ∃ σ', FX7_readMeasure m (m + 3) 1 σ = some (if (rdF f N fO p).1.isSome then 1 else 0, σ') ∧ pst σ σ' m N k rf A o 111 (rdF f N fO p) := by
  obtain ⟨σ1, e1, g1, o1, w1, p1, t1⟩ := fig_o (m := m) (k := k) (rf := rf) (ou := nI o) (1, 0, 2) (st := (some 0, p)) hN hf hf2 (by decide) (fun w hw => by cases hw; omega) hp ht h
  generalize hs1 : stp f N (1, 0, 2) (some 0, p) = s1 at e1 g1 w1 p1
  have e1' : FX7_figures m 0 1 0 2 σ = some (enc s1.1, σ1) := e1
  obtain ⟨σ2, e2, g2, o2, w2, p2, t2⟩ := fig_o (m := m) (k := k) (rf := rf) (ou := nI o) (1, 0, 5) (st := s1) hN hf hf2 (by decide) w1 p1 t1 g1
  generalize hs2 : stp f N (1, 0, 5) s1 = s2 at e2 g2 w2 p2
  have e2' : FX7_figures m (enc s1.1) 1 0 5 σ1 = some (enc s2.1, σ2) := e2
  obtain ⟨σ3, e3, g3, o3, w3, p3, t3⟩ := fig_o (m := m) (k := k) (rf := rf) (ou := nI o) (1, 1, 9) (st := s2) hN hf hf2 (by decide) w2 p2 t2 g2
  generalize hs3 : stp f N (1, 1, 9) s2 = s3 at e3 g3 w3 p3
  have e3' : FX7_figures m (enc s2.1) 1 1 9 σ2 = some (enc s3.1, σ3) := e3
  obtain ⟨σ4, e4, g4, o4, w4, p4, t4⟩ := fig_o (m := m) (k := k) (rf := rf) (ou := nI o) (2, 1, 60) (st := s3) hN hf hf2 (by decide) w3 p3 t3 g3
  generalize hs4 : stp f N (2, 1, 60) s3 = s4 at e4 g4 w4 p4
  have e4' : FX7_figures m (enc s3.1) 10 1 60 σ3 = some (enc s4.1, σ4) := e4
  obtain ⟨σ5, e5, g5, o5, w5, p5, t5⟩ := fig_o (m := m) (k := k) (rf := rf) (ou := nI o) (3, 1, 400) (st := s4) hN hf hf2 (by decide) w4 p4 t4 g4
  generalize hs5 : stp f N (3, 1, 400) s4 = s5 at e5 g5 w5 p5
  have e5' : FX7_figures m (enc s4.1) 100 1 400 σ4 = some (enc s5.1, σ5) := e5
  obtain ⟨σ6, e6, g6, o6, w6, p6, t6⟩ := fig_o (m := m) (k := k) (rf := rf) (ou := nI o) (2, 0, 20) (st := s5) hN hf hf2 (by decide) w5 p5 t5 g5
  generalize hs6 : stp f N (2, 0, 20) s5 = s6 at e6 g6 w6 p6
  have e6' : FX7_figures m (enc s5.1) 10 0 20 σ5 = some (enc s6.1, σ6) := e6
  have fr : ∀ a, a ≠ m → σ6 a = σ a := fun a ha => by rw [o6 a ha, o5 a ha, o4 a ha, o3 a ha, o2 a ha, o1 a ha]
  have hn := nst_e (f := f) (N := N) fO p 0
  have q1 : nst f N ((fO).take 1) (some 0, p) = s1 := by subst hs1; rfl
  have q2 : nst f N ((fO).take 2) (some 0, p) = s2 := by subst hs1; subst hs2; rfl
  have q3 : nst f N ((fO).take 3) (some 0, p) = s3 := by subst hs1; subst hs2; subst hs3; rfl
  have q4 : nst f N ((fO).take 4) (some 0, p) = s4 := by subst hs1; subst hs2; subst hs3; subst hs4; rfl
  have q5 : nst f N ((fO).take 5) (some 0, p) = s5 := by subst hs1; subst hs2; subst hs3; subst hs4; subst hs5; rfl
  have q6 : nst f N ((fO).take 6) (some 0, p) = s6 := by subst hs1; subst hs2; subst hs3; subst hs4; subst hs5; subst hs6; rfl
  have hz6 : isZ σ6 (m + 3) A := isZ_s hz (fr _ (by omega))
  have h16 : nM A ≤ 16 := hA.1
  have hpos : (rdF f N fO p).2 = s6.2 := by rw [hn.1]; exact congrArg Prod.snd q6
  unfold FX7_readMeasure
  rw [(M_r h).1, b1_s, e1', b2_s, e2', b2_s, if_neg (show ¬ (1 : Int32) = 0 by decide), if_pos (show (1 : Int32) = 1 from rfl), e3', b2_s, b2_s, if_neg (show ¬ (1 : Int32) = 2 by decide), if_neg (show ¬ (1 : Int32) = 0 by decide), b1_s, e4', b2_s, b2_s, if_neg (show ¬ (1 : Int32) = 2 by decide), e5', b2_s, b2_s, if_neg (show ¬ (1 : Int32) = 2 by decide), e6', b2_s, b2_s]
  rcases opt_or (rdF f N fO p).1 with ev | ⟨l, ev⟩
  · have en : s6.1 = none := by rw [← q6]; exact hn.2.1 ev
    rw [en, if_pos (show enc none = (-1 : Int32) from rfl), b2_s, if_pos (Or.inl rfl), ev]
    exact ⟨σ6, rfl, pst_n ev (by rw [hpos]; exact g6) hz6 (fun a ha _ => fr a ha)⟩
  · have hr := (rdF_r fO p l (fun x hx => (okFO.2 x hx).1) ev).2
    have v1 : s1.1 = some (l.getD 0 0) := by rw [← q1]; exact hn.2.2 l ev 0 (by decide)
    have b1 : l.getD 0 0 ≤ 2 := (hr 0 _ rfl).2
    have v2 : s2.1 = some (l.getD 1 0) := by rw [← q2]; exact hn.2.2 l ev 1 (by decide)
    have b2 : l.getD 1 0 ≤ 5 := (hr 1 _ rfl).2
    have v3 : s3.1 = some (l.getD 2 0) := by rw [← q3]; exact hn.2.2 l ev 2 (by decide)
    have b3 : l.getD 2 0 ≤ 9 := (hr 2 _ rfl).2
    have v4 : s4.1 = some (l.getD 3 0) := by rw [← q4]; exact hn.2.2 l ev 3 (by decide)
    have b4 : l.getD 3 0 ≤ 60 := (hr 3 _ rfl).2
    have v5 : s5.1 = some (l.getD 4 0) := by rw [← q5]; exact hn.2.2 l ev 4 (by decide)
    have b5 : l.getD 4 0 ≤ 400 := (hr 4 _ rfl).2
    have v6 : s6.1 = some (l.getD 5 0) := by rw [← q6]; exact hn.2.2 l ev 5 (by decide)
    have b6 : l.getD 5 0 ≤ 20 := (hr 5 _ rfl).2
    rw [v1, v2, v3, v4, v5, v6, if_neg (enc_v (by omega)), zfine_e, b1_s, ev]
    simp only [bI_ite, z_n hz6, b1_s]
    have l16 : ((16 : Int32) ≤ nI (nM A)) = (16 ≤ nM A) := le_nI (a := 16) (by omega) (by omega)
    have ff : fitP 1 (enc (some (l.getD 2 0))) (enc (some (l.getD 3 0))) (enc (some (l.getD 4 0))) (enc (some (l.getD 5 0))) := (mmO hr).2
    rw [if_pos ff]
    by_cases c16 : 16 ≤ nM A
    · obtain ⟨σ8, e8, g8, o8⟩ := done_0 g6
      have ed : doC 111 l A = (A, 1) := by rw [doC_111, if_neg (by omega)]
      rw [if_pos (show (16 : Int32) ≤ nI (nM A) from l16 ▸ c16), b2_s, e8, b2_s, if_neg (by decide), b2_s, if_pos (Or.inr rfl)]
      exact ⟨σ8, rfl, pst_s ev (by rw [hpos, ed]; exact g8) (by rw [ed]; exact isZ_s hz6 (o8 _ (by omega))) (fun a ha _ => by rw [o8 a ha, fr a ha])⟩
    · obtain ⟨σ7, e7, z7, o7⟩ := measureOn_e (x := (mm7 (l.getD 0 0) (l.getD 1 0) 1 (l.getD 2 0) (l.getD 3 0) (l.getD 4 0) (l.getD 5 0))) hz6 hA (by omega)
      have e7' : FX7_measureOn (m + 3) (enc (some (l.getD 0 0))) (enc (some (l.getD 1 0))) 1 (enc (some (l.getD 2 0))) (enc (some (l.getD 3 0))) (enc (some (l.getD 4 0))) (enc (some (l.getD 5 0))) σ6 = some (nI (nM A), σ7) := e7
      have g7 : σ7 m = some (oM m N k rf (nI s6.2) (nI o)) := by rw [o7 _ (by omega)]; exact g6
      obtain ⟨σ8, e8, g8, o8⟩ := done_1 g7
      have ed : doC 111 l A = (addA A (mm7 (l.getD 0 0) (l.getD 1 0) 1 (l.getD 2 0) (l.getD 3 0) (l.getD 4 0) (l.getD 5 0)), 0) := by rw [doC_111, if_pos (by omega)]
      rw [if_neg (show ¬ (16 : Int32) ≤ nI (nM A) from fun z => c16 (l16 ▸ z)), e7', b2_s, if_neg (nI_pos (by omega)), b2_s, e8, b2_s, if_neg (by decide), b2_s, if_pos (Or.inr rfl)]
      exact ⟨σ8, rfl, pst_s ev (by rw [hpos, ed]; exact g8) (by rw [ed]; exact isZ_s z7 (o8 _ (by omega))) (fun a ha hb => by rw [o8 a ha, o7 a hb, fr a ha])⟩
theorem rdM_W (hA : okA A) (hN : N ≤ 120) (hf : txR N f ts) (hf2 : ∀ i, i < N → f i ≤ 255) (hp : p ≤ N) (ht : σ (m + 1) = some (iA 120 ts)) (h : σ m = some (oM m N k rf (nI p) (nI o))) (hz : isZ σ (m + 3) A) : ∃ σ', FX7_readMeasure m (m + 3) 2 σ = some (if (rdF f N fW p).1.isSome then 1 else 0, σ') ∧ pst σ σ' m N k rf A o 119 (rdF f N fW p) := by
  obtain ⟨σ1, e1, g1, o1, w1, p1, t1⟩ := fig_o (m := m) (k := k) (rf := rf) (ou := nI o) (1, 0, 2) (st := (some 0, p)) hN hf hf2 (by decide) (fun w hw => by cases hw; omega) hp ht h
  generalize hs1 : stp f N (1, 0, 2) (some 0, p) = s1 at e1 g1 w1 p1
  have e1' : FX7_figures m 0 1 0 2 σ = some (enc s1.1, σ1) := e1
  obtain ⟨σ2, e2, g2, o2, w2, p2, t2⟩ := fig_o (m := m) (k := k) (rf := rf) (ou := nI o) (1, 0, 5) (st := s1) hN hf hf2 (by decide) w1 p1 t1 g1
  generalize hs2 : stp f N (1, 0, 5) s1 = s2 at e2 g2 w2 p2
  have e2' : FX7_figures m (enc s1.1) 1 0 5 σ1 = some (enc s2.1, σ2) := e2
  obtain ⟨σ3, e3, g3, o3, w3, p3, t3⟩ := fig_o (m := m) (k := k) (rf := rf) (ou := nI o) (3, 1, 999) (st := s2) hN hf hf2 (by decide) w2 p2 t2 g2
  generalize hs3 : stp f N (3, 1, 999) s2 = s3 at e3 g3 w3 p3
  have e3' : FX7_figures m (enc s2.1) 100 1 999 σ2 = some (enc s3.1, σ3) := e3
  obtain ⟨σ4, e4, g4, o4, w4, p4, t4⟩ := fig_o (m := m) (k := k) (rf := rf) (ou := nI o) (3, 1, 999) (st := s3) hN hf hf2 (by decide) w3 p3 t3 g3
  generalize hs4 : stp f N (3, 1, 999) s3 = s4 at e4 g4 w4 p4
  have e4' : FX7_figures m (enc s3.1) 100 1 999 σ3 = some (enc s4.1, σ4) := e4
  have fr : ∀ a, a ≠ m → σ4 a = σ a := fun a ha => by rw [o4 a ha, o3 a ha, o2 a ha, o1 a ha]
  have hn := nst_e (f := f) (N := N) fW p 0
  have q1 : nst f N ((fW).take 1) (some 0, p) = s1 := by subst hs1; rfl
  have q2 : nst f N ((fW).take 2) (some 0, p) = s2 := by subst hs1; subst hs2; rfl
  have q3 : nst f N ((fW).take 3) (some 0, p) = s3 := by subst hs1; subst hs2; subst hs3; rfl
  have q4 : nst f N ((fW).take 4) (some 0, p) = s4 := by subst hs1; subst hs2; subst hs3; subst hs4; rfl
  have hz6 : isZ σ4 (m + 3) A := isZ_s hz (fr _ (by omega))
  have h16 : nM A ≤ 16 := hA.1
  have hpos : (rdF f N fW p).2 = s4.2 := by rw [hn.1]; exact congrArg Prod.snd q4
  unfold FX7_readMeasure
  rw [(M_r h).1, b1_s, e1', b2_s, e2', b2_s, if_neg (show ¬ (2 : Int32) = 0 by decide), if_neg (show ¬ (2 : Int32) = 1 by decide), e3', b2_s, b2_s, if_pos (show (2 : Int32) = 2 from rfl), e4', b2_s, b2_s, if_pos (show (2 : Int32) = 2 from rfl)]
  rcases opt_or (rdF f N fW p).1 with ev | ⟨l, ev⟩
  · have en : s4.1 = none := by rw [← q4]; exact hn.2.1 ev
    rw [en, if_pos (show enc none = (-1 : Int32) from rfl), b2_s, if_pos (show (2 : Int32) = 2 from rfl), b2_s, if_pos (show (-1 : Int32) = -1 from rfl), b2_s, if_pos (Or.inl rfl), ev]
    exact ⟨σ4, rfl, pst_n ev (by rw [hpos]; exact g4) hz6 (fun a ha _ => fr a ha)⟩
  · have hr := (rdF_r fW p l (fun x hx => (okFW.2 x hx).1) ev).2
    have v1 : s1.1 = some (l.getD 0 0) := by rw [← q1]; exact hn.2.2 l ev 0 (by decide)
    have b1 : l.getD 0 0 ≤ 2 := (hr 0 _ rfl).2
    have v2 : s2.1 = some (l.getD 1 0) := by rw [← q2]; exact hn.2.2 l ev 1 (by decide)
    have b2 : l.getD 1 0 ≤ 5 := (hr 1 _ rfl).2
    have v3 : s3.1 = some (l.getD 2 0) := by rw [← q3]; exact hn.2.2 l ev 2 (by decide)
    have b3 : l.getD 2 0 ≤ 999 := (hr 2 _ rfl).2
    have v4 : s4.1 = some (l.getD 3 0) := by rw [← q4]; exact hn.2.2 l ev 3 (by decide)
    have b4 : l.getD 3 0 ≤ 999 := (hr 3 _ rfl).2
    rw [v1, v2, v3, v4, if_neg (enc_v (by omega)), b2_s, if_pos (show (2 : Int32) = 2 from rfl), b2_s, if_neg (show ¬ (0 : Int32) = -1 by decide), zfine_e, b1_s, ev]
    simp only [bI_ite, z_n hz6, b1_s]
    have l16 : ((16 : Int32) ≤ nI (nM A)) = (16 ≤ nM A) := le_nI (a := 16) (by omega) (by omega)
    by_cases cf : l.getD 2 0 ≤ l.getD 3 0
    · have ff : fitP 2 (enc (some (l.getD 2 0))) (enc (some (l.getD 3 0))) 0 0 := (mmWf hr).mpr cf
      rw [if_pos ff]
      by_cases c16 : 16 ≤ nM A
      · obtain ⟨σ8, e8, g8, o8⟩ := done_0 g4
        have ed : doC 119 l A = (A, 1) := by rw [doC_119, if_neg (fun z => by omega)]
        rw [if_pos (show (16 : Int32) ≤ nI (nM A) from l16 ▸ c16), b2_s, e8, b2_s, if_neg (by decide), b2_s, if_pos (Or.inr rfl)]
        exact ⟨σ8, rfl, pst_s ev (by rw [hpos, ed]; exact g8) (by rw [ed]; exact isZ_s hz6 (o8 _ (by omega))) (fun a ha _ => by rw [o8 a ha, fr a ha])⟩
      · obtain ⟨σ7, e7, z7, o7⟩ := measureOn_e (x := (mm7 (l.getD 0 0) (l.getD 1 0) 2 (l.getD 2 0) (l.getD 3 0) 0 0)) hz6 hA (by omega)
        have e7' : FX7_measureOn (m + 3) (enc (some (l.getD 0 0))) (enc (some (l.getD 1 0))) 2 (enc (some (l.getD 2 0))) (enc (some (l.getD 3 0))) 0 0 σ4 = some (nI (nM A), σ7) := e7
        have g7 : σ7 m = some (oM m N k rf (nI s4.2) (nI o)) := by rw [o7 _ (by omega)]; exact g4
        obtain ⟨σ8, e8, g8, o8⟩ := done_1 g7
        have ed : doC 119 l A = (addA A (mm7 (l.getD 0 0) (l.getD 1 0) 2 (l.getD 2 0) (l.getD 3 0) 0 0), 0) := by rw [doC_119, if_pos ⟨cf, by omega⟩]
        rw [if_neg (show ¬ (16 : Int32) ≤ nI (nM A) from fun z => c16 (l16 ▸ z)), e7', b2_s, if_neg (nI_pos (by omega)), b2_s, e8, b2_s, if_neg (by decide), b2_s, if_pos (Or.inr rfl)]
        exact ⟨σ8, rfl, pst_s ev (by rw [hpos, ed]; exact g8) (by rw [ed]; exact isZ_s z7 (o8 _ (by omega))) (fun a ha hb => by rw [o8 a ha, o7 a hb, fr a ha])⟩
    · have ff : ¬ fitP 2 (enc (some (l.getD 2 0))) (enc (some (l.getD 3 0))) 0 0 := fun z => cf ((mmWf hr).mp z)
      obtain ⟨σ8, e8, g8, o8⟩ := done_0 g4
      have ed : doC 119 l A = (A, 1) := by rw [doC_119, if_neg (fun z => cf z.1)]
      rw [if_neg ff, b2_s, e8, b2_s, if_neg (by decide), b2_s, if_pos (Or.inr rfl)]
      exact ⟨σ8, rfl, pst_s ev (by rw [hpos, ed]; exact g8) (by rw [ed]; exact isZ_s hz6 (o8 _ (by omega))) (fun a ha _ => by rw [o8 a ha, fr a ha])⟩
end RM
