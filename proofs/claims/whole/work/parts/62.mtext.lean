/-! Layer 2: the reference reads a command, a text. -/
section RC
variable {m N k : Nat} {f : Nat → Nat} {ts : Nat → Int32} {rf : Int32}
theorem rdC_D {σ : qH} {p o : Nat} {A : AS} (hA : okA A) (hN : N ≤ 120) (hf : txR N f ts) (hf2 : ∀ i, i < N → f i ≤ 255) (hp : p ≤ N) (ht : σ (m + 1) = some (iA 120 ts)) (h : σ m = some (oM m N k rf (nI p) (nI o))) (hz : isZ σ (m + 3) A) : ∃ σ', (b2 (FX7_figures m (0 : Int32) (10 : Int32) (0 : Int32) (15 : Int32) σ) fun v12 s13 =>
    b2 ((
        if v12 = (-1 : Int32) then
          some ((0 : Int32), s13)
        else
          b1 (FX7_isMeasure (m + 3) v12 s13) fun v17 =>
          b2 ((
              if v17 = 0 then
                some ((0 : Int32), s13)
              else
                b2 (FX7_dropOn (m + 3) v12 s13) fun v21 s22 =>
                if v21 < 0 then
                  some ((0 : Int32), s22)
                else
                  some ((1 : Int32), s22)
            ) : Option (Int32 × qH)) fun x18 s19 =>
          b2 (FX7_done m x18 s19) fun v24 s25 =>
          if v24 = 0 then
            some ((0 : Int32), s25)
          else
            some ((1 : Int32), s25)
      ) : Option (Int32 × qH)) fun x14 s15 =>
    if x14 = 0 ∨ x14 = 1 then
      some (x14, s15)
    else none) = some (if (rdF f N fD p).1.isSome then 1 else 0, σ') ∧ pst σ σ' m N k rf A o 100 (rdF f N fD p) := by
  obtain ⟨σ1, e1, g1, o1, w1, p1, t1⟩ := fig_o (m := m) (k := k) (rf := rf) (ou := nI o) (2, 0, 15) (st := (some 0, p)) hN hf hf2 (by decide) (fun w hw => by cases hw; omega) hp ht h
  generalize hs1 : stp f N (2, 0, 15) (some 0, p) = s1 at e1 g1 w1 p1
  have e1' : FX7_figures m 0 10 0 15 σ = some (enc s1.1, σ1) := e1
  have fr : ∀ a, a ≠ m → σ1 a = σ a := fun a ha => by rw [o1 a ha]
  have hn := nst_e (f := f) (N := N) fD p 0
  have q1 : nst f N ((fD).take 1) (some 0, p) = s1 := by subst hs1; rfl
  have hz6 : isZ σ1 (m + 3) A := isZ_s hz (fr _ (by omega))
  have h16 : nM A ≤ 16 := hA.1
  have hpos : (rdF f N fD p).2 = s1.2 := by rw [hn.1]; exact congrArg Prod.snd q1
  rw [e1', b2_s]
  rcases opt_or (rdF f N fD p).1 with ev | ⟨l, ev⟩
  · have en : s1.1 = none := by rw [← q1]; exact hn.2.1 ev
    rw [en, if_pos (show enc none = (-1 : Int32) from rfl), b2_s, if_pos (Or.inl rfl), ev]
    exact ⟨σ1, rfl, pst_n ev (by rw [hpos]; exact g1) hz6 (fun a ha _ => fr a ha)⟩
  · have hr := (rdF_r fD p l (fun x hx => (okFD.2 x hx).1) ev).2
    have v1 : s1.1 = some (l.getD 0 0) := by rw [← q1]; exact hn.2.2 l ev 0 (by decide)
    have b1 : 0 ≤ l.getD 0 0 ∧ l.getD 0 0 ≤ 15 := hr 0 _ rfl
    rw [v1, if_neg (enc_v (by omega)), ev]
    have em : FX7_isMeasure (m + 3) (enc (some (l.getD 0 0))) σ1 = some (bI (inZ (nI (l.getD 0 0)) 0 ((nM A : Int) - 1))) := zisM_e hz6 hA
    rw [em, b1_s]
    simp only [bI_ite]
    by_cases c1 : l.getD 0 0 < nM A
    · obtain ⟨σ7, e7, z7, o7⟩ := dropOn_e hz6 hA c1
      have e7' : FX7_dropOn (m + 3) (enc (some (l.getD 0 0))) σ1 = some (nI (nM A - 1), σ7) := e7
      have g7 : σ7 m = some (oM m N k rf (nI s1.2) (nI o)) := by rw [o7 _ (by omega)]; exact g1
      obtain ⟨σ8, e8, g8, o8⟩ := done_1 g7
      have ed : doC 100 l A = (drpA A (l.getD 0 0), 0) := by rw [doC_100, if_pos c1]
      rw [if_pos (show inZ (nI (l.getD 0 0)) 0 ((nM A : Int) - 1) from (inZ_nI (by omega)).mpr (by omega)), e7', b2_s, if_neg (nI_pos (by omega)), b2_s, e8, b2_s, if_neg (by decide), b2_s, if_pos (Or.inr rfl)]
      exact ⟨σ8, rfl, pst_s ev (by rw [hpos, ed]; exact g8) (by rw [ed]; exact isZ_s z7 (o8 _ (by omega))) (fun a ha hb => by rw [o8 a ha, o7 a hb, fr a ha])⟩
    · obtain ⟨σ8, e8, g8, o8⟩ := done_0 g1
      have ed : doC 100 l A = (A, 1) := by rw [doC_100, if_neg c1]
      rw [if_neg (show ¬ inZ (nI (l.getD 0 0)) 0 ((nM A : Int) - 1) from fun z => c1 (by have := ((inZ_nI (by omega)).mp z).2; omega)), b2_s, e8, b2_s, if_neg (by decide), b2_s, if_pos (Or.inr rfl)]
      exact ⟨σ8, rfl, pst_s ev (by rw [hpos, ed]; exact g8) (by rw [ed]; exact isZ_s hz6 (o8 _ (by omega))) (fun a ha _ => by rw [o8 a ha, fr a ha])⟩
theorem rdC_U {σ : qH} {p o : Nat} {A : AS} (hA : okA A) (hN : N ≤ 120) (hf : txR N f ts) (hf2 : ∀ i, i < N → f i ≤ 255) (hp : p ≤ N) (ht : σ (m + 1) = some (iA 120 ts)) (h : σ m = some (oM m N k rf (nI p) (nI o))) (hz : isZ σ (m + 3) A) : ∃ σ', (b2 (FX7_figures m (0 : Int32) (1 : Int32) (0 : Int32) (5 : Int32) σ) fun v47 s48 =>
    b2 (FX7_figures m v47 (1 : Int32) (0 : Int32) (9 : Int32) s48) fun v50 s51 =>
    b2 ((
        if v50 = (-1 : Int32) then
          some ((0 : Int32), s51)
        else
          b2 (FX7_trustOn (m + 3) v47 v50 s51) fun v55 s56 =>
          b1 ((
              if v55 < 0 then
                some (0 : Int32)
              else
                some (1 : Int32)
            ) : Option (Int32)) fun x57 =>
          b2 (FX7_done m x57 s56) fun v59 s60 =>
          if v59 = 0 then
            some ((0 : Int32), s60)
          else
            some ((1 : Int32), s60)
      ) : Option (Int32 × qH)) fun x52 s53 =>
    if x52 = 0 ∨ x52 = 1 then
      some (x52, s53)
    else none) = some (if (rdF f N fU p).1.isSome then 1 else 0, σ') ∧ pst σ σ' m N k rf A o 116 (rdF f N fU p) := by
  obtain ⟨σ1, e1, g1, o1, w1, p1, t1⟩ := fig_o (m := m) (k := k) (rf := rf) (ou := nI o) (1, 0, 5) (st := (some 0, p)) hN hf hf2 (by decide) (fun w hw => by cases hw; omega) hp ht h
  generalize hs1 : stp f N (1, 0, 5) (some 0, p) = s1 at e1 g1 w1 p1
  have e1' : FX7_figures m 0 1 0 5 σ = some (enc s1.1, σ1) := e1
  obtain ⟨σ2, e2, g2, o2, w2, p2, t2⟩ := fig_o (m := m) (k := k) (rf := rf) (ou := nI o) (1, 0, 9) (st := s1) hN hf hf2 (by decide) w1 p1 t1 g1
  generalize hs2 : stp f N (1, 0, 9) s1 = s2 at e2 g2 w2 p2
  have e2' : FX7_figures m (enc s1.1) 1 0 9 σ1 = some (enc s2.1, σ2) := e2
  have fr : ∀ a, a ≠ m → σ2 a = σ a := fun a ha => by rw [o2 a ha, o1 a ha]
  have hn := nst_e (f := f) (N := N) fU p 0
  have q1 : nst f N ((fU).take 1) (some 0, p) = s1 := by subst hs1; rfl
  have q2 : nst f N ((fU).take 2) (some 0, p) = s2 := by subst hs1; subst hs2; rfl
  have hz6 : isZ σ2 (m + 3) A := isZ_s hz (fr _ (by omega))
  have h16 : nM A ≤ 16 := hA.1
  have hpos : (rdF f N fU p).2 = s2.2 := by rw [hn.1]; exact congrArg Prod.snd q2
  rw [e1', b2_s, e2', b2_s]
  rcases opt_or (rdF f N fU p).1 with ev | ⟨l, ev⟩
  · have en : s2.1 = none := by rw [← q2]; exact hn.2.1 ev
    rw [en, if_pos (show enc none = (-1 : Int32) from rfl), b2_s, if_pos (Or.inl rfl), ev]
    exact ⟨σ2, rfl, pst_n ev (by rw [hpos]; exact g2) hz6 (fun a ha _ => fr a ha)⟩
  · have hr := (rdF_r fU p l (fun x hx => (okFU.2 x hx).1) ev).2
    have v1 : s1.1 = some (l.getD 0 0) := by rw [← q1]; exact hn.2.2 l ev 0 (by decide)
    have b1 : 0 ≤ l.getD 0 0 ∧ l.getD 0 0 ≤ 5 := hr 0 _ rfl
    have v2 : s2.1 = some (l.getD 1 0) := by rw [← q2]; exact hn.2.2 l ev 1 (by decide)
    have b2 : 0 ≤ l.getD 1 0 ∧ l.getD 1 0 ≤ 9 := hr 1 _ rfl
    rw [v1, v2, if_neg (enc_v (by omega)), ev]
    obtain ⟨σ7, e7, z7, o7⟩ := trustOn_e (t := l.getD 0 0) (v := l.getD 1 0) hz6 (by omega)
    have e7' : FX7_trustOn (m + 3) (enc (some (l.getD 0 0))) (enc (some (l.getD 1 0))) σ2 = some (nI (aT A (l.getD 0 0)), σ7) := e7
    have h9 := hA.2.2.1 (l.getD 0 0) (by omega)
    have g7 : σ7 m = some (oM m N k rf (nI s2.2) (nI o)) := by rw [o7 _ (by omega)]; exact g2
    obtain ⟨σ8, e8, g8, o8⟩ := done_1 g7
    have ed := doC_116 (l := l) (A := A)
    rw [e7', b2_s, if_neg (nI_pos (by omega)), b1_s, e8, b2_s, if_neg (by decide), b2_s, if_pos (Or.inr rfl)]
    exact ⟨σ8, rfl, pst_s ev (by rw [hpos, ed]; exact g8) (by rw [ed]; exact isZ_s z7 (o8 _ (by omega))) (fun a ha hb => by rw [o8 a ha, o7 a hb, fr a ha])⟩
theorem rdC_V {σ : qH} {p o : Nat} {A : AS} (hA : okA A) (hN : N ≤ 120) (hf : txR N f ts) (hf2 : ∀ i, i < N → f i ≤ 255) (hp : p ≤ N) (ht : σ (m + 1) = some (iA 120 ts)) (h : σ m = some (oM m N k rf (nI p) (nI o))) (hz : isZ σ (m + 3) A) : ∃ σ', (b2 (FX7_figures m (0 : Int32) (1 : Int32) (0 : Int32) (2 : Int32) σ) fun v65 s66 =>
    b2 (FX7_figures m v65 (100 : Int32) (1 : Int32) (999 : Int32) s66) fun v68 s69 =>
    b2 ((
        if v68 = (-1 : Int32) then
          some ((0 : Int32), s69)
        else
          b2 (FX7_surveyOn (m + 3) v65 v68 s69) fun v73 s74 =>
          b1 ((
              if v73 < 0 then
                some (0 : Int32)
              else
                some (1 : Int32)
            ) : Option (Int32)) fun x75 =>
          b2 (FX7_done m x75 s74) fun v77 s78 =>
          if v77 = 0 then
            some ((0 : Int32), s78)
          else
            some ((1 : Int32), s78)
      ) : Option (Int32 × qH)) fun x70 s71 =>
    if x70 = 0 ∨ x70 = 1 then
      some (x70, s71)
    else none) = some (if (rdF f N fV p).1.isSome then 1 else 0, σ') ∧ pst σ σ' m N k rf A o 118 (rdF f N fV p) := by
  obtain ⟨σ1, e1, g1, o1, w1, p1, t1⟩ := fig_o (m := m) (k := k) (rf := rf) (ou := nI o) (1, 0, 2) (st := (some 0, p)) hN hf hf2 (by decide) (fun w hw => by cases hw; omega) hp ht h
  generalize hs1 : stp f N (1, 0, 2) (some 0, p) = s1 at e1 g1 w1 p1
  have e1' : FX7_figures m 0 1 0 2 σ = some (enc s1.1, σ1) := e1
  obtain ⟨σ2, e2, g2, o2, w2, p2, t2⟩ := fig_o (m := m) (k := k) (rf := rf) (ou := nI o) (3, 1, 999) (st := s1) hN hf hf2 (by decide) w1 p1 t1 g1
  generalize hs2 : stp f N (3, 1, 999) s1 = s2 at e2 g2 w2 p2
  have e2' : FX7_figures m (enc s1.1) 100 1 999 σ1 = some (enc s2.1, σ2) := e2
  have fr : ∀ a, a ≠ m → σ2 a = σ a := fun a ha => by rw [o2 a ha, o1 a ha]
  have hn := nst_e (f := f) (N := N) fV p 0
  have q1 : nst f N ((fV).take 1) (some 0, p) = s1 := by subst hs1; rfl
  have q2 : nst f N ((fV).take 2) (some 0, p) = s2 := by subst hs1; subst hs2; rfl
  have hz6 : isZ σ2 (m + 3) A := isZ_s hz (fr _ (by omega))
  have h16 : nM A ≤ 16 := hA.1
  have hpos : (rdF f N fV p).2 = s2.2 := by rw [hn.1]; exact congrArg Prod.snd q2
  rw [e1', b2_s, e2', b2_s]
  rcases opt_or (rdF f N fV p).1 with ev | ⟨l, ev⟩
  · have en : s2.1 = none := by rw [← q2]; exact hn.2.1 ev
    rw [en, if_pos (show enc none = (-1 : Int32) from rfl), b2_s, if_pos (Or.inl rfl), ev]
    exact ⟨σ2, rfl, pst_n ev (by rw [hpos]; exact g2) hz6 (fun a ha _ => fr a ha)⟩
  · have hr := (rdF_r fV p l (fun x hx => (okFV.2 x hx).1) ev).2
    have v1 : s1.1 = some (l.getD 0 0) := by rw [← q1]; exact hn.2.2 l ev 0 (by decide)
    have b1 : 0 ≤ l.getD 0 0 ∧ l.getD 0 0 ≤ 2 := hr 0 _ rfl
    have v2 : s2.1 = some (l.getD 1 0) := by rw [← q2]; exact hn.2.2 l ev 1 (by decide)
    have b2 : 1 ≤ l.getD 1 0 ∧ l.getD 1 0 ≤ 999 := hr 1 _ rfl
    rw [v1, v2, if_neg (enc_v (by omega)), ev]
    obtain ⟨σ7, e7, z7, o7⟩ := surveyOn_e (s := l.getD 0 0) (x := l.getD 1 0) (by omega) (by omega) hz6 hA
    have e7' : FX7_surveyOn (m + 3) (enc (some (l.getD 0 0))) (enc (some (l.getD 1 0))) σ2 = some (nI (srv A (l.getD 0 0) (l.getD 1 0)).1, σ7) := e7
    have h9 := srv_b (s := l.getD 0 0) (x := l.getD 1 0) hA
    have g7 : σ7 m = some (oM m N k rf (nI s2.2) (nI o)) := by rw [o7 _ (by omega)]; exact g2
    obtain ⟨σ8, e8, g8, o8⟩ := done_1 g7
    have ed := doC_118 (l := l) (A := A)
    rw [e7', b2_s, if_neg (nI_pos (by omega)), b1_s, e8, b2_s, if_neg (by decide), b2_s, if_pos (Or.inr rfl)]
    exact ⟨σ8, rfl, pst_s ev (by rw [hpos, ed]; exact g8) (by rw [ed]; exact isZ_s z7 (o8 _ (by omega))) (fun a ha hb => by rw [o8 a ha, o7 a hb, fr a ha])⟩
theorem pst_f {σ0 σ σ' : qH} {A : AS} {o c : Nat} {r : Option (List Nat) × Nat} (h : pst σ σ' m N k rf A o c r) (e : ∀ a, a ≠ m → a ≠ m + 3 → σ a = σ0 a) : pst σ0 σ' m N k rf A o c r := ⟨fun a ha hb => (h.1 a ha hb).trans (e a ha hb), h.2⟩
theorem mCmd_e {σ : qH} {p o : Nat} {A : AS} (hA : okA A) (hN : N ≤ 120) (hf : txR N f ts) (hf2 : ∀ i, i < N → f i ≤ 255) (hp : p < N) (ht : σ (m + 1) = some (iA 120 ts)) (h : σ m = some (oM m N k rf (nI p) (nI o))) (hz : isZ σ (m + 3) A) : ∃ σ', FX7_readCommand m (m + 3) σ = some (if (cmd f N p).1.isSome then 1 else 0, σ') ∧ pst σ σ' m N k rf A o (f p) (cmd f N p) := by
  have r := M_r h
  have f2 := hf2 p hp
  obtain ⟨σ1, e1, g1, o1⟩ := M_w9 h (nI (p + 1))
  have z1 : isZ σ1 (m + 3) A := isZ_s hz (o1 _ (by omega))
  have t1 : σ1 (m + 1) = some (iA 120 ts) := by rw [o1 _ (by omega)]; exact ht
  have at1 : aI σ (m + 1) (nI p) = some (nI (f p)) := by rw [aI_e ht (by omega) (by omega), hf p hp]
  have ec : ∀ F, frm (f p) = some F → cmd f N p = rdF f N F (p + 1) := fun F hF => by unfold cmd; rw [if_pos hp, hF]
  have hq : ∀ n : Nat, n < 256 → (nI (f p) = nI n) = (f p = n) := fun n hn => eq_nI (by omega) (by omega)
  have q1 : (nI (f p) = (100 : Int32)) = (f p = 100) := hq 100 (by omega)
  have q2 : (nI (f p) = (111 : Int32)) = (f p = 111) := hq 111 (by omega)
  have q3 : (nI (f p) = (113 : Int32)) = (f p = 113) := hq 113 (by omega)
  have q4 : (nI (f p) = (115 : Int32)) = (f p = 115) := hq 115 (by omega)
  have q5 : (nI (f p) = (116 : Int32)) = (f p = 116) := hq 116 (by omega)
  have q6 : (nI (f p) = (118 : Int32)) = (f p = 118) := hq 118 (by omega)
  have q7 : (nI (f p) = (119 : Int32)) = (f p = 119) := hq 119 (by omega)
  have fr1 : ∀ a, a ≠ m → a ≠ m + 3 → σ1 a = σ a := fun a ha _ => o1 a ha
  unfold FX7_readCommand
  rw [r.1, b1_s, r.2.2.1, b1_s, r.2.2.2.2.2.2.2.2.2.2.1, b1_s, at1, b1_s, b1_s, nI_1, e1, b1_s]
  by_cases k1 : f p = 100
  · have hF : frm (f p) = some fD := by unfold frm; rw [if_pos k1]
    rw [if_pos (q1 ▸ k1), ec _ hF, k1]
    obtain ⟨σ2, e2, s2⟩ := rdC_D hA hN hf hf2 (show p + 1 ≤ N by omega) t1 g1 z1
    exact ⟨σ2, e2, pst_f s2 fr1⟩
  rw [if_neg (fun z => k1 (q1 ▸ z))]
  by_cases k2 : f p = 111
  · have hF : frm (f p) = some fO := by unfold frm; rw [if_neg k1, if_pos k2]
    obtain ⟨σ2, e2, s2⟩ := rdM_O hA hN hf hf2 (show p + 1 ≤ N by omega) t1 g1 z1
    rw [if_pos (q2 ▸ k2), ec _ hF, k2, e2, b2_s, gd01]
    exact ⟨σ2, rfl, pst_f s2 fr1⟩
  rw [if_neg (fun z => k2 (q2 ▸ z))]
  by_cases k3 : f p = 113
  · have hF : frm (f p) = some fQ := by unfold frm; rw [if_neg k1, if_neg k2, if_pos k3]
    obtain ⟨σ7, e7, z7, o7⟩ := eveningOn_e z1 hA
    have em := eve_M hA
    have en : nI (aLo (eve A)) - nI (aLo A) = nI (aLo (eve A) - aLo A) := pk_sub em.2.1
    have g7 : σ7 m = some (oM m N k rf (nI (p + 1)) (nI o)) := by rw [o7 _ (by omega)]; exact g1
    obtain ⟨σ8, e8, g8, o8⟩ := done_1 g7
    have ed := doC_113 (l := []) (A := A)
    have ev : rdF f N fQ (p + 1) = (some [], p + 1) := rfl
    rw [if_pos (q3 ▸ k3), ec _ hF, k3, ev, e7, b2_s, en, if_neg (nI_pos (by omega)), b1_s, e8, b2_s, if_pos (Or.inr rfl)]
    exact ⟨σ8, rfl, pst_s (l := []) rfl (by rw [ed]; exact g8) (by rw [ed]; exact isZ_s z7 (o8 _ (by omega))) (fun a ha hb => by rw [o8 a ha, o7 a hb, o1 a ha])⟩
  rw [if_neg (fun z => k3 (q3 ▸ z))]
  by_cases k4 : f p = 115
  · have hF : frm (f p) = some fS := by unfold frm; rw [if_neg k1, if_neg k2, if_neg k3, if_pos k4]
    obtain ⟨σ2, e2, s2⟩ := rdM_S hA hN hf hf2 (show p + 1 ≤ N by omega) t1 g1 z1
    rw [if_pos (q4 ▸ k4), ec _ hF, k4, e2, b2_s, gd01]
    exact ⟨σ2, rfl, pst_f s2 fr1⟩
  rw [if_neg (fun z => k4 (q4 ▸ z))]
  by_cases k5 : f p = 116
  · have hF : frm (f p) = some fU := by unfold frm; rw [if_neg k1, if_neg k2, if_neg k3, if_neg k4, if_pos k5]
    rw [if_pos (q5 ▸ k5), ec _ hF, k5]
    obtain ⟨σ2, e2, s2⟩ := rdC_U hA hN hf hf2 (show p + 1 ≤ N by omega) t1 g1 z1
    exact ⟨σ2, e2, pst_f s2 fr1⟩
  rw [if_neg (fun z => k5 (q5 ▸ z))]
  by_cases k6 : f p = 118
  · have hF : frm (f p) = some fV := by unfold frm; rw [if_neg k1, if_neg k2, if_neg k3, if_neg k4, if_neg k5, if_pos k6]
    rw [if_pos (q6 ▸ k6), ec _ hF, k6]
    obtain ⟨σ2, e2, s2⟩ := rdC_V hA hN hf hf2 (show p + 1 ≤ N by omega) t1 g1 z1
    exact ⟨σ2, e2, pst_f s2 fr1⟩
  rw [if_neg (fun z => k6 (q6 ▸ z))]
  by_cases k7 : f p = 119
  · have hF : frm (f p) = some fW := by unfold frm; rw [if_neg k1, if_neg k2, if_neg k3, if_neg k4, if_neg k5, if_neg k6, if_pos k7]
    obtain ⟨σ2, e2, s2⟩ := rdM_W hA hN hf hf2 (show p + 1 ≤ N by omega) t1 g1 z1
    rw [if_pos (q7 ▸ k7), ec _ hF, k7, e2, b2_s, gd01]
    exact ⟨σ2, rfl, pst_f s2 fr1⟩
  rw [if_neg (fun z => k7 (q7 ▸ z))]
  have hF : frm (f p) = none := by unfold frm; rw [if_neg k1, if_neg k2, if_neg k3, if_neg k4, if_neg k5, if_neg k6, if_neg k7]
  have ev : cmd f N p = (none, p) := by unfold cmd; rw [if_pos hp, hF]
  obtain ⟨σ2, e2, g2, o2⟩ := M_w9 g1 (nI p)
  rw [(M_r g1).2.2.2.2.2.2.2.2.2.2.1, b1_s, show nI (p + 1) - 1 = nI p from nI_pred p, e2, b1_s, ev]
  exact ⟨σ2, rfl, pst_n rfl g2 (isZ_s z1 (o2 _ (by omega))) (fun a ha _ => by rw [o2 a ha, o1 a ha])⟩
theorem rtL (hN : N ≤ 120) (hf : txR N f ts) (hf2 : ∀ i, i < N → f i ≤ 255) : ∀ (j q p o : Nat) (A : AS) (σ : qH), N < p + j → p ≤ N → okA A → σ (m + 1) = some (iA 120 ts) → σ m = some (oM m N k rf (nI p) (nI o)) → isZ σ (m + 3) A → ∃ σ', FX7_readText_L39 m (m + 3) (j + 1 + q) σ = some (enc (erF f N j p), σ') ∧ (∃ sp ou, σ' m = some (oM m N k rf sp ou)) ∧ mR σ' (m + 3) ∧ (∀ a, a ≠ m → a ≠ m + 3 → σ' a = σ a) ∧ (erF f N j p = none → (∃ sp, σ' m = some (oM m N k rf sp (nI (exF f N j p A o).2))) ∧ isZ σ' (m + 3) (exF f N j p A o).1)
  | 0, q, p, o, A, σ, hj, hp, hA, ht, h, hz => absurd hj (by omega)
  | j + 1, q, p, o, A, σ, hj, hp, hA, ht, h, hz => by
    have r := M_r h
    rw [show j + 1 + 1 + q = (j + 1 + q) + 1 by omega, FX7_readText_L39]
    simp only [r.2.2.2.2.2.2.2.2.2.2.1, r.2.2.2.1, b1_s, le_nI (show N < 2 ^ 31 by omega) (show p < 2 ^ 31 by omega)]
    by_cases c1 : N ≤ p
    · rw [if_pos c1, erF_e c1, exF_n (by rw [cmd_e c1])]
      exact ⟨σ, rfl, ⟨_, _, h⟩, mR_z hz, fun _ _ _ => rfl, fun _ => ⟨⟨_, h⟩, hz⟩⟩
    · obtain ⟨σ1, e1, s1⟩ := mCmd_e hA hN hf hf2 (show p < N by omega) ht h hz
      rw [if_neg c1, e1, b2_s]
      rcases opt_or (cmd f N p).1 with ev | ⟨l, ev⟩
      · obtain ⟨g1, z1⟩ := s1.2.1 ev
        rw [ev, erF_n c1 ev, if_pos isS_f, (M_r g1).2.2.2.2.2.2.2.2.2.2.1, b1_s]
        exact ⟨σ1, rfl, ⟨_, _, g1⟩, mR_z z1, s1.1, fun hh => by cases hh⟩
      · obtain ⟨g1, z1⟩ := s1.2.2 l ev
        obtain ⟨d1, d2, d3, F, hF, -⟩ := cmd_p ev
        have ok1 := doC_ok hA hF (cmd_r ev hF)
        obtain ⟨σ2, e2, x1, x2, x3, x4⟩ := rtL hN hf hf2 j q (cmd f N p).2 (o + (doC (f p) l A).2) (doC (f p) l A).1 σ1 (by omega) d3 ok1 (by rw [s1.1 _ (by omega) (by omega)]; exact ht) g1 z1
        rw [ev, erF_s c1 ev, exF_s ev, if_neg isS_t]
        exact ⟨σ2, e2, x1, x2, fun a ha hb => by rw [x3 a ha hb, s1.1 a ha hb], x4⟩
end RC
section RT
variable {σ : qH} {m N : Nat} {A : AS} {L : List AS} {K : Nat → Option AS} {f : Nat → Nat} {rf : Int32}
theorem readText_e (h : isM σ m A L K N f rf) (hS : okS A L K N f) : ∃ σ', FX7_readText m (m + 3) σ = some (enc (erP f N), σ') ∧ isM σ' m A L K N f rf ∧ Ch σ σ' m (m + 6) ∧ (erP f N = none → (∃ sp, σ' m = some (oM m N L.length rf sp (nI (exF f N 120 1 newA 0).2))) ∧ isZ σ' (m + 3) (exF f N 120 1 newA 0).1) := by
  have hN := hS.2.2.2.1
  obtain ⟨⟨sp, ou, h0⟩, ⟨ts, ht, hf⟩, h2, ⟨z, hz⟩, h4, h5⟩ := h
  obtain ⟨σ1, e1, z1, o1⟩ := clear_e hz
  have h01 : σ1 m = some (oM m N L.length rf sp ou) := by rw [o1 _ (by omega)]; exact h0
  obtain ⟨σ2, e2, g2, o2⟩ := M_w10 h01 (nI 0)
  obtain ⟨σ3, e3, g3, o3⟩ := M_w9 g2 (nI 0)
  have z3 : isZ σ3 (m + 3) newA := isZ_s z1 (by rw [o3 _ (by omega), o2 _ (by omega)])
  have t3 : σ3 (m + 1) = some (iA 120 ts) := by rw [o3 _ (by omega), o2 _ (by omega), o1 _ (by omega)]; exact ht
  have fr3 : ∀ a, a ≠ m → a ≠ m + 3 → σ3 a = σ a := fun a ha hb => by rw [o3 a ha, o2 a ha, o1 a hb]
  have mk' : ∀ σ', (∃ sp ou, σ' m = some (oM m N L.length rf sp ou)) → mR σ' (m + 3) → (∀ a, a ≠ m → a ≠ m + 3 → σ' a = σ a) → isM σ' m A L K N f rf ∧ Ch σ σ' m (m + 6) := fun σ' a1 a2 fr => ⟨⟨a1, ⟨ts, by rw [fr _ (by omega) (by omega)]; exact ht, hf⟩, isZ_s h2 (fr _ (by omega) (by omega)), a2, mD_s h4 (fr _ (by omega) (by omega)), mK_s h5 (fr _ (by omega) (by omega)) (fr _ (by omega) (by omega))⟩, fun a ha => fr a (by omega) (by omega)⟩
  have e2' : gP σ1 m 5 10 (.int 0) = some σ2 := e2
  have e3' : gP σ2 m 5 9 (.int 0) = some σ3 := e3
  have r3 := M_r g3
  have zero : σ3 m = some (oM m N L.length rf (nI 0) (nI 0)) := g3
  have nope : ¬ (0 < N ∧ f 0 = 80) → ∃ σ', some ((0 : Int32), σ3) = some (enc (erP f N), σ') ∧ isM σ' m A L K N f rf ∧ Ch σ σ' m (m + 6) ∧ (erP f N = none → (∃ sp, σ' m = some (oM m N L.length rf sp (nI (exF f N 120 1 newA 0).2))) ∧ isZ σ' (m + 3) (exF f N 120 1 newA 0).1) := fun c => by
    have e : erP f N = some 0 := by unfold erP; rw [if_neg c]
    obtain ⟨a1, a2⟩ := mk' σ3 ⟨_, _, g3⟩ (mR_z z3) fr3
    rw [e]
    exact ⟨σ3, rfl, a1, a2, fun hh => by cases hh⟩
  unfold FX7_readText
  rw [(M_r h0).1, b1_s, e1, b1_s, e2', b1_s, e3', b1_s, r3.2.2.2.1, b1_s]
  by_cases c0 : N = 0
  · rw [if_pos (show nI N = 0 by rw [c0]; rfl)]
    exact nope (by omega)
  · have f2 := hS.2.2.2.2 0 (by omega)
    have q1 : (nI (f 0) = (80 : Int32)) = (f 0 = 80) := eq_nI (b := 80) (by omega) (by omega)
    have at0 : aI σ3 (m + 1) 0 = some (nI (f 0)) := by rw [show (0 : Int32) = nI 0 from rfl, aI_e t3 (by omega) (by omega), hf 0 (by omega)]
    rw [if_neg (show ¬ nI N = 0 from fun hh => c0 ((nI_eq (b := 0) (by omega) (by omega)).mp hh)), r3.2.2.1, b1_s, at0, b1_s]
    by_cases c1 : f 0 = 80
    · obtain ⟨σ4, e4, g4, o4⟩ := M_w9 g3 (nI 1)
      have e4' : gP σ3 m 5 9 (.int 1) = some σ4 := e4
      have ee : erP f N = erF f N 120 1 := by unfold erP; rw [if_pos ⟨by omega, c1⟩]
      obtain ⟨q3, hq⟩ := qf (n := 120) (by omega)
      obtain ⟨σ5, e5, x1, x2, x3, x4⟩ := rtL hN hf hS.2.2.2.2 120 q3 1 0 newA σ4 (by omega) (by omega) newA_ok (by rw [o4 _ (by omega)]; exact t3) g4 (isZ_s z3 (o4 _ (by omega)))
      rw [← hq] at e5
      obtain ⟨a1, a2⟩ := mk' σ5 x1 x2 (fun a ha hb => by rw [x3 a ha hb, o4 a ha, fr3 a ha hb])
      rw [if_pos (q1 ▸ c1), e4', b1_s, ee]
      exact ⟨σ5, e5, a1, a2, x4⟩
    · rw [if_neg (fun z => c1 (q1 ▸ z))]
      exact nope (fun z => c1 z.2)
end RT
