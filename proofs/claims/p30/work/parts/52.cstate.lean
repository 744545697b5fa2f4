/-! Layer 2: the class's state. -/
abbrev bit (o : Option AS) : Int32 := if o.isSome then 1 else 0
def cSav (σ : qH) (n : Nat) (K : Nat → Option AS) : Prop := ∃ (f : Nat → Option Nat) (g : Nat → Int32), σ (n + 15) = some (rA 2 f) ∧ (∀ i, i < 2 → f i = some (n + 122 + 7 * i)) ∧ σ (n + 16) = some (zA 2 g) ∧ (∀ i, i < 2 → g i = bit (K i)) ∧ (∀ i, i < 2 → cRaw σ (n + 122 + 7 * i)) ∧ ∀ i B, i < 2 → K i = some B → isP σ (n + 122 + 7 * i) B
theorem cSav_s {σ σ' : qH} {n : Nat} {K : Nat → Option AS} (h : cSav σ n K) (e : ∀ a, (a = n + 15 ∨ a = n + 16 ∨ (n + 122 ≤ a ∧ a ≤ n + 135)) → σ' a = σ a) : cSav σ' n K := by
  obtain ⟨f, g, h1, h2, h3, h4, h5, h6⟩ := h
  exact ⟨f, g, by rw [e _ (by omega)]; exact h1, h2, by rw [e _ (by omega)]; exact h3, h4, fun i hi => cRaw_s (h5 i hi) (fun a ha hb => e a (by omega)), fun i B hi hB => isP_s (h6 i B hi hB) (fun a ha hb => e a (by omega))⟩
abbrev oT (b N p : Nat) (c : Int32) : qE := .inr (3, [.ref (b + 1), .int (nI N), .int (nI p), .int c, .ref (b + 2)])
def tX (σ : qH) (b N p : Nat) (c : Int32) (ts ns : Nat → Int32) : Prop := σ b = some (oT b N p c) ∧ σ (b + 1) = some (iA 120 ts) ∧ σ (b + 2) = some (iA 6 ns)
def txR (N : Nat) (f : Nat → Nat) (ts : Nat → Int32) : Prop := ∀ i, i < N → ts i = nI (f i)
def cTxt (σ : qH) (b N : Nat) (f : Nat → Nat) : Prop := ∃ p c ts ns, tX σ b N p c ts ns ∧ txR N f ts
theorem tX_s {σ σ' : qH} {b N p : Nat} {c : Int32} {ts ns : Nat → Int32} (h : tX σ b N p c ts ns) (e : ∀ a, b ≤ a → a ≤ b + 2 → σ' a = σ a) : tX σ' b N p c ts ns :=
  ⟨by rw [e _ (by omega) (by omega)]; exact h.1, by rw [e _ (by omega) (by omega)]; exact h.2.1, by rw [e _ (by omega) (by omega)]; exact h.2.2⟩
theorem cTxt_s {σ σ' : qH} {b N : Nat} {f : Nat → Nat} (h : cTxt σ b N f) (e : ∀ a, b ≤ a → a ≤ b + 2 → σ' a = σ a) : cTxt σ' b N f := by
  obtain ⟨p, c, ts, ns, h1, h2⟩ := h
  exact ⟨p, c, ts, ns, tX_s h1 e, h2⟩
def cBal (σ : qH) (b : Nat) : Prop := ∃ l h m c, isB σ b l h m ∧ σ (b + 1) = some (iA 1001 c)
theorem cBal_s {σ σ' : qH} {b : Nat} (h : cBal σ b) (e : ∀ a, b ≤ a → a ≤ b + 1 → σ' a = σ a) : cBal σ' b := by
  obtain ⟨l, hh, m, c, h1, h2⟩ := h
  exact ⟨l, hh, m, c, by show σ' b = _; rw [e _ (by omega) (by omega)]; exact h1, by rw [e _ (by omega) (by omega)]; exact h2⟩
abbrev oC (n : Nat) : qE := .inr (4, [.ref (n + 1), .ref (n + 8), .ref (n + 15), .ref (n + 16), .ref (n + 17), .ref (n + 117), .ref (n + 120)])
def isC (σ : qH) (n : Nat) (A : AS) (L : List AS) (K : Nat → Option AS) (N : Nat) (f : Nat → Nat) : Prop := σ n = some (oC n) ∧ isP σ (n + 1) A ∧ cRaw σ (n + 8) ∧ cSav σ n K ∧ cHis σ (n + 17) L ∧ cTxt σ (n + 117) N f ∧ cBal σ (n + 120)
def okS (A : AS) (L : List AS) (K : Nat → Option AS) (N : Nat) (f : Nat → Nat) : Prop := okA A ∧ (∀ B, B ∈ L → okA B) ∧ (∀ i B, i < 2 → K i = some B → okA B) ∧ N ≤ 120 ∧ ∀ i, i < N → f i ≤ 255
section CS
variable {σ σ' : qH} {n N N' : Nat} {A A' : AS} {L L' : List AS} {K K' : Nat → Option AS} {f f' : Nat → Nat}
theorem C_c (h : isC σ n A L K N f) : gC σ n 4 = some () := gC_e h.1
theorem C_0 (h : isC σ n A L K N f) : gR σ n 4 0 = some (n + 1) := gR_e h.1 rfl
theorem C_1 (h : isC σ n A L K N f) : gR σ n 4 1 = some (n + 8) := gR_e h.1 rfl
theorem C_2 (h : isC σ n A L K N f) : gR σ n 4 2 = some (n + 15) := gR_e h.1 rfl
theorem C_3 (h : isC σ n A L K N f) : gR σ n 4 3 = some (n + 16) := gR_e h.1 rfl
theorem C_4 (h : isC σ n A L K N f) : gR σ n 4 4 = some (n + 17) := gR_e h.1 rfl
theorem C_5 (h : isC σ n A L K N f) : gR σ n 4 5 = some (n + 117) := gR_e h.1 rfl
theorem C_6 (h : isC σ n A L K N f) : gR σ n 4 6 = some (n + 120) := gR_e h.1 rfl
theorem C_now (h : isC σ n A L K N f) (p : isP σ' (n + 1) A') (o : Off σ σ' (n + 1)) : isC σ' n A' L K N f := by
  obtain ⟨h0, h1, h2, h3, h4, h5, h6⟩ := h
  exact ⟨by rw [o _ (by omega)]; exact h0, p, cRaw_s h2 (fun a ha hb => o a (by omega)), cSav_s h3 (fun a ha => o a (by omega)), cHis_s h4 (fun a ha hb => o a (by omega)), cTxt_s h5 (fun a ha hb => o a (by omega)), cBal_s h6 (fun a ha hb => o a (by omega))⟩
theorem C_copy (h : isC σ n A L K N f) (p : cRaw σ' (n + 8)) (o : Off σ σ' (n + 8)) : isC σ' n A L K N f := by
  obtain ⟨h0, h1, h2, h3, h4, h5, h6⟩ := h
  exact ⟨by rw [o _ (by omega)]; exact h0, isP_s h1 (fun a ha hb => o a (by omega)), p, cSav_s h3 (fun a ha => o a (by omega)), cHis_s h4 (fun a ha hb => o a (by omega)), cTxt_s h5 (fun a ha hb => o a (by omega)), cBal_s h6 (fun a ha hb => o a (by omega))⟩
theorem C_sav (h : isC σ n A L K N f) (p : cSav σ' n K') (o : ∀ a, (a < n + 15 ∨ (n + 16 < a ∧ a < n + 122) ∨ n + 135 < a) → σ' a = σ a) : isC σ' n A L K' N f := by
  obtain ⟨h0, h1, h2, h3, h4, h5, h6⟩ := h
  exact ⟨by rw [o _ (by omega)]; exact h0, isP_s h1 (fun a ha hb => o a (by omega)), cRaw_s h2 (fun a ha hb => o a (by omega)), p, cHis_s h4 (fun a ha hb => o a (by omega)), cTxt_s h5 (fun a ha hb => o a (by omega)), cBal_s h6 (fun a ha hb => o a (by omega))⟩
theorem C_his (h : isC σ n A L K N f) (p : cHis σ' (n + 17) L') (o : Ch σ σ' (n + 17) (n + 116)) : isC σ' n A L' K N f := by
  obtain ⟨h0, h1, h2, h3, h4, h5, h6⟩ := h
  exact ⟨by rw [o _ (by omega)]; exact h0, isP_s h1 (fun a ha hb => o a (by omega)), cRaw_s h2 (fun a ha hb => o a (by omega)), cSav_s h3 (fun a ha => o a (by omega)), p, cTxt_s h5 (fun a ha hb => o a (by omega)), cBal_s h6 (fun a ha hb => o a (by omega))⟩
theorem C_txt (h : isC σ n A L K N f) (p : cTxt σ' (n + 117) N' f') (o : Ch σ σ' (n + 117) (n + 119)) : isC σ' n A L K N' f' := by
  obtain ⟨h0, h1, h2, h3, h4, h5, h6⟩ := h
  exact ⟨by rw [o _ (by omega)]; exact h0, isP_s h1 (fun a ha hb => o a (by omega)), cRaw_s h2 (fun a ha hb => o a (by omega)), cSav_s h3 (fun a ha => o a (by omega)), cHis_s h4 (fun a ha hb => o a (by omega)), p, cBal_s h6 (fun a ha hb => o a (by omega))⟩
theorem C_bal (h : isC σ n A L K N f) (p : cBal σ' (n + 120)) (o : Ch σ σ' (n + 120) (n + 121)) : isC σ' n A L K N f := by
  obtain ⟨h0, h1, h2, h3, h4, h5, h6⟩ := h
  exact ⟨by rw [o _ (by omega)]; exact h0, isP_s h1 (fun a ha hb => o a (by omega)), cRaw_s h2 (fun a ha hb => o a (by omega)), cSav_s h3 (fun a ha => o a (by omega)), cHis_s h4 (fun a ha hb => o a (by omega)), cTxt_s h5 (fun a ha hb => o a (by omega)), p⟩
theorem C_all (h : isC σ n A L K N f) (o : ∀ a, n ≤ a → a ≤ n + 135 → σ' a = σ a) : isC σ' n A L K N f := by
  obtain ⟨h0, h1, h2, h3, h4, h5, h6⟩ := h
  exact ⟨by rw [o _ (by omega) (by omega)]; exact h0, isP_s h1 (fun a ha hb => o a (by omega) (by omega)), cRaw_s h2 (fun a ha hb => o a (by omega) (by omega)), cSav_s h3 (fun a ha => o a (by omega) (by omega)), cHis_s h4 (fun a ha hb => o a (by omega) (by omega)), cTxt_s h5 (fun a ha hb => o a (by omega) (by omega)), cBal_s h6 (fun a ha hb => o a (by omega) (by omega))⟩
/-- the state is remembered -/
theorem C_rem (h : isC σ n A L K N f) (hA : okA A) : ∃ σ', FX1_remember (n + 17) (n + 1) σ = some σ' ∧ isC σ' n A ((A :: L).take 14) K N f ∧ Ch σ σ' n (n + 135) := by
  obtain ⟨σ1, e1, p1, o1⟩ := remember_e h.2.2.2.2.1 h.2.1 hA (by omega)
  have o1' : Ch σ σ1 (n + 17) (n + 116) := o1.wk (by omega) (by omega)
  exact ⟨σ1, e1, C_his h p1 o1', o1'.wk (by omega) (by omega)⟩
theorem C_cpy (h : isC σ n A L K N f) (hA : okA A) : ∃ σ', FX2_takeFrom (n + 8) (n + 1) σ = some σ' ∧ isP σ' (n + 8) A ∧ isC σ' n A L K N f ∧ Ch σ σ' n (n + 135) := by
  obtain ⟨m, t, r, w, v, s, c, hraw⟩ := h.2.2.1
  obtain ⟨σ1, e1, p1, o1⟩ := takeFrom_e hraw h.2.1 hA (by omega)
  exact ⟨σ1, e1, p1, C_copy h (isP_cr p1) o1, o1.ch (by omega) (by omega)⟩
theorem C_copyP (h : isC σ n A L K N f) {B : AS} (p : isP σ' (n + 8) B) (o : Off σ σ' (n + 8)) : isC σ' n A L K N f ∧ Ch σ σ' n (n + 135) := ⟨C_copy h (isP_cr p) o, o.ch (by omega) (by omega)⟩
/-- the ballot by ends, over the parish or over the copy -/
theorem C_ends (h : isC σ n A L K N f) {q s : Nat} {B : AS} (hp : isP σ q B) (hB : okA B) (hq : q + 6 < n + 120) (hs : s < 2 ^ 31) : ∃ σ' c', FX0_countByEnds (n + 120) q (nI s) (-1) σ = some σ' ∧ isB σ' (n + 120) (nI (low B s)) (nI (hig B s)) (nI (top B s)) ∧ σ' (n + 121) = some (iA 1001 c') ∧ isC σ' n A L K N f ∧ OfZ σ σ' (n + 120) := by
  obtain ⟨l, hh, m, c, b1', b2'⟩ := h.2.2.2.2.2.2
  obtain ⟨σ1, e1, g1, o1⟩ := ends_1 b1' hp (by omega) hB hs
  have g2 : σ1 (n + 120 + 1) = some (iA 1001 c) := by rw [o1 _ (by omega)]; exact b2'
  exact ⟨σ1, c, e1, g1, g2, C_bal h ⟨_, _, _, c, g1, g2⟩ (o1.ch (by omega) (by omega)), o1⟩
theorem C_endx (h : isC σ n A L K N f) {s k : Nat} (hA : okA A) (hk : k < nM A) (hs : s < 2 ^ 31) : ∃ σ', FX0_countByEnds (n + 120) (n + 1) (nI s) (nI k) σ = some σ' ∧ isB σ' (n + 120) (nI (low (drpA A k) s)) (nI (hig (drpA A k) s)) (nI (top (drpA A k) s)) ∧ isC σ' n A L K N f ∧ OfZ σ σ' (n + 120) := by
  obtain ⟨l, hh, m, c, b1', b2'⟩ := h.2.2.2.2.2.2
  obtain ⟨σ1, e1, g1, o1⟩ := ends_x b1' h.2.1 (by omega) hA hs hk
  have g2 : σ1 (n + 120 + 1) = some (iA 1001 c) := by rw [o1 _ (by omega)]; exact b2'
  exact ⟨σ1, e1, g1, C_bal h ⟨_, _, _, c, g1, g2⟩ (o1.ch (by omega) (by omega)), o1⟩
theorem C_heights (h : isC σ n A L K N f) {s : Nat} (hA : okA A) (hs : s < 2 ^ 31) : ∃ σ', FX0_countByHeights (n + 120) (n + 1) (nI s) σ = some σ' ∧ isB σ' (n + 120) (nI (low A s)) (nI (hig A s)) (nI (top A s)) ∧ isC σ' n A L K N f ∧ Ch σ σ' n (n + 135) := by
  obtain ⟨l, hh, m, c, b1', b2'⟩ := h.2.2.2.2.2.2
  obtain ⟨σ1, c1, e1, g1, g2, o1⟩ := countByHeights_e (by omega) hA hs h.2.1 b1' b2'
  have o1' : Ch σ σ1 (n + 120) (n + 121) := fun a ha => o1 a (by omega) (by omega)
  exact ⟨σ1, e1, g2, C_bal h ⟨_, _, _, c1, g2, g1⟩ o1', o1'.wk (by omega) (by omega)⟩
/-- the save slots -/
theorem C_save (h : isC σ n A L K N f) (hA : okA A) {i : Nat} (hi : i < 2) : aQ σ (n + 15) (nI i) = some (n + 122 + 7 * i) ∧ ∃ σ1, FX2_takeFrom (n + 122 + 7 * i) (n + 1) σ = some σ1 ∧ σ1 n = σ n ∧ ∃ σ2, sZ σ1 (n + 16) (nI i) 1 = some σ2 ∧ isC σ2 n A L (fset K i (some A)) N f ∧ Ch σ σ2 n (n + 135) := by
  obtain ⟨f', g, h1, h2, h3, h4, h5, h6⟩ := h.2.2.2.1
  refine ⟨aQ_e h1 hi (by omega) (h2 i hi), ?_⟩
  obtain ⟨m, t, r, w, v, s, c, hraw⟩ := h5 i hi
  obtain ⟨σ1, e1, p1, o1⟩ := takeFrom_e hraw h.2.1 hA (by omega)
  have g1 : σ1 (n + 16) = some (zA 2 g) := by rw [o1 _ (by omega)]; exact h3
  have e2 := sZ_e (x := 1) g1 hi (by omega)
  rw [nar_1] at e2
  refine ⟨σ1, e1, o1 _ (by omega), _, e2, ?_, ?_⟩
  · have o2 : OfZ σ1 (qU σ1 (n + 16) (zA 2 (upd g i 1))) (n + 16) := fun _ hb => qU_n hb
    have g2 : qU σ1 (n + 16) (zA 2 (upd g i 1)) (n + 16) = some (zA 2 (upd g i 1)) := qU_s
    generalize qU σ1 (n + 16) (zA 2 (upd g i 1)) = σ2 at o2 g2
    have keep : ∀ a, a ≠ n + 16 → (a < n + 122 + 7 * i ∨ n + 122 + 7 * i + 6 < a) → σ2 a = σ a := fun a ha hb => by rw [o2 a ha, o1 a hb]
    have p2 := isP_s p1 (σ' := σ2) (fun a ha hb => o2 a (by omega))
    refine C_sav h ⟨f', upd g i 1, by rw [keep _ (by omega) (by omega)]; exact h1, h2, g2, fun j hj => ?_, fun j hj => ?_, fun j B hj hB => ?_⟩ (fun a ha => keep a (by omega) (by omega))
    · by_cases c : j = i
      · subst c; rw [upd_e]; show _ = bit (if j = j then some A else K j); rw [if_pos rfl]; rfl
      · rw [upd_n c, h4 j hj]; show _ = bit (if j = i then some A else K j); rw [if_neg c]
    · by_cases c : j = i
      · subst c; exact isP_cr p2
      · exact cRaw_s (h5 j hj) (fun a ha hb => keep a (by omega) (by omega))
    · by_cases c : j = i
      · subst c
        have hB' : (if j = j then some A else K j) = some B := hB
        rw [if_pos rfl] at hB'
        cases hB'
        exact p2
      · have hB' : (if j = i then some A else K j) = some B := hB
        rw [if_neg c] at hB'
        exact isP_s (h6 j B hj hB') (fun a ha hb => keep a (by omega) (by omega))
  · intro a ha
    show (if a = n + 16 then _ else σ1 a) = σ a
    rw [if_neg (by omega), o1 a (by omega)]
theorem C_kept (h : isC σ n A L K N f) {i : Nat} (hi : i < 2) : aZ σ (n + 16) (nI i) = some (bit (K i)) ∧ aQ σ (n + 15) (nI i) = some (n + 122 + 7 * i) := by
  obtain ⟨f', g, h1, h2, h3, h4, h5, h6⟩ := h.2.2.2.1
  exact ⟨by rw [aZ_e h3 hi (by omega), h4 i hi], aQ_e h1 hi (by omega) (h2 i hi)⟩
theorem C_take (h : isC σ n A L K N f) {i : Nat} {B : AS} (hi : i < 2) (hB : K i = some B) (okB : okA B) : ∃ σ', FX2_takeFrom (n + 1) (n + 122 + 7 * i) σ = some σ' ∧ isC σ' n B L K N f ∧ Ch σ σ' n (n + 135) := by
  obtain ⟨f', g, h1, h2, h3, h4, h5, h6⟩ := h.2.2.2.1
  obtain ⟨m, t, r, w, v, s, c, hraw⟩ := isP_cr h.2.1
  obtain ⟨σ1, e1, p1, o1⟩ := takeFrom_e hraw (h6 i B hi hB) okB (by omega)
  exact ⟨σ1, e1, C_now h p1 o1, o1.ch (by omega) (by omega)⟩
theorem C_forget (h : isC σ n A L K N f) : ∃ σ', FX1_forget (n + 17) σ = some σ' ∧ isC σ' n A [] K N f ∧ Ch σ σ' n (n + 135) := by
  obtain ⟨σ1, e1, p1, o1⟩ := forget_e h.2.2.2.2.1
  exact ⟨σ1, e1, C_his h p1 (o1.ch (by omega) (by omega)), o1.ch (by omega) (by omega)⟩
end CS
section ND
variable {σ : qH} {n N : Nat} {A : AS} {L : List AS} {K : Nat → Option AS} {f : Nat → Nat} {x : Int32}
theorem need_t {p : Prop} [Decidable p] (h : p) : FX6_need (bI p) σ = some (.inl ()) := by
  unfold FX6_need; rw [bI_t h, if_neg (by decide)]
theorem need_f {p : Prop} [Decidable p] (h : ¬ p) : FX6_need (bI p) σ = some (.inr qA) := by
  unfold FX6_need; rw [bI_f h, if_pos rfl]
theorem needS_t (h : inZ x 0 2) : FX6_needSteeple x σ = some (.inl ()) := by
  unfold FX6_needSteeple; rw [isSteeple_e, b1_s, bI_t h, if_neg (by decide)]
theorem needS_f (h : ¬ inZ x 0 2) : FX6_needSteeple x σ = some (.inr qI) := by
  unfold FX6_needSteeple; rw [isSteeple_e, b1_s, bI_f h, if_pos rfl]
theorem needT_t (h : inZ x 0 5) : FX6_needTeller x σ = some (.inl ()) := by
  unfold FX6_needTeller; rw [isTeller_e, b1_s, bI_t h, if_neg (by decide)]
theorem needT_f (h : ¬ inZ x 0 5) : FX6_needTeller x σ = some (.inr qI) := by
  unfold FX6_needTeller; rw [isTeller_e, b1_s, bI_f h, if_pos rfl]
theorem needM_t (hc : isC σ n A L K N f) (hA : okA A) (h : inZ x 0 ((nM A : Int) - 1)) : FX6_needMeasure n x σ = some (.inl ()) := by
  unfold FX6_needMeasure; rw [C_c hc, b1_s, C_0 hc, b1_s, hasMeasure_e hc.2.1 hA, b1_s, bI_t h, if_neg (by decide)]
theorem needM_f (hc : isC σ n A L K N f) (hA : okA A) (h : ¬ inZ x 0 ((nM A : Int) - 1)) : FX6_needMeasure n x σ = some (.inr qI) := by
  unfold FX6_needMeasure; rw [C_c hc, b1_s, C_0 hc, b1_s, hasMeasure_e hc.2.1 hA, b1_s, bI_f h, if_pos rfl]
theorem needL_t (h : inZ x 0 1) : FX6_needSlot x σ = some (.inl ()) := by
  have h1 : ¬ x < 0 := fun hh => by have := Int32.lt_iff_toInt_lt.mp hh; rw [l0] at this; have := h.1; omega
  have h2 : x < 2 := by rw [Int32.lt_iff_toInt_lt, l2]; have := h.2; omega
  unfold FX6_needSlot; rw [if_neg h1, if_pos h2]
theorem needL_f (h : ¬ inZ x 0 1) : FX6_needSlot x σ = some (.inr qI) := by
  unfold FX6_needSlot
  by_cases h1 : x < 0
  · rw [if_pos h1]
  · rw [if_neg h1, if_neg (fun h2 => h ⟨?_, ?_⟩)]
    · have : ¬ x.toInt < (0 : Int32).toInt := fun hh => h1 (Int32.lt_iff_toInt_lt.mpr hh)
      rw [l0] at this; omega
    · have := Int32.lt_iff_toInt_lt.mp h2
      rw [l2] at this; omega
end ND
