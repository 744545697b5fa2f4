/-! Layer 2: class and reference side by side: what one call of the law gives. -/
abbrev oJ (g : Nat → Int64) : qE := .inl (3, (1, .inr (.inl g)))
theorem sJ_n {σ : qH} {a n i : Nat} {g : Nat → Int64} {x : Int64} (h : σ a = some (.inl (3, (n, .inr (.inl g))))) (hi : i < n) (hn : n < 2 ^ 31) : sJ σ a (nI i) x = some (qU σ a (.inl (3, (n, .inr (.inl (vp_updL g i x)))))) := by
  have h2 := qin_n hi hn
  unfold sJ
  rw [h]
  show (if 3 = 3 ∧ qin (nI i) n then some (qU σ a (.inl (3, (n, .inr (.inl (vp_updL g (nI i).toNatClampNeg x)))))) else none) = _
  rw [if_pos ⟨rfl, h2⟩, nI_clamp (by omega)]
theorem aJ_n {σ : qH} {a n i : Nat} {g : Nat → Int64} (h : σ a = some (.inl (3, (n, .inr (.inl g))))) (hi : i < n) (hn : n < 2 ^ 31) : aJ σ a (nI i) = some (g i) := by
  have h2 := qin_n hi hn
  unfold aJ
  rw [h]
  show (if 3 = 3 ∧ qin (nI i) n then some (g (nI i).toNatClampNeg) else none) = _
  rw [if_pos ⟨rfl, h2⟩, nI_clamp (by omega)]
theorem sJ_e {σ : qH} {a : Nat} {g : Nat → Int64} {x : Int64} (h : σ a = some (oJ g)) : sJ σ a 0 x = some (qU σ a (oJ (vp_updL g 0 x))) := sJ_n (i := 0) h (by omega) (by omega)
theorem aJ_e {σ : qH} {a : Nat} {g : Nat → Int64} (h : σ a = some (oJ g)) : aJ σ a 0 = some (g 0) := aJ_n (i := 0) h (by omega) (by omega)
theorem updL_0 {g : Nat → Int64} {x : Int64} : vp_updL g 0 x 0 = x := by simp [vp_updL]
theorem bc2_s {β : Type} {a : Int32} {s : qH} {f : Int32 → qH → Option β} {g : String → qH → Option β} : bc2 (some (.inl (a, s))) f g = f a s := rfl
theorem bc2_e {β : Type} {e : String} {s : qH} {f : Int32 → qH → Option β} {g : String → qH → Option β} : bc2 (some (.inr (e, s))) f g = g e s := rfl
theorem bc_s {α β ε : Type} {a : α} {f : α → Option β} {g : ε → Option β} : bc (some (.inl a)) f g = f a := rfl
theorem bc_e {α β ε : Type} {e : ε} {f : α → Option β} {g : ε → Option β} : bc (some (.inr e)) f g = g e := rfl
def Wd (σ : qH) (n : Nat) (A : AS) (L : List AS) (K : Nat → Option AS) (N : Nat) (f : Nat → Nat) (rf : Int32) : Prop := isC σ n A L K N f ∧ isM σ (n + 136) A L K N f rf ∧ (∃ g, σ (n + 143) = some (oJ g)) ∧ okS A L K N f
def Res (σ : qH) (n : Nat) (r1 : Option (Int32 × qH)) (r2 : qH → Option (Int32 × qH)) : Prop := ∃ k σ1 v σ2, r1 = some (k, σ1) ∧ r2 σ1 = some (v, σ2) ∧ FX7_thrown (n + 136) σ2 = some k ∧ (k = 0 → aJ σ2 (n + 143) 0 = some v.toInt64) ∧ (∃ A L K N f rf, Wd σ2 n A L K N f rf) ∧ (∀ a, a < n → σ1 a = σ a) ∧ (∀ a, a < n → σ2 a = σ a)
def Rez (σ : qH) (n : Nat) (r1 : Option (Int32 × qH)) (r2 : qH → Option (Int32 × qH)) : Prop := ∃ σ1 v σ2, r1 = some (v, σ1) ∧ r2 σ1 = some (v, σ2) ∧ (∃ A L K N f rf, Wd σ2 n A L K N f rf) ∧ (∀ a, a < n → σ1 a = σ a) ∧ (∀ a, a < n → σ2 a = σ a)
section WR
variable {σ σ1 : qH} {n N N' : Nat} {A A' : AS} {L L' : List AS} {K K' : Nat → Option AS} {f f' : Nat → Nat} {rf v k : Int32} {r1 : Option (Int32 × qH)} {r2 : qH → Option (Int32 × qH)}
theorem thr_e {m : Nat} (h : isM σ m A L K N f rf) : FX7_thrown m σ = some rf := by
  unfold FX7_thrown
  rw [M_c h, b1_s, (M_get h).2.1, b1_s]
theorem Res_ok (W : Wd σ n A L K N f rf) (v : Int32) (hC : isC σ1 n A' L' K' N' f') (oC : Ch σ σ1 n (n + 135)) (hS : okS A' L' K' N' f') (hM : ∀ σ, isM σ (n + 136) A L K N f rf → ∃ σ2, r2 σ = some (v, σ2) ∧ isM σ2 (n + 136) A' L' K' N' f' 0 ∧ Ch σ σ2 (n + 136) (n + 142)) (e : ∀ σ', sJ σ1 (n + 143) 0 v.toInt64 = some σ' → r1 = some (0, σ')) : Res σ n r1 r2 := by
  obtain ⟨hc, hm, ⟨g, hg⟩, hs⟩ := W
  have hg1 : σ1 (n + 143) = some (oJ g) := by rw [oC _ (by omega)]; exact hg
  have es := sJ_e (x := v.toInt64) hg1
  have o' : OfZ σ1 (qU σ1 (n + 143) (oJ (vp_updL g 0 v.toInt64))) (n + 143) := fun _ hb => qU_n hb
  have gj : qU σ1 (n + 143) (oJ (vp_updL g 0 v.toInt64)) (n + 143) = some (oJ (vp_updL g 0 v.toInt64)) := qU_s
  generalize qU σ1 (n + 143) (oJ (vp_updL g 0 v.toInt64)) = σj at es o' gj
  obtain ⟨σ2, e2, hM2, o2⟩ := hM σj (M_all hm (fun a ha hb => by rw [o' a (by omega), oC a (by omega)]))
  have g2 : σ2 (n + 143) = some (oJ (vp_updL g 0 v.toInt64)) := by rw [o2 _ (by omega)]; exact gj
  refine ⟨0, σj, v, σ2, e σj es, e2, thr_e hM2, fun _ => by rw [aJ_e g2, updL_0], ⟨A', L', K', N', f', 0, C_all hC (fun a ha hb => by rw [o2 a (by omega), o' a (by omega)]), hM2, ⟨_, g2⟩, hS⟩, fun a ha => by rw [o' a (by omega), oC a (by omega)], fun a ha => by rw [o2 a (by omega), o' a (by omega), oC a (by omega)]⟩
theorem Res_no (W : Wd σ n A L K N f rf) (k : Int32) (hk : ¬ k = 0) (hC : isC σ1 n A L K N f) (oC : Ch σ σ1 n (n + 135)) (hM : ∀ σ, isM σ (n + 136) A L K N f rf → ∃ v σ2, r2 σ = some (v, σ2) ∧ isM σ2 (n + 136) A L K N f k ∧ Ch σ σ2 (n + 136) (n + 142)) (e : r1 = some (k, σ1)) : Res σ n r1 r2 := by
  obtain ⟨hc, hm, ⟨g, hg⟩, hs⟩ := W
  obtain ⟨v, σ2, e2, hM2, o2⟩ := hM σ1 (M_all hm (fun a ha hb => by rw [oC a (by omega)]))
  refine ⟨k, σ1, v, σ2, e, e2, thr_e hM2, fun hh => absurd hh hk, ⟨A, L, K, N, f, k, C_all hC (fun a ha hb => o2 a (by omega)), hM2, ⟨g, by rw [o2 _ (by omega), oC _ (by omega)]; exact hg⟩, hs⟩, fun a ha => oC a (by omega), fun a ha => by rw [o2 a (by omega), oC a (by omega)]⟩
theorem Rez_ok (W : Wd σ n A L K N f rf) (v : Int32) (hC : isC σ1 n A' L' K' N' f') (oC : Ch σ σ1 n (n + 135)) (hS : okS A' L' K' N' f') (hM : ∀ σ, isM σ (n + 136) A L K N f rf → ∃ σ2, r2 σ = some (v, σ2) ∧ isM σ2 (n + 136) A' L' K' N' f' 0 ∧ Ch σ σ2 (n + 136) (n + 142)) (e : r1 = some (v, σ1)) : Rez σ n r1 r2 := by
  obtain ⟨hc, hm, ⟨g, hg⟩, hs⟩ := W
  obtain ⟨σ2, e2, hM2, o2⟩ := hM σ1 (M_all hm (fun a ha hb => by rw [oC a (by omega)]))
  exact ⟨σ1, v, σ2, e, e2, ⟨A', L', K', N', f', 0, C_all hC (fun a ha hb => o2 a (by omega)), hM2, ⟨g, by rw [o2 _ (by omega), oC _ (by omega)]; exact hg⟩, hS⟩, fun a ha => oC a (by omega), fun a ha => by rw [o2 a (by omega), oC a (by omega)]⟩
theorem okS_rem (h : okS A L K N f) (hA : okA A') : okS A' ((A :: L).take 14) K N f := by
  refine ⟨hA, fun B hB => ?_, h.2.2⟩
  have := List.mem_of_mem_take hB
  rcases List.mem_cons.mp this with e | e
  · rw [e]; exact h.1
  · exact h.2.1 B e
/-- the reference refuses, or goes on -/
theorem M_no1 {m : Nat} (h : isM σ m A L K N f rf) : ∃ σ2, FX7_refused m 1 σ = some (1, σ2) ∧ isM σ2 m A L K N f 1 ∧ Ch σ σ2 m (m + 6) := by
  obtain ⟨σ1, e1, h1, o1⟩ := ref_1 h
  exact ⟨σ1, e1, h1, o1.ch (Nat.le_refl _) (by omega)⟩
theorem M_no2 {m : Nat} (h : isM σ m A L K N f rf) : ∃ σ2, FX7_refused m 2 σ = some (1, σ2) ∧ isM σ2 m A L K N f 2 ∧ Ch σ σ2 m (m + 6) := by
  obtain ⟨σ1, e1, h1, o1⟩ := ref_2 h
  exact ⟨σ1, e1, h1, o1.ch (Nat.le_refl _) (by omega)⟩
theorem M_no3 {m : Nat} (h : isM σ m A L K N f rf) : ∃ σ2, FX7_refused m 3 σ = some (1, σ2) ∧ isM σ2 m A L K N f 3 ∧ Ch σ σ2 m (m + 6) := by
  obtain ⟨σ1, e1, h1, o1⟩ := ref_3 h
  exact ⟨σ1, e1, h1, o1.ch (Nat.le_refl _) (by omega)⟩
theorem M_yes {m : Nat} (h : isM σ m A L K N f rf) : ∃ σ2, FX7_refused m 0 σ = some (0, σ2) ∧ isM σ2 m A L K N f 0 ∧ Ch σ σ2 m (m + 6) := by
  obtain ⟨σ1, e1, h1, o1⟩ := ref_0 h
  exact ⟨σ1, e1, h1, o1.ch (Nat.le_refl _) (by omega)⟩
theorem op_trust {x y : Int32} (W : Wd σ n A L K N f rf) : Res σ n (FL_trust n x y (n + 143) σ) (FX7_trust (n + 136) x y) := by
  obtain ⟨hc, hm, hg, hs⟩ := id W
  by_cases c1 : inZ x 0 5
  · by_cases c2 : inZ y 0 9
    · obtain ⟨t, rfl, t1, t2⟩ := inZ_n c1 (by omega)
      obtain ⟨v, rfl, v1, v2⟩ := inZ_n c2 (by omega)
      obtain ⟨σ1, e1, h1, o1⟩ := C_rem hc hs.1
      obtain ⟨σ2, e2, p2, o2⟩ := changeTrust_e (t := t) (v := v) h1.2.1 (by omega)
      refine Res_ok W (nI (aT A t)) (C_now h1 p2 o2) (o1.tr (o2.ch (by omega) (by omega))) (okS_rem hs (truA_ok hs.1 (by omega))) (fun σ' hm' => ?_) (fun σ' hj => ?_)
      · obtain ⟨σ3, e3, h3, o3⟩ := M_yes hm'
        obtain ⟨σ4, e4, h4, o4⟩ := M_rem h3 hs.1 hs.2.1
        obtain ⟨σ5, e5, z5, o5⟩ := trustOn_e (t := t) (v := v) (M_z h4) (by omega)
        refine ⟨σ5, ?_, M_now h4 z5 o5, (o3.tr o4).tr (o5.ch (by omega) (by omega))⟩
        unfold FX7_trust
        simp only [M_c hm', b1_s, zisT_e, zin_0_9, bI_ite]
        rw [if_pos c1, if_pos c2, b1_s, e3, b2_s, if_pos rfl, e4, b1_s, M_n h4, b1_s, e5, b2_s]
      · unfold FL_trust FX6_trust
        rw [C_c hc, b1_s, needT_t c1, bxw_s, isTrust_e, b1_s, need_t c2, bxw_s, C_4 hc, b1_s, C_0 hc, b1_s, e1, b1_s, C_0 h1, b1_s, e2, b2_s, bc2_s, hj, b1_s]
    · refine Res_no W 2 (by decide) hc Ch.rf (fun σ' hm' => ?_) ?_
      · obtain ⟨σ3, e3, h3, o3⟩ := M_no2 hm'
        refine ⟨0, σ3, ?_, h3, o3⟩
        unfold FX7_trust
        simp only [M_c hm', b1_s, zisT_e, zin_0_9, bI_ite]
        rw [if_pos c1, if_neg c2, b1_s, e3, b2_s, if_neg (by decide)]
      · unfold FL_trust FX6_trust
        rw [C_c hc, b1_s, needT_t c1, bxw_s, isTrust_e, b1_s, need_f c2, bxw_e, bc2_e, if_neg (by decide), if_pos rfl]
  · refine Res_no W 1 (by decide) hc Ch.rf (fun σ' hm' => ?_) ?_
    · obtain ⟨σ3, e3, h3, o3⟩ := M_no1 hm'
      refine ⟨0, σ3, ?_, h3, o3⟩
      unfold FX7_trust
      simp only [M_c hm', b1_s, zisT_e, zin_0_9, bI_ite]
      rw [if_neg c1, b1_s, e3, b2_s, if_neg (by decide)]
    · unfold FL_trust FX6_trust
      rw [C_c hc, b1_s, needT_f c1, bxw_e, bc2_e, if_pos rfl]
end WR
