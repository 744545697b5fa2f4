/-! Layer 2: the reads, side by side. -/
theorem l4 : (4 : Int32).toInt = 4 := rfl
theorem l10 : (10 : Int32).toInt = 10 := rfl
theorem l255 : (255 : Int32).toInt = 255 := rfl
theorem prs_c {p q : Nat → Nat → Prop} [∀ i j, Decidable (p i j)] [∀ i j, Decidable (q i j)] {n : Nat} (h : ∀ i j, p i j ↔ q i j) : prs p n = prs q n := by
  unfold prs
  refine fsm_c fun k hk => fsm_c fun d hd => ?_
  by_cases c : p k (k + 1 + d)
  · rw [if_pos c, if_pos ((h _ _).mp c)]
  · rw [if_neg c, if_neg (fun z => c ((h _ _).mpr z))]
theorem sumloop2 {f : Nat → Int32 → Int32 → Int32 → Option (Int32 × Int32)} {n : Nat} {g h : Nat → Nat} (hs : ∀ q k x y, k < n → f (q + 1) x y (nI k) = f q (x + nI (g k)) (y + nI (h k)) (nI (k + 1))) (he : ∀ q x y, f (q + 1) x y (nI n) = some (x, y)) : ∀ (d k q : Nat) (x y : Int32), k + d = n → f (d + 1 + q) x y (nI k) = some (x + nI (fb_sm (fun i => g (k + i)) d), y + nI (fb_sm (fun i => h (k + i)) d))
  | 0, k, q, x, y, hh => by
    have : k = n := by omega
    subst this
    rw [show 0 + 1 + q = q + 1 by omega, he]
    show _ = some (x + nI 0, y + nI 0)
    rw [z_nI, z_nI]
  | d + 1, k, q, x, y, hh => by
    have ex : ∀ g : Nat → Nat, fb_sm (fun i => g (k + i)) (d + 1) = g k + fb_sm (fun i => g (k + 1 + i)) d := fun g => by
      rw [show d + 1 = 1 + d by omega, fb_sm_split (fun i => g (k + i)) 1 d]
      have e1 : fb_sm (fun i => g (k + i)) 1 = g k := by simp [fb_sm]
      have e2 : (fun i => g (k + 1 + i)) = (fun i => g (k + (1 + i))) := by funext i; rw [Nat.add_assoc]
      rw [e1, e2]
    rw [show d + 1 + 1 + q = (d + 1 + q) + 1 by omega, hs _ _ _ _ (by omega), sumloop2 hs he d (k + 1) q _ _ (by omega), ex g, ex h, ← nI_add, ← nI_add, Int32.add_assoc, Int32.add_assoc]
theorem sumloop20 {f : Nat → Int32 → Int32 → Int32 → Option (Int32 × Int32)} {n : Nat} {g h : Nat → Nat} (hs : ∀ q k x y, k < n → f (q + 1) x y (nI k) = f q (x + nI (g k)) (y + nI (h k)) (nI (k + 1))) (he : ∀ q x y, f (q + 1) x y (nI n) = some (x, y)) (hn : n < 1000) : f qfuel 0 0 0 = some (nI (fb_sm g n), nI (fb_sm h n)) := by
  obtain ⟨q, hq⟩ := qf (n := n) (by omega)
  have e := sumloop2 hs he n 0 q (nI 0) (nI 0) (by omega)
  rw [hq]
  show f (n + 1 + q) (nI 0) (nI 0) (nI 0) = _
  rw [e, z_nI', z_nI']
  simp
section RE
variable {σ : qH} {n N : Nat} {A : AS} {L : List AS} {K : Nat → Option AS} {f : Nat → Nat} {rf : Int32}
/-- about -/
def abV (A : AS) (i : Nat) : Int32 := if i = 0 then nI (nM A) else if i = 1 then nI (aCm A) else if i = 2 then nI (aEv A) else if i = 3 then nI (aSu A) else if i = 4 then nI (prs (fun i j => quar (mk A i) (mk A j)) (nM A)) else if i = 5 then nI (prs (fun i j => matt A (mk A i) (mk A j)) (nM A)) else if i = 6 then nI (fb_sm (aT A) 6) else if i = 7 then nI (aLo A) else if i = 8 then nI (fb_sm (aRt A) 6) else nI (fb_sm (aWr A) 6)
theorem lost_e {q : Nat} (h : isP σ q A) : FX2_lost q σ = some (nI (aLo A)) := by unfold FX2_lost; simp only [p_gC h, b1_s, p_lost h]
theorem trustOf_e {q t : Nat} (h : isP σ q A) (ht : t < 6) : FX2_trustOf q (nI t) σ = some (nI (aT A t)) := by unfold FX2_trustOf; simp only [p_gC h, b1_s, (p_R h).2.1, (p_t h ht).1]
theorem rightOf_e {q t : Nat} (h : isP σ q A) (ht : t < 6) : FX2_rightOf q (nI t) σ = some (nI (aRt A t)) := by unfold FX2_rightOf; simp only [p_gC h, b1_s, (p_R h).2.2.1, (p_t h ht).2.1]
theorem wrongOf_e {q t : Nat} (h : isP σ q A) (ht : t < 6) : FX2_wrongOf q (nI t) σ = some (nI (aWr A t)) := by unfold FX2_wrongOf; simp only [p_gC h, b1_s, (p_R h).2.2.2.1, (p_t h ht).2.2]
theorem heightS_e {q s : Nat} (h : isP σ q A) (hs : s < 3) : FX2_heightSurveyed q (nI s) σ = some (aSv A s) := by unfold FX2_heightSurveyed; simp only [p_gC h, b1_s, (p_R h).2.2.2.2.1, p_v h hs]
theorem settingOf_e {q i : Nat} (h : isP σ q A) (hi : i < 2) : FX2_settingOf q (nI i) σ = some (nI (aSt A i)) := by unfold FX2_settingOf; simp only [p_gC h, b1_s, (p_R h).2.2.2.2.2, p_s h hi]
theorem ab_c (hc : isC σ n A L K N f) (hA : okA A) {i : Nat} (hi : i ≤ 9) : FX6_about n (nI i) σ = some (.inl (abV A i)) := by
  have hp := hc.2.1
  have c1 : inZ (nI i) 0 9 := (inZ_nI (by omega)).mpr (by omega)
  unfold FX6_about
  simp only [C_c hc, b1_s, rgR, bI_1, l0, l9]
  rw [need_t c1, bx_s]
  rcases (show i = 0 ∨ i = 1 ∨ i = 2 ∨ i = 3 ∨ i = 4 ∨ i = 5 ∨ i = 6 ∨ i = 7 ∨ i = 8 ∨ i = 9 by omega) with rfl | rfl | rfl | rfl | rfl | rfl | rfl | rfl | rfl | rfl
  · rw [if_pos (show nI 0 = (0 : Int32) from rfl), C_0 hc, b1_s, count_e hp, b1_s]; rfl
  · rw [if_neg (show ¬ nI 1 = (0 : Int32) by decide), if_pos (show nI 1 = (1 : Int32) from rfl), C_0 hc, b1_s, came_e hp, b1_s]; rfl
  · rw [if_neg (show ¬ nI 2 = (0 : Int32) by decide), if_neg (show ¬ nI 2 = (1 : Int32) by decide), if_pos (show nI 2 = (2 : Int32) from rfl), C_0 hc, b1_s, evenings_e hp, b1_s]; rfl
  · rw [if_neg (show ¬ nI 3 = (0 : Int32) by decide), if_neg (show ¬ nI 3 = (1 : Int32) by decide), if_neg (show ¬ nI 3 = (2 : Int32) by decide), if_pos (show nI 3 = (3 : Int32) from rfl), C_0 hc, b1_s, surveys_e hp, b1_s]; rfl
  · rw [if_neg (show ¬ nI 4 = (0 : Int32) by decide), if_neg (show ¬ nI 4 = (1 : Int32) by decide), if_neg (show ¬ nI 4 = (2 : Int32) by decide), if_neg (show ¬ nI 4 = (3 : Int32) by decide), if_pos (show nI 4 = (4 : Int32) from rfl), C_0 hc, b1_s, pairsThatQuarrel_e hp hA, b1_s]; rfl
  · rw [if_neg (show ¬ nI 5 = (0 : Int32) by decide), if_neg (show ¬ nI 5 = (1 : Int32) by decide), if_neg (show ¬ nI 5 = (2 : Int32) by decide), if_neg (show ¬ nI 5 = (3 : Int32) by decide), if_neg (show ¬ nI 5 = (4 : Int32) by decide), if_pos (show nI 5 = (5 : Int32) from rfl), C_0 hc, b1_s, pairsThatMatter_e hp hA, b1_s]; rfl
  · rw [if_neg (show ¬ nI 6 = (0 : Int32) by decide), if_neg (show ¬ nI 6 = (1 : Int32) by decide), if_neg (show ¬ nI 6 = (2 : Int32) by decide), if_neg (show ¬ nI 6 = (3 : Int32) by decide), if_neg (show ¬ nI 6 = (4 : Int32) by decide), if_neg (show ¬ nI 6 = (5 : Int32) by decide), if_pos (show nI 6 = (6 : Int32) from rfl), C_0 hc, b1_s, trustOfAll_e hp, b1_s]; rfl
  · rw [if_neg (show ¬ nI 7 = (0 : Int32) by decide), if_neg (show ¬ nI 7 = (1 : Int32) by decide), if_neg (show ¬ nI 7 = (2 : Int32) by decide), if_neg (show ¬ nI 7 = (3 : Int32) by decide), if_neg (show ¬ nI 7 = (4 : Int32) by decide), if_neg (show ¬ nI 7 = (5 : Int32) by decide), if_neg (show ¬ nI 7 = (6 : Int32) by decide), if_pos (show nI 7 = (7 : Int32) from rfl), C_0 hc, b1_s, lost_e hp, b1_s]; rfl
  · rw [if_neg (show ¬ nI 8 = (0 : Int32) by decide), if_neg (show ¬ nI 8 = (1 : Int32) by decide), if_neg (show ¬ nI 8 = (2 : Int32) by decide), if_neg (show ¬ nI 8 = (3 : Int32) by decide), if_neg (show ¬ nI 8 = (4 : Int32) by decide), if_neg (show ¬ nI 8 = (5 : Int32) by decide), if_neg (show ¬ nI 8 = (6 : Int32) by decide), if_neg (show ¬ nI 8 = (7 : Int32) by decide), if_pos (show nI 8 = (8 : Int32) from rfl), C_0 hc, b1_s, rightOfAll_e hp, b1_s]; rfl
  · rw [if_neg (show ¬ nI 9 = (0 : Int32) by decide), if_neg (show ¬ nI 9 = (1 : Int32) by decide), if_neg (show ¬ nI 9 = (2 : Int32) by decide), if_neg (show ¬ nI 9 = (3 : Int32) by decide), if_neg (show ¬ nI 9 = (4 : Int32) by decide), if_neg (show ¬ nI 9 = (5 : Int32) by decide), if_neg (show ¬ nI 9 = (6 : Int32) by decide), if_neg (show ¬ nI 9 = (7 : Int32) by decide), if_neg (show ¬ nI 9 = (8 : Int32) by decide), C_0 hc, b1_s, wrongOfAll_e hp, b1_s]; rfl
/-- measureOf -/
def meV (A : AS) (k i : Nat) : Int32 := if i < 7 then nI (mk A k i) else if i = 7 then nI (lst (mk A k)) else if i = 8 then nI (gst (mk A k)) else if i = 9 then nI (wt A (mk A k)) else nI (fb_sm (fun j => if quar (mk A k) (mk A j) then 1 else 0) (nM A))
/-- tellerOf -/
def teV (A : AS) (t i : Nat) : Int32 := if i = 0 then nI (aT A t) else if i = 1 then nI (fb_sm (fun k => if mk A k 1 = t then 1 else 0) (nM A)) else if i = 2 then nI (aRt A t) else if i = 3 then nI (aWr A t) else nI (fb_sm (fun k => if mk A k 1 = t then fb_sm (fun i => if quar (mk A k) (mk A i) then 1 else 0) (nM A) else 0) (nM A))
/-- steepleOf -/
def seV (A : AS) (s i : Nat) : Int32 := if i = 0 then nI (fb_sm (fun k => if mk A k 0 = s then 1 else 0) (nM A)) else if i = 1 then aSv A s else nI (fb_sm (fun k => if mk A k 0 = s then wt A (mk A k) else 0) (nM A))
end RE
