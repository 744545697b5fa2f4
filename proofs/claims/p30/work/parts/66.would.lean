/-! Layer 2: what would be, and the text, side by side. -/
section WW
variable {σ : qH} {n N : Nat} {A : AS} {L : List AS} {K : Nat → Option AS} {f : Nat → Nat} {rf : Int32} {tst : Nat → Nat}
def beV (A : AS) (s : Nat) (w : Int32) : Int32 := if w = 0 then nI (low A s) else if w = 1 then nI (hig A s) else nI (top A s)
theorem told_e {b s : Nat} {B : AS} {w : Int32} (h : isB σ b (nI (low B s)) (nI (hig B s)) (nI (top B s))) : FX0_told b w σ = some (beV B s w) := by
  obtain ⟨r0, -, r1, r2, r3⟩ := B_r h
  unfold FX0_told beV
  simp only [r0, r1, r2, r3, b1_s]
  by_cases c0 : w = 0
  · rw [if_pos c0, if_pos c0]
  · by_cases c1 : w = 1
    · rw [if_neg c0, if_pos c1, if_neg c0, if_pos c1]
    · rw [if_neg c0, if_neg c1, if_neg c0, if_neg c1]
theorem lowest_e {b : Nat} {l h m : Int32} (hb : isB σ b l h m) : FX0_lowest b σ = some l := by
  unfold FX0_lowest; rw [(B_r hb).1, b1_s, (B_r hb).2.2.1, b1_s]
theorem most_e {b : Nat} {l h m : Int32} (hb : isB σ b l h m) : FX0_most b σ = some m := by
  unfold FX0_most; rw [(B_r hb).1, b1_s, (B_r hb).2.2.2.2, b1_s]
/-- swings -/
def swL (A : AS) (t s : Nat) : Nat → Nat → Option Nat
  | 0, _ => none
  | d + 1, v => if tlB (truA A t v) t s (low (truA A t v) s) (nM A) 0 then some v else swL A t s d (v + 1)
theorem truA_tw {A : AS} {t v w : Nat} : truA (truA A t v) t w = truA A t w := by
  have e : fset (fset (aT A) t v) t w = fset (aT A) t w := by
    funext j
    show (if j = t then w else if j = t then v else aT A j) = if j = t then w else aT A j
    by_cases c : j = t
    · rw [if_pos c, if_pos c]
    · rw [if_neg c, if_neg c, if_neg c]
  show ((aM A, fset (fset (aT A) t v) t w, _) : AS) = _
  rw [e]
theorem nine {v : Nat} (hv : v ≤ 10) : ((9 : Int32) < nI v) = (9 < v) := lt_nI (a := 9) (by omega) (by omega)
theorem ten10 {v : Nat} (hv : v ≤ 9) : ¬ 9 < v := by omega
theorem swC {t s : Nat} (ht : t < 6) (hs : s < 3) (hA : okA A) : ∀ (d v q : Nat) (B : AS) (σ : qH), v + d = 10 → isC σ n A L K N f → isP σ (n + 8) B → okA B → (∀ w, truA B t w = truA A t w) → ∃ σ', FX6_swings_L21 n (nI t) (nI s) (d + 1 + q) (nI v) σ = some (.inl (enc (swL A t s d v), σ')) ∧ isC σ' n A L K N f ∧ Ch σ σ' n (n + 135)
  | 0, v, q, B, σ, hv, hc, hp, hB, hb => by
    refine ⟨σ, ?_, hc, Ch.rf⟩
    rw [show 0 + 1 + q = q + 1 by omega, FX6_swings_L21]
    simp only [nine (show v ≤ 10 by omega)]
    rw [if_pos (by omega)]; rfl
  | d + 1, v, q, B, σ, hv, hc, hp, hB, hb => by
    obtain ⟨σ1, e1, p1, o1⟩ := changeTrust_e (t := t) (v := v) hp ht
    rw [hb v] at p1
    have okB : okA (truA A t v) := truA_ok hA (by omega)
    obtain ⟨h1, c1⟩ := C_copyP hc p1 o1
    obtain ⟨σ2, c', e2, g2, -, h2, o2⟩ := C_ends h1 (s := s) p1 okB (by omega) (by omega)
    have p2 := isP_s p1 (σ' := σ2) (fun a ha hb => o2 a (by omega))
    have lr := low_r (A := truA A t v) (s := s)
    have e3 := tellsHeight_e p2 okB (t := t) (s := s) (x := low (truA A t v) s) (by omega) (by omega) (by omega)
    rw [show d + 1 + 1 + q = (d + 1 + q) + 1 by omega, FX6_swings_L21]
    simp only [nine (show v ≤ 10 by omega)]
    rw [if_neg (show ¬ 9 < v by omega), C_1 hc, b1_s, e1, b2_s, C_6 h1, b1_s, C_1 h1, b1_s, e2, b1_s, C_1 h2, b1_s, C_6 h2, b1_s, lowest_e g2, b1_s, e3, b1_s]
    have ew : swL A t s (d + 1) v = if tlB (truA A t v) t s (low (truA A t v) s) (nM A) 0 then some v else swL A t s d (v + 1) := rfl
    rw [ew]
    by_cases c : tlB (truA A t v) t s (low (truA A t v) s) (nM A) 0 = true
    · have c' : tlB (truA A t v) t s (low (truA A t v) s) (nM (truA A t v)) 0 = true := c
      rw [if_pos c', if_neg (by decide), if_pos c]
      exact ⟨σ2, rfl, h2, c1.tr (o2.ch (by omega) (by omega))⟩
    · have c' : ¬ tlB (truA A t v) t s (low (truA A t v) s) (nM (truA A t v)) 0 = true := c
      rw [if_neg c', if_pos rfl, if_neg c, nI_1]
      obtain ⟨σ3, e4, h3, o3⟩ := swC ht hs hA d (v + 1) q (truA A t v) σ2 (by omega) h2 p2 okB (fun w => truA_tw)
      exact ⟨σ3, e4, h3, (c1.tr (o2.ch (by omega) (by omega))).tr o3⟩
end WW
