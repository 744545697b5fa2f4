/-! Layer 2: the lowest best height, the highest of its run; the reference's count of them. -/
def loF (f : Nat → Nat) : Nat → Nat
  | 0 => 1
  | n + 1 => if f (n + 2) ≤ f (loF f n) then loF f n else n + 2
theorem loF_r {f : Nat → Nat} : ∀ n, 1 ≤ loF f n ∧ loF f n ≤ n + 1
  | 0 => ⟨Nat.le_refl _, Nat.le_refl _⟩
  | n + 1 => by
    have h := loF_r (f := f) n
    rw [loF]; split <;> omega
theorem loF_max {f : Nat → Nat} : ∀ n h, 1 ≤ h → h ≤ n + 1 → f h ≤ f (loF f n)
  | 0, h, h1, h2 => by rw [show h = 1 by omega]; exact Nat.le_refl _
  | n + 1, h, h1, h2 => by
    rw [loF]
    by_cases c : h = n + 2
    · subst c; split <;> omega
    · have ih := loF_max (f := f) n h h1 (by omega)
      split
      · exact ih
      · omega
theorem loF_low {f : Nat → Nat} : ∀ n h, 1 ≤ h → h < loF f n → f h < f (loF f n)
  | 0, h, h1, h2 => by rw [loF] at h2; omega
  | n + 1, h, h1, h2 => by
    rw [loF] at h2 ⊢
    split at h2
    · rename_i c; rw [if_pos c]; exact loF_low n h h1 h2
    · rename_i c; rw [if_neg c]
      have := loF_max (f := f) n h h1 (by omega)
      omega
theorem loF_u {f : Nat → Nat} {n x : Nat} (h1 : 1 ≤ x) (h2 : x ≤ n + 1) (hm : ∀ h, 1 ≤ h → h ≤ n + 1 → f h ≤ f x) (hl : ∀ h, 1 ≤ h → h < x → f h < f x) : loF f n = x := by
  have a1 := loF_r (f := f) n
  have a2 := loF_max (f := f) n x h1 h2
  have a3 := hm (loF f n) a1.1 a1.2
  rcases Nat.lt_trichotomy (loF f n) x with c | c | c
  · have := hl (loF f n) a1.1 c; omega
  · exact c
  · have := loF_low (f := f) n x h1 c; omega
/-- the end of the run of equal heights that begins at h; d heights are left behind it -/
def hiF (f : Nat → Nat) : Nat → Nat → Nat
  | 0, h => h
  | d + 1, h => if f (h + 1) = f h then hiF f d (h + 1) else h
theorem hiF_r {f : Nat → Nat} : ∀ d h, h ≤ hiF f d h ∧ hiF f d h ≤ h + d
  | 0, h => ⟨Nat.le_refl _, Nat.le_refl _⟩
  | d + 1, h => by
    have := hiF_r (f := f) d (h + 1)
    rw [hiF]; split <;> omega
abbrev low (A : AS) (s : Nat) : Nat := loF (vot A s) 998
abbrev hig (A : AS) (s : Nat) : Nat := hiF (vot A s) (999 - low A s) (low A s)
abbrev top (A : AS) (s : Nat) : Nat := vot A s (low A s)
theorem fsm_b {f : Nat → Nat} {b : Nat} : ∀ n, (∀ k, k < n → f k ≤ b) → fb_sm f n ≤ n * b
  | 0, _ => by simp [fb_sm]
  | n + 1, h => by
    have ih := fsm_b n (fun k hk => h k (by omega))
    have h2 := h n (by omega)
    simp only [fb_sm, Nat.succ_mul]; omega
theorem vot_b {A : AS} (hA : okA A) {s x : Nat} : vot A s x ≤ 224 := by
  have n16' : nM A ≤ 16 := hA.1
  have := fsm_b (f := fun k => vt1 A s x (mk A k)) (b := 14) (nM A) (fun k hk => by
    show vt1 A s x (mk A k) ≤ 14
    unfold vt1
    have := wt_b hA hk
    split <;> omega)
  have h2 : nM A * 14 ≤ 16 * 14 := Nat.mul_le_mul_right _ n16'
  show fb_sm _ _ ≤ _
  omega
section BE
variable {σ : qH} {a : Nat} {A : AS}
theorem zlowL (h : isZ σ a A) (hA : okA A) {s : Nat} (hs : s < 2 ^ 31) : ∀ (d y q : Nat), y + d = 998 → FX7_lowestBest_L12 a (nI s) σ (d + 1 + q) (nI (loF (vot A s) y)) (nI (vot A s (loF (vot A s) y))) (nI (y + 2)) = some (nI (loF (vot A s) 998))
  | 0, y, q, hy => by
    have e : y = 998 := by omega
    subst e
    rw [show 0 + 1 + q = q + 1 by omega, FX7_lowestBest_L12]
    rw [if_pos (show (999 : Int32) < nI (998 + 2) from (lt_nI (a := 999) (b := 998 + 2) (by omega) (by omega)).mpr (by omega))]
  | d + 1, y, q, hy => by
    have v1 := vot_b (s := s) (x := y + 2) hA
    have v2 := vot_b (s := s) (x := loF (vot A s) y) hA
    have l9 : ((999 : Int32) < nI (y + 2)) = (999 < y + 2) := lt_nI (a := 999) (by omega) (by omega)
    rw [show d + 1 + 1 + q = (d + 1 + q) + 1 by omega, FX7_lowestBest_L12]
    simp only [l9, if_neg (show ¬ 999 < y + 2 by omega), zvote_e h hA hs (show y + 2 < 2 ^ 31 by omega), b1_s, le_nI (show vot A s (y + 2) < 2 ^ 31 by omega) (show vot A s (loF (vot A s) y) < 2 ^ 31 by omega), some_ite, nI_1]
    have ih := zlowL h hA hs d (y + 1) q (by omega)
    have e : loF (vot A s) (y + 1) = if vot A s (y + 2) ≤ vot A s (loF (vot A s) y) then loF (vot A s) y else y + 2 := rfl
    by_cases c : vot A s (y + 2) ≤ vot A s (loF (vot A s) y)
    · rw [if_pos c] at e
      rw [if_pos c, if_pos c]
      rw [e] at ih; exact ih
    · rw [if_neg c] at e
      rw [if_neg c, if_neg c]
      rw [e] at ih; exact ih
theorem zlow_e (h : isZ σ a A) (hA : okA A) {s : Nat} (hs : s < 2 ^ 31) : FX7_lowestBest a (nI s) σ = some (nI (low A s)) := by
  obtain ⟨q3, hq⟩ := qf (n := 998) (by omega)
  have e := zlowL h hA hs 998 0 q3 (by omega)
  rw [← hq] at e
  have e' : FX7_lowestBest_L12 a (nI s) σ qfuel 1 (nI (vot A s 1)) 2 = some (nI (low A s)) := e
  have e1 : FX7_voteOf a (nI s) 1 σ = some (nI (vot A s 1)) := zvote_e h hA hs (x := 1) (by omega)
  unfold FX7_lowestBest
  rw [e1, b1_s, e', b1_s]
theorem zhiL (h : isZ σ a A) (hA : okA A) {s : Nat} (hs : s < 2 ^ 31) {w l : Int32} {tp : Nat} (htp : tp < 2 ^ 31) : ∀ (d y q : Nat), y + d = 999 → vot A s y = tp → FX7_bestOf_L17 a (nI s) w l (nI tp) σ (d + 1 + q) (nI y) = some (nI (hiF (vot A s) d y))
  | 0, y, q, hy, ht => by
    have e : y = 999 := by omega
    subst e
    rw [show 0 + 1 + q = q + 1 by omega, FX7_bestOf_L17]
    rw [if_pos (show (999 : Int32) ≤ nI 999 from Int32.le_refl _)]; rfl
  | d + 1, y, q, hy, ht => by
    have v1 := vot_b (s := s) (x := y + 1) hA
    have l9 : ((999 : Int32) ≤ nI y) = (999 ≤ y) := le_nI (a := 999) (by omega) (by omega)
    rw [show d + 1 + 1 + q = (d + 1 + q) + 1 by omega, FX7_bestOf_L17]
    simp only [l9, if_neg (show ¬ 999 ≤ y by omega), nI_1, zvote_e h hA hs (show y + 1 < 2 ^ 31 by omega), b1_s, eq_nI (show vot A s (y + 1) < 2 ^ 31 by omega) htp]
    rw [hiF, ht]
    by_cases c : vot A s (y + 1) = tp
    · rw [if_pos c, if_pos c]; exact zhiL h hA hs htp d (y + 1) q (by omega) c
    · rw [if_neg c, if_neg c]
theorem zbest_e (h : isZ σ a A) (hA : okA A) {s : Nat} (hs : s < 2 ^ 31) {w : Int32} : FX7_bestOf a (nI s) w σ = some (if w = 0 then nI (low A s) else if w = 1 then nI (hig A s) else nI (top A s)) := by
  have r := loF_r (f := vot A s) 998
  have v := vot_b (s := s) (x := low A s) hA
  obtain ⟨q3, hq⟩ := qf (n := 999 - low A s) (by omega)
  have e := zhiL h hA hs (w := w) (l := nI (low A s)) (tp := top A s) (show vot A s (low A s) < 2 ^ 31 by omega) (999 - low A s) (low A s) q3 (by show loF _ 998 + (999 - loF _ 998) = 999; omega) rfl
  rw [← hq] at e
  unfold FX7_bestOf
  simp only [zlow_e h hA hs, b1_s, zvote_e h hA hs (show low A s < 2 ^ 31 by show loF _ 998 < _; omega)]
  rw [e]
  simp only [b1_s, some_ite]
end BE
