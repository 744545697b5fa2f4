/-! Layer 2: the lowest best height, the highest of its run; the reference's count of them. -/
def loF (f : Nat → Nat) : Nat → Nat
  | 0 => 1
  | n + 1 => if f (n + 2) ≤ f (loF f n) then loF f n else n + 2
theorem loF_r {f : Nat → Nat} : ∀ n, 1 ≤ loF f n ∧ loF f n ≤ n + 1
  | 0 => ⟨Nat.le_refl _, Nat.le_refl _⟩
  | n + 1 => by
    have h := loF_r (f := f) n
    rw [loF]; split <;> omega
theorem loF_max {f : Nat → Nat} : ∀ n h, 1 ≤ h → h ≤ n + 1 → f h ≤ f (loF f n)
  | 0, h, h1, h2 => by rw [show h = 1 by omega]; exact Nat.le_refl _
  | n + 1, h, h1, h2 => by
    rw [loF]
    by_cases c : h = n + 2
    · subst c; split <;> omega
    · have ih := loF_max (f := f) n h h1 (by omega)
      split
      · exact ih
      · omega
theorem loF_low {f : Nat → Nat} : ∀ n h, 1 ≤ h → h < loF f n → f h < f (loF f n)
  | 0, h, h1, h2 => by rw [loF] at h2; omega
  | n + 1, h, h1, h2 => by
    rw [loF] at h2 ⊢
    split at h2
    · rename_i c; rw [if_pos c]; exact loF_low n h h1 h2
    · rename_i c; rw [if_neg c]
      have := loF_max (f := f) n h h1 (by omega)
      omega
theorem loF_u {f : Nat → Nat} {n x : Nat} (h1 : 1 ≤ x) (h2 : x ≤ n + 1) (hm : ∀ h, 1 ≤ h → h ≤ n + 1 → f h ≤ f x) (hl : ∀ h, 1 ≤ h → h < x → f h < f x) : loF f n = x := by
  have a1 := loF_r (f := f) n
  have a2 := loF_max (f := f) n x h1 h2
  have a3 := hm (loF f n) a1.1 a1.2
  rcases Nat.lt_trichotomy (loF f n) x with c | c | c
  · have := hl (loF f n) a1.1 c; omega
  · exact c
  · have := loF_low (f := f) n x h1 c; omega
/-- the end of the run of equal heights that begins at h; d heights are left behind it -/
def hiF (f : Nat → Nat) : Nat → Nat → Nat
  | 0, h => h
  | d + 1, h => if f (h + 1) = f h then hiF f d (h + 1) else h
theorem hiF_r {f : Nat → Nat} : ∀ d h, h ≤ hiF f d h ∧ hiF f d h ≤ h + d
  | 0, h => ⟨Nat.le_refl _, Nat.le_refl _⟩
  | d + 1, h => by
    have := hiF_r (f := f) d (h + 1)
    rw [hiF]; split <;> omega
abbrev low (A : AS) (s : Nat) : Nat := loF (vot A s) 998
abbrev hig (A : AS) (s : Nat) : Nat := hiF (vot A s) (999 - low A s) (low A s)
abbrev top (A : AS) (s : Nat) : Nat := vot A s (low A s)
theorem fsm_b {f : Nat → Nat} {b : Nat} : ∀ n, (∀ k, k < n → f k ≤ b) → fb_sm f n ≤ n * b
  | 0, _ => by simp [fb_sm]
  | n + 1, h => by
    have ih := fsm_b n (fun k hk => h k (by omega))
    have h2 := h n (by omega)
    simp only [fb_sm, Nat.succ_mul]; omega
theorem vot_b {A : AS} (hA : okA A) {s x : Nat} : vot A s x ≤ 224 := by
  have n16' : nM A ≤ 16 := hA.1
  have := fsm_b (f := fun k => vt1 A s x (mk A k)) (b := 14) (nM A) (fun k hk => by
    show vt1 A s x (mk A k) ≤ 14
    unfold vt1
    have := wt_b hA hk
    split <;> omega)
  have h2 : nM A * 14 ≤ 16 * 14 := Nat.mul_le_mul_right _ n16'
  show fb_sm _ _ ≤ _
  omega
section BE
variable {σ : qH} {a : Nat} {A : AS}
end BE
