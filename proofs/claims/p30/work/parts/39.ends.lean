/-! Layer 2: votes change at ends only. -/
def vtG (A : AS) (s : Nat) (y : Int32) (x : Nat) : Nat := fb_sm (fun k => if nI k = y then 0 else vt1 A s x (mk A k)) (nM A)
theorem fsm_le {f g : Nat → Nat} : ∀ n, (∀ k, k < n → f k ≤ g k) → fb_sm f n ≤ fb_sm g n
  | 0, _ => Nat.le_refl _
  | n + 1, h => by
    have ih := fsm_le n (fun k hk => h k (by omega))
    have h2 := h n (by omega)
    simp only [fb_sm]; omega
theorem vtG_up {A : AS} {s x : Nat} {y : Int32} (h : vtG A s y x < vtG A s y (x + 1)) : ∃ k, k < nM A ∧ nI k ≠ y ∧ mk A k 0 = s ∧ lst (mk A k) = x + 1 := by
  refine Classical.byContradiction fun hn => ?_
  have : vtG A s y (x + 1) ≤ vtG A s y x := by
    refine fsm_le _ fun k hk => ?_
    by_cases c : nI k = y
    · rw [if_pos c, if_pos c]; exact Nat.le_refl _
    · rw [if_neg c, if_neg c]
      unfold vt1
      by_cases c1 : mk A k 0 = s ∧ lst (mk A k) ≤ x + 1 ∧ x + 1 ≤ gst (mk A k)
      · have : lst (mk A k) ≠ x + 1 := fun hh => hn ⟨k, hk, c, c1.1, hh⟩
        rw [if_pos c1, if_pos ⟨c1.1, by omega, by omega⟩]; exact Nat.le_refl _
      · rw [if_neg c1]; exact Nat.zero_le _
  omega
theorem vtG_dn {A : AS} {s x : Nat} {y : Int32} (h : vtG A s y (x + 1) < vtG A s y x) : ∃ k, k < nM A ∧ nI k ≠ y ∧ mk A k 0 = s ∧ gst (mk A k) = x := by
  refine Classical.byContradiction fun hn => ?_
  have : vtG A s y x ≤ vtG A s y (x + 1) := by
    refine fsm_le _ fun k hk => ?_
    by_cases c : nI k = y
    · rw [if_pos c, if_pos c]; exact Nat.le_refl _
    · rw [if_neg c, if_neg c]
      unfold vt1
      by_cases c1 : mk A k 0 = s ∧ lst (mk A k) ≤ x ∧ x ≤ gst (mk A k)
      · have : gst (mk A k) ≠ x := fun hh => hn ⟨k, hk, c, c1.1, hh⟩
        rw [if_pos c1, if_pos ⟨c1.1, by omega, by omega⟩]; exact Nat.le_refl _
      · rw [if_neg c1]; exact Nat.zero_le _
  omega
theorem vtG_st {A : AS} {s : Nat} {y : Int32} : ∀ h, 1 ≤ h → ∃ h', 1 ≤ h' ∧ h' ≤ h ∧ vtG A s y h ≤ vtG A s y h' ∧ (h' = 1 ∨ ∃ k, k < nM A ∧ nI k ≠ y ∧ mk A k 0 = s ∧ lst (mk A k) = h')
  | 0, h => absurd h (by omega)
  | 1, _ => ⟨1, by omega, by omega, Nat.le_refl _, Or.inl rfl⟩
  | h + 2, _ => by
    by_cases c : vtG A s y (h + 1) < vtG A s y (h + 1 + 1)
    · exact ⟨h + 2, by omega, by omega, Nat.le_refl _, Or.inr (vtG_up c)⟩
    · obtain ⟨h', a1, a2, a3, a4⟩ := vtG_st (A := A) (s := s) (y := y) (h + 1) (by omega)
      exact ⟨h', a1, by omega, by have : vtG A s y (h + 2) = vtG A s y (h + 1 + 1) := rfl
                                  omega, a4⟩
/-- what a walk over the beginnings finds -/
theorem vtG_low {A : AS} {s l : Nat} {y : Int32} (h1 : 1 ≤ l) (h2 : l ≤ 999) (b1' : vtG A s y 1 ≤ vtG A s y l ∧ (vtG A s y 1 = vtG A s y l → l ≤ 1)) (bk : ∀ k, k < nM A → nI k ≠ y → mk A k 0 = s → vtG A s y (lst (mk A k)) ≤ vtG A s y l ∧ (vtG A s y (lst (mk A k)) = vtG A s y l → l ≤ lst (mk A k))) : loF (vtG A s y) 998 = l := by
  have all : ∀ h, 1 ≤ h → vtG A s y h ≤ vtG A s y l ∧ (vtG A s y h = vtG A s y l → l ≤ h) := fun h hh => by
    obtain ⟨h', a1, a2, a3, a4⟩ := vtG_st (A := A) (s := s) (y := y) h hh
    have st : vtG A s y h' ≤ vtG A s y l ∧ (vtG A s y h' = vtG A s y l → l ≤ h') := by
      rcases a4 with e | ⟨k, k1, k2, k3, k4⟩
      · rw [e]; exact b1'
      · rw [← k4]; exact bk k k1 k2 k3
    refine ⟨by omega, fun e => ?_⟩
    have := st.2 (by omega)
    omega
  refine loF_u h1 (by omega) (fun h hh _ => (all h hh).1) (fun h hh hl => ?_)
  have := all h hh
  omega
theorem hiF_u {f : Nat → Nat} : ∀ (d h x : Nat), h ≤ x → x ≤ h + d → (∀ z, h ≤ z → z < x → f (z + 1) = f z) → (x = h + d ∨ f (x + 1) ≠ f x) → hiF f d h = x
  | 0, h, x, h1, h2, _, _ => by rw [hiF]; omega
  | d + 1, h, x, h1, h2, hz, hx => by
    rw [hiF]
    by_cases c : h = x
    · subst c
      rcases hx with e | e
      · omega
      · rw [if_neg e]
    · rw [if_pos (hz h (Nat.le_refl _) (by omega))]
      exact hiF_u d (h + 1) x (by omega) (by omega) (fun z z1 z2 => hz z (by omega) z2) (by rcases hx with e | e; exact Or.inl (by omega); exact Or.inr e)
/-- what a walk over the ends finds -/
theorem vtG_hig {A : AS} {s l x : Nat} {y : Int32} (hl : loF (vtG A s y) 998 = l) (h1 : l ≤ x) (h2 : x ≤ 999) (hx : x = 999 ∨ vtG A s y (x + 1) < vtG A s y l) (bk : ∀ k, k < nM A → nI k ≠ y → mk A k 0 = s → l ≤ gst (mk A k) → vtG A s y (gst (mk A k) + 1) < vtG A s y l → x ≤ gst (mk A k)) : hiF (vtG A s y) (999 - l) l = x := by
  have r := loF_r (f := vtG A s y) 998
  have mx' : ∀ h, 1 ≤ h → h ≤ 999 → vtG A s y h ≤ vtG A s y l := fun h a1 a2 => by
    have := loF_max (f := vtG A s y) 998 h a1 (by omega)
    rw [hl] at this; exact this
  rw [hl] at r
  have flat : ∀ d, l + d ≤ x → vtG A s y (l + d) = vtG A s y l := fun d => by
    induction d with
    | zero => intro _; rfl
    | succ d ih =>
      intro hd
      have e := ih (by omega)
      have m1 := mx' (l + (d + 1)) (by omega) (by omega)
      by_cases c : vtG A s y (l + d + 1) < vtG A s y (l + d)
      · obtain ⟨k, k1, k2, k3, k4⟩ := vtG_dn c
        have := bk k k1 k2 k3 (by omega) (by rw [k4]; omega)
        omega
      · have : vtG A s y (l + (d + 1)) = vtG A s y (l + d + 1) := rfl
        omega
  refine hiF_u _ _ _ h1 (by omega) (fun z z1 z2 => ?_) ?_
  · have e1 := flat (z - l) (by omega)
    have e2 := flat (z + 1 - l) (by omega)
    rw [show l + (z - l) = z by omega] at e1
    rw [show l + (z + 1 - l) = z + 1 by omega] at e2
    omega
  · rcases hx with e | e
    · exact Or.inl (by omega)
    · right
      have e1 := flat (x - l) (by omega)
      rw [show l + (x - l) = x by omega] at e1
      omega
theorem vtG_1 {A : AS} (hA : okA A) {s x : Nat} : vtG A s (-1) x = vot A s x := by
  have h16 : nM A ≤ 16 := hA.1
  refine fsm_c fun k hk => ?_
  have : ¬ nI k = (-1 : Int32) := fun hh => by
    have := congrArg Int32.toInt hh
    rw [nI_toInt (by omega), show (-1 : Int32).toInt = -1 from rfl] at this
    omega
  rw [if_neg this]
