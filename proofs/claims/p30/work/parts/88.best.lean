/-! p30: facts about votes, the loudest against, swings, quarrels. -/
theorem hiF_all {f : Nat → Nat} : ∀ (d h z : Nat), h ≤ z → z ≤ hiF f d h → f z = f h
  | 0, h, z, h1, h2 => by
    have e : hiF f 0 h = h := rfl
    rw [show z = h by omega]
  | d + 1, h, z, h1, h2 => by
    rw [hiF] at h2
    by_cases e : z = h
    · rw [e]
    · split at h2
      · rename_i c
        rw [hiF_all d (h + 1) z (by omega) h2, c]
      · omega
theorem hiF_end {f : Nat → Nat} : ∀ (d h : Nat), hiF f d h = h + d ∨ f (hiF f d h + 1) ≠ f (hiF f d h)
  | 0, h => Or.inl rfl
  | d + 1, h => by
    rw [hiF]
    split
    · rcases hiF_end (f := f) d (h + 1) with e | e
      · left; omega
      · right; exact e
    · rename_i c; right; exact c
theorem best_f (A : AS) (s : Nat) : 1 ≤ low A s ∧ low A s ≤ hig A s ∧ hig A s ≤ 999 ∧ vot A s (hig A s) = top A s ∧ (∀ h, 1 ≤ h → h ≤ 999 → vot A s h ≤ top A s) ∧ (∀ h, 1 ≤ h → h < low A s → vot A s h < top A s) ∧ (∀ h, low A s ≤ h → h ≤ hig A s → vot A s h = top A s) ∧ (hig A s = 999 ∨ vot A s (hig A s + 1) < top A s) := by
  have h1 : 1 ≤ low A s ∧ low A s ≤ 998 + 1 := loF_r (f := vot A s) 998
  have h2 : low A s ≤ hig A s ∧ hig A s ≤ low A s + (999 - low A s) := hiF_r (f := vot A s) (999 - low A s) (low A s)
  have h3 : hig A s ≤ 999 := by omega
  have ha : ∀ h, low A s ≤ h → h ≤ hig A s → vot A s h = top A s := fun h q1 q2 => hiF_all _ _ h q1 q2
  have hm : ∀ h, 1 ≤ h → h ≤ 999 → vot A s h ≤ top A s := fun h q1 q2 => loF_max 998 h q1 (by omega)
  refine ⟨h1.1, h2.1, h3, ha _ h2.1 (Nat.le_refl _), hm, fun h q1 q2 => loF_low 998 h q1 q2, ha, ?_⟩
  have he : vot A s (hig A s) = top A s := ha _ h2.1 (Nat.le_refl _)
  rcases (show hig A s = low A s + (999 - low A s) ∨ vot A s (hig A s + 1) ≠ vot A s (hig A s) from hiF_end (f := vot A s) (999 - low A s) (low A s)) with e | e
  · left; omega
  · by_cases c : hig A s = 999
    · exact Or.inl c
    · right
      have q1 := hm (hig A s + 1) (by omega) (by omega)
      rw [he] at e
      exact Nat.lt_of_le_of_ne q1 e
theorem vot_0 {A : AS} {s : Nat} (h : ∀ k, k < nM A → mk A k 0 ≠ s) (x : Nat) : vot A s x = 0 := by
  have e : vot A s x = fb_sm (fun _ => 0) (nM A) := fsm_c fun k hk => by
    show vt1 A s x (mk A k) = 0
    unfold vt1
    rw [if_neg (fun z => h k hk z.1)]
  rw [e, fb_sm_const, Nat.mul_zero]
theorem best_0 {A : AS} {s : Nat} (h : ∀ k, k < nM A → mk A k 0 ≠ s) : low A s = 1 ∧ hig A s = 999 ∧ top A s = 0 := by
  have h1 : low A s = 1 := loF_u (by omega) (by omega) (fun x _ _ => by rw [vot_0 h, vot_0 h]; exact Nat.le_refl _) (fun x a b => by omega)
  refine ⟨h1, ?_, vot_0 h _⟩
  show hiF (vot A s) (999 - low A s) (low A s) = 999
  rw [h1]
  exact hiF_u 998 1 999 (by omega) (by omega) (fun z _ _ => by rw [vot_0 h, vot_0 h]) (Or.inl (by omega))
theorem vot_w {A : AS} {s x : Nat} : vot A s x ≤ fb_sm (fun k => if mk A k 0 = s then wt A (mk A k) else 0) (nM A) := by
  refine fsm_le _ fun k hk => ?_
  show vt1 A s x (mk A k) ≤ _
  unfold vt1
  by_cases c : mk A k 0 = s
  · rw [if_pos c]
    split
    · exact Nat.le_refl _
    · omega
  · rw [if_neg c, if_neg (fun z => c z.1)]; exact Nat.le_refl _
theorem vot_drp {A : AS} {k s x : Nat} (hA : okA A) (hk : k < nM A) : vot A s x = vot (drpA A k) s x + vt1 A s x (mk A k) := by
  have n16' : nM A ≤ 16 := hA.1
  have e1 : vtG A s (nI k) x = fb_sm (fun i => if i = k then 0 else vt1 A s x (mk A i)) (nM A) := fsm_c fun i hi => by
    simp only [eq_nI (show i < 2 ^ 31 by omega) (show k < 2 ^ 31 by omega)]
  have e2 := fb_sm_upd (fun i => vt1 A s x (mk A i)) 0 hk
  have e3 := vtG_del (s := s) (x := x) hA hk
  have e4 : vot A s x = fb_sm (fun i => vt1 A s x (mk A i)) (nM A) := rfl
  have e5 : fb_sm (fun i => if i = k then 0 else (fun i => vt1 A s x (mk A i)) i) (nM A) = fb_sm (fun i => if i = k then 0 else vt1 A s x (mk A i)) (nM A) := rfl
  have e6 : fb_sm (fun i => if i = k then 0 else vt1 A s x (mk A i)) (nM A) + vt1 A s x (mk A k) = fb_sm (fun i => vt1 A s x (mk A i)) (nM A) + 0 := e2
  omega
theorem vt1_w {A : AS} {s x : Nat} {m : Me} : vt1 A s x m ≤ wt A m := by
  unfold vt1; split
  · exact Nat.le_refl _
  · omega
theorem top_drp {A : AS} {k s : Nat} (hA : okA A) (hk : k < nM A) : top (drpA A k) s ≤ top A s ∧ top A s ≤ top (drpA A k) s + wt A (mk A k) := by
  obtain ⟨a1, a2, a3, -, a5, -⟩ := best_f A s
  obtain ⟨b1, b2, b3, -, b5, -⟩ := best_f (drpA A k) s
  have e1 := vot_drp (s := s) (x := low (drpA A k) s) hA hk
  have e2 := vot_drp (s := s) (x := low A s) hA hk
  have m1 := a5 (low (drpA A k) s) b1 (by omega)
  have m2 := b5 (low A s) a1 (by omega)
  have w2 := vt1_w (A := A) (s := s) (x := low A s) (m := mk A k)
  constructor
  · have : vot (drpA A k) s (low (drpA A k) s) ≤ top A s := by omega
    exact this
  · have : vot A s (low A s) ≤ top (drpA A k) s + wt A (mk A k) := by omega
    exact this
def agG (A : AS) (s x : Nat) (o : Option Nat) : Prop := ∀ j, o = some j → j < nM A ∧ mk A j 0 = s ∧ ¬ telP (mk A j) x
theorem ag_L {A : AS} {s x : Nat} : ∀ (d k : Nat) (o : Option Nat), k + d = nM A → agG A s x o → agG A s x (agL A s x d k o)
  | 0, k, o, _, h => h
  | d + 1, k, o, hk, h => by
    show agG A s x (agL A s x d (k + 1) (agS A s x k o))
    refine ag_L d (k + 1) _ (by omega) ?_
    unfold agS
    by_cases c : mk A k 0 = s
    · rw [if_pos c]
      by_cases d' : telP (mk A k) x
      · rw [if_pos d']; exact h
      · rw [if_neg d']
        cases o with
        | none =>
          intro j hj
          have e : some k = some j := hj
          cases e
          exact ⟨by omega, c, d'⟩
        | some i =>
          intro j hj
          have e : (if louder A x (mk A k) (mk A i) = true then some k else some i) = some j := hj
          by_cases c2 : louder A x (mk A k) (mk A i) = true
          · rw [if_pos c2] at e; cases e; exact ⟨by omega, c, d'⟩
          · rw [if_neg c2] at e; exact h j e
    · rw [if_neg c]; exact h
abbrev swP (A : AS) (t s v : Nat) : Bool := tlB (truA A t v) t s (low (truA A t v) s) (nM A) 0
theorem sw_some {A : AS} {t s w : Nat} : ∀ (d v : Nat), swL A t s d v = some w → v ≤ w ∧ w < v + d ∧ swP A t s w = true ∧ ∀ u, v ≤ u → u < w → swP A t s u = false
  | 0, v, h => by cases h
  | d + 1, v, h => by
    have h' : (if swP A t s v = true then some v else swL A t s d (v + 1)) = some w := h
    by_cases c : swP A t s v = true
    · rw [if_pos c] at h'; cases h'
      exact ⟨Nat.le_refl _, by omega, c, fun u h1 h2 => by omega⟩
    · rw [if_neg c] at h'
      obtain ⟨a1, a2, a3, a4⟩ := sw_some d (v + 1) h'
      refine ⟨by omega, by omega, a3, fun u h1 h2 => ?_⟩
      by_cases e : u = v
      · rw [e]; exact Bool.eq_false_iff.mpr c
      · exact a4 u (by omega) h2
theorem sw_none {A : AS} {t s : Nat} : ∀ (d v : Nat), swL A t s d v = none → ∀ u, v ≤ u → u < v + d → swP A t s u = false
  | 0, v, h, u, h1, h2 => by omega
  | d + 1, v, h, u, h1, h2 => by
    have h' : (if swP A t s v = true then some v else swL A t s d (v + 1)) = none := h
    by_cases c : swP A t s v = true
    · rw [if_pos c] at h'; cases h'
    · rw [if_neg c] at h'
      by_cases e : u = v
      · rw [e]; exact Bool.eq_false_iff.mpr c
      · exact sw_none d (v + 1) h' u (by omega) (by omega)
theorem tr_some {A : AS} : ∀ (d k j : Nat), ∃ i, trL A d k (some j) = some i
  | 0, k, j => ⟨j, rfl⟩
  | d + 1, k, j => by
    have e : ∃ i, trS A k (some j) = some i := by
      show ∃ i, (if cS A k ≤ 0 then some j else if truer A k j = true then some k else some j) = some i
      split
      · exact ⟨_, rfl⟩
      · split
        · exact ⟨_, rfl⟩
        · exact ⟨_, rfl⟩
    obtain ⟨i, e⟩ := e
    show ∃ i, trL A d (k + 1) (trS A k (some j)) = some i
    rw [e]; exact tr_some d (k + 1) i
theorem tr_none {A : AS} : ∀ (d k : Nat), trL A d k none = none ↔ ∀ u, k ≤ u → u < k + d → cS A u ≤ 0
  | 0, k => ⟨fun _ u h1 h2 => by omega, fun _ => rfl⟩
  | d + 1, k => by
    have e : trL A (d + 1) k none = trL A d (k + 1) (if cS A k ≤ 0 then none else some k) := rfl
    rw [e]
    by_cases c : cS A k ≤ 0
    · rw [if_pos c, tr_none d (k + 1)]
      constructor
      · intro h u h1 h2
        by_cases q : u = k
        · rw [q]; exact c
        · exact h u (by omega) (by omega)
      · intro h u h1 h2; exact h u (by omega) (by omega)
    · rw [if_neg c]
      constructor
      · intro h
        obtain ⟨i, hi⟩ := tr_some (A := A) d (k + 1) k
        rw [hi] at h; cases h
      · intro h; exact absurd (h k (by omega) (by omega)) c
theorem tr_6 {A : AS} : ∀ (d k : Nat) (o : Option Nat), k + d = 6 → o6 o → o6 (trL A d k o)
  | 0, k, o, _, h => h
  | d + 1, k, o, hk, h => tr_6 d (k + 1) _ (by omega) (trS_6 (by omega) h)
/-- sums over two numbers -/
theorem fsm_swap (g : Nat → Nat → Nat) (m : Nat) : ∀ n, fb_sm (fun t => fb_sm (fun k => g t k) n) m = fb_sm (fun k => fb_sm (fun t => g t k) m) n
  | 0 => by
    show fb_sm (fun t => 0) m = 0
    rw [fb_sm_const, Nat.mul_zero]
  | n + 1 => by
    have e : (fun t => fb_sm (fun k => g t k) (n + 1)) = (fun t => fb_sm (fun k => g t k) n + g t n) := rfl
    rw [e, fb_sm_add (fun t => fb_sm (fun k => g t k) n) (fun t => g t n), fsm_swap g m n]
    rfl
theorem fsm_one {a v : Nat} : ∀ n, a < n → fb_sm (fun t => if a = t then v else 0) n = v
  | 0, h => by omega
  | n + 1, h => by
    rw [fb_sm_succ]
    by_cases c : a = n
    · rw [if_pos c]
      have e : fb_sm (fun t => if a = t then v else 0) n = fb_sm (fun _ => 0) n := fsm_c fun k hk => by rw [if_neg (by omega)]
      rw [e, fb_sm_const, Nat.mul_zero, Nat.zero_add]
    · rw [if_neg c, fsm_one n (by omega), Nat.add_zero]
theorem fsm_split {A : AS} {q : Nat → Nat} {j n : Nat} (h : ∀ k, k < nM A → mk A k j < n) : fb_sm (fun t => fb_sm (fun k => if mk A k j = t then q k else 0) (nM A)) n = fb_sm q (nM A) := by
  rw [fsm_swap]
  exact fsm_c fun k hk => fsm_one n (h k hk)
theorem prs_s {p : Nat → Nat → Prop} [∀ i j, Decidable (p i j)] (n : Nat) : prs p (n + 1) = prs p n + fb_sm (fun k => if p k n then 1 else 0) n := by
  unfold prs
  rw [fb_sm_succ]
  have e0 : fb_sm (fun d => if p n (n + 1 + d) then 1 else 0) (n + 1 - (n + 1)) = 0 := by rw [Nat.sub_self]; rfl
  rw [e0, Nat.add_zero, ← fb_sm_add]
  refine fsm_c fun k hk => ?_
  rw [show n + 1 - (k + 1) = (n - (k + 1)) + 1 by omega, fb_sm_succ, show k + 1 + (n - (k + 1)) = n by omega]
theorem prs_2 {p : Nat → Nat → Prop} [∀ i j, Decidable (p i j)] (hs : ∀ i j, p i j ↔ p j i) (hr : ∀ i, ¬ p i i) : ∀ n, fb_sm (fun k => fb_sm (fun i => if p k i then 1 else 0) n) n = 2 * prs p n
  | 0 => rfl
  | n + 1 => by
    rw [fb_sm_succ, prs_s]
    have e1 : fb_sm (fun k => fb_sm (fun i => if p k i then 1 else 0) (n + 1)) n = fb_sm (fun k => fb_sm (fun i => if p k i then 1 else 0) n) n + fb_sm (fun k => if p k n then 1 else 0) n := by
      rw [← fb_sm_add]; rfl
    have e2 : fb_sm (fun i => if p n i then 1 else 0) (n + 1) = fb_sm (fun k => if p k n then 1 else 0) n := by
      rw [fb_sm_succ, if_neg (hr n), Nat.add_zero]
      refine fsm_c fun k hk => ?_
      by_cases c : p n k
      · rw [if_pos c, if_pos ((hs n k).mp c)]
      · rw [if_neg c, if_neg (fun z => c ((hs k n).mp z))]
    rw [e1, e2, prs_2 hs hr n]
    omega
theorem prs_le {p q : Nat → Nat → Prop} [∀ i j, Decidable (p i j)] [∀ i j, Decidable (q i j)] {n : Nat} (h : ∀ i j, p i j → q i j) : prs p n ≤ prs q n := by
  unfold prs
  refine fsm_le _ fun k hk => fsm_le _ fun d hd => ?_
  by_cases c : p k (k + 1 + d)
  · rw [if_pos c, if_pos (h _ _ c)]; exact Nat.le_refl _
  · rw [if_neg c]; omega
theorem quar_s {m m' : Me} : quar m m' ↔ quar m' m := by
  have e : gap m m' = gap m' m := by unfold gap; omega
  constructor
  · rintro ⟨a, b, c⟩; exact ⟨fun z => a z.symm, b.symm, by rw [← e]; exact c⟩
  · rintro ⟨a, b, c⟩; exact ⟨fun z => a z.symm, b.symm, by rw [e]; exact c⟩
theorem gap_0 {m : Me} (h : okM m) : gap m m = 0 := by
  have := lst_gst h
  unfold gap; omega
theorem gap_s {m m' : Me} : gap m m' = gap m' m := by unfold gap; omega
