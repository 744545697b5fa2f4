/-! p30: what evenings and surveys keep, and what they count. -/
abbrev SameEv (A B : AS) : Prop := aM B = aM A ∧ aRt B = aRt A ∧ aWr B = aWr A ∧ aSv B = aSv A ∧ aSt B = aSt A ∧ aCm B = aCm A ∧ fb_sm (aT B) 6 + aLo B = fb_sm (aT A) 6 + aLo A
theorem same_rf {A : AS} : SameEv A A := ⟨rfl, rfl, rfl, rfl, rfl, rfl, rfl⟩
theorem same_tr {A B C : AS} (h : SameEv A B) (k : SameEv B C) : SameEv A C := by
  obtain ⟨a1, a2, a3, a4, a5, a6, a7⟩ := h
  obtain ⟨b1, b2, b3, b4, b5, b6, b7⟩ := k
  exact ⟨b1.trans a1, b2.trans a2, b3.trans a3, b4.trans a4, b5.trans a5, b6.trans a6, b7.trans a7⟩
theorem fset_sum {f : Nat → Nat} {t v n : Nat} (h : t < n) : fb_sm (fset f t v) n + f t = fb_sm f n + v := fb_sm_upd f v h
theorem shmT_same {A : AS} {t : Nat} (ht : t < 6) : SameEv A (shmT A t) := by
  unfold shmT
  split
  · exact same_rf
  · rename_i c
    refine ⟨rfl, rfl, rfl, rfl, rfl, rfl, ?_⟩
    have := fset_sum (f := aT A) (v := aT A t - 1) ht
    show fb_sm (fset (aT A) t (aT A t - 1)) 6 + (aLo A + 1) = _
    omega
theorem shm_same {A : AS} {i j : Nat} (hA : okA A) (hi : i < nM A) (hj : j < nM A) : SameEv A (shm A i j) := by
  unfold shm
  split
  · exact same_rf
  · refine shmT_same ?_
    split
    · exact (mk_b hA hi).2.1
    · exact (mk_b hA hj).2.1
theorem mk_eq {A B : AS} (h : aM B = aM A) (k : Nat) : mk B k = mk A k := by show (aM B).getD k M0 = (aM A).getD k M0; rw [h]
theorem nM_eq {A B : AS} (h : aM B = aM A) : nM B = nM A := by show (aM B).length = (aM A).length; rw [h]
theorem evI_same : ∀ (d : Nat) (A : AS) (k i : Nat), okA A → k < nM A → i + d = nM A → SameEv A (evI d A k i)
  | 0, A, k, i, _, _, _ => same_rf
  | d + 1, A, k, i, hA, hk, hi => by
    rw [evI]
    have h1 : SameEv A (if matt A (mk A k) (mk A i) then shm A k i else A) := by
      split
      · exact shm_same hA hk (by omega)
      · exact same_rf
    have n1 := nM_eq h1.1
    exact same_tr h1 (evI_same d _ k (i + 1) (evS_ok hA) (by omega) (by omega))
theorem evO_same : ∀ (d : Nat) (A : AS) (k : Nat), okA A → k + d = nM A → SameEv A (evO d A k)
  | 0, A, k, _, _ => same_rf
  | d + 1, A, k, hA, hk => by
    rw [evO]
    have h1 := evI_same (nM A - (k + 1)) A k (k + 1) hA (by omega) (by omega)
    have n1 := nM_eq h1.1
    exact same_tr h1 (evO_same d _ (k + 1) (evI_ok _ _ _ _ hA) (by omega))
theorem eve_same {A : AS} (hA : okA A) : SameEv A (eve A) := evO_same (nM A) A 0 hA (by omega)
theorem matt_eq {A B : AS} {m m' : Me} (h : aSt B = aSt A) : matt B m m' ↔ matt A m m' := by
  show (m 1 ≠ m' 1 ∧ m 0 = m' 0 ∧ aSt B 1 < gap m m') ↔ (m 1 ≠ m' 1 ∧ m 0 = m' 0 ∧ aSt A 1 < gap m m')
  rw [h]
theorem fsm_1 {f : Nat → Nat} (d : Nat) : fb_sm f (d + 1) = f 0 + fb_sm (fun j => f (1 + j)) d := by
  rw [show d + 1 = 1 + d by omega, fb_sm_split f 1 d]
  have : fb_sm f 1 = f 0 := by simp [fb_sm]
  rw [this]
theorem evI_lost {A : AS} (hA : okA A) : ∀ (d : Nat) (B : AS) (k i : Nat), okA B → aM B = aM A → aSt B = aSt A → k < nM B → i + d = nM B → aLo (evI d B k i) ≤ aLo B + fb_sm (fun j => if matt A (mk A k) (mk A (i + j)) then 1 else 0) d
  | 0, B, k, i, _, _, _, _, _ => by show aLo B ≤ aLo B + 0; omega
  | d + 1, B, k, i, hB, h1, h2, hk, hi => by
    rw [evI, fsm_1]
    have hS : SameEv B (if matt B (mk B k) (mk B i) then shm B k i else B) := by
      split
      · exact shm_same hB hk (by omega)
      · exact same_rf
    have hl : aLo (if matt B (mk B k) (mk B i) then shm B k i else B) ≤ aLo B + (if matt A (mk A k) (mk A (i + 0)) then 1 else 0) := by
      rw [mk_eq h1 k, mk_eq h1 i, Nat.add_zero]
      by_cases c : matt B (mk A k) (mk A i)
      · rw [if_pos c, if_pos ((matt_eq h2).mp c)]
        rcases (shm_M (A := B) (i := k) (j := i)).2.2.2.2.2 with e | e <;> omega
      · rw [if_neg c, if_neg (fun z => c ((matt_eq h2).mpr z))]; omega
    have n1 := nM_eq hS.1
    have ih := evI_lost hA d _ k (i + 1) (evS_ok hB) (hS.1.trans h1) (hS.2.2.2.2.1.trans h2) (by rw [n1]; exact hk) (by rw [n1]; omega)
    have e : (fun j => if matt A (mk A k) (mk A (i + (1 + j))) then 1 else 0) = (fun j => if matt A (mk A k) (mk A (i + 1 + j)) then 1 else 0) := by
      funext j; rw [Nat.add_assoc]
    rw [e]
    omega
theorem evO_lost {A : AS} (hA : okA A) : ∀ (d : Nat) (B : AS) (k : Nat), okA B → aM B = aM A → aSt B = aSt A → k + d = nM B → aLo (evO d B k) ≤ aLo B + fb_sm (fun j => fb_sm (fun e => if matt A (mk A (k + j)) (mk A (k + j + 1 + e)) then 1 else 0) (nM A - (k + j + 1))) d
  | 0, B, k, _, _, _, _ => by show aLo B ≤ aLo B + 0; omega
  | d + 1, B, k, hB, h1, h2, hk => by
    rw [evO, fsm_1]
    have n0 := nM_eq h1
    have hS := evI_same (nM B - (k + 1)) B k (k + 1) hB (by omega) (by omega)
    have hl := evI_lost hA (nM B - (k + 1)) B k (k + 1) hB h1 h2 (by omega) (by omega)
    have n1 := nM_eq hS.1
    have ih := evO_lost hA d _ (k + 1) (evI_ok (nM B - (k + 1)) B k (k + 1) hB) (hS.1.trans h1) (hS.2.2.2.2.1.trans h2) (by rw [n1]; omega)
    have e : (fun j => fb_sm (fun e => if matt A (mk A (k + (1 + j))) (mk A (k + (1 + j) + 1 + e)) then 1 else 0) (nM A - (k + (1 + j) + 1))) = (fun j => fb_sm (fun e => if matt A (mk A (k + 1 + j)) (mk A (k + 1 + j + 1 + e)) then 1 else 0) (nM A - (k + 1 + j + 1))) := by
      funext j; rw [Nat.add_assoc k 1 j]
    rw [e]
    rw [n0] at hl ih ⊢
    simp only [Nat.add_zero]
    omega
/-- an evening takes no more trust than there are pairs that matter -/
theorem eve_lost {A : AS} (hA : okA A) : aLo (eve A) ≤ aLo A + prs (fun i j => matt A (mk A i) (mk A j)) (nM A) := by
  have h := evO_lost hA (nM A) A 0 hA rfl rfl (by omega)
  have e : fb_sm (fun j => fb_sm (fun e => if matt A (mk A (0 + j)) (mk A (0 + j + 1 + e)) then 1 else 0) (nM A - (0 + j + 1))) (nM A) = prs (fun i j => matt A (mk A i) (mk A j)) (nM A) := by
    unfold prs
    refine fsm_c fun k hk => ?_
    rw [Nat.zero_add]
  rw [e] at h
  exact h
/-- sums over a list of measures -/
def sumL (g : Me → Nat) : List Me → Nat
  | [] => 0
  | m :: l => g m + sumL g l
theorem sm_list (g : Me → Nat) : ∀ l : List Me, fb_sm (fun k => g (l.getD k M0)) l.length = sumL g l
  | [] => rfl
  | m :: l => by
    rw [List.length_cons, fsm_1]
    have e : (fun j => g ((m :: l).getD (1 + j) M0)) = (fun j => g (l.getD j M0)) := by
      funext j; rw [Nat.add_comm 1 j]; rfl
    rw [e, sm_list g l]; rfl
theorem sm_mk {A : AS} (g : Me → Nat) : fb_sm (fun k => g (mk A k)) (nM A) = sumL g (aM A) := sm_list g (aM A)
theorem sumL_add (f g : Me → Nat) : ∀ l, sumL (fun m => f m + g m) l = sumL f l + sumL g l
  | [] => rfl
  | m :: l => by
    have := sumL_add f g l
    simp only [sumL]; omega
theorem sumL_le {f g : Me → Nat} : ∀ {l : List Me}, (∀ m ∈ l, f m ≤ g m) → sumL f l ≤ sumL g l
  | [], _ => Nat.le_refl _
  | m :: l, h => by
    have h1 := h m (List.mem_cons_self ..)
    have h2 := sumL_le (l := l) (fun x hx => h x (List.mem_cons_of_mem _ hx))
    simp only [sumL]; omega
theorem sumL_c {f g : Me → Nat} : ∀ {l : List Me}, (∀ m ∈ l, f m = g m) → sumL f l = sumL g l
  | [], _ => rfl
  | m :: l, h => by
    have h1 := h m (List.mem_cons_self ..)
    have h2 := sumL_c (l := l) (fun x hx => h x (List.mem_cons_of_mem _ hx))
    simp only [sumL]; omega
theorem sumL_0 {f : Me → Nat} {l : List Me} (h : ∀ m ∈ l, f m = 0) : sumL f l = 0 := by
  induction l with
  | nil => rfl
  | cons m l ih =>
    have h1 := h m (List.mem_cons_self ..)
    have h2 := ih (fun x hx => h x (List.mem_cons_of_mem _ hx))
    simp only [sumL]; omega
theorem mem_mk {A : AS} {m : Me} (h : m ∈ aM A) : ∃ k, k < nM A ∧ mk A k = m := by
  obtain ⟨j, hj, ej⟩ := List.getElem_of_mem h
  refine ⟨j, hj, ?_⟩
  show (aM A).getD j M0 = m
  rw [List.getD_eq_getElem?_getD, List.getElem?_eq_getElem hj]
  exact ej
theorem mk_mem {A : AS} {k : Nat} (h : k < nM A) : mk A k ∈ aM A := by
  have e : mk A k = (aM A)[k]'h := by
    show (aM A).getD k M0 = _
    rw [List.getD_eq_getElem?_getD, List.getElem?_eq_getElem h]; rfl
  rw [e]; exact List.getElem_mem _
theorem mem_ok {A : AS} (hA : okA A) {m : Me} (h : m ∈ aM A) : okM m := by
  obtain ⟨k, hk, e⟩ := mem_mk h
  rw [← e]; exact hA.2.1 k hk
abbrev rgt (s x : Nat) (m : Me) : Nat := if m 0 = s ∧ telP m x then 1 else 0
abbrev own (s : Nat) (m : Me) : Nat := if m 0 = s then 1 else 0
theorem jdg_rt {A : AS} {t : Nat} : fb_sm (aRt (jdg A t true)) 6 + aRt A t = fb_sm (aRt A) 6 + (aRt A t + 1) ∨ 6 ≤ t := by
  by_cases h : t < 6
  · exact Or.inl (fset_sum h)
  · exact Or.inr (by omega)
/-- what the judging of a steeple's measures does -/
theorem fold_sv {s x : Nat} : ∀ (l : List Me) (n : Nat) (B : AS), (∀ m ∈ l, m 1 < 6) → (l.foldl (svF s x) (n, B)).1 = n + sumL (rgt s x) l ∧ fb_sm (aRt (l.foldl (svF s x) (n, B)).2) 6 = fb_sm (aRt B) 6 + sumL (rgt s x) l ∧ fb_sm (aWr (l.foldl (svF s x) (n, B)).2) 6 + sumL (rgt s x) l = fb_sm (aWr B) 6 + sumL (own s) l ∧ aM (l.foldl (svF s x) (n, B)).2 = aM B ∧ aCm (l.foldl (svF s x) (n, B)).2 = aCm B ∧ aSv (l.foldl (svF s x) (n, B)).2 = aSv B ∧ ∀ t, aRt (l.foldl (svF s x) (n, B)).2 t + aWr (l.foldl (svF s x) (n, B)).2 t ≤ aRt B t + aWr B t + l.length
  | [], n, B, _ => ⟨rfl, rfl, rfl, rfl, rfl, rfl, fun t => Nat.le_refl _⟩
  | m :: l, n, B, h => by
    have hm := h m (List.mem_cons_self ..)
    have key : ∃ n2 B2, svF s x (n, B) m = (n2, B2) ∧ n2 = n + rgt s x m ∧ fb_sm (aRt B2) 6 = fb_sm (aRt B) 6 + rgt s x m ∧ fb_sm (aWr B2) 6 + rgt s x m = fb_sm (aWr B) 6 + own s m ∧ aM B2 = aM B ∧ aCm B2 = aCm B ∧ aSv B2 = aSv B ∧ ∀ t, aRt B2 t + aWr B2 t ≤ aRt B t + aWr B t + 1 := by
      unfold svF
      by_cases c : m 0 = s
      · by_cases d : telP m x
        · refine ⟨n + 1, jdg B (m 1) true, ?_, ?_, ?_, ?_, rfl, rfl, rfl, fun t => ?_⟩
          · rw [if_pos c, if_pos d, decide_eq_true d]
          · show n + 1 = n + (if m 0 = s ∧ telP m x then 1 else 0); rw [if_pos ⟨c, d⟩]
          · have := fset_sum (f := aRt B) (v := aRt B (m 1) + 1) hm
            show fb_sm (fset (aRt B) (m 1) (aRt B (m 1) + 1)) 6 = fb_sm (aRt B) 6 + (if m 0 = s ∧ telP m x then 1 else 0)
            rw [if_pos ⟨c, d⟩]; omega
          · show fb_sm (aWr B) 6 + (if m 0 = s ∧ telP m x then 1 else 0) = fb_sm (aWr B) 6 + (if m 0 = s then 1 else 0)
            rw [if_pos ⟨c, d⟩, if_pos c]
          · show (if t = m 1 then aRt B (m 1) + 1 else aRt B t) + aWr B t ≤ _
            split
            · rename_i e; rw [e]; omega
            · omega
        · refine ⟨n, jdg B (m 1) false, ?_, ?_, ?_, ?_, rfl, rfl, rfl, fun t => ?_⟩
          · rw [if_pos c, if_neg d, decide_eq_false d]; rfl
          · show n = n + (if m 0 = s ∧ telP m x then 1 else 0); rw [if_neg (fun z => d z.2)]; rfl
          · show fb_sm (aRt B) 6 = fb_sm (aRt B) 6 + (if m 0 = s ∧ telP m x then 1 else 0)
            rw [if_neg (fun z => d z.2)]; rfl
          · have := fset_sum (f := aWr B) (v := aWr B (m 1) + 1) hm
            show fb_sm (fset (aWr B) (m 1) (aWr B (m 1) + 1)) 6 + (if m 0 = s ∧ telP m x then 1 else 0) = fb_sm (aWr B) 6 + (if m 0 = s then 1 else 0)
            rw [if_neg (fun z => d z.2), if_pos c]; omega
          · show aRt B t + (if t = m 1 then aWr B (m 1) + 1 else aWr B t) ≤ _
            split
            · rename_i e; rw [e]; omega
            · omega
      · refine ⟨n, B, ?_, ?_, ?_, ?_, rfl, rfl, rfl, fun t => by omega⟩
        · rw [if_neg c]
        · show n = n + (if m 0 = s ∧ telP m x then 1 else 0); rw [if_neg (fun z => c z.1)]; rfl
        · show fb_sm (aRt B) 6 = fb_sm (aRt B) 6 + (if m 0 = s ∧ telP m x then 1 else 0)
          rw [if_neg (fun z => c z.1)]; rfl
        · show fb_sm (aWr B) 6 + (if m 0 = s ∧ telP m x then 1 else 0) = fb_sm (aWr B) 6 + (if m 0 = s then 1 else 0)
          rw [if_neg (fun z => c z.1), if_neg c]
    obtain ⟨n2, B2, e, k1, k2, k3, k4, k5, k6, k7⟩ := key
    rw [List.foldl_cons, e]
    obtain ⟨g1, g2, g3, g4, g5, g6, g7⟩ := fold_sv (s := s) (x := x) l n2 B2 (fun y hy => h y (List.mem_cons_of_mem _ hy))
    refine ⟨?_, ?_, ?_, g4.trans k4, g5.trans k5, g6.trans k6, fun t => ?_⟩
    · rw [g1]; simp only [sumL]; omega
    · rw [g2]; simp only [sumL]; omega
    · simp only [sumL]; omega
    · have := g7 t
      have := k7 t
      rw [List.length_cons]; omega
theorem len_own (s : Nat) : ∀ l : List Me, (l.filter (fun m => decide (m 0 ≠ s))).length + sumL (own s) l = l.length
  | [] => rfl
  | m :: l => by
    have ih := len_own s l
    by_cases c : m 0 = s
    · have e : (m :: l).filter (fun m => decide (m 0 ≠ s)) = l.filter (fun m => decide (m 0 ≠ s)) := by
        rw [List.filter_cons, if_neg (by rw [decide_eq_true_eq]; exact fun z => z c)]
      rw [e, List.length_cons]; simp only [sumL, own]; rw [if_pos c]; omega
    · have e : (m :: l).filter (fun m => decide (m 0 ≠ s)) = m :: l.filter (fun m => decide (m 0 ≠ s)) := by
        rw [List.filter_cons, if_pos (by rw [decide_eq_true_eq]; exact c)]
      rw [e, List.length_cons, List.length_cons]; simp only [sumL, own]; rw [if_neg c]; omega
theorem srv_f {A : AS} {s x : Nat} (hA : okA A) : (srv A s x).1 = sumL (rgt s x) (aM A) ∧ fb_sm (aRt (srv A s x).2) 6 = fb_sm (aRt A) 6 + sumL (rgt s x) (aM A) ∧ fb_sm (aWr (srv A s x).2) 6 + sumL (rgt s x) (aM A) = fb_sm (aWr A) 6 + sumL (own s) (aM A) ∧ aM (srv A s x).2 = (aM A).filter (fun m => decide (m 0 ≠ s)) ∧ aCm (srv A s x).2 = aCm A ∧ aSv (srv A s x).2 = fset (aSv A) s (nI x) ∧ ∀ t, aRt (srv A s x).2 t + aWr (srv A s x).2 t ≤ aRt A t + aWr A t + nM A := by
  obtain ⟨g1, g2, g3, g4, g5, g6, g7⟩ := fold_sv (s := s) (x := x) (aM A) 0 A (fun m hm => (mem_ok hA hm).2.1)
  refine ⟨?_, g2, g3, ?_, g5, ?_, g7⟩
  · show ((aM A).foldl (svF s x) (0, A)).1 = _
    rw [g1, Nat.zero_add]
  · show (aM ((aM A).foldl (svF s x) (0, A)).2).filter _ = _
    rw [g4]
  · show fset (aSv ((aM A).foldl (svF s x) (0, A)).2) s (nI x) = _
    rw [g6]
