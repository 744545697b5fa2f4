/-! p30: what holds in each parish: the loops over measures and tellers. -/
section LT
variable {tst : Nat → Nat} {p : Nat} {S : SS} {k s t : Nat} {b c : Int32}
theorem o_of0 (hk : k < nM S.1) : Op p S S (FL_call tst p 3 (nI k) 0 c) (nI (mk S.1 k 0)) := o_of (i := 0) hk (by omega)
theorem o_of1 (hk : k < nM S.1) : Op p S S (FL_call tst p 3 (nI k) 1 c) (nI (mk S.1 k 1)) := o_of (i := 1) hk (by omega)
theorem o_of2 (hk : k < nM S.1) : Op p S S (FL_call tst p 3 (nI k) 2 c) (nI (mk S.1 k 2)) := o_of (i := 2) hk (by omega)
theorem o_of7 (hk : k < nM S.1) : Op p S S (FL_call tst p 3 (nI k) 7 c) (nI (lst (mk S.1 k))) := o_of (i := 7) hk (by omega)
theorem o_of8 (hk : k < nM S.1) : Op p S S (FL_call tst p 3 (nI k) 8 c) (nI (gst (mk S.1 k))) := o_of (i := 8) hk (by omega)
theorem o_of9 (hk : k < nM S.1) : Op p S S (FL_call tst p 3 (nI k) 9 c) (nI (wt S.1 (mk S.1 k))) := o_of (i := 9) hk (by omega)
abbrev Qn (A : AS) (k j : Nat) : Nat := if quar (mk A k) (mk A j) then 1 else 0
abbrev Nq (A : AS) (k : Nat) : Nat := fb_sm (Qn A k) (nM A)
theorem o_of10 (hk : k < nM S.1) : Op p S S (FL_call tst p 3 (nI k) 10 c) (nI (Nq S.1 k)) := o_of (i := 10) hk (by omega)
theorem o_te0 (ht : t < 6) : Op p S S (FL_call tst p 4 (nI t) 0 c) (nI (aT S.1 t)) := o_te (i := 0) ht (by omega)
abbrev Mt (A : AS) (t : Nat) : Nat := fb_sm (fun k => if mk A k 1 = t then 1 else 0) (nM A)
abbrev Qt (A : AS) (t : Nat) : Nat := fb_sm (fun k => if mk A k 1 = t then Nq A k else 0) (nM A)
theorem o_te1 (ht : t < 6) : Op p S S (FL_call tst p 4 (nI t) 1 c) (nI (Mt S.1 t)) := o_te (i := 1) ht (by omega)
theorem o_te2 (ht : t < 6) : Op p S S (FL_call tst p 4 (nI t) 2 c) (nI (aRt S.1 t)) := o_te (i := 2) ht (by omega)
theorem o_te3 (ht : t < 6) : Op p S S (FL_call tst p 4 (nI t) 3 c) (nI (aWr S.1 t)) := o_te (i := 3) ht (by omega)
theorem o_te4 (ht : t < 6) : Op p S S (FL_call tst p 4 (nI t) 4 c) (nI (Qt S.1 t)) := o_te (i := 4) ht (by omega)
abbrev Ms (A : AS) (s : Nat) : Nat := fb_sm (fun k => if mk A k 0 = s then 1 else 0) (nM A)
abbrev Wg (A : AS) (s : Nat) : Nat := fb_sm (fun k => if mk A k 0 = s then wt A (mk A k) else 0) (nM A)
theorem o_se0 (hs : s < 3) : Op p S S (FL_call tst p 5 (nI s) 0 c) (nI (Ms S.1 s)) := o_se (i := 0) hs (by omega)
theorem o_se1 (hs : s < 3) : Op p S S (FL_call tst p 5 (nI s) 1 c) (aSv S.1 s) := o_se (i := 1) hs (by omega)
theorem o_se2 (hs : s < 3) : Op p S S (FL_call tst p 5 (nI s) 2 c) (nI (Wg S.1 s)) := o_se (i := 2) hs (by omega)
theorem be_0 {A : AS} : beV A s 0 = nI (low A s) := if_pos rfl
theorem be_1 {A : AS} : beV A s 1 = nI (hig A s) := (if_neg (by decide)).trans (if_pos rfl)
theorem be_2 {A : AS} : beV A s 2 = nI (top A s) := (if_neg (by decide)).trans (if_neg (by decide))
theorem o_be0 (hs : s < 3) (hc : inZ c 0 1) : Op p S S (FL_call tst p 7 (nI s) 0 c) (nI (low S.1 s)) := by
  have h := o_best (tst := tst) (p := p) (S := S) (b := 0) hs ⟨in_lit (by decide) (by decide), hc⟩
  rw [be_0] at h; exact h
theorem o_be1 (hs : s < 3) (hc : inZ c 0 1) : Op p S S (FL_call tst p 7 (nI s) 1 c) (nI (hig S.1 s)) := by
  have h := o_best (tst := tst) (p := p) (S := S) (b := 1) hs ⟨in_lit (by decide) (by decide), hc⟩
  rw [be_1] at h; exact h
theorem o_be2 (hs : s < 3) (hc : inZ c 0 1) : Op p S S (FL_call tst p 7 (nI s) 2 c) (nI (top S.1 s)) := by
  have h := o_best (tst := tst) (p := p) (S := S) (b := 2) hs ⟨in_lit (by decide) (by decide), hc⟩
  rw [be_2] at h; exact h
theorem i01 : inZ (0 : Int32) 0 1 := in_lit (by decide) (by decide)
theorem i11 : inZ (1 : Int32) 0 1 := in_lit (by decide) (by decide)
theorem o_set0 : Op p S S (FL_call tst p 8 0 b c) (nI (aSt S.1 0)) := o_setting (i := 0) (by omega)
end LT
theorem nI_neg1 {n : Nat} (h : n < 2 ^ 31) : ¬ nI n = (-1 : Int32) := fun z => by
  have := congrArg Int32.toInt z
  rw [nI_toInt h, show (-1 : Int32).toInt = -1 from rfl] at this
  omega
theorem nI_le0 {n : Nat} (h : n < 2 ^ 31) : nI n ≤ 0 ↔ n = 0 := by
  have : (nI n ≤ nI 0) ↔ n ≤ 0 := nI_leI h (by omega)
  constructor
  · intro z; have := this.mp z; omega
  · intro z; exact this.mpr (by omega)
theorem nI_is0 {n : Nat} (h : n < 2 ^ 31) : nI n = 0 ↔ n = 0 := nI_eq (b := 0) h (by omega)
section H79
variable {tst : Nat → Nat} {p : Nat} {S : SS} {σ0 : qH} {x1 x3 x4 x5 x6 x7 x11 : Int32}
theorem h79 (hA : okA S.1) {k : Nat} (hk : k < nM S.1) : ∀ (d i r : Nat), i + d = nM S.1 → Ht (At σ0 p S) (At σ0 p S) (FL_holds_L79 tst p x1 (nI (nM S.1)) x3 x4 x5 x6 x7 (nI k) x11 (d + 1 + r) 1 (nI (fb_sm (Qn S.1 k) i)) (nI i)) (fun s => (1, nI (Nq S.1 k), s))
  | 0, i, r, h => by
    have h16 : nM S.1 ≤ 16 := hA.1
    have e : i = nM S.1 := by omega
    subst e
    rw [show 0 + 1 + r = r + 1 by omega]
    refine ht_eq (fun σ => FL_holds_L79.eq_2 ..) ?_
    refine ht_pos ((nI_leI (by omega) (by omega)).mpr (Nat.le_refl _)) ?_
    exact ht_ret
  | d + 1, i, r, h => by
    have h16 : nM S.1 ≤ 16 := hA.1
    have hi : i < nM S.1 := by omega
    have gb := gap_b hA hk hi
    have bk := mk_b hA hk
    have bi := mk_b hA hi
    rw [show d + 1 + 1 + r = (d + 1 + r) + 1 by omega]
    refine ht_eq (fun σ => FL_holds_L79.eq_2 ..) ?_
    refine ht_neg (fun z => absurd ((nI_leI (by omega) (by omega)).mp z) (by omega)) ?_
    refine ht_neg (by decide) ?_
    have fin : Ht (At σ0 p S) (At σ0 p S) (FL_holds_L79 tst p x1 (nI (nM S.1)) x3 x4 x5 x6 x7 (nI k) x11 (d + 1 + r) 1 (nI (fb_sm (Qn S.1 k) i) + nI (Qn S.1 k i)) (nI i + 1)) (fun s => (1, nI (Nq S.1 k), s)) := by
      rw [nI_add, nI_1]
      exact h79 hA hk d (i + 1) r (by omega)
    by_cases cs : mk S.1 k 0 = mk S.1 i 0
    · refine ht_seq (o_apart hk hi σ0) ?_
      rw [if_pos cs]
      refine ht_seq (o_of0 hk σ0) ?_
      refine ht_seq (o_of0 hi σ0) ?_
      refine ht_b1c (v := 1) (by rw [cs, if_pos rfl]) ?_
      refine ht_seq (K := At σ0 p S) (v := nI (Qn S.1 k i)) ?_ ?_
      · by_cases g0 : gap (mk S.1 k) (mk S.1 i) = 0
        · refine ht_pos ((nI_le0 (by omega)).mpr g0) ?_
          have e : Qn S.1 k i = 0 := if_neg (fun z : quar (mk S.1 k) (mk S.1 i) => by have := z.2.2; omega)
          rw [e]; exact ht_ret
        · refine ht_neg (fun z => g0 ((nI_le0 (by omega)).mp z)) ?_
          refine ht_seq (o_of1 hk σ0) ?_
          refine ht_seq (o_of1 hi σ0) ?_
          by_cases ct : mk S.1 k 1 = mk S.1 i 1
          · refine ht_pos (by rw [ct]) ?_
            have e : Qn S.1 k i = 0 := if_neg (fun z : quar (mk S.1 k) (mk S.1 i) => z.1 ct)
            rw [e]; exact ht_ret
          · refine ht_neg (fun z => ct ((nI_eq (by omega) (by omega)).mp z)) ?_
            have e : Qn S.1 k i = 1 := if_pos ⟨ct, cs, by omega⟩
            rw [e]; exact ht_ret
      refine ht_seq (o_apart hi hk σ0) ?_
      rw [if_pos cs.symm, gap_s (m := mk S.1 i) (m' := mk S.1 k)]
      refine ht_b1c (v := 1) ?_ fin
      rw [if_pos rfl, if_neg (nI_neg1 (by omega)), b1_s, if_neg (by decide), b1_s, if_pos rfl]
      by_cases ek : k = i
      · subst ek
        rw [if_pos rfl, if_pos ((nI_is0 (by omega)).mpr (gap_0 (hA.2.1 k hk)))]
      · rw [if_neg (fun z => ek ((nI_eq (by omega) (by omega)).mp z))]
    · refine ht_seq (o_apart hk hi σ0) ?_
      rw [if_neg cs]
      refine ht_seq (o_of0 hk σ0) ?_
      refine ht_seq (o_of0 hi σ0) ?_
      refine ht_b1c (v := 0) (by rw [if_neg (fun z => cs ((nI_eq (by omega) (by omega)).mp z))]) ?_
      refine ht_seq (K := At σ0 p S) (v := nI (Qn S.1 k i)) ?_ ?_
      · refine ht_pos (by decide) ?_
        have e : Qn S.1 k i = 0 := if_neg (fun z : quar (mk S.1 k) (mk S.1 i) => cs z.2.1)
        rw [e]; exact ht_ret
      refine ht_seq (o_apart hi hk σ0) ?_
      rw [if_neg (fun z : mk S.1 i 0 = mk S.1 k 0 => cs z.symm)]
      refine ht_b1c (v := 1) ?_ fin
      rw [if_pos rfl, if_pos rfl, b1_s, if_pos rfl, b1_s, if_pos rfl]
      by_cases ek : k = i
      · exact absurd (by rw [ek]) cs
      · rw [if_neg (fun z => ek ((nI_eq (by omega) (by omega)).mp z))]
end H79
section H51
variable {tst : Nat → Nat} {p : Nat} {S : SS} {σ0 : qH} {x1 x3 x4 x5 x6 x7 x11 : Int32}
theorem h51 (hA : okA S.1) : ∀ (d k r : Nat), k + d = nM S.1 → Ht (At σ0 p S) (At σ0 p S) (FL_holds_L51 tst p x1 (nI (nM S.1)) x4 x5 x6 x7 (d + 1 + r) (nI (fb_sm (Nq S.1) k)) 1 (nI k)) (fun s => (nI (fb_sm (Nq S.1) (nM S.1)), 1, s))
  | 0, k, r, h => by
    have h16 : nM S.1 ≤ 16 := hA.1
    have e : k = nM S.1 := by omega
    subst e
    rw [show 0 + 1 + r = r + 1 by omega]
    refine ht_eq (fun σ => FL_holds_L51.eq_2 ..) ?_
    refine ht_pos ((nI_leI (by omega) (by omega)).mpr (Nat.le_refl _)) ?_
    exact ht_ret
  | d + 1, k, r, h => by
    have h16 : nM S.1 ≤ 16 := hA.1
    have hk : k < nM S.1 := by omega
    have bk := mk_b hA hk
    have lg := lst_gst (hA.2.1 k hk)
    rw [show d + 1 + 1 + r = (d + 1 + r) + 1 by omega]
    refine ht_eq (fun σ => FL_holds_L51.eq_2 ..) ?_
    refine ht_neg (fun z => absurd ((nI_leI (by omega) (by omega)).mp z) (by omega)) ?_
    refine ht_neg (by decide) ?_
    refine ht_seq (o_of2 hk σ0) ?_
    obtain ⟨r2, hr2⟩ : ∃ r2, 20 = nM S.1 + 1 + r2 := ⟨19 - nM S.1, by omega⟩
    have hin := h79 (tst := tst) (σ0 := σ0) (p := p) (x1 := x1) (x3 := nI (fb_sm (Nq S.1) k)) (x4 := x4) (x5 := x5) (x6 := x6) (x7 := x7) (x11 := nI (mk S.1 k 2)) hA hk (nM S.1) 0 r2 (by omega)
    rw [← hr2] at hin
    refine ht_seq3 hin ?_
    refine ht_seq (K := At σ0 p S) (v := 1) ?_ ?_
    · refine ht_neg (by decide) ?_
      refine ht_seq (o_of10 hk σ0) ?_
      refine ht_pos rfl ?_
      refine ht_seq (o_of7 hk σ0) ?_
      refine ht_neg (fun z => absurd ((nI_ltI (b := 1) (by omega) (by omega)).mp z) (by omega)) ?_
      refine ht_seq (o_of7 hk σ0) ?_
      refine ht_seq (o_of8 hk σ0) ?_
      refine ht_neg (fun z => absurd ((nI_ltI (by omega) (by omega)).mp z) (by omega)) ?_
      refine ht_seq (o_of8 hk σ0) ?_
      refine ht_neg (fun z => absurd ((nI_ltI (a := 999) (by omega) (by omega)).mp z) (by omega)) ?_
      refine ht_seq (o_of9 hk σ0) ?_
      refine ht_seq (o_of1 hk σ0) ?_
      refine ht_seq (o_te0 bk.2.1 σ0) ?_
      refine ht_seq (K := At σ0 p S) (v := nI (if mk S.1 k 2 = 2 then 0 else aSt S.1 0)) ?_ ?_
      · by_cases c2 : mk S.1 k 2 = 2
        · refine ht_pos ((nI_leI (a := 2) (by omega) (by omega)).mpr (by omega)) ?_
          rw [if_pos c2]; exact ht_ret
        · refine ht_neg (fun z => absurd ((nI_leI (a := 2) (by omega) (by omega)).mp z) (by omega)) ?_
          rw [if_neg c2]
          refine ht_seq (o_set0 σ0) ?_
          exact ht_ret
      refine ht_pos (by rw [nI_add]; rfl) ?_
      exact ht_ret
    · rw [nI_add, nI_1]
      exact h51 hA d (k + 1) r (by omega)
end H51
section H378
variable {tst : Nat → Nat} {p : Nat} {S : SS} {σ0 : qH} {x1 x2 x3 : Int32}
theorem h378 (hA : okA S.1) : ∀ (d t r : Nat), t + d = 6 → Ht (At σ0 p S) (At σ0 p S) (FL_holds_L378 tst p x1 x2 x3 (d + 1 + r) (nI (fb_sm (aRt S.1) t)) (nI (fb_sm (aWr S.1) t)) (nI (fb_sm (aT S.1) t)) (nI (fb_sm (Mt S.1) t)) 1 (nI (fb_sm (Qt S.1) t)) (nI t)) (fun s => (nI (fb_sm (aRt S.1) 6), nI (fb_sm (aWr S.1) 6), nI (fb_sm (aT S.1) 6), nI (fb_sm (Mt S.1) 6), 1, nI (fb_sm (Qt S.1) 6), s))
  | 0, t, r, h => by
    have e : t = 6 := by omega
    subst e
    rw [show 0 + 1 + r = r + 1 by omega]
    refine ht_eq (fun σ => FL_holds_L378.eq_2 ..) ?_
    refine ht_pos (by decide) ?_
    exact ht_ret
  | d + 1, t, r, h => by
    have ht : t < 6 := by omega
    have t9 := hA.2.2.1 t ht
    rw [show d + 1 + 1 + r = (d + 1 + r) + 1 by omega]
    refine ht_eq (fun σ => FL_holds_L378.eq_2 ..) ?_
    refine ht_neg (fun z => absurd ((nI_leI (a := 6) (by omega) (by omega)).mp z) (by omega)) ?_
    refine ht_neg (by decide) ?_
    refine ht_seq (o_te0 ht σ0) ?_
    refine ht_seq (o_te1 ht σ0) ?_
    refine ht_seq (o_te2 ht σ0) ?_
    refine ht_seq (o_te3 ht σ0) ?_
    refine ht_seq (o_te4 ht σ0) ?_
    refine ht_seq (o_te0 ht σ0) ?_
    refine ht_seq (K := At σ0 p S) (v := 1) ?_ ?_
    · refine ht_neg (fun z => absurd ((nI_ltI (b := 0) (by omega) (by omega)).mp z) (by omega)) ?_
      refine ht_seq (o_te0 ht σ0) ?_
      refine ht_neg (fun z => absurd ((nI_ltI (a := 9) (by omega) (by omega)).mp z) (by omega)) ?_
      exact ht_ret
    · rw [nI_add, nI_add, nI_add, nI_add, nI_add, nI_1]
      exact h378 hA d (t + 1) r (by omega)
end H378
