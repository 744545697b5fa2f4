/-! p30: without a measure, and with the least trust that swings a steeple; and their undo. -/
section WI
variable {tst : Nat → Nat} {p : Nat} {S : SS} {k : Nat} {c : Int32}
theorem o_wi0 (hk : k < nM S.1) : Op p S S (FL_call tst p 16 (nI k) 0 c) (nI (low (drpA S.1 k) (mk S.1 k 0))) := by
  have h := o_without (tst := tst) (p := p) (S := S) (b := 0) (c := c) hk (in_lit (by decide) (by decide))
  rw [be_0] at h; exact h
theorem o_wi1 (hk : k < nM S.1) : Op p S S (FL_call tst p 16 (nI k) 1 c) (nI (hig (drpA S.1 k) (mk S.1 k 0))) := by
  have h := o_without (tst := tst) (p := p) (S := S) (b := 1) (c := c) hk (in_lit (by decide) (by decide))
  rw [be_1] at h; exact h
theorem o_wi2 (hk : k < nM S.1) : Op p S S (FL_call tst p 16 (nI k) 2 c) (nI (top (drpA S.1 k) (mk S.1 k 0))) := by
  have h := o_without (tst := tst) (p := p) (S := S) (b := 2) (c := c) hk (in_lit (by decide) (by decide))
  rw [be_2] at h; exact h
end WI
section L381
variable {tst : Nat → Nat} {p q : Nat} {S T : SS} {σ0 : qH} {a13 a14 a15 : Int32}
theorem d381t (hA : okA S.1) {a5 a6 a16 : Int32} : ∀ (d i r : Nat), i + d = nM S.1 → Ht (At2 σ0 p q S T) (At2 σ0 p q S T) (FL_drops_L381 tst p q (nI (nM S.1)) a5 a6 1 a13 a14 a15 a16 (d + 1 + r) 1 (nI i)) (fun z => (1, z))
  | 0, i, r, h => by
    have h16 : nM S.1 ≤ 16 := hA.1
    rw [show 0 + 1 + r = r + 1 by omega]
    refine ht_eq (fun σ => FL_drops_L381.eq_2 ..) ?_
    refine ht_pos ((nI_leI (by omega) (by omega)).mpr (by omega)) ?_
    exact ht_ret
  | d + 1, i, r, h => by
    have h16 : nM S.1 ≤ 16 := hA.1
    rw [show d + 1 + 1 + r = (d + 1 + r) + 1 by omega]
    refine ht_eq (fun σ => FL_drops_L381.eq_2 ..) ?_
    refine ht_neg (fun z => absurd ((nI_leI (by omega) (by omega)).mp z) (by omega)) ?_
    refine ht_neg (by decide) ?_
    refine ht_seq (K := At2 σ0 p q S T) (v := 1) ?_ ?_
    · refine ht_neg (by decide) ?_
      exact ht_ret
    · rw [nI_1]
      exact d381t hA d (i + 1) r (by omega)
theorem d381 (hd : Apt p q) (hA : okA S.1) {s t b : Nat} (hs : s < 3) (ht : t < 6) (hb : b ≤ 999) : ∀ (d i r : Nat), i + d = nM S.1 → Ht (At2 σ0 p q S T) (At2 σ0 p q S T) (FL_drops_L381 tst p q (nI (nM S.1)) (nI s) (nI t) 1 a13 a14 a15 (nI b) (d + 1 + r) 0 (nI i)) (fun z => (if tlB S.1 t s b d i = true then 1 else 0, z))
  | 0, i, r, h => by
    have h16 : nM S.1 ≤ 16 := hA.1
    rw [show 0 + 1 + r = r + 1 by omega]
    refine ht_eq (fun σ => FL_drops_L381.eq_2 ..) ?_
    refine ht_pos ((nI_leI (by omega) (by omega)).mpr (by omega)) ?_
    exact ht_ret
  | d + 1, i, r, h => by
    have h16 : nM S.1 ≤ 16 := hA.1
    have hi : i < nM S.1 := by omega
    have bi := mk_b hA hi
    rw [show d + 1 + 1 + r = (d + 1 + r) + 1 by omega]
    refine ht_eq (fun σ => FL_drops_L381.eq_2 ..) ?_
    refine ht_neg (fun z => absurd ((nI_leI (by omega) (by omega)).mp z) (by omega)) ?_
    refine ht_neg (by decide) ?_
    by_cases c : mk S.1 i 0 = s ∧ mk S.1 i 1 = t ∧ telP (mk S.1 i) b
    · obtain ⟨c1, c2, c3, c4⟩ := c
      rw [tlB_t ⟨c1, c2, c3, c4⟩, if_pos rfl]
      refine ht_seq (K := At2 σ0 p q S T) (v := 1) ?_ ?_
      · refine ht_pos rfl ?_
        refine ht_seq (op_p hd (o_of0 hi) σ0) ?_
        refine ht_pos (by rw [c1]) ?_
        refine ht_seq (op_p hd (o_of1 hi) σ0) ?_
        refine ht_pos (by rw [c2]) ?_
        refine ht_seq (op_p hd (o_of7 hi) σ0) ?_
        refine ht_neg (fun z => absurd ((nI_ltI (by omega) (by omega)).mp z) (by omega)) ?_
        refine ht_seq (op_p hd (o_of8 hi) σ0) ?_
        refine ht_neg (fun z => absurd ((nI_ltI (by omega) (by omega)).mp z) (by omega)) ?_
        exact ht_ret
      · rw [nI_1]
        exact d381t hA d (i + 1) r (by omega)
    · rw [tlB_f c]
      refine ht_seq (K := At2 σ0 p q S T) (v := 0) ?_ ?_
      · refine ht_pos rfl ?_
        refine ht_seq (op_p hd (o_of0 hi) σ0) ?_
        by_cases c1 : mk S.1 i 0 = s
        · refine ht_pos (by rw [c1]) ?_
          refine ht_seq (op_p hd (o_of1 hi) σ0) ?_
          by_cases c2 : mk S.1 i 1 = t
          · refine ht_pos (by rw [c2]) ?_
            refine ht_seq (op_p hd (o_of7 hi) σ0) ?_
            by_cases c3 : b < lst (mk S.1 i)
            · refine ht_pos ((nI_ltI (by omega) (by omega)).mpr c3) ?_
              exact ht_ret
            · refine ht_neg (fun z => c3 ((nI_ltI (by omega) (by omega)).mp z)) ?_
              refine ht_seq (op_p hd (o_of8 hi) σ0) ?_
              refine ht_pos ((nI_ltI (by omega) (by omega)).mpr (Nat.lt_of_not_le fun z => c ⟨c1, c2, by omega, z⟩)) ?_
              exact ht_ret
          · refine ht_neg (fun z => c2 ((nI_eq (by omega) (by omega)).mp z)) ?_
            exact ht_ret
        · refine ht_neg (fun z => c1 ((nI_eq (by omega) (by omega)).mp z)) ?_
          exact ht_ret
      · rw [nI_1]
        exact d381 hd hA hs ht hb d (i + 1) r (by omega)
end L381
set_option maxHeartbeats 4000000 in
theorem ldrops_e {tst : Nat → Nat} {p q : Nat} {A : AS} {L : List AS} {K : Nat → Option AS} {X : Nat} (hd : Apt p q) (hA : okA A) (hX : X < 2 ^ 31) : ∃ L', (∀ B, B ∈ L' → B ∈ L) ∧ Tw p q (A, L, K) (A, L, K) (A, L', K) (A, L', K) (FL_drops tst p q (nI X)) 1 := by
  have h16 : nM A ≤ 16 := hA.1
  by_cases h0 : nM A = 0
  · refine ⟨L, fun B h => h, fun σ0 => ?_⟩
    refine ht_eq (fun σ => FL_drops.eq_1 tst p q (nI X) σ) ?_
    refine ht_seq (op_p hd o_ab0 σ0) ?_
    refine ht_pos (show nI (nM A) = 0 by rw [h0]; rfl) ?_
    exact ht_ret
  refine ⟨(L.take 13).take 13, fun B h => List.mem_of_mem_take (List.mem_of_mem_take h), fun σ0 => ?_⟩
  have ng : ¬ nI (nM A) = 0 := fun z => h0 ((nI_is0 (by omega)).mp z)
  have dv : ∀ {a d : Nat}, a < 2 ^ 31 → 0 < d → d < 2 ^ 31 → nI a / nI d = nI (a / d) := fun ha h0 hd => pk_div ha h0 hd
  have d16 : nI X / (16 : Int32) = nI (X / 16) := dv (d := 16) hX (by omega) (by omega)
  have d32 : nI X / (32 : Int32) = nI (X / 32) := dv (d := 32) hX (by omega) (by omega)
  have r2 : irm (nI X) (2 : Int32) = nI (X % 2) := irm_n (d := 2) hX (by omega) (by omega)
  have r10 : irm (nI (X / 16)) (10 : Int32) = nI (X / 16 % 10) := irm_n (d := 10) (by omega) (by omega) (by omega)
  have r162 : irm (nI (X / 16)) (2 : Int32) = nI (X / 16 % 2) := irm_n (d := 2) (by omega) (by omega) (by omega)
  have em : irm (nI X) (nI (nM A)) = nI (X % nM A) := irm_n hX (by omega) (by omega)
  have hk : X % nM A < nM A := Nat.mod_lt _ (by omega)
  refine ht_eq (fun σ => FL_drops.eq_1 tst p q (nI X) σ) ?_
  simp only [d16, d32, r2, r10, r162]
  refine ht_seq (op_p hd o_ab0 σ0) ?_
  refine ht_neg ng ?_
  refine ht_neg ng ?_
  show Ht (At2 σ0 p q (A, L, K) (A, L, K)) _ _ _
  rw [em]
  generalize X % nM A = k at hk
  have bk := mk_b hA hk
  have hw2 : inZ (nI (X % 2)) 0 1 := (inZ_nI (by omega)).mpr (by omega)
  have hs : mk A k 0 < 3 := bk.1
  have ht : mk A k 1 < 6 := bk.2.1
  have td := top_drp (s := mk A k 0) hA hk
  have tb : top A (mk A k 0) ≤ 224 := vot_b hA
  have wb := wt_b hA hk
  refine ht_seq (op_p hd (o_of0 hk) σ0) ?_
  refine ht_seq (op_p hd (o_of1 hk) σ0) ?_
  refine ht_seq (op_p hd (o_wi0 hk) σ0) ?_
  refine ht_seq (op_p hd (o_wi1 hk) σ0) ?_
  refine ht_seq (op_p hd (o_wi2 hk) σ0) ?_
  refine ht_seq (op_p hd (o_of9 hk) σ0) ?_
  refine ht_seq (op_p hd (o_be2 hs i11) σ0) ?_
  refine ht_seq (K := At2 σ0 p q (A, L.take 13, K) (A, L.take 13, K)) (v := 1) ?_ ?_
  · have t1 : top (drpA A k) (mk A k 0) ≤ top A (mk A k 0) := td.1
    have t2 : top A (mk A k 0) ≤ top (drpA A k) (mk A k 0) + wt A (mk A k) := td.2
    refine ht_neg (fun z => absurd ((nI_ltI (a := top A (mk A k 0)) (b := top (drpA A k) (mk A k 0)) (by omega) (by omega)).mp z) (by omega)) ?_
    refine ht_neg (fun z => by
      have z' : nI (top (drpA A k) (mk A k 0)) + nI (wt A (mk A k)) < nI (top A (mk A k 0)) := z
      rw [nI_add] at z'
      have := (nI_ltI (by omega) (by omega)).mp z'
      omega) ?_
    have n1 : nI (nM A - 1) = nI (nM A) - 1 := (nI_subn (b := 1) (by omega)).symm
    refine ht_seq (op_p hd (o_drop_n hk) σ0) ?_
    refine ht_pos n1 ?_
    refine ht_seq (op_q hd (o_drop_n hk) σ0) ?_
    refine ht_pos n1 ?_
    refine ht_seq (op_p hd (o_be0 hs hw2) σ0) ?_
    refine ht_pos rfl ?_
    refine ht_seq (op_p hd (o_be1 hs hw2) σ0) ?_
    refine ht_pos rfl ?_
    refine ht_seq (op_p hd (o_be2 hs hw2) σ0) ?_
    refine ht_pos rfl ?_
    have l13 : (L.take 13).length ≤ 13 := List.length_take_le 13 L
    refine ht_seq (op_p hd o_undo σ0) ?_
    refine ht_b1 (fun σ _ => thrown_n (by omega)) ?_
    refine ht_pos rfl ?_
    refine ht_seq (op_q hd o_undo σ0) ?_
    refine ht_b1 (fun σ _ => thrown_n (by omega)) ?_
    refine ht_pos rfl ?_
    refine ht_seq (op_p hd (o_of9 hk) σ0) ?_
    refine ht_pos rfl ?_
    exact ht_ret
  generalize hse : mk A k 0 = s at hs
  generalize hte : mk A k 1 = t at ht
  refine ht_seq (op_p hd (o_swings ht hs) σ0) ?_
  refine ht_seq (op_p hd (o_te0 ht) σ0) ?_
  have key : ∃ v : Nat, v ≤ 9 ∧ (if enc (swL A t s 10 0) = (-1 : Int32) then some (nI (X / 16 % 10)) else if nI (X / 16 % 2) = 0 then some (enc (swL A t s 10 0)) else if enc (swL A t s 10 0) + (1 : Int32) = 0 then none else some (irm (nI (X / 32)) (enc (swL A t s 10 0) + (1 : Int32)))) = some (nI v) ∧ ((if enc (swL A t s 10 0) = (-1 : Int32) then some (0 : Int32) else if nI v = enc (swL A t s 10 0) then some (1 : Int32) else some (0 : Int32)) = some (if swP A t s v = true then 1 else 0)) := by
    rcases opt_or (swL A t s 10 0) with e | ⟨w, e⟩
    · rw [e]
      refine ⟨X / 16 % 10, by omega, if_pos rfl, ?_⟩
      have hf := sw_none 10 0 e (X / 16 % 10) (by omega) (by omega)
      rw [if_pos (show enc none = (-1 : Int32) from rfl), hf]; rfl
    · obtain ⟨w1, w2, w3, w4⟩ := sw_some 10 0 e
      have ew : enc (some w) = nI w := rfl
      have nw : ¬ nI w = (-1 : Int32) := nI_neg1 (by omega)
      rw [e, ew]
      by_cases c : X / 16 % 2 = 0
      · refine ⟨w, by omega, ?_, ?_⟩
        · rw [if_neg nw, if_pos (by rw [c]; rfl)]
        · rw [if_neg nw, if_pos rfl, w3]; rfl
      · have nz : ¬ nI w + (1 : Int32) = 0 := fun z => by
          rw [nI_1] at z
          have := (nI_is0 (by omega)).mp z
          omega
        have e3 : irm (nI (X / 32)) (nI w + (1 : Int32)) = nI (X / 32 % (w + 1)) := by rw [nI_1]; exact irm_n (by omega) (by omega) (by omega)
        have lt : X / 32 % (w + 1) < w + 1 := Nat.mod_lt _ (by omega)
        refine ⟨X / 32 % (w + 1), by omega, ?_, ?_⟩
        · rw [if_neg nw, if_neg (fun z => c ((nI_is0 (by omega)).mp z)), if_neg nz, e3]
        · rw [if_neg nw]
          by_cases c2 : X / 32 % (w + 1) = w
          · rw [c2, if_pos rfl, w3]; rfl
          · rw [if_neg (fun z => c2 ((nI_eq (by omega) (by omega)).mp z)), w4 _ (by omega) (by omega)]; rfl
  obtain ⟨v, v9, k1, k2⟩ := key
  refine ht_b1c k1 ?_
  have okT : okA (truA A t v) := truA_ok hA v9
  obtain ⟨b1', b2', b3, -⟩ := best_f (truA A t v) s
  refine ht_seq (K := At2 σ0 p q (truA A t v, A :: (L.take 13).take 13, K) (truA A t v, A :: (L.take 13).take 13, K)) (v := 1) ?_ ?_
  · refine ht_neg (by decide) ?_
    refine ht_seq (op_p hd (o_trust_n ht v9) σ0) ?_
    refine ht_pos rfl ?_
    refine ht_seq (op_q hd (o_trust_n ht v9) σ0) ?_
    refine ht_pos rfl ?_
    exact ht_ret
  refine ht_seq (op_p hd (o_be0 hs i11) σ0) ?_
  obtain ⟨w, hw⟩ : ∃ w, 20 = nM A + 1 + w := ⟨19 - nM A, by omega⟩
  have hl := d381 (tst := tst) (p := p) (q := q) (S := (truA A t v, A :: (L.take 13).take 13, K)) (T := (truA A t v, A :: (L.take 13).take 13, K)) (σ0 := σ0) (a13 := enc (swL A t s 10 0)) (a14 := nI (aT A t)) (a15 := nI v) (b := low (truA A t v) s) hd okT hs ht (by omega) (nM A) 0 w (Nat.zero_add (nM A))
  rw [← hw] at hl
  refine ht_seq hl ?_
  refine ht_seq (K := At2 σ0 p q (A, (L.take 13).take 13, K) (A, (L.take 13).take 13, K)) (v := 1) ?_ ?_
  · refine ht_neg (by decide) ?_
    refine ht_b1c k2 ?_
    refine ht_pos rfl ?_
    have l13 : ((L.take 13).take 13).length ≤ 13 := List.length_take_le 13 _
    refine ht_seq (op_p hd o_undo σ0) ?_
    refine ht_b1 (fun σ _ => thrown_n (by omega)) ?_
    refine ht_pos rfl ?_
    refine ht_seq (op_q hd o_undo σ0) ?_
    refine ht_b1 (fun σ _ => thrown_n (by omega)) ?_
    refine ht_pos rfl ?_
    refine ht_seq (op_p hd (o_te0 ht) σ0) ?_
    refine ht_pos rfl ?_
    exact ht_ret
  refine ht_pos (Or.inr rfl) ?_
  exact ht_ret
