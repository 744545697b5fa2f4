/-! p30: the law's turns. -/
theorem and_31 (x : Int32) : ∃ X, X < 2 ^ 31 ∧ x &&& (2147483647 : Int32) = nI X := by
  obtain ⟨n, -, rfl⟩ := wb_of32 x
  exact ⟨n % 2 ^ 31, Nat.mod_lt _ (by omega), fa_mask n 31⟩
/-- a cell of the script: some number, the same in every heap that holds the script -/
theorem cell_e {p0 M k : Nat} {g : Nat → Int32} (hM : M < 2 ^ 30) (hk : k < 2 ^ 30) : ∃ X, X < 2 ^ 31 ∧ ∀ σ : qH, σ p0 = some (.inl (4, (M, .inl g))) → FL_cell p0 (nI k) σ = some (nI X) := by
  by_cases c : M ≤ k
  · obtain ⟨X, hX, e⟩ := and_31 (((15520171 : Int32) * (nI k + (3 : Int32))) + (12101 : Int32))
    refine ⟨X, hX, fun σ h => ?_⟩
    have hl : aL σ p0 = some (nI M) := aL_e h (by omega)
    unfold FL_cell
    rw [hl, b1_s, if_pos ((nI_leI (by omega) (by omega)).mpr c), b1_s, e]
  · obtain ⟨X, hX, e⟩ := and_31 (g k)
    refine ⟨X, hX, fun σ h => ?_⟩
    have hl : aL σ p0 = some (nI M) := aL_e h (by omega)
    unfold FL_cell
    rw [hl, b1_s, if_neg (fun z => c ((nI_leI (by omega) (by omega)).mp z)), aI_e4 h (by omega) (by omega), b1_s, b1_s, e]
theorem ivS_sub {c : Nat} {A : AS} {L L' : List AS} {K : Nat → Option AS} (h : ivS c (A, L, K)) (hL : ∀ B, B ∈ L' → B ∈ L) : ivS c (A, L', K) := ⟨h.1, fun B hB => h.2.1 B (hL B hB), h.2.2⟩
section LW
variable {tst : Nat → Nat} {p0 n M : Nat} {g : Nat → Int32}
theorem law_L {σ0 : qH} (hM : M ≤ 260) (hp0 : p0 < n) (hp : σ0 p0 = some (.inl (4, (M, .inl g)))) {T : Nat} (hT : T ≤ 34) : ∀ (d k r : Nat) (S : SS), k + d = T → ivS k S → Ht (At2 σ0 n (n + 136) S S) (fun _ => True) (FL_law_L34 tst p0 n (n + 136) (nI T) (d + 1 + r) 1 (nI k)) (fun z => (1, z))
  | 0, k, r, S, h, hS => by
    rw [show 0 + 1 + r = r + 1 by omega]
    refine ht_eq (fun σ => FL_law_L34.eq_2 ..) ?_
    refine ht_pos ((nI_leI (by omega) (by omega)).mpr (by omega)) ?_
    exact fun σ _ => ⟨σ, rfl, trivial⟩
  | d + 1, k, r, S, h, hS => by
    have hd : Apt n (n + 136) := Or.inl (by omega)
    obtain ⟨X, hX, hc⟩ := cell_e (p0 := p0) (M := M) (k := 1 + k) (g := g) (by omega) (by omega)
    have dv : ∀ {a d : Nat}, a < 2 ^ 31 → 0 < d → d < 2 ^ 31 → nI a / nI d = nI (a / d) := fun ha h0 hd => pk_div ha h0 hd
    have d3 : nI X / (3 : Int32) = nI (X / 3) := dv (d := 3) hX (by omega) (by omega)
    have d7 : nI X / (7 : Int32) = nI (X / 7) := dv (d := 7) hX (by omega) (by omega)
    have d11 : nI X / (11 : Int32) = nI (X / 11) := dv (d := 11) hX (by omega) (by omega)
    have r5 : irm (nI X) (100000 : Int32) = nI (X % 100000) := irm_n (d := 100000) hX (by omega) (by omega)
    have r3 : irm (nI X) (1000 : Int32) = nI (X % 1000) := irm_n (d := 1000) hX (by omega) (by omega)
    have r4 : irm (nI X) (5000 : Int32) = nI (X % 5000) := irm_n (d := 5000) hX (by omega) (by omega)
    obtain ⟨v, S', ho, hi⟩ := act_e (tst := tst) hS hX
    rw [show d + 1 + 1 + r = (d + 1 + r) + 1 by omega]
    refine ht_eq (fun σ => FL_law_L34.eq_2 ..) ?_
    refine ht_neg (fun z => absurd ((nI_leI (by omega) (by omega)).mp z) (by omega)) ?_
    refine ht_neg (by decide) ?_
    rw [one_p]
    refine ht_b1 (fun σ hσ => hc σ ((hσ.2.2 p0 (by omega) (by omega)).trans hp)) ?_
    simp only [d3, d7, d11, r5, r3, r4]
    refine ht_seq (op_p hd (ho n) σ0) ?_
    refine ht_seq (op_q hd (refuses_e (by omega)) σ0) ?_
    obtain ⟨A, L, K⟩ := S'
    have hA : okA A := hi.1.1
    obtain ⟨L', hL', hdr⟩ := ldrops_e (tst := tst) (p := n) (q := n + 136) (A := A) (L := (L.take 13).take 13) (K := K) (X := X / 11) hd hA (by omega)
    refine ht_seq (K := At2 σ0 n (n + 136) (A, L', K) (A, L', K)) (v := 1) ?_ ?_
    · refine ht_neg (by decide) ?_
      refine ht_seq (op_q hd (ho (n + 136)) σ0) ?_
      refine ht_pos rfl ?_
      refine ht_seq (op_q hd (refuses_e (by omega)) σ0) ?_
      refine ht_neg (by decide) ?_
      refine ht_seq (alike_e hd (by omega) σ0) ?_
      refine ht_neg (by decide) ?_
      refine ht_bc (K := At2 σ0 n (n + 136) (A, L, K) (A, L, K)) ?_ ?_
      · by_cases c : irm (nI k) (2 : Int32) = 0
        · refine ht_pos c ?_
          refine ht_seq (op_p hd (holds_e hi (by omega) (by omega)) σ0) ?_
          refine ht_neg (by decide) ?_
          exact ht_ret
        · refine ht_neg c ?_
          refine ht_seq (op_q hd (holds_e hi (by omega) (by omega)) σ0) ?_
          refine ht_neg (by decide) ?_
          exact ht_ret
      refine ht_seq (lsurv_e hd hA (by omega) σ0) ?_
      refine ht_neg (by decide) ?_
      refine ht_seq (hdr σ0) ?_
      refine ht_neg (by decide) ?_
      exact ht_ret
    · rw [nI_1]
      exact law_L hM hp0 hp hT d (k + 1) r (A, L', K) (by omega) (ivS_sub hi (fun B hB => List.mem_of_mem_take (List.mem_of_mem_take (hL' B hB))))
theorem law_true {σ : qH} (hM : M ≤ 260) (hp0 : p0 < n) (hp : σ p0 = some (.inl (4, (M, .inl g)))) : ∃ σ', FL_law tst p0 σ n = some (1, σ') := by
  obtain ⟨s1, e1, h1, o1⟩ := init6 (σ := qU σ n (.inr (4, [.null, .null, .null, .null, .null, .null, .null]))) (n := n) (f := f0) qU_s
  have o1' : ∀ a, a < n → s1 a = σ a := fun a ha => by rw [o1 a (by omega)]; exact qU_n (by omega)
  obtain ⟨s2, e2, h2, o2⟩ := init6 (σ := qU s1 (n + 136) (.inr (4, [.null, .null, .null, .null, .null, .null, .null]))) (n := n + 136) (f := f0) qU_s
  have o2' : Ch s1 s2 (n + 136) (n + 136 + 135) := fun a ha => by rw [o2 a ha]; exact qU_n (by omega)
  have hS : okS newA [] (fun _ => none) 0 f0 := ⟨newA_ok, fun B hB => (by cases hB), fun i B hi hB => (by cases hB), Nat.zero_le _, fun i hi => absurd hi (Nat.not_lt_zero _)⟩
  have b1' : Ob s2 n (newA, [], fun _ => none) := ⟨C_all h1 (fun a ha hb => o2' a (by omega)), hS⟩
  have b2' : Ob s2 (n + 136) (newA, [], fun _ => none) := ⟨h2, hS⟩
  have hp2 : s2 p0 = some (.inl (4, (M, .inl g))) := by rw [o2' _ (by omega), o1' _ hp0]; exact hp
  have i0 : ivS 0 (newA, [], fun _ => none) := ⟨⟨newA_ok, Nat.zero_le _, Nat.le_refl _, fun t ht => Nat.le_refl _⟩, fun B hB => (by cases hB), fun i B hi hB => (by cases hB)⟩
  obtain ⟨X, hX, hc⟩ := cell_e (p0 := p0) (M := M) (k := 0) (g := g) (by omega) (by omega)
  have r21 : irm (nI X) (21 : Int32) = nI (X % 21) := irm_n (d := 21) hX (by omega) (by omega)
  have e3 : (14 : Int32) + nI (X % 21) = nI (14 + X % 21) := nI_add 14 _
  obtain ⟨r, hr⟩ : ∃ r, 36 = (14 + X % 21) + 1 + r := ⟨35 - (14 + X % 21), by omega⟩
  have hl := law_L (tst := tst) (σ0 := s2) hM hp0 hp2 (T := 14 + X % 21) (by omega) (14 + X % 21) 0 r (newA, [], fun _ => none) (by omega) i0
  rw [← hr] at hl
  obtain ⟨σ', e, -⟩ := hl s2 ⟨b1', b2', fun _ _ _ => rfl⟩
  have e' : FL_law_L34 tst p0 n (n + 136) (nI (14 + X % 21)) 36 1 0 s2 = some (1, σ') := e
  have e2' : FX6_init (n + 136) (qU s1 (n + 136) (.inr (4, [.null, .null, .null, .null, .null, .null, .null]))) (n + 137) = some s2 := e2
  have hc' : FL_cell p0 0 s2 = some (nI X) := hc s2 hp2
  refine ⟨σ', ?_⟩
  unfold FL_law
  rw [b1_s, e1, b1_s, b1_s, e2', b1_s, hc', b1_s, r21, e3, e', b2_s, if_pos (Or.inr rfl)]
end LW
