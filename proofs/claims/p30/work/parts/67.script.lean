/-! Layer 2: a command of a script; the class's. -/
theorem irm_n {a d : Nat} (ha : a < 2 ^ 31) (h0 : 0 < d) (hd : d < 2 ^ 31) : irm (nI a) (nI d) = nI (a % d) := pk_rem ha h0 hd
theorem prs_b {p : Nat → Nat → Prop} [∀ i j, Decidable (p i j)] {n : Nat} (h : n ≤ 16) : prs p n ≤ 256 := by
  unfold prs
  have h1 : ∀ k, k < n → fb_sm (fun d => if p k (k + 1 + d) then 1 else 0) (n - (k + 1)) ≤ 16 := fun k hk => by
    have := fsm_b (f := fun d => if p k (k + 1 + d) then 1 else 0) (b := 1) (n - (k + 1)) (fun d hd => by
      show (if p k (k + 1 + d) then 1 else 0) ≤ 1
      split <;> omega)
    omega
  have := fsm_b (f := fun k => fb_sm (fun d => if p k (k + 1 + d) then 1 else 0) (n - (k + 1))) (b := 16) n h1
  have h2 : n * 16 ≤ 16 * 16 := Nat.mul_le_mul_right _ h
  omega
section SC
variable {n N : Nat} {A0 : AS} {L : List AS} {K : Nat → Option AS} {f : Nat → Nat}
end SC
