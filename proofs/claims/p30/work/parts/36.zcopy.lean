/-! Layer 2: the reference's copies; a row within a longer array. -/
def isZa (σ : qH) (a N o : Nat) (A : AS) : Prop := ∃ z : Nat → Int32, σ a = some (iA N z) ∧ zR A (fun j => z (o + j))
theorem zR_c {A : AS} {z z' : Nat → Int32} (h : zR A z) (hA : okA A) (e : ∀ j, j < 142 → z' j = z j) : zR A z' := by
  have n16' : (aM A).length ≤ 16 := hA.1
  obtain ⟨h0, h1, h2, h3, h4, h5, h6, hs, ht', hv, hm⟩ := h
  refine ⟨?_, ?_, ?_, ?_, ?_, ?_, ?_, fun i hi => ?_, fun i hi => ⟨?_, ?_, ?_⟩, fun i hi => ?_, fun k hk j hj => ?_⟩ <;> rw [e _ (by omega)]
  · exact h0
  · exact h1
  · exact h2
  · exact h3
  · exact h4
  · exact h5
  · exact h6
  · exact hs i hi
  · exact (ht' i hi).1
  · exact (ht' i hi).2.1
  · exact (ht' i hi).2.2
  · exact hv i hi
  · exact hm k hk j hj
def cpz (f g : Nat → Int32) (o1 o2 y e : Nat) : Nat → Int32 := fun j => if o2 + y ≤ j ∧ j < o2 + e then f (o1 + (j - o2)) else g j
theorem cpz_in {f g : Nat → Int32} {o1 o2 j : Nat} (h : j < 142) : cpz f g o1 o2 0 142 (o2 + j) = f (o1 + j) := by
  unfold cpz; rw [if_pos (by omega), show o2 + j - o2 = j by omega]
theorem cpz_out {f g : Nat → Int32} {o1 o2 j : Nat} (h : j < o2 ∨ o2 + 142 ≤ j) : cpz f g o1 o2 0 142 j = g j := by
  unfold cpz; rw [if_neg (by omega)]
/-- the beginning: a new parish -/
abbrev newA : AS := ([], fun _ => 5, fun _ => 0, fun _ => 0, fun _ => -1, fun i => if i = 0 then 1 else 5, (0, 0, 0, 0))
theorem newA_ok : okA newA := ⟨Nat.zero_le _, fun k hk => absurd hk (Nat.not_lt_zero _), fun _ _ => (by show 5 ≤ 9; omega), (by show 1 ≤ 5; omega), (by show 5 ≤ 50; omega)⟩
def clz (g : Nat → Int32) (e : Nat) : Nat → Int32 := fun j => if j < e then (if j < 9 then 0 else if j < 15 then 5 else if j < 27 then 0 else if j < 30 then -1 else 0) else g j
