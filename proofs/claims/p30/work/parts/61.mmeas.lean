/-! Layer 2: the reference reads a measure of a text. -/
theorem fold_ok {s x : Nat} : ∀ (l : List Me) (n : Nat) (B : AS), okA B → okA (l.foldl (svF s x) (n, B)).2
  | [], _, _, h => h
  | y :: l, n, B, h => by
    have h2 : okA (svF s x (n, B) y).2 := svF_ok h
    show okA (l.foldl (svF s x) (svF s x (n, B) y)).2
    generalize svF s x (n, B) y = z at h2
    obtain ⟨z1, z2⟩ := z
    exact fold_ok l z1 z2 h2
theorem fold_b {s x : Nat} : ∀ (l : List Me) (n : Nat) (B : AS), (l.foldl (svF s x) (n, B)).1 ≤ n + l.length
  | [], n, B => Nat.le_refl _
  | y :: l, n, B => by
    have h2 : (svF s x (n, B) y).1 ≤ n + 1 := by
      unfold svF
      split
      · show n + (if telP y x then 1 else 0) ≤ n + 1
        split <;> omega
      · show n ≤ n + 1; omega
    show (l.foldl (svF s x) (svF s x (n, B) y)).1 ≤ _
    generalize svF s x (n, B) y = z at h2
    obtain ⟨z1, z2⟩ := z
    have := fold_b (s := s) (x := x) l z1 z2
    have h3 : z1 ≤ n + 1 := h2
    rw [List.length_cons]; omega
theorem flA_ok {B : AS} {s : Nat} (h : okA B) : okA (flA B s) := by
  obtain ⟨h1, h2, h3, h4, h5⟩ := h
  refine ⟨Nat.le_trans (List.length_filter_le _ _) h1, fun k hk => ?_, h3, h4, h5⟩
  have hk' : k < ((aM B).filter (fun m => decide (m 0 ≠ s))).length := hk
  have e : mk (flA B s) k = ((aM B).filter (fun m => decide (m 0 ≠ s)))[k] := by
    show ((aM B).filter (fun m => decide (m 0 ≠ s))).getD k M0 = _
    rw [List.getD_eq_getElem?_getD, List.getElem?_eq_getElem hk']; rfl
  have hm : mk (flA B s) k ∈ (aM B).filter (fun m => decide (m 0 ≠ s)) := by rw [e]; exact List.getElem_mem _
  obtain ⟨j, hj, ej⟩ := List.getElem_of_mem ((List.mem_filter.mp hm).1)
  have := h2 j hj
  rw [show mk B j = (aM B)[j] by show (aM B).getD j M0 = _; rw [List.getD_eq_getElem?_getD, List.getElem?_eq_getElem hj]; rfl, ej] at this
  exact this
theorem srv_ok {A : AS} {s x : Nat} (hA : okA A) : okA (srv A s x).2 := flA_ok (fold_ok _ _ _ hA)
theorem srv_b {A : AS} {s x : Nat} (hA : okA A) : (srv A s x).1 ≤ 16 := by
  have h1 := fold_b (s := s) (x := x) (aM A) 0 A
  have h16 := hA.1
  show ((aM A).foldl (svF s x) (0, A)).1 ≤ 16
  omega
section RM
variable {σ : qH} {m N k p o : Nat} {A : AS} {f : Nat → Nat} {ts : Nat → Int32} {rf : Int32}
end RM
