/-! Layer 2: class and reference side by side: what one call of the law gives. -/
abbrev oJ (g : Nat → Int64) : qE := .inl (3, (1, .inr (.inl g)))
theorem sJ_n {σ : qH} {a n i : Nat} {g : Nat → Int64} {x : Int64} (h : σ a = some (.inl (3, (n, .inr (.inl g))))) (hi : i < n) (hn : n < 2 ^ 31) : sJ σ a (nI i) x = some (qU σ a (.inl (3, (n, .inr (.inl (vp_updL g i x)))))) := by
  have h2 := qin_n hi hn
  unfold sJ
  rw [h]
  show (if 3 = 3 ∧ qin (nI i) n then some (qU σ a (.inl (3, (n, .inr (.inl (vp_updL g (nI i).toNatClampNeg x)))))) else none) = _
  rw [if_pos ⟨rfl, h2⟩, nI_clamp (by omega)]
theorem aJ_n {σ : qH} {a n i : Nat} {g : Nat → Int64} (h : σ a = some (.inl (3, (n, .inr (.inl g))))) (hi : i < n) (hn : n < 2 ^ 31) : aJ σ a (nI i) = some (g i) := by
  have h2 := qin_n hi hn
  unfold aJ
  rw [h]
  show (if 3 = 3 ∧ qin (nI i) n then some (g (nI i).toNatClampNeg) else none) = _
  rw [if_pos ⟨rfl, h2⟩, nI_clamp (by omega)]
theorem sJ_e {σ : qH} {a : Nat} {g : Nat → Int64} {x : Int64} (h : σ a = some (oJ g)) : sJ σ a 0 x = some (qU σ a (oJ (vp_updL g 0 x))) := sJ_n (i := 0) h (by omega) (by omega)
theorem aJ_e {σ : qH} {a : Nat} {g : Nat → Int64} (h : σ a = some (oJ g)) : aJ σ a 0 = some (g 0) := aJ_n (i := 0) h (by omega) (by omega)
theorem updL_0 {g : Nat → Int64} {x : Int64} : vp_updL g 0 x 0 = x := by simp [vp_updL]
theorem bc2_s {β : Type} {a : Int32} {s : qH} {f : Int32 → qH → Option β} {g : String → qH → Option β} : bc2 (some (.inl (a, s))) f g = f a s := rfl
theorem bc2_e {β : Type} {e : String} {s : qH} {f : Int32 → qH → Option β} {g : String → qH → Option β} : bc2 (some (.inr (e, s))) f g = g e s := rfl
theorem bc_s {α β ε : Type} {a : α} {f : α → Option β} {g : ε → Option β} : bc (some (.inl a)) f g = f a := rfl
theorem bc_e {α β ε : Type} {e : ε} {f : α → Option β} {g : ε → Option β} : bc (some (.inr e)) f g = g e := rfl
section WR
variable {σ σ1 : qH} {n N N' : Nat} {A A' : AS} {L L' : List AS} {K K' : Nat → Option AS} {f f' : Nat → Nat} {rf v k : Int32} {r1 : Option (Int32 × qH)} {r2 : qH → Option (Int32 × qH)}
theorem okS_rem (h : okS A L K N f) (hA : okA A') : okS A' ((A :: L).take 14) K N f := by
  refine ⟨hA, fun B hB => ?_, h.2.2⟩
  have := List.mem_of_mem_take hB
  rcases List.mem_cons.mp this with e | e
  · rw [e]; exact h.1
  · exact h.2.1 B e
end WR
