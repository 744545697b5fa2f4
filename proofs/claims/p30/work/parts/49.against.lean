/-! Layer 2: the class's loudest against. -/
def agP (A : AS) (x k : Nat) : Option Nat → Option Nat
  | none => some k
  | some j => if louder A x (mk A k) (mk A j) then some k else some j
def agS (A : AS) (s x k : Nat) (o : Option Nat) : Option Nat := if mk A k 0 = s then (if telP (mk A k) x then o else agP A x k o) else o
def agL (A : AS) (s x : Nat) : Nat → Nat → Option Nat → Option Nat
  | 0, _, o => o
  | d + 1, k, o => agL A s x d (k + 1) (agS A s x k o)
def oN (n : Nat) (o : Option Nat) : Prop := ∀ j, o = some j → j < n
theorem agP_n {A : AS} {x k n : Nat} {o : Option Nat} (hk : k < n) (h : oN n o) : oN n (agP A x k o) := by
  intro j hj
  cases o with
  | none => cases hj; exact hk
  | some i =>
    have hj' : (if louder A x (mk A k) (mk A i) = true then some k else some i) = some j := hj
    by_cases c : louder A x (mk A k) (mk A i) = true
    · rw [if_pos c] at hj'; cases hj'; exact hk
    · rw [if_neg c] at hj'; exact h j hj'
theorem agS_n {A : AS} {s x k n : Nat} {o : Option Nat} (hk : k < n) (h : oN n o) : oN n (agS A s x k o) := by
  unfold agS
  split
  · split
    · exact h
    · exact agP_n hk h
  · exact h
theorem enc_m {j : Nat} (h : j < 100) : ¬ enc (some j) = (-1 : Int32) := fun hh => by
  have := congrArg Int32.toInt hh
  rw [show enc (some j) = nI j from rfl, nI_toInt (by omega), show (-1 : Int32).toInt = -1 from rfl] at this
  omega
theorem laL {σ : qH} {q s x : Nat} {A : AS} (h : isP σ q A) (hA : okA A) (hs : s < 2 ^ 31) (hx : x < 2 ^ 30) : ∀ (d k q2 : Nat) (o : Option Nat), k + d = nM A → oN (nM A) o → FX2_loudestAgainst_L5 q (nI s) (nI x) σ (d + 1 + q2) (enc o) (nI k) = some (enc (agL A s x d k o))
  | 0, k, q2, o, hk, ho => by
    have n31 := n16 hA
    have e : k = nM A := by omega
    subst e
    rw [show 0 + 1 + q2 = q2 + 1 by omega, FX2_loudestAgainst_L5]
    simp only [p_cnt h, b1_s, le_nI n31 n31, Nat.le_refl, if_true]; rfl
  | d + 1, k, q2, o, hk, ho => by
    have n31 := n16 hA
    have n16' : nM A ≤ 16 := hA.1
    have hkn : k < nM A := by omega
    have ih := laL h hA hs hx d (k + 1) q2 (agS A s x k o) (by omega) (agS_n hkn ho)
    rw [show d + 1 + 1 + q2 = (d + 1 + q2) + 1 by omega, FX2_loudestAgainst_L5, agL, ← ih]
    simp only [p_cnt h, b1_s, le_nI n31 (show k < 2 ^ 31 by omega), if_neg (show ¬ nM A ≤ k by omega), isOf_e h hA hkn hs, tells_e h hA hkn (show x < 2 ^ 31 by omega), bI_ite, nI_1]
    by_cases c1 : mk A k 0 = s
    · by_cases c2 : lst (mk A k) ≤ x ∧ x ≤ gst (mk A k)
      · rw [if_pos c1, if_pos c2, b1_s, show agS A s x k o = o by unfold agS; rw [if_pos c1, if_pos c2]]
      · rw [show agS A s x k o = agP A x k o by unfold agS; rw [if_pos c1, if_neg c2]]
        cases o with
        | none => rw [if_pos c1, if_neg c2, if_pos (show enc none = (-1 : Int32) from rfl), b1_s]; rfl
        | some j =>
          have hj := ho j rfl
          have e1 : FX2_isLouder q (nI k) (enc (some j)) (nI x) σ = some (if louder A x (mk A k) (mk A j) then 1 else 0) := isLouder_e h hA hkn hj hx
          have e2 : agP A x k (some j) = if louder A x (mk A k) (mk A j) = true then some k else some j := rfl
          rw [if_pos c1, if_neg c2, if_neg (enc_m (by omega)), e1, b1_s, e2]
          by_cases c3 : louder A x (mk A k) (mk A j) = true
          · rw [if_pos c3, if_pos c3, if_neg (show ¬ (1 : Int32) = 0 by decide), b1_s]; rfl
          · rw [if_neg c3, if_neg c3, if_pos (show (0 : Int32) = 0 from rfl), b1_s]
    · rw [if_neg c1, b1_s, show agS A s x k o = o by unfold agS; rw [if_neg c1]]
theorem loudestAgainst_e {σ : qH} {q s x : Nat} {A : AS} (h : isP σ q A) (hA : okA A) (hs : s < 2 ^ 31) (hx : x < 2 ^ 30) : FX2_loudestAgainst q (nI s) (nI x) σ = some (enc (agL A s x (nM A) 0 none)) := by
  have n16' : nM A ≤ 16 := hA.1
  obtain ⟨q3, hq⟩ := qf (n := nM A) (by omega)
  have e := laL h hA hs hx (nM A) 0 q3 none (by omega) (fun j hj => by cases hj)
  rw [← hq] at e
  have e' : FX2_loudestAgainst_L5 q (nI s) (nI x) σ qfuel (-1) 0 = some (enc (agL A s x (nM A) 0 none)) := e
  unfold FX2_loudestAgainst
  rw [p_gC h, b1_s, e', b1_s]
