/-! Layer 2: a command of a script; the class's. -/
theorem irm_n {a d : Nat} (ha : a < 2 ^ 31) (h0 : 0 < d) (hd : d < 2 ^ 31) : irm (nI a) (nI d) = nI (a % d) := pk_rem ha h0 hd
def evK : Nat → AS → AS
  | 0, A => A
  | k + 1, A => evK k (eve A)
theorem evK_ok : ∀ (k : Nat) (A : AS), okA A → okA (evK k A)
  | 0, _, h => h
  | k + 1, A, h => evK_ok k (eve A) (eve_ok h)
theorem prs_b {p : Nat → Nat → Prop} [∀ i j, Decidable (p i j)] {n : Nat} (h : n ≤ 16) : prs p n ≤ 256 := by
  unfold prs
  have h1 : ∀ k, k < n → fb_sm (fun d => if p k (k + 1 + d) then 1 else 0) (n - (k + 1)) ≤ 16 := fun k hk => by
    have := fsm_b (f := fun d => if p k (k + 1 + d) then 1 else 0) (b := 1) (n - (k + 1)) (fun d hd => by
      show (if p k (k + 1 + d) then 1 else 0) ≤ 1
      split <;> omega)
    omega
  have := fsm_b (f := fun k => fb_sm (fun d => if p k (k + 1 + d) then 1 else 0) (n - (k + 1))) (b := 16) n h1
  have h2 : n * 16 ≤ 16 * 16 := Nat.mul_le_mul_right _ h
  omega
abbrev npq (A : AS) : Nat := prs (fun i j => quar (mk A i) (mk A j)) (nM A)
abbrev sS (g : Nat) : Nat := g / 10000 % 10
abbrev mmF (g : Nat) : Me := mm7 (g / 10000 % 10) (g / 1000 % 10) 2 (g % 1000) (g % 1000) 0 0
/-- what a group of six digits does, and whether it succeeds -/
def scC (g : Nat) (A : AS) : Bool × AS :=
  if g / 100000 = 1 then (if g / 10000 % 10 < 3 ∧ g / 1000 % 10 < 6 ∧ 0 < g % 1000 ∧ nM A < 16 then (true, addA A (mmF g)) else (false, A))
  else if g / 100000 = 2 then (if g % 1000 = 0 ∧ g / 1000 % 100 < nM A then (true, drpA A (g / 1000 % 100)) else (false, A))
  else if g / 100000 = 3 then (if g / 10 % 1000 = 0 ∧ g / 10000 % 10 < 6 then (true, truA A (g / 10000 % 10) (g % 10)) else (false, A))
  else if g / 100000 = 4 then (if g / 10 % 10000 = 0 then (true, evK (g % 10) A) else (false, A))
  else if g / 100000 = 5 then (if g / 1000 % 10 = 0 ∧ g / 10000 % 10 < 3 ∧ 0 < g % 1000 then (true, (srv A (g / 10000 % 10) (g % 1000)).2) else (false, A))
  else if g / 100000 = 6 then (if g / 1000 % 10 = 0 ∧ g / 10000 % 10 < 3 ∧ low A (g / 10000 % 10) ≤ g % 1000 then (true, A) else (false, A))
  else if g / 100000 = 7 then (if g % 100 = 0 ∧ g / 10000 % 10 < 3 ∧ g / 100 % 100 ≤ top A (g / 10000 % 10) then (true, A) else (false, A))
  else if g / 100000 = 8 then (if g / 10 % 1000 = 0 ∧ g / 10000 % 10 < 6 ∧ g % 10 ≤ aT A (g / 10000 % 10) then (true, A) else (false, A))
  else if g / 100000 = 9 then (if g / 100 % 1000 = 0 ∧ npq A ≤ g % 100 then (true, A) else (false, A))
  else (false, A)
abbrev b01 (b : Bool) : Int32 := if b = true then 1 else 0
theorem mmF_ok {g : Nat} (h1 : g / 10000 % 10 < 3) (h2 : g / 1000 % 10 < 6) (h3 : 0 < g % 1000) : okM (mmF g) := mm7_ok (by omega) (by omega) (by omega) (by omega) (by omega) (by omega) (by omega) (by omega) (by omega) (by omega)
theorem scC_ok {g : Nat} {A : AS} (hA : okA A) : okA (scC g A).2 := by
  unfold scC
  by_cases k1 : g / 100000 = 1
  · rw [if_pos k1]; split
    · rename_i c; exact addA_ok hA c.2.2.2 (mmF_ok c.1 c.2.1 c.2.2.1)
    · exact hA
  rw [if_neg k1]
  by_cases k2 : g / 100000 = 2
  · rw [if_pos k2]; split
    · rename_i c; exact drpA_ok hA c.2
    · exact hA
  rw [if_neg k2]
  by_cases k3 : g / 100000 = 3
  · rw [if_pos k3]; split
    · rename_i c; exact truA_ok hA (by omega)
    · exact hA
  rw [if_neg k3]
  by_cases k4 : g / 100000 = 4
  · rw [if_pos k4]; split
    · exact evK_ok _ _ hA
    · exact hA
  rw [if_neg k4]
  by_cases k5 : g / 100000 = 5
  · rw [if_pos k5]; split
    · exact srv_ok hA
    · exact hA
  rw [if_neg k5]
  by_cases k6 : g / 100000 = 6
  · rw [if_pos k6]; split <;> exact hA
  rw [if_neg k6]
  by_cases k7 : g / 100000 = 7
  · rw [if_pos k7]; split <;> exact hA
  rw [if_neg k7]
  by_cases k8 : g / 100000 = 8
  · rw [if_pos k8]; split <;> exact hA
  rw [if_neg k8]
  by_cases k9 : g / 100000 = 9
  · rw [if_pos k9]; split <;> exact hA
  rw [if_neg k9]; exact hA
section SC
variable {n N : Nat} {A0 : AS} {L : List AS} {K : Nat → Option AS} {f : Nat → Nat}
theorem evC {q : Nat} : ∀ (d k j : Nat) (A : AS) (σ : qH) (t : Nat), k + d = t → t < 100 → isP σ q A → okA A → ∃ σ', FX3_passEvenings_L2 q (nI t) (d + 1 + j) (nI k) σ = some σ' ∧ isP σ' q (evK d A) ∧ Off σ σ' q
  | 0, k, j, A, σ, t, hk, ht, hp, hA => by
    refine ⟨σ, ?_, hp, Off.rf⟩
    rw [show 0 + 1 + j = j + 1 by omega, FX3_passEvenings_L2, if_pos ((nI_leI (by omega) (by omega)).mpr (by omega))]
  | d + 1, k, j, A, σ, t, hk, ht, hp, hA => by
    obtain ⟨σ1, e1, p1, o1⟩ := passEvening_e hp hA
    obtain ⟨σ2, e2, p2, o2⟩ := evC d (k + 1) j (eve A) σ1 t (by omega) ht p1 (eve_ok hA)
    refine ⟨σ2, ?_, p2, o1.tr o2⟩
    rw [show d + 1 + 1 + j = (d + 1 + j) + 1 by omega, FX3_passEvenings_L2, if_neg (fun hh => absurd ((nI_leI (by omega) (by omega)).mp hh) (by omega)), e1, b2_s, nI_1, e2]
theorem gdx {x : Int32} {σ : qH} (h : x = 0 ∨ x = 1) : (if x = 0 ∨ x = 1 then some (x, σ) else none) = some (x, σ) := if_pos h
theorem b01_g {b : Bool} : b01 b = 0 ∨ b01 b = 1 := by cases b; exact Or.inl rfl; exact Or.inr rfl
/-- the class: one group over the copy -/
theorem sucC {σ : qH} {g : Nat} {A : AS} (hc : isC σ n A0 L K N f) (hp : isP σ (n + 8) A) (hA : okA A) (hg : g < 1000000) : ∃ σ', FX3_succeeds (n + 8) (n + 120) (nI g) σ = some (b01 (scC g A).1, σ') ∧ isC σ' n A0 L K N f ∧ isP σ' (n + 8) (scC g A).2 ∧ Ch σ σ' n (n + 135) := by
  have d5 : nI g / (100000 : Int32) = nI (g / 100000) := pk_div (d := 100000) (by omega) (by omega) (by omega)
  have d4 : nI g / (10000 : Int32) = nI (g / 10000) := pk_div (d := 10000) (by omega) (by omega) (by omega)
  have d3 : nI g / (1000 : Int32) = nI (g / 1000) := pk_div (d := 1000) (by omega) (by omega) (by omega)
  have d2 : nI g / (100 : Int32) = nI (g / 100) := pk_div (d := 100) (by omega) (by omega) (by omega)
  have d1 : nI g / (10 : Int32) = nI (g / 10) := pk_div (d := 10) (by omega) (by omega) (by omega)
  have r1 : irm (nI (g / 10000)) (10 : Int32) = nI (g / 10000 % 10) := irm_n (d := 10) (by omega) (by omega) (by omega)
  have r2 : irm (nI (g / 1000)) (10 : Int32) = nI (g / 1000 % 10) := irm_n (d := 10) (by omega) (by omega) (by omega)
  have r3 : irm (nI g) (1000 : Int32) = nI (g % 1000) := irm_n (d := 1000) (by omega) (by omega) (by omega)
  have r4 : irm (nI (g / 1000)) (100 : Int32) = nI (g / 1000 % 100) := irm_n (d := 100) (by omega) (by omega) (by omega)
  have r5 : irm (nI (g / 10)) (1000 : Int32) = nI (g / 10 % 1000) := irm_n (d := 1000) (by omega) (by omega) (by omega)
  have r6 : irm (nI g) (10 : Int32) = nI (g % 10) := irm_n (d := 10) (by omega) (by omega) (by omega)
  have r7 : irm (nI (g / 10)) (10000 : Int32) = nI (g / 10 % 10000) := irm_n (d := 10000) (by omega) (by omega) (by omega)
  have r8 : irm (nI g) (100 : Int32) = nI (g % 100) := irm_n (d := 100) (by omega) (by omega) (by omega)
  have r9 : irm (nI (g / 100)) (100 : Int32) = nI (g / 100 % 100) := irm_n (d := 100) (by omega) (by omega) (by omega)
  have r10 : irm (nI (g / 100)) (1000 : Int32) = nI (g / 100 % 1000) := irm_n (d := 1000) (by omega) (by omega) (by omega)
  have z0 : ∀ x : Nat, x < 2 ^ 31 → (nI x = (0 : Int32)) = (x = 0) := fun x hx => eq_nI (b := 0) hx (by omega)
  have w : ∀ j : Nat, j < 10 → (nI (g / 100000) = nI j) = (g / 100000 = j) := fun j hj => eq_nI (by omega) (by omega)
  have w1 : (nI (g / 100000) = (1 : Int32)) = (g / 100000 = 1) := w 1 (by omega)
  have w2 : (nI (g / 100000) = (2 : Int32)) = (g / 100000 = 2) := w 2 (by omega)
  have w3 : (nI (g / 100000) = (3 : Int32)) = (g / 100000 = 3) := w 3 (by omega)
  have w4 : (nI (g / 100000) = (4 : Int32)) = (g / 100000 = 4) := w 4 (by omega)
  have w5 : (nI (g / 100000) = (5 : Int32)) = (g / 100000 = 5) := w 5 (by omega)
  have w6 : (nI (g / 100000) = (6 : Int32)) = (g / 100000 = 6) := w 6 (by omega)
  have w7 : (nI (g / 100000) = (7 : Int32)) = (g / 100000 = 7) := w 7 (by omega)
  have w8 : (nI (g / 100000) = (8 : Int32)) = (g / 100000 = 8) := w 8 (by omega)
  have w9 : (nI (g / 100000) = (9 : Int32)) = (g / 100000 = 9) := w 9 (by omega)
  have h16 : nM A ≤ 16 := hA.1
  unfold FX3_succeeds
  simp only [d5, d4, d3, d2, d1, r1, r2, r3, r4, r5, r6, r7, r8, r9, r10, w1, w2, w3, w4, w5, w6, w7, w8, w9, z0 (g % 1000) (by omega), z0 (g / 10 % 1000) (by omega), z0 (g / 10 % 10000) (by omega), z0 (g / 1000 % 10) (by omega), z0 (g % 100) (by omega), z0 (g / 100 % 1000) (by omega)]
  have no : ∃ σ', some ((0 : Int32), σ) = some (b01 false, σ') ∧ isC σ' n A0 L K N f ∧ isP σ' (n + 8) A ∧ Ch σ σ' n (n + 135) := ⟨σ, rfl, hc, hp, Ch.rf⟩
  have s3 : inZ (nI (g / 10000 % 10)) 0 2 ↔ g / 10000 % 10 < 3 := by rw [inZ_nI (by omega)]; omega
  have t6 : inZ (nI (g / 10000 % 10)) 0 5 ↔ g / 10000 % 10 < 6 := by rw [inZ_nI (by omega)]; omega
  unfold scC
  by_cases k1 : g / 100000 = 1
  · rw [if_pos k1, if_pos k1]
    have t6' : inZ (nI (g / 1000 % 10)) 0 5 ↔ g / 1000 % 10 < 6 := by rw [inZ_nI (by omega)]; omega
    by_cases c : g / 10000 % 10 < 3 ∧ g / 1000 % 10 < 6 ∧ 0 < g % 1000 ∧ nM A < 16
    · have ff : fitP (nI 2) (nI (g % 1000)) (nI (g % 1000)) (nI 0) (nI 0) := Or.inr (Or.inr ⟨rfl, (inZ_nI (by omega)).mpr (by omega), (inZ_nI (by omega)).mpr (by omega), Int.le_refl _, rfl, rfl⟩)
      obtain ⟨σ1, e1, p1, o1⟩ := tryM_t (x := mmF g) hp hA (mmF_ok c.1 c.2.1 c.2.2.1) ff c.2.2.2
      have e1' : FX2_tryMeasure (n + 8) (nI (g / 10000 % 10)) (nI (g / 1000 % 10)) 2 (nI (g % 1000)) (nI (g % 1000)) 0 0 σ = some (1, σ1) := e1
      obtain ⟨c1, c2⟩ := C_copyP hc p1 o1
      rw [e1', b2_s, if_pos (Or.inr rfl), if_pos c]
      exact ⟨σ1, rfl, c1, p1, c2⟩
    · have e1 : FX2_tryMeasure (n + 8) (nI (g / 10000 % 10)) (nI (g / 1000 % 10)) 2 (nI (g % 1000)) (nI (g % 1000)) 0 0 σ = some (0, σ) := tryM_f hp hA (fun z => c ⟨s3.mp z.1, t6'.mp z.2.1, by
        rcases z.2.2.1 with z2 | z2 | z2
        · exact absurd z2.1 (by decide)
        · exact absurd z2.1 (by decide)
        · have := (inZ_nI (by omega)).mp z2.2.1; omega, z.2.2.2⟩)
      rw [e1, b2_s, if_pos (Or.inl rfl), if_neg c]
      exact no
  rw [if_neg k1, if_neg k1]
  by_cases k2 : g / 100000 = 2
  · rw [if_pos k2, if_pos k2]
    by_cases c0 : g % 1000 = 0
    · rw [if_pos c0]
      rcases tryDrop_e (x := nI (g / 1000 % 100)) hp hA with ⟨k, k1', k2', σ1, e1, p1, o1⟩ | ⟨k1', e1⟩
      · have : g / 1000 % 100 = k := (nI_eq (by omega) (by omega)).mp k2'
        obtain ⟨c1, c2⟩ := C_copyP hc p1 o1
        rw [e1, b2_s, if_neg (by decide), b2_s, if_pos (Or.inr rfl), if_pos ⟨c0, by omega⟩, this]
        exact ⟨σ1, rfl, c1, p1, c2⟩
      · rw [e1, b2_s, if_pos rfl, b2_s, if_pos (Or.inl rfl), if_neg (fun z => k1' ((inZ_nI (by omega)).mpr (by omega)))]
        exact no
    · rw [if_neg c0, b2_s, if_pos (Or.inl rfl), if_neg (fun z => c0 z.1)]
      exact no
  rw [if_neg k2, if_neg k2]
  by_cases k3 : g / 100000 = 3
  · rw [if_pos k3, if_pos k3]
    by_cases c0 : g / 10 % 1000 = 0
    · rw [if_pos c0]
      rcases tryTrust_e (x := nI (g / 10000 % 10)) (y := nI (g % 10)) hp with ⟨t, v, t1, v1, t2, v2, σ1, e1, p1, o1⟩ | ⟨k1', e1⟩
      · have et : g / 10000 % 10 = t := (nI_eq (by omega) (by omega)).mp t2
        have ev : g % 10 = v := (nI_eq (by omega) (by omega)).mp v2
        obtain ⟨c1, c2⟩ := C_copyP hc p1 o1
        rw [e1, b2_s, if_neg (by decide), b2_s, if_pos (Or.inr rfl), if_pos ⟨c0, by omega⟩, et, ev]
        exact ⟨σ1, rfl, c1, p1, c2⟩
      · rw [e1, b2_s, if_pos rfl, b2_s, if_pos (Or.inl rfl), if_neg (fun z => k1' ⟨t6.mpr z.2, (inZ_nI (by omega)).mpr (by omega)⟩)]
        exact no
    · rw [if_neg c0, b2_s, if_pos (Or.inl rfl), if_neg (fun z => c0 z.1)]
      exact no
  rw [if_neg k3, if_neg k3]
  by_cases k4 : g / 100000 = 4
  · rw [if_pos k4, if_pos k4]
    by_cases c0 : g / 10 % 10000 = 0
    · obtain ⟨q3, hq⟩ := qf (n := g % 10) (by omega)
      obtain ⟨σ1, e1, p1, o1⟩ := evC (q := n + 8) (g % 10) 0 q3 A σ (g % 10) (by omega) (by omega) hp hA
      rw [← hq] at e1
      have e1' : FX3_passEvenings_L2 (n + 8) (nI (g % 10)) qfuel 0 σ = some σ1 := e1
      have e2 : FX3_passEvenings (n + 8) (nI (g % 10)) σ = some (1, σ1) := by unfold FX3_passEvenings; rw [e1', b1_s]
      obtain ⟨c1, c2⟩ := C_copyP hc p1 o1
      rw [if_pos c0, e2, b2_s, if_neg (by decide), b2_s, if_pos (Or.inr rfl), if_pos c0]
      exact ⟨σ1, rfl, c1, p1, c2⟩
    · rw [if_neg c0, b2_s, if_pos (Or.inl rfl), if_neg c0]
      exact no
  rw [if_neg k4, if_neg k4]
  by_cases k5 : g / 100000 = 5
  · rw [if_pos k5, if_pos k5]
    by_cases c0 : g / 1000 % 10 = 0
    · rw [if_pos c0]
      rcases trySurvey_e (x := nI (g / 10000 % 10)) (y := nI (g % 1000)) hp hA with ⟨t, v, t1, v1, v1', t2, v2, σ1, e1, p1, ok1, o1⟩ | ⟨k1', e1⟩
      · have et : g / 10000 % 10 = t := (nI_eq (by omega) (by omega)).mp t2
        have ev : g % 1000 = v := (nI_eq (by omega) (by omega)).mp v2
        obtain ⟨c1, c2⟩ := C_copyP hc p1 o1
        rw [e1, b2_s, if_neg (by decide), b2_s, if_pos (Or.inr rfl), if_pos ⟨c0, by omega, by omega⟩, et, ev]
        exact ⟨σ1, rfl, c1, p1, c2⟩
      · rw [e1, b2_s, if_pos rfl, b2_s, if_pos (Or.inl rfl), if_neg (fun z => k1' ⟨s3.mpr z.2.1, (inZ_nI (by omega)).mpr (by omega)⟩)]
        exact no
    · rw [if_neg c0, b2_s, if_pos (Or.inl rfl), if_neg (fun z => c0 z.1)]
      exact no
  rw [if_neg k5, if_neg k5]
  by_cases k6 : g / 100000 = 6
  · rw [if_pos k6, if_pos k6]
    by_cases c0 : g / 1000 % 10 = 0
    · rw [if_pos c0]
      by_cases cs : g / 10000 % 10 < 3
      · obtain ⟨σ1, c', e1, g1, -, h1, o1⟩ := C_ends hc (s := g / 10000 % 10) hp hA (by omega) (by omega)
        have lr := low_r (A := A) (s := g / 10000 % 10)
        have p1 := isP_s hp (σ' := σ1) (fun a ha hb => o1 a (by omega))
        have e2 : FX3_lowestIsAtMost (n + 8) (n + 120) (nI (g / 10000 % 10)) (nI (g % 1000)) σ = some (b01 (decide (low A (g / 10000 % 10) ≤ g % 1000)), σ1) := by
          unfold FX3_lowestIsAtMost
          rw [isSteeple_e, b1_s, bI_t (s3.mpr cs), if_neg (by decide), e1, b1_s, lowest_e g1, b1_s]
          simp only [lt_nI (show g % 1000 < 2 ^ 31 by omega) (show low A (g / 10000 % 10) < 2 ^ 31 by omega)]
          by_cases cl : low A (g / 10000 % 10) ≤ g % 1000
          · rw [if_neg (by omega), b1_s, if_pos (Or.inr rfl), decide_eq_true cl]; rfl
          · rw [if_pos (by omega), b1_s, if_pos (Or.inl rfl), decide_eq_false cl]; rfl
        rw [e2, b2_s]
        by_cases cl : low A (g / 10000 % 10) ≤ g % 1000
        · rw [decide_eq_true cl, if_neg (by decide), b2_s, if_pos (Or.inr rfl), if_pos ⟨c0, cs, cl⟩]
          exact ⟨σ1, rfl, h1, p1, o1.ch (by omega) (by omega)⟩
        · rw [decide_eq_false cl, if_pos (show b01 false = 0 from rfl), b2_s, if_pos (Or.inl rfl), if_neg (fun z => cl z.2.2)]
          exact ⟨σ1, rfl, h1, p1, o1.ch (by omega) (by omega)⟩
      · have e2 : FX3_lowestIsAtMost (n + 8) (n + 120) (nI (g / 10000 % 10)) (nI (g % 1000)) σ = some (0, σ) := by
          unfold FX3_lowestIsAtMost
          rw [isSteeple_e, b1_s, bI_f (fun z => cs (s3.mp z)), if_pos rfl]
        rw [e2, b2_s, if_pos rfl, b2_s, if_pos (Or.inl rfl), if_neg (fun z => cs z.2.1)]
        exact no
    · rw [if_neg c0, b2_s, if_pos (Or.inl rfl), if_neg (fun z => c0 z.1)]
      exact no
  rw [if_neg k6, if_neg k6]
  by_cases k7 : g / 100000 = 7
  · rw [if_pos k7, if_pos k7]
    by_cases c0 : g % 100 = 0
    · rw [if_pos c0]
      by_cases cs : g / 10000 % 10 < 3
      · obtain ⟨σ1, c', e1, g1, -, h1, o1⟩ := C_ends hc (s := g / 10000 % 10) hp hA (by omega) (by omega)
        have vb := vot_b (s := g / 10000 % 10) (x := low A (g / 10000 % 10)) hA
        have p1 := isP_s hp (σ' := σ1) (fun a ha hb => o1 a (by omega))
        have e2 : FX3_mostIsAtLeast (n + 8) (n + 120) (nI (g / 10000 % 10)) (nI (g / 100 % 100)) σ = some (b01 (decide (g / 100 % 100 ≤ top A (g / 10000 % 10))), σ1) := by
          unfold FX3_mostIsAtLeast
          rw [isSteeple_e, b1_s, bI_t (s3.mpr cs), if_neg (by decide), e1, b1_s, most_e g1, b1_s]
          simp only [lt_nI (show top A (g / 10000 % 10) < 2 ^ 31 by show vot _ _ _ < _; omega) (show g / 100 % 100 < 2 ^ 31 by omega)]
          by_cases cl : g / 100 % 100 ≤ top A (g / 10000 % 10)
          · rw [if_neg (by omega), b1_s, if_pos (Or.inr rfl), decide_eq_true cl]; rfl
          · rw [if_pos (by omega), b1_s, if_pos (Or.inl rfl), decide_eq_false cl]; rfl
        rw [e2, b2_s]
        by_cases cl : g / 100 % 100 ≤ top A (g / 10000 % 10)
        · rw [decide_eq_true cl, if_neg (by decide), b2_s, if_pos (Or.inr rfl), if_pos ⟨c0, cs, cl⟩]
          exact ⟨σ1, rfl, h1, p1, o1.ch (by omega) (by omega)⟩
        · rw [decide_eq_false cl, if_pos (show b01 false = 0 from rfl), b2_s, if_pos (Or.inl rfl), if_neg (fun z => cl z.2.2)]
          exact ⟨σ1, rfl, h1, p1, o1.ch (by omega) (by omega)⟩
      · have e2 : FX3_mostIsAtLeast (n + 8) (n + 120) (nI (g / 10000 % 10)) (nI (g / 100 % 100)) σ = some (0, σ) := by
          unfold FX3_mostIsAtLeast
          rw [isSteeple_e, b1_s, bI_f (fun z => cs (s3.mp z)), if_pos rfl]
        rw [e2, b2_s, if_pos rfl, b2_s, if_pos (Or.inl rfl), if_neg (fun z => cs z.2.1)]
        exact no
    · rw [if_neg c0, b2_s, if_pos (Or.inl rfl), if_neg (fun z => c0 z.1)]
      exact no
  rw [if_neg k7, if_neg k7]
  by_cases k8 : g / 100000 = 8
  · rw [if_pos k8, if_pos k8]
    by_cases c0 : g / 10 % 1000 = 0
    · rw [if_pos c0, isTeller_e, b1_s]
      by_cases cs : g / 10000 % 10 < 6
      · have h9 := hA.2.2.1 (g / 10000 % 10) cs
        rw [bI_t (t6.mpr cs), if_neg (by decide), trustOf_e hp cs, b1_s]
        simp only [lt_nI (show aT A (g / 10000 % 10) < 2 ^ 31 by omega) (show g % 10 < 2 ^ 31 by omega)]
        by_cases cl : g % 10 ≤ aT A (g / 10000 % 10)
        · rw [if_neg (by omega), b1_s, if_pos (Or.inr rfl), if_pos ⟨c0, cs, cl⟩]
          exact ⟨σ, rfl, hc, hp, Ch.rf⟩
        · rw [if_pos (by omega), b1_s, if_pos (Or.inl rfl), if_neg (fun z => cl z.2.2)]
          exact no
      · rw [bI_f (fun z => cs (t6.mp z)), if_pos rfl, b1_s, if_pos (Or.inl rfl), if_neg (fun z => cs z.2.1)]
        exact no
    · rw [if_neg c0, b1_s, if_pos (Or.inl rfl), if_neg (fun z => c0 z.1)]
      exact no
  rw [if_neg k8, if_neg k8]
  by_cases k9 : g / 100000 = 9
  · rw [if_pos k9, if_pos k9]
    by_cases c0 : g / 100 % 1000 = 0
    · have pb := prs_b (p := fun i j => quar (mk A i) (mk A j)) h16
      rw [if_pos c0, pairsThatQuarrel_e hp hA, b1_s]
      simp only [lt_nI (show g % 100 < 2 ^ 31 by omega) (show npq A < 2 ^ 31 by show prs _ _ < _; omega)]
      by_cases cl : npq A ≤ g % 100
      · rw [if_neg (by omega), b1_s, if_pos (Or.inr rfl), if_pos ⟨c0, cl⟩]
        exact ⟨σ, rfl, hc, hp, Ch.rf⟩
      · rw [if_pos (by omega), b1_s, if_pos (Or.inl rfl), if_neg (fun z => cl z.2)]
        exact no
    · rw [if_neg c0, b1_s, if_pos (Or.inl rfl), if_neg (fun z => c0 z.1)]
      exact no
  rw [if_neg k9, if_neg k9]
  exact no
end SC
