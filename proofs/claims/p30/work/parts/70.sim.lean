/-! Layer 2: the simulation. -/
abbrev mmT (w q : Nat) : Me := if w ≤ 3 then mm7 (q % 3) (q / 4 % 6) 0 (1 + q / 32 % 20) (1 + q / 640 % 40) (1 + q / 256 % 400) (q / 8 % 21) else if w ≤ 5 then mm7 (q % 3) (q / 4 % 6) 1 (1 + q / 32 % 9) (1 + q / 288 % 60) (1 + q / 256 % 400) (q / 8 % 21) else mm7 (q % 3) (q / 4 % 6) 2 (1 + q / 32 % 900) (1 + q / 32 % 900 + q / 256 % 90) 0 0
/-- a turn: w is what r leaves by 16, q is r by 16 -/
def turn (w q : Nat) (A : AS) : AS :=
  if w < 9 then (if nM A < 16 then addA A (mmT w q) else A)
  else if w = 9 then (if q % 16 < nM A then drpA A (q % 16) else A)
  else if w < 13 then eve A
  else if w = 13 then (if q / 8 % 2 = 0 then setA A 0 (q % 6) else setA A 1 (q / 16 % 51))
  else (srv A (q % 3) (1 + q / 32 % 999)).2
theorem mmT_ok {w q : Nat} : okM (mmT w q) ∧ fitP (nI (mmT w q 2)) (nI (mmT w q 3)) (nI (mmT w q 4)) (nI (mmT w q 5)) (nI (mmT w q 6)) := by
  unfold mmT
  by_cases c1 : w ≤ 3
  · rw [if_pos c1]
    exact ⟨mm7_ok (by omega) (by omega) (by omega) (by omega) (by omega) (by omega) (by omega) (by omega) (by omega) (by omega), Or.inl ⟨rfl, (inZ_nI (n := 1 + q / 32 % 20) (by omega)).mpr (by omega), (inZ_nI (n := 1 + q / 640 % 40) (by omega)).mpr (by omega), (inZ_nI (n := 1 + q / 256 % 400) (by omega)).mpr (by omega), (inZ_nI (n := q / 8 % 21) (by omega)).mpr (by omega)⟩⟩
  · by_cases c2 : w ≤ 5
    · rw [if_neg c1, if_pos c2]
      exact ⟨mm7_ok (by omega) (by omega) (by omega) (by omega) (by omega) (by omega) (by omega) (by omega) (by omega) (by omega), Or.inr (Or.inl ⟨rfl, (inZ_nI (n := 1 + q / 32 % 9) (by omega)).mpr (by omega), (inZ_nI (n := 1 + q / 288 % 60) (by omega)).mpr (by omega), (inZ_nI (n := 1 + q / 256 % 400) (by omega)).mpr (by omega), (inZ_nI (n := q / 8 % 21) (by omega)).mpr (by omega)⟩)⟩
    · rw [if_neg c1, if_neg c2]
      refine ⟨mm7_ok (by omega) (by omega) (by omega) (by omega) (by omega) (by omega) (by omega) (by omega) (by omega) (by omega), Or.inr (Or.inr ⟨rfl, (inZ_nI (n := 1 + q / 32 % 900) (by omega)).mpr (by omega), (inZ_nI (n := 1 + q / 32 % 900 + q / 256 % 90) (by omega)).mpr (by omega), ?_, rfl, rfl⟩)⟩
      show (nI (1 + q / 32 % 900)).toInt ≤ (nI (1 + q / 32 % 900 + q / 256 % 90)).toInt
      rw [nI_toInt (by omega), nI_toInt (by omega)]; omega
theorem turn_ok {w q : Nat} {A : AS} (hA : okA A) : okA (turn w q A) := by
  unfold turn
  by_cases c1 : w < 9
  · rw [if_pos c1]; split
    · rename_i c; exact addA_ok hA c mmT_ok.1
    · exact hA
  rw [if_neg c1]
  by_cases c2 : w = 9
  · rw [if_pos c2]; split
    · rename_i c; exact drpA_ok hA c
    · exact hA
  rw [if_neg c2]
  by_cases c3 : w < 13
  · rw [if_pos c3]; exact eve_ok hA
  rw [if_neg c3]
  by_cases c4 : w = 13
  · rw [if_pos c4]; split
    · exact setA_ok hA (by rw [if_pos rfl]; omega)
    · exact setA_ok hA (by rw [if_neg (by omega)]; omega)
  rw [if_neg c4]; exact srv_ok hA
theorem one_p {a : Nat} : (1 : Int32) + nI a = nI (1 + a) := nI_add 1 a
section TU
variable {σ : qH} {n N : Nat} {A0 A : AS} {L : List AS} {K : Nat → Option AS} {f : Nat → Nat} {rf : Int32}
theorem turnC {r : Nat} (hr : r < 2 ^ 31) (hc : isC σ n A0 L K N f) (hp : isP σ (n + 8) A) (hA : okA A) : ∃ σ', FX4_turn (n + 8) (nI r) σ = some σ' ∧ isC σ' n A0 L K N f ∧ isP σ' (n + 8) (turn (r % 16) (r / 16) A) ∧ Ch σ σ' n (n + 135) := by
  have h16 : nM A ≤ 16 := hA.1
  have dv : ∀ {a d : Nat}, a < 2 ^ 31 → 0 < d → d < 2 ^ 31 → nI a / nI d = nI (a / d) := fun ha h0 hd => pk_div ha h0 hd
  have i16 : irm (nI r) (16 : Int32) = nI (r % 16) := irm_n (d := 16) hr (by omega) (by omega)
  have d16 : nI r / (16 : Int32) = nI (r / 16) := dv (d := 16) hr (by omega) (by omega)
  have hw : r % 16 < 16 := Nat.mod_lt _ (by omega)
  have hq : r / 16 < 2 ^ 31 := by omega
  unfold FX4_turn
  rw [i16, d16]
  generalize r % 16 = w at hw
  generalize r / 16 = q at hq
  have f3 : irm (nI q) (3 : Int32) = nI (q % 3) := irm_n (d := 3) hq (by omega) (by omega)
  have f4 : irm (nI q / (4 : Int32)) (6 : Int32) = nI (q / 4 % 6) := by rw [show nI q / (4 : Int32) = nI (q / 4) from dv (d := 4) hq (by omega) (by omega)]; exact irm_n (d := 6) (by omega) (by omega) (by omega)
  have f32 : nI q / (32 : Int32) = nI (q / 32) := dv (d := 32) hq (by omega) (by omega)
  have f900 : irm (nI (q / 32)) (900 : Int32) = nI (q / 32 % 900) := irm_n (d := 900) (by omega) (by omega) (by omega)
  have f20 : irm (nI (q / 32)) (20 : Int32) = nI (q / 32 % 20) := irm_n (d := 20) (by omega) (by omega) (by omega)
  have f9 : irm (nI (q / 32)) (9 : Int32) = nI (q / 32 % 9) := irm_n (d := 9) (by omega) (by omega) (by omega)
  have f999 : irm (nI (q / 32)) (999 : Int32) = nI (q / 32 % 999) := irm_n (d := 999) (by omega) (by omega) (by omega)
  have f256 : nI q / (256 : Int32) = nI (q / 256) := dv (d := 256) hq (by omega) (by omega)
  have f90 : irm (nI (q / 256)) (90 : Int32) = nI (q / 256 % 90) := irm_n (d := 90) (by omega) (by omega) (by omega)
  have f400 : irm (nI (q / 256)) (400 : Int32) = nI (q / 256 % 400) := irm_n (d := 400) (by omega) (by omega) (by omega)
  have f640 : irm (nI q / (640 : Int32)) (40 : Int32) = nI (q / 640 % 40) := by rw [show nI q / (640 : Int32) = nI (q / 640) from dv (d := 640) hq (by omega) (by omega)]; exact irm_n (d := 40) (by omega) (by omega) (by omega)
  have f288 : irm (nI q / (288 : Int32)) (60 : Int32) = nI (q / 288 % 60) := by rw [show nI q / (288 : Int32) = nI (q / 288) from dv (d := 288) hq (by omega) (by omega)]; exact irm_n (d := 60) (by omega) (by omega) (by omega)
  have f8 : nI q / (8 : Int32) = nI (q / 8) := dv (d := 8) hq (by omega) (by omega)
  have f21 : irm (nI (q / 8)) (21 : Int32) = nI (q / 8 % 21) := irm_n (d := 21) (by omega) (by omega) (by omega)
  have f2 : irm (nI (q / 8)) (2 : Int32) = nI (q / 8 % 2) := irm_n (d := 2) (by omega) (by omega) (by omega)
  have f6 : irm (nI q) (6 : Int32) = nI (q % 6) := irm_n (d := 6) hq (by omega) (by omega)
  have f16 : nI q / (16 : Int32) = nI (q / 16) := dv (d := 16) hq (by omega) (by omega)
  have f51 : irm (nI (q / 16)) (51 : Int32) = nI (q / 16 % 51) := irm_n (d := 51) (by omega) (by omega) (by omega)
  have fq : irm (nI q) (16 : Int32) = nI (q % 16) := irm_n (d := 16) hq (by omega) (by omega)
  have z2 : (nI (q / 8 % 2) = (0 : Int32)) = (q / 8 % 2 = 0) := eq_nI (b := 0) (by omega) (by omega)
  have w3 : ((3 : Int32) < nI w) = (3 < w) := lt_nI (a := 3) (by omega) (by omega)
  have w5 : ((5 : Int32) < nI w) = (5 < w) := lt_nI (a := 5) (by omega) (by omega)
  have lw : ∀ j : Nat, j < 100 → (nI w = nI j) = (w = j) := fun j hj => eq_nI (by omega) (by omega)
  have tell : ∀ {B : AS}, turn w q A = B → w < 9 → (nM A < 16 → B = addA A (mmT w q)) → (¬ nM A < 16 → B = A) → ∃ σ', FX4_tell (n + 8) (nI w) (nI q) σ = some σ' ∧ isC σ' n A0 L K N f ∧ isP σ' (n + 8) B ∧ Ch σ σ' n (n + 135) := fun {B} _ hw9 hB1 hB2 => by
    have key : ∃ v σ', FX2_tryMeasure (n + 8) (nI (mmT w q 0)) (nI (mmT w q 1)) (nI (mmT w q 2)) (nI (mmT w q 3)) (nI (mmT w q 4)) (nI (mmT w q 5)) (nI (mmT w q 6)) σ = some (v, σ') ∧ isC σ' n A0 L K N f ∧ isP σ' (n + 8) B ∧ Ch σ σ' n (n + 135) := by
      by_cases c : nM A < 16
      · obtain ⟨σ1, e1, p1, o1⟩ := tryM_t hp hA (mmT_ok (w := w) (q := q)).1 mmT_ok.2 c
        obtain ⟨c1, c2⟩ := C_copyP hc p1 o1
        exact ⟨1, σ1, e1, c1, by rw [hB1 c]; exact p1, c2⟩
      · exact ⟨0, σ, tryM_f hp hA (fun z => c z.2.2.2), hc, by rw [hB2 c]; exact hp, Ch.rf⟩
    obtain ⟨v, σ1, e1, k1, k2, k3⟩ := key
    refine ⟨σ1, ?_, k1, k2, k3⟩
    unfold FX4_tell
    simp only [w3, w5, f3, f4, f32, f900, f20, f9, f256, f90, f400, f640, f288, f8, f21, one_p]
    unfold mmT at e1
    by_cases c3 : 3 < w
    · rw [if_pos c3]
      rw [if_neg (by omega)] at e1
      by_cases c5 : 5 < w
      · rw [if_pos c5]
        rw [if_neg (by omega)] at e1
        have e1' : FX2_tryMeasure (n + 8) (nI (q % 3)) (nI (q / 4 % 6)) 2 (nI (1 + q / 32 % 900)) (nI (1 + q / 32 % 900) + nI (q / 256 % 90)) 0 0 σ = some (v, σ1) := by rw [nI_add]; exact e1
        rw [e1', b2_s, b1_s]
      · rw [if_neg c5]
        rw [if_pos (by omega)] at e1
        have e1' : FX2_tryMeasure (n + 8) (nI (q % 3)) (nI (q / 4 % 6)) 1 (nI (1 + q / 32 % 9)) (nI (1 + q / 288 % 60)) (nI (1 + q / 256 % 400)) (nI (q / 8 % 21)) σ = some (v, σ1) := e1
        rw [e1', b2_s, b1_s]
    · rw [if_neg c3]
      rw [if_pos (by omega)] at e1
      have e1' : FX2_tryMeasure (n + 8) (nI (q % 3)) (nI (q / 4 % 6)) 0 (nI (1 + q / 32 % 20)) (nI (1 + q / 640 % 40)) (nI (1 + q / 256 % 400)) (nI (q / 8 % 21)) σ = some (v, σ1) := e1
      rw [e1', b2_s, b1_s]
  have e0 : (nI w = (0 : Int32)) = (w = 0) := lw 0 (by omega)
  have e1 : (nI w = (1 : Int32)) = (w = 1) := lw 1 (by omega)
  have e2 : (nI w = (2 : Int32)) = (w = 2) := lw 2 (by omega)
  have e3 : (nI w = (3 : Int32)) = (w = 3) := lw 3 (by omega)
  have e4 : (nI w = (4 : Int32)) = (w = 4) := lw 4 (by omega)
  have e5 : (nI w = (5 : Int32)) = (w = 5) := lw 5 (by omega)
  have e6 : (nI w = (6 : Int32)) = (w = 6) := lw 6 (by omega)
  have e7 : (nI w = (7 : Int32)) = (w = 7) := lw 7 (by omega)
  have e8 : (nI w = (8 : Int32)) = (w = 8) := lw 8 (by omega)
  have e9 : (nI w = (9 : Int32)) = (w = 9) := lw 9 (by omega)
  have e10 : (nI w = (10 : Int32)) = (w = 10) := lw 10 (by omega)
  have e11 : (nI w = (11 : Int32)) = (w = 11) := lw 11 (by omega)
  have e12 : (nI w = (12 : Int32)) = (w = 12) := lw 12 (by omega)
  have e13 : (nI w = (13 : Int32)) = (w = 13) := lw 13 (by omega)
  simp only [e0, e1, e2, e3, e4, e5, e6, e7, e8, e9, e10, e11, e12, e13]
  by_cases c1 : w < 9
  · have et : turn w q A = if nM A < 16 then addA A (mmT w q) else A := by unfold turn; rw [if_pos c1]
    obtain ⟨σ1, e1, k1, k2, k3⟩ := tell rfl c1 (fun c => by rw [et, if_pos c]) (fun c => by rw [et, if_neg c])
    rw [if_pos (show w = 0 ∨ w = 1 ∨ w = 2 ∨ w = 3 ∨ w = 4 ∨ w = 5 ∨ w = 6 ∨ w = 7 ∨ w = 8 by omega), e1, b1_s, b1_s]
    exact ⟨σ1, rfl, k1, k2, k3⟩
  rw [if_neg (show ¬ (w = 0 ∨ w = 1 ∨ w = 2 ∨ w = 3 ∨ w = 4 ∨ w = 5 ∨ w = 6 ∨ w = 7 ∨ w = 8) by omega)]
  unfold turn
  rw [if_neg c1]
  by_cases c2 : w = 9
  · rw [if_pos c2, if_pos c2, fq]
    rcases tryDrop_e (x := nI (q % 16)) hp hA with ⟨k, k1', k2', σ1, e1, p1, o1⟩ | ⟨k1', e1⟩
    · have : q % 16 = k := (nI_eq (by omega) (by omega)).mp k2'
      obtain ⟨c1, c2⟩ := C_copyP hc p1 o1
      rw [e1, b2_s, b1_s, if_pos (by omega), this]
      exact ⟨σ1, rfl, c1, p1, c2⟩
    · rw [e1, b2_s, b1_s, if_neg (fun z => k1' ((inZ_nI (by omega)).mpr (by omega)))]
      exact ⟨σ, rfl, hc, hp, Ch.rf⟩
  rw [if_neg c2, if_neg c2]
  by_cases c3 : w < 13
  · obtain ⟨σ1, e1, p1, o1⟩ := passEvening_e hp hA
    obtain ⟨c1, c2⟩ := C_copyP hc p1 o1
    rw [if_pos (show w = 10 ∨ w = 11 ∨ w = 12 by omega), if_pos c3, e1, b2_s, b1_s]
    exact ⟨σ1, rfl, c1, p1, c2⟩
  rw [if_neg (show ¬ (w = 10 ∨ w = 11 ∨ w = 12) by omega), if_neg c3]
  by_cases c4 : w = 13
  · rw [if_pos c4, if_pos c4]
    unfold FX4_changeSetting
    simp only [f8, f2, f6, f16, f51, z2]
    by_cases c5 : q / 8 % 2 = 0
    · obtain ⟨σ1, e1, p1, o1⟩ := changeSetting_e (i := 0) (v := q % 6) hp (by omega)
      have e1' : FX2_changeSetting (n + 8) 0 (nI (q % 6)) σ = _ := e1
      obtain ⟨c1, c2⟩ := C_copyP hc p1 o1
      rw [if_pos c5, e1', b2_s, b1_s, b1_s, b1_s, if_pos c5]
      exact ⟨σ1, rfl, c1, p1, c2⟩
    · obtain ⟨σ1, e1, p1, o1⟩ := changeSetting_e (i := 1) (v := q / 16 % 51) hp (by omega)
      have e1' : FX2_changeSetting (n + 8) 1 (nI (q / 16 % 51)) σ = _ := e1
      obtain ⟨c1, c2⟩ := C_copyP hc p1 o1
      rw [if_neg c5, e1', b2_s, b1_s, b1_s, b1_s, if_neg c5]
      exact ⟨σ1, rfl, c1, p1, c2⟩
  rw [if_neg c4, if_neg c4, f3, f32, f999, one_p]
  rcases trySurvey_e (x := nI (q % 3)) (y := nI (1 + q / 32 % 999)) hp hA with ⟨t, v, t1, v1, v1', t2, v2, σ1, e1, p1, ok1, o1⟩ | ⟨k1', e1⟩
  · have et : q % 3 = t := (nI_eq (by omega) (by omega)).mp t2
    have ev : 1 + q / 32 % 999 = v := (nI_eq (by omega) (by omega)).mp v2
    obtain ⟨c1, c2⟩ := C_copyP hc p1 o1
    rw [e1, b2_s, b1_s, et, ev]
    exact ⟨σ1, rfl, c1, p1, c2⟩
  · exact absurd ⟨(inZ_nI (by omega)).mpr (by omega), (inZ_nI (by omega)).mpr (by omega)⟩ k1'
end TU
