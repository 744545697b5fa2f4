/-! Layer 2: the simulation: the reference's turn; side by side. -/
section TM2
variable {σ : qH} {m N : Nat} {A0 A : AS} {L : List AS} {K : Nat → Option AS} {f : Nat → Nat} {rf : Int32}
theorem turnM {r : Nat} (hr : r < 2 ^ 31) (hm : isM σ m A0 L K N f rf) (hz : isZ σ (m + 3) A) (hA : okA A) : ∃ σ', FX7_turnOf (m + 3) (irm (nI r) 16) (nI r / 16) σ = some σ' ∧ isM σ' m A0 L K N f rf ∧ isZ σ' (m + 3) (turn (r % 16) (r / 16) A) ∧ Ch σ σ' m (m + 6) := by
  have h16 : nM A ≤ 16 := hA.1
  have dv : ∀ {a d : Nat}, a < 2 ^ 31 → 0 < d → d < 2 ^ 31 → nI a / nI d = nI (a / d) := fun ha h0 hd => pk_div ha h0 hd
  have i16 : irm (nI r) (16 : Int32) = nI (r % 16) := irm_n (d := 16) hr (by omega) (by omega)
  have d16 : nI r / (16 : Int32) = nI (r / 16) := dv (d := 16) hr (by omega) (by omega)
  have hw : r % 16 < 16 := Nat.mod_lt _ (by omega)
  have hq : r / 16 < 2 ^ 31 := by omega
  rw [i16, d16]
  generalize r % 16 = w at hw
  generalize r / 16 = q at hq
  have f3 : irm (nI q) (3 : Int32) = nI (q % 3) := irm_n (d := 3) hq (by omega) (by omega)
  have f4 : nI q / (4 : Int32) = nI (q / 4) := dv (d := 4) hq (by omega) (by omega)
  have f46 : irm (nI (q / 4)) (6 : Int32) = nI (q / 4 % 6) := irm_n (d := 6) (by omega) (by omega) (by omega)
  have f32 : nI q / (32 : Int32) = nI (q / 32) := dv (d := 32) hq (by omega) (by omega)
  have f900 : irm (nI (q / 32)) (900 : Int32) = nI (q / 32 % 900) := irm_n (d := 900) (by omega) (by omega) (by omega)
  have f20 : irm (nI (q / 32)) (20 : Int32) = nI (q / 32 % 20) := irm_n (d := 20) (by omega) (by omega) (by omega)
  have f9 : irm (nI (q / 32)) (9 : Int32) = nI (q / 32 % 9) := irm_n (d := 9) (by omega) (by omega) (by omega)
  have f999 : irm (nI (q / 32)) (999 : Int32) = nI (q / 32 % 999) := irm_n (d := 999) (by omega) (by omega) (by omega)
  have f256 : nI q / (256 : Int32) = nI (q / 256) := dv (d := 256) hq (by omega) (by omega)
  have f90 : irm (nI (q / 256)) (90 : Int32) = nI (q / 256 % 90) := irm_n (d := 90) (by omega) (by omega) (by omega)
  have f400 : irm (nI (q / 256)) (400 : Int32) = nI (q / 256 % 400) := irm_n (d := 400) (by omega) (by omega) (by omega)
  have f640 : nI q / (640 : Int32) = nI (q / 640) := dv (d := 640) hq (by omega) (by omega)
  have f40 : irm (nI (q / 640)) (40 : Int32) = nI (q / 640 % 40) := irm_n (d := 40) (by omega) (by omega) (by omega)
  have f288 : nI q / (288 : Int32) = nI (q / 288) := dv (d := 288) hq (by omega) (by omega)
  have f60 : irm (nI (q / 288)) (60 : Int32) = nI (q / 288 % 60) := irm_n (d := 60) (by omega) (by omega) (by omega)
  have f8 : nI q / (8 : Int32) = nI (q / 8) := dv (d := 8) hq (by omega) (by omega)
  have f21 : irm (nI (q / 8)) (21 : Int32) = nI (q / 8 % 21) := irm_n (d := 21) (by omega) (by omega) (by omega)
  have f2 : irm (nI (q / 8)) (2 : Int32) = nI (q / 8 % 2) := irm_n (d := 2) (by omega) (by omega) (by omega)
  have f6 : irm (nI q) (6 : Int32) = nI (q % 6) := irm_n (d := 6) hq (by omega) (by omega)
  have f16 : nI q / (16 : Int32) = nI (q / 16) := dv (d := 16) hq (by omega) (by omega)
  have f51 : irm (nI (q / 16)) (51 : Int32) = nI (q / 16 % 51) := irm_n (d := 51) (by omega) (by omega) (by omega)
  have fq : irm (nI q) (16 : Int32) = nI (q % 16) := irm_n (d := 16) hq (by omega) (by omega)
  have z2 : (nI (q / 8 % 2) = (0 : Int32)) = (q / 8 % 2 = 0) := eq_nI (b := 0) (by omega) (by omega)
  have w9 : ((9 : Int32) ≤ nI w) = (9 ≤ w) := le_nI (a := 9) (by omega) (by omega)
  have w13 : ((13 : Int32) ≤ nI w) = (13 ≤ w) := le_nI (a := 13) (by omega) (by omega)
  have w13' : (nI w ≤ (13 : Int32)) = (w ≤ 13) := le_nI (b := 13) (by omega) (by omega)
  have w4 : ((4 : Int32) ≤ nI w) = (4 ≤ w) := le_nI (a := 4) (by omega) (by omega)
  have w6 : ((6 : Int32) ≤ nI w) = (6 ≤ w) := le_nI (a := 6) (by omega) (by omega)
  have e9 : (nI w = (9 : Int32)) = (w = 9) := eq_nI (b := 9) (by omega) (by omega)
  unfold FX7_turnOf
  simp only [w9, w13, w13', w4, w6, e9, f3, f4, f46, f32, f900, f20, f9, f999, f256, f90, f400, f640, f40, f288, f60, f8, f21, f2, f6, f16, f51, fq, z2, one_p, zisM_e hz hA, z_n hz, b1_s, bI_ite, le16 hA]
  unfold turn
  by_cases c1 : w < 9
  · rw [if_neg (show ¬ 9 ≤ w by omega), if_pos c1]
    by_cases c16 : nM A < 16
    · obtain ⟨σ1, e1, z1, o1⟩ := measureOn_e (x := mmT w q) hz hA c16
      have h1 := M_tri hm (mR_z z1) o1
      rw [if_pos c16]
      refine ⟨σ1, ?_, h1, z1, o1.ch (by omega) (by omega)⟩
      unfold mmT at e1
      by_cases c4 : 4 ≤ w
      · rw [if_neg (show ¬ w ≤ 3 by omega)] at e1
        by_cases c6 : 6 ≤ w
        · rw [if_neg (show ¬ w ≤ 5 by omega)] at e1
          have e1' : FX7_measureOn (m + 3) (nI (q % 3)) (nI (q / 4 % 6)) 2 (nI (1 + q / 32 % 900)) (nI (1 + q / 32 % 900 + q / 256 % 90)) 0 0 σ = some (nI (nM A), σ1) := e1
          rw [if_pos c4, if_pos c6, b1_s, if_pos c4, if_pos c6, b1_s, if_neg (show ¬ 16 ≤ nM A by omega), if_pos c4, if_pos c6, b1_s, if_pos c6, b1_s, if_pos c6, b1_s, nI_add, e1', b2_s, b1_s, b1_s]
        · rw [if_pos (show w ≤ 5 by omega)] at e1
          have e1' : FX7_measureOn (m + 3) (nI (q % 3)) (nI (q / 4 % 6)) 1 (nI (1 + q / 32 % 9)) (nI (1 + q / 288 % 60)) (nI (1 + q / 256 % 400)) (nI (q / 8 % 21)) σ = some (nI (nM A), σ1) := e1
          rw [if_pos c4, if_neg c6, b1_s, if_pos c4, if_neg c6, b1_s, if_neg (show ¬ 16 ≤ nM A by omega), if_pos c4, if_neg c6, b1_s, if_neg c6, b1_s, if_neg c6, b1_s, e1', b2_s, b1_s, b1_s]
      · rw [if_pos (show w ≤ 3 by omega)] at e1
        have e1' : FX7_measureOn (m + 3) (nI (q % 3)) (nI (q / 4 % 6)) 0 (nI (1 + q / 32 % 20)) (nI (1 + q / 640 % 40)) (nI (1 + q / 256 % 400)) (nI (q / 8 % 21)) σ = some (nI (nM A), σ1) := e1
        rw [if_neg c4, b1_s, if_neg c4, b1_s, if_neg (show ¬ 16 ≤ nM A by omega), if_neg c4, b1_s, if_neg (show ¬ 6 ≤ w by omega), b1_s, if_neg (show ¬ 6 ≤ w by omega), b1_s, e1', b2_s, b1_s, b1_s]
    · rw [if_neg c16]
      refine ⟨σ, ?_, hm, hz, Ch.rf⟩
      by_cases c4 : 4 ≤ w
      · by_cases c6 : 6 ≤ w
        · rw [if_pos c4, if_pos c6, b1_s, if_pos c4, if_pos c6, b1_s, if_pos (show 16 ≤ nM A by omega), b1_s, b1_s]
        · rw [if_pos c4, if_neg c6, b1_s, if_pos c4, if_neg c6, b1_s, if_pos (show 16 ≤ nM A by omega), b1_s, b1_s]
      · rw [if_neg c4, b1_s, if_neg c4, b1_s, if_pos (show 16 ≤ nM A by omega), b1_s, b1_s]
  rw [if_pos (show 9 ≤ w by omega), if_neg c1]
  by_cases c2 : w = 9
  · rw [if_pos c2, if_pos c2]
    by_cases ck : q % 16 < nM A
    · obtain ⟨σ1, e1, z1, o1⟩ := dropOn_e hz hA ck
      rw [if_pos (show inZ (nI (q % 16)) 0 ((nM A : Int) - 1) from (inZ_nI (by omega)).mpr (by omega)), e1, b2_s, b1_s, if_pos ck]
      exact ⟨σ1, rfl, M_tri hm (mR_z z1) o1, z1, o1.ch (by omega) (by omega)⟩
    · rw [if_neg (show ¬ inZ (nI (q % 16)) 0 ((nM A : Int) - 1) from fun z => ck (by have := ((inZ_nI (by omega)).mp z).2; omega)), b1_s, if_neg ck]
      exact ⟨σ, rfl, hm, hz, Ch.rf⟩
  rw [if_neg c2, if_neg c2]
  by_cases c3 : w < 13
  · obtain ⟨σ1, e1, z1, o1⟩ := eveningOn_e hz hA
    rw [if_neg (show ¬ 13 ≤ w by omega), if_pos c3, e1, b2_s, b1_s]
    exact ⟨σ1, rfl, M_tri hm (mR_z z1) o1, z1, o1.ch (by omega) (by omega)⟩
  rw [if_pos (show 13 ≤ w by omega), if_neg c3]
  by_cases c4 : w = 13
  · rw [if_pos (show w ≤ 13 by omega), if_pos c4]
    by_cases c5 : q / 8 % 2 = 0
    · obtain ⟨σ1, e1, z1, o1⟩ := change_e (t := 0) (v := q % 6) hz (by omega)
      have e1' : FX7_change (m + 3) 0 (nI (q % 6)) σ = _ := e1
      rw [if_pos c5, e1', b2_s, b1_s, if_pos c5]
      exact ⟨σ1, rfl, M_tri hm (mR_z z1) o1, z1, o1.ch (by omega) (by omega)⟩
    · obtain ⟨σ1, e1, z1, o1⟩ := change_e (t := 1) (v := q / 16 % 51) hz (by omega)
      have e1' : FX7_change (m + 3) 1 (nI (q / 16 % 51)) σ = _ := e1
      rw [if_neg c5, e1', b2_s, b1_s, if_neg c5]
      exact ⟨σ1, rfl, M_tri hm (mR_z z1) o1, z1, o1.ch (by omega) (by omega)⟩
  · obtain ⟨σ1, e1, z1, o1⟩ := surveyOn_e (s := q % 3) (x := 1 + q / 32 % 999) (by omega) (by omega) hz hA
    rw [if_neg (show ¬ w ≤ 13 by omega), if_neg c4, e1, b2_s, b1_s]
    exact ⟨σ1, rfl, M_tri hm (mR_z z1) o1, z1, o1.ch (by omega) (by omega)⟩
end TM2
