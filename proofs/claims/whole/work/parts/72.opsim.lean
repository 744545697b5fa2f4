/-! Layer 2: the simulation side by side. The rows wb_ are pasted from the kit's laws/BITS.to-paste. -/
theorem wb_tb (n : Nat) : (lN n).toBitVec = BitVec.ofNat 64 n := rfl
theorem wb_inj {a b : Int64} (h : a.toBitVec = b.toBitVec) : a = b := Int64.toBitVec_inj.mp h
theorem wb_tn {n : Nat} (h : n < 2 ^ 64) : (lN n).toBitVec.toNat = n := by rw [wb_tb, BitVec.toNat_ofNat, Nat.mod_eq_of_lt h]
theorem wb_of (x : Int64) : ∃ n, n < 2 ^ 64 ∧ x = lN n := ⟨x.toBitVec.toNat, x.toBitVec.isLt, wb_inj (by rw [wb_tb]; simp)⟩
theorem wb_of32 (x : Int32) : ∃ n, n < 2 ^ 32 ∧ x = nI n := ⟨x.toBitVec.toNat, x.toBitVec.isLt, Int32.toBitVec_inj.mp (by show _ = BitVec.ofNat 32 _; simp)⟩
theorem wb_c : ∀ k, k < 64 → ((nI k).toInt64 &&& 63) = lN k := by decide +kernel
theorem wb_cu : ∀ k, k < 64 → ((nI k).toInt64.toUInt64 &&& Int64.toUInt64 63) = UInt64.ofNat k := by decide +kernel
theorem wb_sm : ∀ k, k < 64 → (BitVec.ofNat 64 k).smod 64 = BitVec.ofNat 64 k := by decide +kernel
theorem wb_pw {a b : Nat} (h : a ≤ b) : 2 ^ b = 2 ^ a * 2 ^ (b - a) := by rw [← Nat.pow_add]; congr 1; omega
theorem wb_lt2 {a b : Nat} (h : a < b) : 2 ^ a < 2 ^ b := Nat.pow_lt_pow_right (by decide) h
theorem wb_mod (n : Nat) : lN n = lN (n % 2 ^ 64) := wb_inj (by rw [wb_tb, wb_tb]; apply BitVec.eq_of_toNat_eq; rw [BitVec.toNat_ofNat, BitVec.toNat_ofNat, Nat.mod_mod])
theorem wb_shr {n k : Nat} (hn : n < 2 ^ 64) (hk : k < 64) : ((lN n).toUInt64 >>> ((nI k).toInt64.toUInt64 &&& Int64.toUInt64 63)).toInt64 = lN (n / 2 ^ k) := by
  rw [wb_cu k hk]
  apply wb_inj
  apply BitVec.eq_of_toNat_eq
  show ((lN n).toUInt64 >>> UInt64.ofNat k).toNat = (BitVec.ofNat 64 _).toNat
  have h1 : (UInt64.ofNat k).toNat = k := by
    show (BitVec.ofNat 64 k).toNat = k
    rw [BitVec.toNat_ofNat, Nat.mod_eq_of_lt (by omega)]
  have h2 : (lN n).toUInt64.toNat = n := wb_tn hn
  rw [UInt64.toNat_shiftRight, h1, h2, Nat.mod_eq_of_lt hk, Nat.shiftRight_eq_div_pow, BitVec.toNat_ofNat, Nat.mod_eq_of_lt (Nat.lt_of_le_of_lt (Nat.div_le_self _ _) hn)]
theorem r_of : ∃ r : Int64 → Nat, ∀ x : Int64, (lus x (33 : Int32)).toInt32 = nI (r x) ∧ r x < 2 ^ 31 := by
  have h : ∀ x : Int64, ∃ r : Nat, (lus x (33 : Int32)).toInt32 = nI r ∧ r < 2 ^ 31 := fun x => by
    obtain ⟨X, hX, rfl⟩ := wb_of x
    have e : lus (lN X) (33 : Int32) = lN (X / 2 ^ 33) := wb_shr (n := X) (k := 33) hX (by omega)
    exact ⟨X / 2 ^ 33, by rw [e, lN_i], by omega⟩
  exact ⟨fun x => Classical.choose (h x), fun x => Classical.choose_spec (h x)⟩
def simL (g : Int64 → Int64) (r : Int64 → Nat) : Nat → Int64 → AS → AS
  | 0, _, A => A
  | d + 1, x, A => simL g r d (g x) (turn (r (g x) % 16) (r (g x) / 16) A)
theorem simL_ok {g : Int64 → Int64} {r : Int64 → Nat} : ∀ (d : Nat) (x : Int64) (A : AS), okA A → okA (simL g r d x A)
  | 0, _, _, h => h
  | d + 1, x, A, h => simL_ok d (g x) _ (turn_ok h)
section SI
variable {n N : Nat} {A : AS} {L : List AS} {K : Nat → Option AS} {f : Nat → Nat} {rf : Int32}
theorem siC {t : Nat} {g : Int64 → Int64} {r : Int64 → Nat} (hg : ∀ x : Int64, (x * (6364136223846793005 : Int64)) + (1442695040888963407 : Int64) = g x) (hr : ∀ x : Int64, (lus x (33 : Int32)).toInt32 = nI (r x) ∧ r x < 2 ^ 31) (ht : t < 100) : ∀ (d i q : Nat) (x : Int64) (B : AS) (σ : qH), i + d = t → isC σ n A L K N f → isP σ (n + 8) B → okA B → ∃ σ', FX6_simulate_L36 n (nI t) (d + 1 + q) x (nI i) σ = some σ' ∧ isC σ' n A L K N f ∧ isP σ' (n + 8) (simL g r d x B) ∧ Ch σ σ' n (n + 135)
  | 0, i, q, x, B, σ, hi, hc, hp, hB => by
    refine ⟨σ, ?_, hc, hp, Ch.rf⟩
    rw [show 0 + 1 + q = q + 1 by omega, FX6_simulate_L36, if_pos ((nI_leI (by omega) (by omega)).mpr (by omega))]
  | d + 1, i, q, x, B, σ, hi, hc, hp, hB => by
    obtain ⟨er, hrr⟩ := hr (g x)
    obtain ⟨σ1, e1, h1, p1, o1⟩ := turnC hrr hc hp hB
    obtain ⟨σ2, e2, h2, p2, o2⟩ := siC hg hr ht d (i + 1) q (g x) (turn (r (g x) % 16) (r (g x) / 16) B) σ1 (by omega) h1 p1 (turn_ok hB)
    refine ⟨σ2, ?_, h2, p2, o1.tr o2⟩
    rw [show d + 1 + 1 + q = (d + 1 + q) + 1 by omega, FX6_simulate_L36, if_neg (fun hh => absurd ((nI_leI (by omega) (by omega)).mp hh) (by omega)), C_1 hc, b1_s, hg x, er, e1, b1_s, nI_1, e2]
theorem siM {m t : Nat} {g : Int64 → Int64} {r : Int64 → Nat} (hg : ∀ x : Int64, (x * (6364136223846793005 : Int64)) + (1442695040888963407 : Int64) = g x) (hr : ∀ x : Int64, (lus x (33 : Int32)).toInt32 = nI (r x) ∧ r x < 2 ^ 31) (ht : t < 100) : ∀ (d i q : Nat) (x : Int64) (B : AS) (σ : qH), i + d = t → isM σ m A L K N f rf → isZ σ (m + 3) B → okA B → ∃ σ', FX7_simulate_L45 m (nI t) (d + 1 + q) x (nI i) σ = some σ' ∧ isM σ' m A L K N f rf ∧ isZ σ' (m + 3) (simL g r d x B) ∧ Ch σ σ' m (m + 6)
  | 0, i, q, x, B, σ, hi, hc, hp, hB => by
    refine ⟨σ, ?_, hc, hp, Ch.rf⟩
    rw [show 0 + 1 + q = q + 1 by omega, FX7_simulate_L45, if_pos ((nI_leI (by omega) (by omega)).mpr (by omega))]
  | d + 1, i, q, x, B, σ, hi, hc, hp, hB => by
    obtain ⟨er, hrr⟩ := hr (g x)
    obtain ⟨σ1, e1, h1, p1, o1⟩ := turnM hrr hc hp hB
    obtain ⟨σ2, e2, h2, p2, o2⟩ := siM hg hr ht d (i + 1) q (g x) (turn (r (g x) % 16) (r (g x) / 16) B) σ1 (by omega) h1 p1 (turn_ok hB)
    refine ⟨σ2, ?_, h2, p2, o1.tr o2⟩
    rw [show d + 1 + 1 + q = (d + 1 + q) + 1 by omega, FX7_simulate_L45, if_neg (fun hh => absurd ((nI_leI (by omega) (by omega)).mp hh) (by omega)), M_t hc, b1_s, hg x, er, e1, b1_s, nI_1, e2]
theorem op_simulate {σ : qH} {x : Int32} {p : Int64} (W : Wd σ n A L K N f rf) : Res σ n (FL_simulate n p x (n + 143) σ) (FX7_simulate (n + 136) p x) := by
  obtain ⟨hc, hm, hg, hs⟩ := id W
  have hA := hs.1
  obtain ⟨g, hgg⟩ : ∃ g : Int64 → Int64, ∀ x : Int64, (x * (6364136223846793005 : Int64)) + (1442695040888963407 : Int64) = g x := ⟨fun x => (x * (6364136223846793005 : Int64)) + (1442695040888963407 : Int64), fun _ => rfl⟩
  obtain ⟨r, hrr⟩ := r_of
  by_cases c1 : inZ x 1 60
  · obtain ⟨t, rfl, t1, t2⟩ := inZ_n c1 (by omega)
    obtain ⟨q3, hq⟩ := qf (n := t) (by omega)
    obtain ⟨σ1, e1, p1, h1, o1⟩ := C_cpy hc hA
    obtain ⟨σ2, e2, h2, p2, o2⟩ := siC hgg hrr (t := t) (by omega) t 0 q3 p A σ1 (by omega) h1 p1 hA
    rw [← hq] at e2
    have e2' : FX6_simulate_L36 n (nI t) qfuel p 0 σ1 = _ := e2
    refine Res_ok W ((((10000 : Int32) * nI (nM (simL g r t p A))) + ((100 : Int32) * nI (fb_sm (aT (simL g r t p A)) 6))) + irm (nI (fb_sm (aRt (simL g r t p A)) 6) - nI (fb_sm (aRt A) 6)) 100) h2 (o1.tr o2) hs (fun σ' hm' => ?_) (fun σ' hj => ?_)
    · obtain ⟨σ3, e3, h3, o3⟩ := M_yes hm'
      obtain ⟨σ4, e4, z4, h4, o4⟩ := M_cpy h3 hA
      obtain ⟨σ5, e5, h5, z5, o5⟩ := siM hgg hrr (t := t) (by omega) t 0 q3 p A σ4 (by omega) h4 z4 hA
      rw [← hq] at e5
      have e5' : FX7_simulate_L45 (n + 136) (nI t) qfuel p 0 σ4 = _ := e5
      refine ⟨σ5, ?_, h5, (o3.tr (o4.ch (by omega) (by omega))).tr o5⟩
      unfold FX7_simulate
      simp only [M_c hm', b1_s, zin_1_60, bI_ite]
      rw [if_pos c1, b1_s, e3, b2_s, if_pos rfl, M_n h3, b1_s, M_t h3, b1_s, e4, b1_s, e5', b1_s, M_t h5, b1_s, z_n z5, b1_s, b1_s, zallTrust_e z5, b1_s, b1_s, (z_c z5).2.2.2.2.1, b1_s, M_n h5, b1_s, (z_c (M_z h5)).2.2.2.2.1, b1_s]
    · unfold FL_simulate FX6_simulate
      simp only [C_c hc, b1_s, rgR, bI_1, l1, l60]
      rw [need_t c1, bxw_s, C_1 hc, b1_s, C_0 hc, b1_s, e1, b1_s, e2', b1_s, C_1 h2, b1_s, rightOfAll_e p2, b1_s, C_0 h2, b1_s, rightOfAll_e h2.2.1, b1_s, b1_s, count_e p2, b1_s, b1_s, trustOfAll_e p2, b1_s, bc2_s, hj, b1_s]
  · refine Res_no W 1 (by decide) hc Ch.rf (fun σ' hm' => ?_) ?_
    · obtain ⟨σ3, e3, h3, o3⟩ := M_no1 hm'
      refine ⟨0, σ3, ?_, h3, o3⟩
      unfold FX7_simulate
      simp only [M_c hm', b1_s, zin_1_60, bI_ite]
      rw [if_neg c1, b1_s, e3, b2_s, if_neg (by decide)]
    · unfold FL_simulate FX6_simulate
      simp only [C_c hc, b1_s, rgR, bI_1, l1, l60]
      rw [need_f c1, bxw_e, bc2_e, if_pos rfl]
end SI
