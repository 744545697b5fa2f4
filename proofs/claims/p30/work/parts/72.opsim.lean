/-! Layer 2: the simulation side by side. The rows wb_ are pasted from the kit's laws/BITS.to-paste. -/
theorem wb_tb (n : Nat) : (lN n).toBitVec = BitVec.ofNat 64 n := rfl
theorem wb_inj {a b : Int64} (h : a.toBitVec = b.toBitVec) : a = b := Int64.toBitVec_inj.mp h
theorem wb_tn {n : Nat} (h : n < 2 ^ 64) : (lN n).toBitVec.toNat = n := by rw [wb_tb, BitVec.toNat_ofNat, Nat.mod_eq_of_lt h]
theorem wb_of (x : Int64) : ∃ n, n < 2 ^ 64 ∧ x = lN n := ⟨x.toBitVec.toNat, x.toBitVec.isLt, wb_inj (by rw [wb_tb]; simp)⟩
theorem wb_of32 (x : Int32) : ∃ n, n < 2 ^ 32 ∧ x = nI n := ⟨x.toBitVec.toNat, x.toBitVec.isLt, Int32.toBitVec_inj.mp (by show _ = BitVec.ofNat 32 _; simp)⟩
theorem wb_c : ∀ k, k < 64 → ((nI k).toInt64 &&& 63) = lN k := by decide +kernel
theorem wb_cu : ∀ k, k < 64 → ((nI k).toInt64.toUInt64 &&& Int64.toUInt64 63) = UInt64.ofNat k := by decide +kernel
theorem wb_sm : ∀ k, k < 64 → (BitVec.ofNat 64 k).smod 64 = BitVec.ofNat 64 k := by decide +kernel
theorem wb_pw {a b : Nat} (h : a ≤ b) : 2 ^ b = 2 ^ a * 2 ^ (b - a) := by rw [← Nat.pow_add]; congr 1; omega
theorem wb_lt2 {a b : Nat} (h : a < b) : 2 ^ a < 2 ^ b := Nat.pow_lt_pow_right (by decide) h
theorem wb_mod (n : Nat) : lN n = lN (n % 2 ^ 64) := wb_inj (by rw [wb_tb, wb_tb]; apply BitVec.eq_of_toNat_eq; rw [BitVec.toNat_ofNat, BitVec.toNat_ofNat, Nat.mod_mod])
theorem wb_shr {n k : Nat} (hn : n < 2 ^ 64) (hk : k < 64) : ((lN n).toUInt64 >>> ((nI k).toInt64.toUInt64 &&& Int64.toUInt64 63)).toInt64 = lN (n / 2 ^ k) := by
  rw [wb_cu k hk]
  apply wb_inj
  apply BitVec.eq_of_toNat_eq
  show ((lN n).toUInt64 >>> UInt64.ofNat k).toNat = (BitVec.ofNat 64 _).toNat
  have h1 : (UInt64.ofNat k).toNat = k := by
    show (BitVec.ofNat 64 k).toNat = k
    rw [BitVec.toNat_ofNat, Nat.mod_eq_of_lt (by omega)]
  have h2 : (lN n).toUInt64.toNat = n := wb_tn hn
  rw [UInt64.toNat_shiftRight, h1, h2, Nat.mod_eq_of_lt hk, Nat.shiftRight_eq_div_pow, BitVec.toNat_ofNat, Nat.mod_eq_of_lt (Nat.lt_of_le_of_lt (Nat.div_le_self _ _) hn)]
theorem r_of : ∃ r : Int64 → Nat, ∀ x : Int64, (lus x (33 : Int32)).toInt32 = nI (r x) ∧ r x < 2 ^ 31 := by
  have h : ∀ x : Int64, ∃ r : Nat, (lus x (33 : Int32)).toInt32 = nI r ∧ r < 2 ^ 31 := fun x => by
    obtain ⟨X, hX, rfl⟩ := wb_of x
    have e : lus (lN X) (33 : Int32) = lN (X / 2 ^ 33) := wb_shr (n := X) (k := 33) hX (by omega)
    exact ⟨X / 2 ^ 33, by rw [e, lN_i], by omega⟩
  exact ⟨fun x => Classical.choose (h x), fun x => Classical.choose_spec (h x)⟩
def simL (g : Int64 → Int64) (r : Int64 → Nat) : Nat → Int64 → AS → AS
  | 0, _, A => A
  | d + 1, x, A => simL g r d (g x) (turn (r (g x) % 16) (r (g x) / 16) A)
theorem simL_ok {g : Int64 → Int64} {r : Int64 → Nat} : ∀ (d : Nat) (x : Int64) (A : AS), okA A → okA (simL g r d x A)
  | 0, _, _, h => h
  | d + 1, x, A, h => simL_ok d (g x) _ (turn_ok h)
section SI
variable {n N : Nat} {A : AS} {L : List AS} {K : Nat → Option AS} {f : Nat → Nat} {rf : Int32}
theorem siC {t : Nat} {g : Int64 → Int64} {r : Int64 → Nat} (hg : ∀ x : Int64, (x * (6364136223846793005 : Int64)) + (1442695040888963407 : Int64) = g x) (hr : ∀ x : Int64, (lus x (33 : Int32)).toInt32 = nI (r x) ∧ r x < 2 ^ 31) (ht : t < 100) : ∀ (d i q : Nat) (x : Int64) (B : AS) (σ : qH), i + d = t → isC σ n A L K N f → isP σ (n + 8) B → okA B → ∃ σ', FX6_simulate_L36 n (nI t) (d + 1 + q) x (nI i) σ = some σ' ∧ isC σ' n A L K N f ∧ isP σ' (n + 8) (simL g r d x B) ∧ Ch σ σ' n (n + 135)
  | 0, i, q, x, B, σ, hi, hc, hp, hB => by
    refine ⟨σ, ?_, hc, hp, Ch.rf⟩
    rw [show 0 + 1 + q = q + 1 by omega, FX6_simulate_L36, if_pos ((nI_leI (by omega) (by omega)).mpr (by omega))]
  | d + 1, i, q, x, B, σ, hi, hc, hp, hB => by
    obtain ⟨er, hrr⟩ := hr (g x)
    obtain ⟨σ1, e1, h1, p1, o1⟩ := turnC hrr hc hp hB
    obtain ⟨σ2, e2, h2, p2, o2⟩ := siC hg hr ht d (i + 1) q (g x) (turn (r (g x) % 16) (r (g x) / 16) B) σ1 (by omega) h1 p1 (turn_ok hB)
    refine ⟨σ2, ?_, h2, p2, o1.tr o2⟩
    rw [show d + 1 + 1 + q = (d + 1 + q) + 1 by omega, FX6_simulate_L36, if_neg (fun hh => absurd ((nI_leI (by omega) (by omega)).mp hh) (by omega)), C_1 hc, b1_s, hg x, er, e1, b1_s, nI_1, e2]
end SI
