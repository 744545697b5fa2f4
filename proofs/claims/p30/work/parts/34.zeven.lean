/-! Layer 2: the reference's evening. -/
theorem zR_l {A : AS} {z : Nat → Int32} {t : Nat} (h : zR A z) (ht : t < 6) (h0t : aT A t ≠ 0) : zR (shmT A t) (upd (upd z (9 + t) (nI (aT A t - 1))) 4 (nI (aLo A + 1))) := by
  have h2 := zR_t (v := aT A t - 1) h ht
  obtain ⟨h0, h1, h2, h3, h4, h5, h6, hs, ht', hv, hm⟩ := h2
  unfold shmT
  rw [if_neg h0t]
  refine ⟨?_, ?_, ?_, ?_, upd_e, ?_, ?_, fun i hi => ?_, fun i hi => ⟨?_, ?_, ?_⟩, fun i hi => ?_, fun k hk j hj => ?_⟩
  · rw [upd_n (by omega)]; exact h0
  · rw [upd_n (by omega)]; exact h1
  · rw [upd_n (by omega)]; exact h2
  · rw [upd_n (by omega)]; exact h3
  · rw [upd_n (by omega)]; exact h5
  · rw [upd_n (by omega)]; exact h6
  · rw [upd_n (show 7 + i ≠ 4 by omega)]; exact hs i hi
  · rw [upd_n (show 9 + i ≠ 4 by omega)]; exact (ht' i hi).1
  · rw [upd_n (show 15 + i ≠ 4 by omega)]; exact (ht' i hi).2.1
  · rw [upd_n (show 21 + i ≠ 4 by omega)]; exact (ht' i hi).2.2
  · rw [upd_n (show 27 + i ≠ 4 by omega)]; exact hv i hi
  · rw [upd_n (show 30 + 7 * k + j ≠ 4 by omega)]; exact hm k hk j hj
section ZE
variable {σ : qH} {a : Nat} {A : AS}
theorem dif_le {x y : Nat} (hx : x < 2 ^ 30) (hy : y < 2 ^ 30) : (0 ≤ nI x - nI y) = (y ≤ x) := by
  apply propext
  rw [Int32.le_iff_toInt_le, nI_sT hx hy, show (0 : Int32).toInt = 0 from rfl]; omega
theorem dif_eq {x y : Nat} (hx : x < 2 ^ 30) (hy : y < 2 ^ 30) : (nI x - nI y = 0) = (x = y) := by
  apply propext
  rw [← Int32.toInt_inj, nI_sT hx hy, show (0 : Int32).toInt = 0 from rfl]; omega
theorem shmT_1 {A : AS} {t : Nat} : shmT (evn1 A) t = evn1 (shmT A t) := by
  unfold shmT
  by_cases c : aT A t = 0
  · rw [if_pos c, if_pos (show aT (evn1 A) t = 0 from c)]
  · rw [if_neg c, if_neg (show ¬ aT (evn1 A) t = 0 from c)]
theorem shm_1 {A : AS} {i j : Nat} : shm (evn1 A) i j = evn1 (shm A i j) := by
  unfold shm
  show (if wt A (mk A i) = wt A (mk A j) then evn1 A else shmT (evn1 A) (mk A (if wt A (mk A i) < wt A (mk A j) then i else j) 1)) = _
  split
  · rfl
  · exact shmT_1
theorem evI_1 : ∀ (d : Nat) (A : AS) (k i : Nat), evI d (evn1 A) k i = evn1 (evI d A k i)
  | 0, _, _, _ => rfl
  | d + 1, A, k, i => by
    rw [evI, evI, ← evI_1 d]
    congr 1
    show (if matt A (mk A k) (mk A i) then shm (evn1 A) k i else evn1 A) = _
    rw [shm_1]; split <;> rfl
theorem evO_1 : ∀ (d : Nat) (A : AS) (k : Nat), evO d (evn1 A) k = evn1 (evO d A k)
  | 0, _, _ => rfl
  | d + 1, A, k => by
    rw [evO, evO, ← evO_1 d, ← evI_1]
end ZE
