/-! Layer 3: the ground at the start. -/
theorem k3_stat {b : Nat} {s : State} (hts : ∀ w ∈ lw_tbl, w.before #[Value.ref b] s = true) (hgv : (Jvm.Cond.and given_1 narrow_1).before #[Value.ref b] s = true) (nm : String) (F : List Int32) (hN : F.length < 2 ^ 31) (hl : Cond.laysStatic "SteepleWords$Text" nm "[I" ∈ lw_tbl)
    (m1 : Cond.arrayOf (.static "SteepleWords$Text" nm "[I") .int ∈ flatC (Jvm.Cond.and given_1 narrow_1)) (m2 : Cond.eq (.length (.static "SteepleWords$Text" nm "[I")) (.int (nI F.length)) ∈ flatC (Jvm.Cond.and given_1 narrow_1))
    (m3 : ∀ j, j < F.length → Cond.eq (.elem (.static "SteepleWords$Text" nm "[I") (.int (nI j))) (.int (F.getD j 0)) ∈ flatC (Jvm.Cond.and given_1 narrow_1)) :
    ∃ a : Nat, a < s.heap.size ∧ va_X a F.length (fun j => F.getD j 0) s s.heap ∧ va_Z "SteepleWords$Text" nm "[I" (.ref a) (fun q => s.heap.size ≤ q) s s.heap := by
  have hq := flat_of_before _ hgv
  obtain ⟨a, h1, h2, h3⟩ := k3_arr F hN (hq _ m1) (hq _ m2) (fun j hj => hq _ (m3 j hj))
  exact ⟨a, h2, h3, va_Zof (hts _ hl) (hts (.initialized "SteepleWords$Text") (by decide +kernel)) h1 (fun q hq => Nat.not_le.mpr hq)⟩
theorem k3_nc {b : Nat} {s : State} (hgv : (Jvm.Cond.and given_1 narrow_1).before #[Value.ref b] s = true) : ∀ x ∈ qnc, va_Nc x.1 x.2 s := by
  have hq := flat_of_before _ hgv
  have hm : ∀ x ∈ qnc, Cond.not (.castable x.1 x.2) ∈ flatC (Jvm.Cond.and given_1 narrow_1) := by decide +kernel
  exact fun x hx => va_Nc.of (hq _ (hm x hx))
theorem k3_tx {args : Array Value} {s : State} (hts : ∀ w ∈ lw_tbl, w.before args s = true) : ∀ x ∈ qtexts, ∃ sa : Nat, vk_R RX6 x.1 x.2 sa s := by
  have hm : ∀ x ∈ qtexts, Cond.stringRef RX6 x.1 x.2 ∈ lw_tbl := by decide +kernel
  exact fun x hx => k3_txt (hts _ (hm x hx))
theorem k3_ne {args : Array Value} {s : State} (hts : ∀ w ∈ lw_tbl, w.before args s = true) : ∀ x ∈ qnest, va_Nw (.methodLinkNest x.1 x.2.1 x.2.2.1 x.2.2.2) s := by
  have hm : ∀ x ∈ qnest, Cond.methodLinkNest x.1 x.2.1 x.2.2.1 x.2.2.2 ∈ lw_tbl := by decide +kernel
  exact fun x hx => va_Nw.of rfl (hts _ (hm x hx))
theorem k3_fa {args : Array Value} {s : State} (hts : ∀ w ∈ lw_tbl, w.before args s = true) : ∀ w ∈ lw_face, va_Nw w s := by
  intro w hw
  obtain ⟨h1, h2⟩ := List.mem_filter.mp hw
  simp only [Bool.and_eq_true] at h2
  exact va_Nw.of h2.1 (hts w h1)
theorem k3_zq {b : Nat} {s : State} (hts : ∀ w ∈ lw_tbl, w.before #[Value.ref b] s = true) (hgv : (Jvm.Cond.and given_1 narrow_1).before #[Value.ref b] s = true) (nm d : String) (hl : Cond.laysStatic Bundle.tN nm d ∈ lw_tbl) (m1 : Cond.isRef (.static Bundle.tN nm d) ∈ flatC (Jvm.Cond.and given_1 narrow_1)) :
    vx_Zq Bundle.tN nm d (fun q => s.heap.size ≤ q) s s.heap :=
  vx_Zqof (hts _ hl) (hts (.initialized Bundle.tN) (by decide +kernel)) (flat_of_before _ hgv _ m1) (fun q hq => Nat.not_le.mpr hq)
abbrev k3_S : List Int32 := [1, 0, 2, 1, 0, 5, 2, 1, 20, 2, 1, 40, 3, 1, 400, 2, 0, 20]
abbrev k3_O : List Int32 := [1, 0, 2, 1, 0, 5, 1, 1, 9, 2, 1, 60, 3, 1, 400, 2, 0, 20]
abbrev k3_Wd : List Int32 := [1, 0, 2, 1, 0, 5, 3, 1, 999, 3, 1, 999]
abbrev k3_D : List Int32 := [2, 0, 15]
abbrev k3_U : List Int32 := [1, 0, 5, 1, 0, 9]
abbrev k3_Q : List Int32 := []
abbrev k3_V : List Int32 := [1, 0, 2, 3, 1, 999]
/-- the ground -/
theorem k3_ground {b : Nat} {s : State} (hts : ∀ w ∈ lw_tbl, w.before #[Value.ref b] s = true) (hgv : (Jvm.Cond.and given_1 narrow_1).before #[Value.ref b] s = true) :
    ∃ G : qG, G.2.2.1 = s.heap ∧ G.2.2.2.2 = k3_ro s ∧ qT G s := by
  obtain ⟨D, hD⟩ := k3_cl hts
  obtain ⟨c0, y0, z0⟩ := k3_ac (k3_gt hts wd_88)
  obtain ⟨c1, y1, z1⟩ := k3_ac (k3_gt hts wd_108)
  have hao := hts (.arrayOver (.object RX2)) (by decide +kernel)
  obtain ⟨c2, y2, z2⟩ := k3_ao hao
  obtain ⟨a0, l0, x0, s0⟩ := k3_stat hts hgv "SHADOW" k3_S (by decide) (by decide +kernel) (by decide +kernel) (by decide +kernel) (by decide +kernel)
  obtain ⟨a1, l1, x1, s1⟩ := k3_stat hts hgv "POOL" k3_O (by decide) (by decide +kernel) (by decide +kernel) (by decide +kernel) (by decide +kernel)
  obtain ⟨a2, l2, x2, s2⟩ := k3_stat hts hgv "WORD" k3_Wd (by decide) (by decide +kernel) (by decide +kernel) (by decide +kernel) (by decide +kernel)
  obtain ⟨a3, l3, x3, s3⟩ := k3_stat hts hgv "DROP" k3_D (by decide) (by decide +kernel) (by decide +kernel) (by decide +kernel) (by decide +kernel)
  obtain ⟨a4, l4, x4, s4⟩ := k3_stat hts hgv "TRUST" k3_U (by decide) (by decide +kernel) (by decide +kernel) (by decide +kernel) (by decide +kernel)
  obtain ⟨a5, l5, x5, s5⟩ := k3_stat hts hgv "EVENING" k3_Q (by decide) (by decide +kernel) (by decide +kernel) (by decide +kernel) (by decide +kernel)
  obtain ⟨a6, l6, x6, s6⟩ := k3_stat hts hgv "SURVEY" k3_V (by decide) (by decide +kernel) (by decide +kernel) (by decide +kernel) (by decide +kernel)
  refine ⟨(D, fun k => [c0, c1, c2, c0].getD k 0, s.heap, fun k => [a0, a1, a2, a3, a4, a5, a6].getD k 0, k3_ro s), rfl, rfl, ?_⟩
  · refine ⟨⟨hD, fun k q hq => ?_⟩, fun x hx => ?_, fun a m f h => k3_ro_spec h, k3_fa hts, k3_ne hts, k3_tx hts, va_AO.of hao, k3_nc hgv, ?_, ?_⟩
    · rcases (show k = 0 ∨ k = 1 ∨ k = 2 ∨ k = 3 ∨ 4 ≤ k by omega) with rfl | rfl | rfl | rfl | h
      · cases hq; exact ⟨y0, z0⟩
      · cases hq; exact ⟨y1, z1⟩
      · cases hq; exact ⟨y2, z2⟩
      · cases hq; exact ⟨y0, z0⟩
      · rw [List.getElem?_eq_none (show (qtys _).length ≤ k from h)] at hq
        cases hq
    · simp only [qst, List.mem_cons, List.not_mem_nil, or_false] at hx
      rcases hx with rfl | rfl | rfl | rfl | rfl | rfl | rfl
      · exact s0
      · exact s1
      · exact s2
      · exact s3
      · exact s4
      · exact s5
      · exact s6
    · exact k3_zq hts hgv "UNASSIGNED_STACK" Bundle.steD (by decide +kernel) (by decide +kernel)
    · exact k3_zq hts hgv "SUPPRESSED_SENTINEL" Bundle.listD (by decide +kernel) (by decide +kernel)
