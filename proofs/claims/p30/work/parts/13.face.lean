def rmX6_need : Room := { frames := 6, cells := 1, slots := 6, locals := 82 }
theorem qyX6_need : qY yX6_need cX6_need 1 (none) 1 := ⟨wd_194, wd_17, by decide +kernel, by decide +kernel, by decide +kernel⟩
set_option maxHeartbeats 4000000 in
set_option maxRecDepth 100000 in
theorem mX6_need {l : Launch} {G : qG} (hst : l.stackTraces = false) (p0 : Int32) (σ : qH) (n : Option Nat) (o : (Unit) ⊕ String) (hF : FX6_need p0 σ = some o) : qM l G yX6_need cX6_need 1 (none) rmX6_need [.int p0] σ n (rU σ n o) := by
  refine q_body (own := RX6) (nm := "need") (ls := [(0, .int p0)]) hst (by decide +kernel) rfl rfl (Nat.le_of_ble_eq_true rfl) rfl rfl rfl ?_
  unfold FX6_need at hF
  refine x_iload_n 1 0 dX6_need_0 rfl rfl ?_
  rcases ite_inv hF with ⟨hc, hF⟩ | ⟨hc, hF⟩
  · refine x_if_ne 15 4 dX6_need_1 (by decide) rfl (fun q => absurd hc q) (fun _ => ?_)
    cases hF
    exact x_throwSW (text := "an argument is out of its range") (names := ["java/lang/RuntimeException", "java/lang/Exception"]) (by decide) (by decide) rfl wd_195 wd_26 (by decide) tw_305 tg_305 rfl dX6_need_4 dX6_need_7 dX6_need_8 dX6_need_11 dX6_need_14 (by decide) (Nat.le_of_ble_eq_true rfl) (by decide) (by decide) rfl (by decide) (by decide)
  · refine x_if_ne 15 4 dX6_need_1 (by decide) rfl (fun _ => ?_) (fun q => absurd q hc)
    cases hF
    exact x_vret rfl rfl (by decide) (by decide) dX6_need_15
def rmX6_append : Room := { frames := 7, cells := 2, slots := 12, locals := 102 }
theorem qyX6_append : qY yX6_append cX6_append 2 (some .int) 1 := ⟨wd_191, wd_17, by decide +kernel, by decide +kernel, by decide +kernel⟩
theorem kX6_append {b : Nat} {p0 : Int32} {σ : qH} {o : (Int32 × qH) ⊕ (String × qH)} (h : FX6_append b p0 σ = some o) : ∃ fs : List Value, True ∧ σ b = some (.inr (4, fs)) := by
  unfold FX6_append at h
  obtain ⟨_, h1, _⟩ := b1_inv h
  obtain ⟨fs, h2⟩ := gC_inv h1
  exact ⟨fs, trivial, h2⟩
set_option maxHeartbeats 4000000 in
set_option maxRecDepth 100000 in
theorem mX6_append {l : Launch} {G : qG} (hst : l.stackTraces = false) (b : Nat) (p0 : Int32) (σ : qH) (n : Option Nat) (o : (Int32 × qH) ⊕ (String × qH)) (hF : FX6_append b p0 σ = some o) : qM l G yX6_append cX6_append 2 (some .int) rmX6_append [.ref b, .int p0] σ n (rIw σ n o) := by
  refine q_body (own := RX6) (nm := "append") (ls := [(0, .ref b), (1, .int p0)]) hst (by decide +kernel) rfl rfl (Nat.le_of_ble_eq_true rfl) rfl rfl rfl ?_
  unfold FX6_append at hF
  obtain ⟨_, hC, hF⟩ := b1_inv hF
  refine x_iconst 1 (0 : Int32) dX6_append_0 rfl (by decide) ?_
  refine x_iload_n 2 1 dX6_append_1 rfl rfl ?_
  obtain ⟨x1, h13, hF⟩ := b1_inv hF
  have hJ : qX l G RX6 "append" cX6_append 2 (some .int) [] rmX6_append 2 12 (rIw σ n o) 0 0 σ n 17 [(0, .ref b), (1, .int p0)] [.int x1] := by
    rcases bxw_inv hF with ⟨u, h2, hF⟩ | ⟨e3, h2, rfl⟩
    rotate_left
    · skip
      exact x_callSX (As := [.int x1]) (rest := []) (mX6_need hst x1 σ n (.inr e3) h2) qyX6_need wd_192 wd_193 rfl rfl (by decide) (Nat.le_of_ble_eq_true rfl) (by decide) dX6_append_17 rfl rfl (by decide) (by decide)
    refine x_callS (As := [.int x1]) (rest := []) 20 1 6 (mX6_need hst x1 σ n (.inl u) h2) qyX6_need wd_192 wd_193 rfl rfl (by decide) (Nat.le_of_ble_eq_true rfl) (by decide) dX6_append_17 rfl rfl rfl rfl ?_
    refine x_aload_n 21 0 dX6_append_20 rfl rfl ?_
    obtain ⟨r4, h5, hF⟩ := b1_inv hF
    refine x_getR 24 5 inX6 rfl (by decide) wd_155 h5 dX6_append_21 rfl ?_
    obtain ⟨v7, h6, hF⟩ := b1_inv hF
    obtain ⟨fs, hb⟩ : ∃ fs : List Value, True ∧ σ r4 = some (.inr (3, fs)) := kX5_isFull h6
    refine x_callV (As := []) (rest := []) 27 1 6 (mX5_isFull hst r4 σ n v7 h6) qyX5_isFull wd_263 wd_264 wd_265 hb.2 rfl rfl rfl (by decide) (Nat.le_of_ble_eq_true rfl) (by decide) dX6_append_24 rfl rfl rfl rfl ?_
    rcases ite_inv hF with ⟨hc, hF⟩ | ⟨hc, hF⟩
    · refine x_if_eq 40 30 dX6_append_27 (by decide) rfl (fun _ => ?_) (fun q => absurd hc q)
      refine x_aload_n 41 0 dX6_append_40 rfl rfl ?_
      obtain ⟨r8, h9, hF⟩ := b1_inv hF
      refine x_getR 44 5 inX6 rfl (by decide) wd_155 h9 dX6_append_41 rfl ?_
      refine x_iload_n 45 1 dX6_append_44 rfl rfl ?_
      obtain ⟨v11, s12, h10, hF⟩ := b2_inv hF
      obtain ⟨fs, hb⟩ : ∃ fs : List Value, True ∧ σ r8 = some (.inr (3, fs)) := kX5_add h10
      refine x_callV (As := [.int p0]) (rest := []) 48 1 6 (mX5_add hst r8 p0 σ n v11 s12 h10) qyX5_add wd_283 wd_284 wd_285 hb.2 rfl rfl rfl (by decide) (Nat.le_of_ble_eq_true rfl) (by decide) dX6_append_45 rfl rfl rfl rfl ?_
      cases hF
      exact x_iret rfl rfl (by decide) (by decide) dX6_append_48
    · refine x_if_eq 40 30 dX6_append_27 (by decide) rfl (fun q => absurd q hc) (fun _ => ?_)
      cases hF
      exact x_throwS (text := "the text is full") (names := ["java/lang/RuntimeException", "java/lang/Exception"]) (by decide) (by decide) rfl wd_267 wd_27 (by decide) tw_60 tg_60 rfl dX6_append_30 dX6_append_33 dX6_append_34 dX6_append_36 dX6_append_39 (by decide) (Nat.le_of_ble_eq_true rfl) (by decide) (by decide) rfl (by decide) (by decide)
  have hF := h13
  rcases ite_inv hF with ⟨hc, hF⟩ | ⟨hc, hF⟩
  · refine x_icmp_gt 16 5 dX6_append_2 (by decide) rfl (fun _ => ?_) (fun q => absurd hc q)
    refine x_iconst 17 (0 : Int32) dX6_append_16 rfl (by decide) ?_
    have e1 := Option.some.inj hF
    subst e1
    exact hJ
  · refine x_icmp_gt 16 5 dX6_append_2 (by decide) rfl (fun q => absurd q hc) (fun _ => ?_)
    refine x_iload_n 6 1 dX6_append_5 rfl rfl ?_
    refine x_sipush 9 (255 : Int32) dX6_append_6 rfl (by decide) ?_
    rcases ite_inv hF with ⟨hc, hF⟩ | ⟨hc, hF⟩
    · refine x_icmp_gt 16 12 dX6_append_9 (by decide) rfl (fun _ => ?_) (fun q => absurd hc q)
      refine x_iconst 17 (0 : Int32) dX6_append_16 rfl (by decide) ?_
      have e1 := Option.some.inj hF
      subst e1
      exact hJ
    · refine x_icmp_gt 16 12 dX6_append_9 (by decide) rfl (fun q => absurd q hc) (fun _ => ?_)
      refine x_iconst 13 (1 : Int32) dX6_append_12 rfl (by decide) ?_
      refine x_goto 17 dX6_append_13 (by decide) ?_
      have e1 := Option.some.inj hF
      subst e1
      exact hJ
def rmX6_doCommandOfText : Room := { frames := 5, cells := 0, slots := 0, locals := 118 }
theorem qyX6_doCommandOfText : qY yX6_doCommandOfText cX6_doCommandOfText 3 (some .boolean) 0 := ⟨wd_348, wd_17, by decide +kernel, by decide +kernel, by decide +kernel⟩
theorem kX6_doCommandOfText {b : Nat} {σ : qH} {o : Int32 × qH} (h : FX6_doCommandOfText b σ = some o) : ∃ fs : List Value, True ∧ σ b = some (.inr (4, fs)) := by
  unfold FX6_doCommandOfText at h
  obtain ⟨_, h1, _⟩ := b1_inv h
  obtain ⟨fs, h2⟩ := gC_inv h1
  exact ⟨fs, trivial, h2⟩
set_option maxHeartbeats 4000000 in
set_option maxRecDepth 100000 in
theorem mX6_doCommandOfText {l : Launch} {G : qG} (hst : l.stackTraces = false) (b : Nat) (σ : qH) (n : Option Nat) (ro : Int32) (so : qH) (hF : FX6_doCommandOfText b σ = some (ro, so)) : qM l G yX6_doCommandOfText cX6_doCommandOfText 3 (some .boolean) rmX6_doCommandOfText [.ref b] σ n (.inl (some (.int ro), so, n)) := by
  refine q_body (own := RX6) (nm := "doCommandOfText") (ls := [(0, .ref b)]) hst (by decide +kernel) rfl rfl (Nat.le_of_ble_eq_true rfl) rfl rfl rfl ?_
  unfold FX6_doCommandOfText at hF
  obtain ⟨_, hC, hF⟩ := b1_inv hF
  refine x_aload_n 1 0 dX6_doCommandOfText_0 rfl rfl ?_
  obtain ⟨r1, h2, hF⟩ := b1_inv hF
  refine x_getR 4 5 inX6 rfl (by decide) wd_155 h2 dX6_doCommandOfText_1 rfl ?_
  refine x_iconst 5 (0 : Int32) dX6_doCommandOfText_4 rfl (by decide) ?_
  obtain ⟨v4, h3, hF⟩ := b1_inv hF
  obtain ⟨fs, hb⟩ : ∃ fs : List Value, True ∧ σ r1 = some (.inr (3, fs)) := kX5_number h3
  refine x_callV (As := [.int (0 : Int32)]) (rest := []) 8 0 0 (mX5_number hst r1 (0 : Int32) σ n v4 h3) qyX5_number wd_349 wd_350 wd_351 hb.2 rfl rfl rfl (by decide) (Nat.le_of_ble_eq_true rfl) (by decide) dX6_doCommandOfText_5 rfl rfl rfl rfl ?_
  refine x_istore_n 9 1 [(1, .int v4), (0, .ref b)] dX6_doCommandOfText_8 rfl rfl (by decide) rfl ?_
  refine x_aload_n 10 1 dX6_doCommandOfText_9 rfl rfl ?_
  obtain ⟨r5, h6, hF⟩ := b1_inv hF
  refine x_getR 13 5 inX6 rfl (by decide) wd_155 h6 dX6_doCommandOfText_10 rfl ?_
  refine x_iconst 14 (1 : Int32) dX6_doCommandOfText_13 rfl (by decide) ?_
  obtain ⟨v8, h7, hF⟩ := b1_inv hF
  obtain ⟨fs, hb⟩ : ∃ fs : List Value, True ∧ σ r5 = some (.inr (3, fs)) := kX5_number h7
  refine x_callV (As := [.int (1 : Int32)]) (rest := []) 17 0 0 (mX5_number hst r5 (1 : Int32) σ n v8 h7) qyX5_number wd_349 wd_350 wd_351 hb.2 rfl rfl rfl (by decide) (Nat.le_of_ble_eq_true rfl) (by decide) dX6_doCommandOfText_14 rfl rfl rfl rfl ?_
  refine x_istore_n 18 2 [(2, .int v8), (1, .int v4), (0, .ref b)] dX6_doCommandOfText_17 rfl rfl (by decide) rfl ?_
  refine x_aload_n 19 2 dX6_doCommandOfText_18 rfl rfl ?_
  obtain ⟨r9, h10, hF⟩ := b1_inv hF
  refine x_getR 22 5 inX6 rfl (by decide) wd_155 h10 dX6_doCommandOfText_19 rfl ?_
  obtain ⟨v12, h11, hF⟩ := b1_inv hF
  obtain ⟨fs, hb⟩ : ∃ fs : List Value, True ∧ σ r9 = some (.inr (3, fs)) := kX5_command h11
  refine x_callV (As := []) (rest := []) 25 0 0 (mX5_command hst r9 σ n v12 h11) qyX5_command wd_353 wd_354 wd_355 hb.2 rfl rfl rfl (by decide) (Nat.le_of_ble_eq_true rfl) (by decide) dX6_doCommandOfText_22 rfl rfl rfl rfl ?_
  rcases ite_inv hF with ⟨h18, hF⟩ | ⟨h18, hF⟩
  · have hK : qX l G RX6 "doCommandOfText" cX6_doCommandOfText 3 (some .boolean) [] rmX6_doCommandOfText 0 0 (.inl (some (.int ro), so, n)) 0 0 σ n 235 [(2, .int v8), (1, .int v4), (0, .ref b)] [] := by
      refine x_aload_n 236 2 dX6_doCommandOfText_235 rfl rfl ?_
      obtain ⟨r13, h14, hF⟩ := b1_inv hF
      refine x_getR 239 0 inX6 rfl (by decide) wd_150 h14 dX6_doCommandOfText_236 rfl ?_
      refine x_iload_n 240 1 dX6_doCommandOfText_239 rfl rfl ?_
      obtain ⟨v16, s17, h15, hF⟩ := b2_inv hF
      obtain ⟨fs, hb⟩ : ∃ fs : List Value, True ∧ σ r13 = some (.inr (2, fs)) := kX2_tryDrop h15
      refine x_callV (As := [.int v4]) (rest := []) 243 0 0 (mX2_tryDrop hst r13 v4 σ n v16 s17 h15) qyX2_tryDrop wd_402 wd_403 wd_404 hb.2 rfl rfl rfl (by decide) (Nat.le_of_ble_eq_true rfl) (by decide) dX6_doCommandOfText_240 rfl rfl rfl rfl ?_
      obtain ⟨hz, hF⟩ := ite_none hF
      cases hF
      exact x_zret rfl (by rcases hz with h | h <;> rw [h] <;> rfl) rfl (by decide) (by decide) dX6_doCommandOfText_243
    · exact x_tableIn (210) 235 dX6_doCommandOfText_25 (by rw [h18]; decide) (by rw [h18]; decide) (by rw [h18]; decide) (by decide) hK
  rcases ite_inv hF with ⟨h40, hF⟩ | ⟨h40, hF⟩
  · have hK : qX l G RX6 "doCommandOfText" cX6_doCommandOfText 3 (some .boolean) [] rmX6_doCommandOfText 0 0 (.inl (some (.int ro), so, n)) 0 0 σ n 163 [(2, .int v8), (1, .int v4), (0, .ref b)] [] := by
      refine x_aload_n 164 2 dX6_doCommandOfText_163 rfl rfl ?_
      obtain ⟨r19, h20, hF⟩ := b1_inv hF
      refine x_getR 167 0 inX6 rfl (by decide) wd_150 h20 dX6_doCommandOfText_164 rfl ?_
      refine x_iload_n 168 1 dX6_doCommandOfText_167 rfl rfl ?_
      refine x_iload_n 169 0 dX6_doCommandOfText_168 rfl rfl ?_
      refine x_iconst 170 (1 : Int32) dX6_doCommandOfText_169 rfl (by decide) ?_
      refine x_aload_n 171 2 dX6_doCommandOfText_170 rfl rfl ?_
      obtain ⟨r21, h22, hF⟩ := b1_inv hF
      refine x_getR 174 5 inX6 rfl (by decide) wd_155 h22 dX6_doCommandOfText_171 rfl ?_
      refine x_iconst 175 (2 : Int32) dX6_doCommandOfText_174 rfl (by decide) ?_
      obtain ⟨v24, h23, hF⟩ := b1_inv hF
      obtain ⟨fs, hb⟩ : ∃ fs : List Value, True ∧ σ r21 = some (.inr (3, fs)) := kX5_number h23
      refine x_callV (As := [.int (2 : Int32)]) (rest := [.int (1 : Int32), .int v8, .int v4, .ref r19]) 178 0 0 (mX5_number hst r21 (2 : Int32) σ n v24 h23) qyX5_number wd_349 wd_350 wd_351 hb.2 rfl rfl rfl (by decide) (Nat.le_of_ble_eq_true rfl) (by decide) dX6_doCommandOfText_175 rfl rfl rfl rfl ?_
      refine x_aload_n 179 2 dX6_doCommandOfText_178 rfl rfl ?_
      obtain ⟨r25, h26, hF⟩ := b1_inv hF
      refine x_getR 182 5 inX6 rfl (by decide) wd_155 h26 dX6_doCommandOfText_179 rfl ?_
      refine x_iconst 183 (3 : Int32) dX6_doCommandOfText_182 rfl (by decide) ?_
      obtain ⟨v28, h27, hF⟩ := b1_inv hF
      obtain ⟨fs, hb⟩ : ∃ fs : List Value, True ∧ σ r25 = some (.inr (3, fs)) := kX5_number h27
      refine x_callV (As := [.int (3 : Int32)]) (rest := [.int v24, .int (1 : Int32), .int v8, .int v4, .ref r19]) 186 0 0 (mX5_number hst r25 (3 : Int32) σ n v28 h27) qyX5_number wd_349 wd_350 wd_351 hb.2 rfl rfl rfl (by decide) (Nat.le_of_ble_eq_true rfl) (by decide) dX6_doCommandOfText_183 rfl rfl rfl rfl ?_
      refine x_aload_n 187 2 dX6_doCommandOfText_186 rfl rfl ?_
      obtain ⟨r29, h30, hF⟩ := b1_inv hF
      refine x_getR 190 5 inX6 rfl (by decide) wd_155 h30 dX6_doCommandOfText_187 rfl ?_
      refine x_iconst 191 (4 : Int32) dX6_doCommandOfText_190 rfl (by decide) ?_
      obtain ⟨v32, h31, hF⟩ := b1_inv hF
      obtain ⟨fs, hb⟩ : ∃ fs : List Value, True ∧ σ r29 = some (.inr (3, fs)) := kX5_number h31
      refine x_callV (As := [.int (4 : Int32)]) (rest := [.int v28, .int v24, .int (1 : Int32), .int v8, .int v4, .ref r19]) 194 0 0 (mX5_number hst r29 (4 : Int32) σ n v32 h31) qyX5_number wd_349 wd_350 wd_351 hb.2 rfl rfl rfl (by decide) (Nat.le_of_ble_eq_true rfl) (by decide) dX6_doCommandOfText_191 rfl rfl rfl rfl ?_
      refine x_aload_n 195 2 dX6_doCommandOfText_194 rfl rfl ?_
      obtain ⟨r33, h34, hF⟩ := b1_inv hF
      refine x_getR 198 5 inX6 rfl (by decide) wd_155 h34 dX6_doCommandOfText_195 rfl ?_
      refine x_iconst 199 (5 : Int32) dX6_doCommandOfText_198 rfl (by decide) ?_
      obtain ⟨v36, h35, hF⟩ := b1_inv hF
      obtain ⟨fs, hb⟩ : ∃ fs : List Value, True ∧ σ r33 = some (.inr (3, fs)) := kX5_number h35
      refine x_callV (As := [.int (5 : Int32)]) (rest := [.int v32, .int v28, .int v24, .int (1 : Int32), .int v8, .int v4, .ref r19]) 202 0 0 (mX5_number hst r33 (5 : Int32) σ n v36 h35) qyX5_number wd_349 wd_350 wd_351 hb.2 rfl rfl rfl (by decide) (Nat.le_of_ble_eq_true rfl) (by decide) dX6_doCommandOfText_199 rfl rfl rfl rfl ?_
      obtain ⟨v38, s39, h37, hF⟩ := b2_inv hF
      obtain ⟨fs, hb⟩ : ∃ fs : List Value, True ∧ σ r19 = some (.inr (2, fs)) := kX2_tryMeasure h37
      refine x_callV (As := [.int v4, .int v8, .int (1 : Int32), .int v24, .int v28, .int v32, .int v36]) (rest := []) 205 0 0 (mX2_tryMeasure hst r19 v4 v8 (1 : Int32) v24 v28 v32 v36 σ n v38 s39 h37) qyX2_tryMeasure wd_357 wd_358 wd_359 hb.2 rfl rfl rfl (by decide) (Nat.le_of_ble_eq_true rfl) (by decide) dX6_doCommandOfText_202 rfl rfl rfl rfl ?_
      obtain ⟨hz, hF⟩ := ite_none hF
      cases hF
      exact x_zret rfl (by rcases hz with h | h <;> rw [h] <;> rfl) rfl (by decide) (by decide) dX6_doCommandOfText_205
    · exact x_tableIn (138) 163 dX6_doCommandOfText_25 (by rw [h40]; decide) (by rw [h40]; decide) (by rw [h40]; decide) (by decide) hK
  rcases ite_inv hF with ⟨h46, hF⟩ | ⟨h46, hF⟩
  · have hK : qX l G RX6 "doCommandOfText" cX6_doCommandOfText 3 (some .boolean) [] rmX6_doCommandOfText 0 0 (.inl (some (.int ro), so, n)) 0 0 σ n 254 [(2, .int v8), (1, .int v4), (0, .ref b)] [] := by
      refine x_aload_n 255 2 dX6_doCommandOfText_254 rfl rfl ?_
      obtain ⟨r41, h42, hF⟩ := b1_inv hF
      refine x_getR 258 0 inX6 rfl (by decide) wd_150 h42 dX6_doCommandOfText_255 rfl ?_
      obtain ⟨v44, s45, h43, hF⟩ := b2_inv hF
      obtain ⟨fs, hb⟩ : ∃ fs : List Value, True ∧ σ r41 = some (.inr (2, fs)) := kX2_passEvening h43
      refine x_callV (As := []) (rest := []) 261 0 0 (mX2_passEvening hst r41 σ n v44 s45 h43) qyX2_passEvening wd_428 wd_429 wd_430 hb.2 rfl rfl rfl (by decide) (Nat.le_of_ble_eq_true rfl) (by decide) dX6_doCommandOfText_258 rfl rfl rfl rfl ?_
      refine x_pop 262 rfl dX6_doCommandOfText_261 rfl ?_
      refine x_iconst 263 (1 : Int32) dX6_doCommandOfText_262 rfl (by decide) ?_
      cases hF
      exact x_zret rfl rfl rfl (by decide) (by decide) dX6_doCommandOfText_263
    · exact x_tableIn (229) 254 dX6_doCommandOfText_25 (by rw [h46]; decide) (by rw [h46]; decide) (by rw [h46]; decide) (by decide) hK
  rcases ite_inv hF with ⟨h68, hF⟩ | ⟨h68, hF⟩
  · have hK : qX l G RX6 "doCommandOfText" cX6_doCommandOfText 3 (some .boolean) [] rmX6_doCommandOfText 0 0 (.inl (some (.int ro), so, n)) 0 0 σ n 120 [(2, .int v8), (1, .int v4), (0, .ref b)] [] := by
      refine x_aload_n 121 2 dX6_doCommandOfText_120 rfl rfl ?_
      obtain ⟨r47, h48, hF⟩ := b1_inv hF
      refine x_getR 124 0 inX6 rfl (by decide) wd_150 h48 dX6_doCommandOfText_121 rfl ?_
      refine x_iload_n 125 1 dX6_doCommandOfText_124 rfl rfl ?_
      refine x_iload_n 126 0 dX6_doCommandOfText_125 rfl rfl ?_
      refine x_iconst 127 (0 : Int32) dX6_doCommandOfText_126 rfl (by decide) ?_
      refine x_aload_n 128 2 dX6_doCommandOfText_127 rfl rfl ?_
      obtain ⟨r49, h50, hF⟩ := b1_inv hF
      refine x_getR 131 5 inX6 rfl (by decide) wd_155 h50 dX6_doCommandOfText_128 rfl ?_
      refine x_iconst 132 (2 : Int32) dX6_doCommandOfText_131 rfl (by decide) ?_
      obtain ⟨v52, h51, hF⟩ := b1_inv hF
      obtain ⟨fs, hb⟩ : ∃ fs : List Value, True ∧ σ r49 = some (.inr (3, fs)) := kX5_number h51
      refine x_callV (As := [.int (2 : Int32)]) (rest := [.int (0 : Int32), .int v8, .int v4, .ref r47]) 135 0 0 (mX5_number hst r49 (2 : Int32) σ n v52 h51) qyX5_number wd_349 wd_350 wd_351 hb.2 rfl rfl rfl (by decide) (Nat.le_of_ble_eq_true rfl) (by decide) dX6_doCommandOfText_132 rfl rfl rfl rfl ?_
      refine x_aload_n 136 2 dX6_doCommandOfText_135 rfl rfl ?_
      obtain ⟨r53, h54, hF⟩ := b1_inv hF
      refine x_getR 139 5 inX6 rfl (by decide) wd_155 h54 dX6_doCommandOfText_136 rfl ?_
      refine x_iconst 140 (3 : Int32) dX6_doCommandOfText_139 rfl (by decide) ?_
      obtain ⟨v56, h55, hF⟩ := b1_inv hF
      obtain ⟨fs, hb⟩ : ∃ fs : List Value, True ∧ σ r53 = some (.inr (3, fs)) := kX5_number h55
      refine x_callV (As := [.int (3 : Int32)]) (rest := [.int v52, .int (0 : Int32), .int v8, .int v4, .ref r47]) 143 0 0 (mX5_number hst r53 (3 : Int32) σ n v56 h55) qyX5_number wd_349 wd_350 wd_351 hb.2 rfl rfl rfl (by decide) (Nat.le_of_ble_eq_true rfl) (by decide) dX6_doCommandOfText_140 rfl rfl rfl rfl ?_
      refine x_aload_n 144 2 dX6_doCommandOfText_143 rfl rfl ?_
      obtain ⟨r57, h58, hF⟩ := b1_inv hF
      refine x_getR 147 5 inX6 rfl (by decide) wd_155 h58 dX6_doCommandOfText_144 rfl ?_
      refine x_iconst 148 (4 : Int32) dX6_doCommandOfText_147 rfl (by decide) ?_
      obtain ⟨v60, h59, hF⟩ := b1_inv hF
      obtain ⟨fs, hb⟩ : ∃ fs : List Value, True ∧ σ r57 = some (.inr (3, fs)) := kX5_number h59
      refine x_callV (As := [.int (4 : Int32)]) (rest := [.int v56, .int v52, .int (0 : Int32), .int v8, .int v4, .ref r47]) 151 0 0 (mX5_number hst r57 (4 : Int32) σ n v60 h59) qyX5_number wd_349 wd_350 wd_351 hb.2 rfl rfl rfl (by decide) (Nat.le_of_ble_eq_true rfl) (by decide) dX6_doCommandOfText_148 rfl rfl rfl rfl ?_
      refine x_aload_n 152 2 dX6_doCommandOfText_151 rfl rfl ?_
      obtain ⟨r61, h62, hF⟩ := b1_inv hF
      refine x_getR 155 5 inX6 rfl (by decide) wd_155 h62 dX6_doCommandOfText_152 rfl ?_
      refine x_iconst 156 (5 : Int32) dX6_doCommandOfText_155 rfl (by decide) ?_
      obtain ⟨v64, h63, hF⟩ := b1_inv hF
      obtain ⟨fs, hb⟩ : ∃ fs : List Value, True ∧ σ r61 = some (.inr (3, fs)) := kX5_number h63
      refine x_callV (As := [.int (5 : Int32)]) (rest := [.int v60, .int v56, .int v52, .int (0 : Int32), .int v8, .int v4, .ref r47]) 159 0 0 (mX5_number hst r61 (5 : Int32) σ n v64 h63) qyX5_number wd_349 wd_350 wd_351 hb.2 rfl rfl rfl (by decide) (Nat.le_of_ble_eq_true rfl) (by decide) dX6_doCommandOfText_156 rfl rfl rfl rfl ?_
      obtain ⟨v66, s67, h65, hF⟩ := b2_inv hF
      obtain ⟨fs, hb⟩ : ∃ fs : List Value, True ∧ σ r47 = some (.inr (2, fs)) := kX2_tryMeasure h65
      refine x_callV (As := [.int v4, .int v8, .int (0 : Int32), .int v52, .int v56, .int v60, .int v64]) (rest := []) 162 0 0 (mX2_tryMeasure hst r47 v4 v8 (0 : Int32) v52 v56 v60 v64 σ n v66 s67 h65) qyX2_tryMeasure wd_357 wd_358 wd_359 hb.2 rfl rfl rfl (by decide) (Nat.le_of_ble_eq_true rfl) (by decide) dX6_doCommandOfText_159 rfl rfl rfl rfl ?_
      obtain ⟨hz, hF⟩ := ite_none hF
      cases hF
      exact x_zret rfl (by rcases hz with h | h <;> rw [h] <;> rfl) rfl (by decide) (by decide) dX6_doCommandOfText_162
    · exact x_tableIn (95) 120 dX6_doCommandOfText_25 (by rw [h68]; decide) (by rw [h68]; decide) (by rw [h68]; decide) (by decide) hK
  rcases ite_inv hF with ⟨h74, hF⟩ | ⟨h74, hF⟩
  · have hK : qX l G RX6 "doCommandOfText" cX6_doCommandOfText 3 (some .boolean) [] rmX6_doCommandOfText 0 0 (.inl (some (.int ro), so, n)) 0 0 σ n 244 [(2, .int v8), (1, .int v4), (0, .ref b)] [] := by
      refine x_aload_n 245 2 dX6_doCommandOfText_244 rfl rfl ?_
      obtain ⟨r69, h70, hF⟩ := b1_inv hF
      refine x_getR 248 0 inX6 rfl (by decide) wd_150 h70 dX6_doCommandOfText_245 rfl ?_
      refine x_iload_n 249 1 dX6_doCommandOfText_248 rfl rfl ?_
      refine x_iload_n 250 0 dX6_doCommandOfText_249 rfl rfl ?_
      obtain ⟨v72, s73, h71, hF⟩ := b2_inv hF
      obtain ⟨fs, hb⟩ : ∃ fs : List Value, True ∧ σ r69 = some (.inr (2, fs)) := kX2_tryTrust h71
      refine x_callV (As := [.int v4, .int v8]) (rest := []) 253 0 0 (mX2_tryTrust hst r69 v4 v8 σ n v72 s73 h71) qyX2_tryTrust wd_417 wd_418 wd_419 hb.2 rfl rfl rfl (by decide) (Nat.le_of_ble_eq_true rfl) (by decide) dX6_doCommandOfText_250 rfl rfl rfl rfl ?_
      obtain ⟨hz, hF⟩ := ite_none hF
      cases hF
      exact x_zret rfl (by rcases hz with h | h <;> rw [h] <;> rfl) rfl (by decide) (by decide) dX6_doCommandOfText_253
    · exact x_tableIn (219) 244 dX6_doCommandOfText_25 (by rw [h74]; decide) (by rw [h74]; decide) (by rw [h74]; decide) (by decide) hK
  rcases ite_inv hF with ⟨h80, hF⟩ | ⟨h80, hF⟩
  · have hK : qX l G RX6 "doCommandOfText" cX6_doCommandOfText 3 (some .boolean) [] rmX6_doCommandOfText 0 0 (.inl (some (.int ro), so, n)) 0 0 σ n 264 [(2, .int v8), (1, .int v4), (0, .ref b)] [] := by
      refine x_aload_n 265 2 dX6_doCommandOfText_264 rfl rfl ?_
      obtain ⟨r75, h76, hF⟩ := b1_inv hF
      refine x_getR 268 0 inX6 rfl (by decide) wd_150 h76 dX6_doCommandOfText_265 rfl ?_
      refine x_iload_n 269 1 dX6_doCommandOfText_268 rfl rfl ?_
      refine x_iload_n 270 0 dX6_doCommandOfText_269 rfl rfl ?_
      obtain ⟨v78, s79, h77, hF⟩ := b2_inv hF
      obtain ⟨fs, hb⟩ : ∃ fs : List Value, True ∧ σ r75 = some (.inr (2, fs)) := kX2_trySurvey h77
      refine x_callV (As := [.int v4, .int v8]) (rest := []) 273 0 0 (mX2_trySurvey hst r75 v4 v8 σ n v78 s79 h77) qyX2_trySurvey wd_452 wd_453 wd_454 hb.2 rfl rfl rfl (by decide) (Nat.le_of_ble_eq_true rfl) (by decide) dX6_doCommandOfText_270 rfl rfl rfl rfl ?_
      obtain ⟨hz, hF⟩ := ite_none hF
      cases hF
      exact x_zret rfl (by rcases hz with h | h <;> rw [h] <;> rfl) rfl (by decide) (by decide) dX6_doCommandOfText_273
    · exact x_tableIn (239) 264 dX6_doCommandOfText_25 (by rw [h80]; decide) (by rw [h80]; decide) (by rw [h80]; decide) (by decide) hK
  rcases ite_inv hF with ⟨h94, hF⟩ | ⟨h94, hF⟩
  · have hK : qX l G RX6 "doCommandOfText" cX6_doCommandOfText 3 (some .boolean) [] rmX6_doCommandOfText 0 0 (.inl (some (.int ro), so, n)) 0 0 σ n 206 [(2, .int v8), (1, .int v4), (0, .ref b)] [] := by
      refine x_aload_n 207 2 dX6_doCommandOfText_206 rfl rfl ?_
      obtain ⟨r81, h82, hF⟩ := b1_inv hF
      refine x_getR 210 0 inX6 rfl (by decide) wd_150 h82 dX6_doCommandOfText_207 rfl ?_
      refine x_iload_n 211 1 dX6_doCommandOfText_210 rfl rfl ?_
      refine x_iload_n 212 0 dX6_doCommandOfText_211 rfl rfl ?_
      refine x_iconst 213 (2 : Int32) dX6_doCommandOfText_212 rfl (by decide) ?_
      refine x_aload_n 214 2 dX6_doCommandOfText_213 rfl rfl ?_
      obtain ⟨r83, h84, hF⟩ := b1_inv hF
      refine x_getR 217 5 inX6 rfl (by decide) wd_155 h84 dX6_doCommandOfText_214 rfl ?_
      refine x_iconst 218 (2 : Int32) dX6_doCommandOfText_217 rfl (by decide) ?_
      obtain ⟨v86, h85, hF⟩ := b1_inv hF
      obtain ⟨fs, hb⟩ : ∃ fs : List Value, True ∧ σ r83 = some (.inr (3, fs)) := kX5_number h85
      refine x_callV (As := [.int (2 : Int32)]) (rest := [.int (2 : Int32), .int v8, .int v4, .ref r81]) 221 0 0 (mX5_number hst r83 (2 : Int32) σ n v86 h85) qyX5_number wd_349 wd_350 wd_351 hb.2 rfl rfl rfl (by decide) (Nat.le_of_ble_eq_true rfl) (by decide) dX6_doCommandOfText_218 rfl rfl rfl rfl ?_
      refine x_aload_n 222 2 dX6_doCommandOfText_221 rfl rfl ?_
      obtain ⟨r87, h88, hF⟩ := b1_inv hF
      refine x_getR 225 5 inX6 rfl (by decide) wd_155 h88 dX6_doCommandOfText_222 rfl ?_
      refine x_iconst 226 (3 : Int32) dX6_doCommandOfText_225 rfl (by decide) ?_
      obtain ⟨v90, h89, hF⟩ := b1_inv hF
      obtain ⟨fs, hb⟩ : ∃ fs : List Value, True ∧ σ r87 = some (.inr (3, fs)) := kX5_number h89
      refine x_callV (As := [.int (3 : Int32)]) (rest := [.int v86, .int (2 : Int32), .int v8, .int v4, .ref r81]) 229 0 0 (mX5_number hst r87 (3 : Int32) σ n v90 h89) qyX5_number wd_349 wd_350 wd_351 hb.2 rfl rfl rfl (by decide) (Nat.le_of_ble_eq_true rfl) (by decide) dX6_doCommandOfText_226 rfl rfl rfl rfl ?_
      refine x_iconst 230 (0 : Int32) dX6_doCommandOfText_229 rfl (by decide) ?_
      refine x_iconst 231 (0 : Int32) dX6_doCommandOfText_230 rfl (by decide) ?_
      obtain ⟨v92, s93, h91, hF⟩ := b2_inv hF
      obtain ⟨fs, hb⟩ : ∃ fs : List Value, True ∧ σ r81 = some (.inr (2, fs)) := kX2_tryMeasure h91
      refine x_callV (As := [.int v4, .int v8, .int (2 : Int32), .int v86, .int v90, .int (0 : Int32), .int (0 : Int32)]) (rest := []) 234 0 0 (mX2_tryMeasure hst r81 v4 v8 (2 : Int32) v86 v90 (0 : Int32) (0 : Int32) σ n v92 s93 h91) qyX2_tryMeasure wd_357 wd_358 wd_359 hb.2 rfl rfl rfl (by decide) (Nat.le_of_ble_eq_true rfl) (by decide) dX6_doCommandOfText_231 rfl rfl rfl rfl ?_
      obtain ⟨hz, hF⟩ := ite_none hF
      cases hF
      exact x_zret rfl (by rcases hz with h | h <;> rw [h] <;> rfl) rfl (by decide) (by decide) dX6_doCommandOfText_234
    · exact x_tableIn (181) 206 dX6_doCommandOfText_25 (by rw [h94]; decide) (by rw [h94]; decide) (by rw [h94]; decide) (by decide) hK
  have hK : qX l G RX6 "doCommandOfText" cX6_doCommandOfText 3 (some .boolean) [] rmX6_doCommandOfText 0 0 (.inl (some (.int ro), so, n)) 0 0 σ n 274 [(2, .int v8), (1, .int v4), (0, .ref b)] [] := by
    refine x_iconst 275 (0 : Int32) dX6_doCommandOfText_274 rfl (by decide) ?_
    cases hF
    exact x_zret rfl rfl rfl (by decide) (by decide) dX6_doCommandOfText_275
  by_cases h95 : v12 = (101 : Int32)
  · exact x_tableIn (249) 274 dX6_doCommandOfText_25 (by rw [h95]; decide) (by rw [h95]; decide) (by rw [h95]; decide) (by decide) hK
  by_cases h96 : v12 = (102 : Int32)
  · exact x_tableIn (249) 274 dX6_doCommandOfText_25 (by rw [h96]; decide) (by rw [h96]; decide) (by rw [h96]; decide) (by decide) hK
  by_cases h97 : v12 = (103 : Int32)
  · exact x_tableIn (249) 274 dX6_doCommandOfText_25 (by rw [h97]; decide) (by rw [h97]; decide) (by rw [h97]; decide) (by decide) hK
  by_cases h98 : v12 = (104 : Int32)
  · exact x_tableIn (249) 274 dX6_doCommandOfText_25 (by rw [h98]; decide) (by rw [h98]; decide) (by rw [h98]; decide) (by decide) hK
  by_cases h99 : v12 = (105 : Int32)
  · exact x_tableIn (249) 274 dX6_doCommandOfText_25 (by rw [h99]; decide) (by rw [h99]; decide) (by rw [h99]; decide) (by decide) hK
  by_cases h100 : v12 = (106 : Int32)
  · exact x_tableIn (249) 274 dX6_doCommandOfText_25 (by rw [h100]; decide) (by rw [h100]; decide) (by rw [h100]; decide) (by decide) hK
  by_cases h101 : v12 = (107 : Int32)
  · exact x_tableIn (249) 274 dX6_doCommandOfText_25 (by rw [h101]; decide) (by rw [h101]; decide) (by rw [h101]; decide) (by decide) hK
  by_cases h102 : v12 = (108 : Int32)
  · exact x_tableIn (249) 274 dX6_doCommandOfText_25 (by rw [h102]; decide) (by rw [h102]; decide) (by rw [h102]; decide) (by decide) hK
  by_cases h103 : v12 = (109 : Int32)
  · exact x_tableIn (249) 274 dX6_doCommandOfText_25 (by rw [h103]; decide) (by rw [h103]; decide) (by rw [h103]; decide) (by decide) hK
  by_cases h104 : v12 = (110 : Int32)
  · exact x_tableIn (249) 274 dX6_doCommandOfText_25 (by rw [h104]; decide) (by rw [h104]; decide) (by rw [h104]; decide) (by decide) hK
  by_cases h105 : v12 = (112 : Int32)
  · exact x_tableIn (249) 274 dX6_doCommandOfText_25 (by rw [h105]; decide) (by rw [h105]; decide) (by rw [h105]; decide) (by decide) hK
  by_cases h106 : v12 = (114 : Int32)
  · exact x_tableIn (249) 274 dX6_doCommandOfText_25 (by rw [h106]; decide) (by rw [h106]; decide) (by rw [h106]; decide) (by decide) hK
  by_cases h107 : v12 = (117 : Int32)
  · exact x_tableIn (249) 274 dX6_doCommandOfText_25 (by rw [h107]; decide) (by rw [h107]; decide) (by rw [h107]; decide) (by decide) hK
  have h18z := i32_ne (z := 100) h18 (by decide)
  have h40z := i32_ne (z := 111) h40 (by decide)
  have h46z := i32_ne (z := 113) h46 (by decide)
  have h68z := i32_ne (z := 115) h68 (by decide)
  have h74z := i32_ne (z := 116) h74 (by decide)
  have h80z := i32_ne (z := 118) h80 (by decide)
  have h94z := i32_ne (z := 119) h94 (by decide)
  have h95z := i32_ne (z := 101) h95 (by decide)
  have h96z := i32_ne (z := 102) h96 (by decide)
  have h97z := i32_ne (z := 103) h97 (by decide)
  have h98z := i32_ne (z := 104) h98 (by decide)
  have h99z := i32_ne (z := 105) h99 (by decide)
  have h100z := i32_ne (z := 106) h100 (by decide)
  have h101z := i32_ne (z := 107) h101 (by decide)
  have h102z := i32_ne (z := 108) h102 (by decide)
  have h103z := i32_ne (z := 109) h103 (by decide)
  have h104z := i32_ne (z := 110) h104 (by decide)
  have h105z := i32_ne (z := 112) h105 (by decide)
  have h106z := i32_ne (z := 114) h106 (by decide)
  have h107z := i32_ne (z := 117) h107 (by decide)
  exact x_tableOut 274 dX6_doCommandOfText_25 (by omega) (by decide) hK
def rmX6_load : Room := { frames := 6, cells := 1, slots := 6, locals := 140 }
theorem qyX6_load : qY yX6_load cX6_load 3 (some .int) 0 := ⟨wd_295, wd_17, by decide +kernel, by decide +kernel, by decide +kernel⟩
set_option maxHeartbeats 4000000 in
set_option maxRecDepth 100000 in
theorem mX6_load_L37 {l : Launch} {G : qG} (hst : l.stackTraces = false) (a0 : Nat) (n : Option Nat) (r : qR) : ∀ (q : Nat) (y1 : Int32) (σ : qH) (so : qH), FX6_load_L37 (G.2.2.2.1) a0 q y1 σ = some so → qX l G RX6 "load" cX6_load 3 (some .int) [] rmX6_load 1 6 r 0 0 so n 59 [(0, .ref a0)] [] → qX l G RX6 "load" cX6_load 3 (some .int) [] rmX6_load 1 6 r 0 0 σ n 37 [(0, .ref a0), (1, .int y1)] [] := by
  intro q
  induction q with
  | zero => intro y1 σ so hF; rw [FX6_load_L37] at hF; cases hF
  | succ q ih =>
    intro y1 σ so hF hJ
    rw [FX6_load_L37] at hF
    refine x_iload_n 38 1 dX6_load_37 rfl rfl ?_
    refine x_aload_n 39 0 dX6_load_38 rfl rfl ?_
    obtain ⟨r14, h15, hF⟩ := b1_inv hF
    refine x_getR 42 3 inX6 rfl (by decide) wd_153 h15 dX6_load_39 rfl ?_
    obtain ⟨v16, h17, hF⟩ := b1_inv hF
    refine x_aL 43 h17 dX6_load_42 rfl ?_
    rcases ite_inv hF with ⟨hc, hF⟩ | ⟨hc, hF⟩
    · refine x_icmp_ge 59 46 dX6_load_43 (by decide) rfl (fun _ => ?_) (fun q => absurd hc q)
      have e1 := Option.some.inj hF
      subst e1
      refine x_sub [(0, .ref a0)] [0] rfl ?_
      exact hJ
    · refine x_icmp_ge 59 46 dX6_load_43 (by decide) rfl (fun q => absurd q hc) (fun _ => ?_)
      refine x_aload_n 47 0 dX6_load_46 rfl rfl ?_
      obtain ⟨r18, h19, hF⟩ := b1_inv hF
      refine x_getR 50 3 inX6 rfl (by decide) wd_153 h19 dX6_load_47 rfl ?_
      refine x_iload_n 51 1 dX6_load_50 rfl rfl ?_
      refine x_iconst 52 (0 : Int32) dX6_load_51 rfl (by decide) ?_
      obtain ⟨s20, h21, hF⟩ := b1_inv hF
      refine x_sZ 53 h21 dX6_load_52 rfl ?_
      refine x_iinc 56 1 1 (y1 + (1 : Int32)) [(1, .int (y1 + (1 : Int32))), (0, .ref a0)] dX6_load_53 rfl rfl rfl (by decide) rfl ?_
      refine x_goto 37 dX6_load_56 (by decide) ?_
      refine x_sub [(0, .ref a0), (1, .int (y1 + (1 : Int32)))] [1, 0] rfl ?_
      exact ih _ _ _ hF hJ
set_option maxHeartbeats 4000000 in
set_option maxRecDepth 100000 in
theorem mX6_load_L71 {l : Launch} {G : qG} (hst : l.stackTraces = false) (a0 : Nat) (n : Option Nat) (r : qR) : ∀ (q : Nat) (y1 : Int32) (y2 : Int32) (σ : qH) (o1 : Int32) (so : qH), FX6_load_L71 (G.2.2.2.1) a0 q y1 y2 σ = some (o1, so) → qX l G RX6 "load" cX6_load 3 (some .int) [] rmX6_load 1 6 r 0 0 so n 103 [(1, .int o1)] [] → qX l G RX6 "load" cX6_load 3 (some .int) [] rmX6_load 1 6 r 0 0 σ n 71 [(0, .ref a0), (1, .int y1), (2, .int y2)] [] := by
  intro q
  induction q with
  | zero => intro y1 y2 σ o1 so hF; rw [FX6_load_L71] at hF; cases hF
  | succ q ih =>
    intro y1 y2 σ o1 so hF hJ
    rw [FX6_load_L71] at hF
    refine x_iload_n 72 2 dX6_load_71 rfl rfl ?_
    refine x_bipush 74 (120 : Int32) dX6_load_72 rfl (by decide) ?_
    rcases ite_inv hF with ⟨hc, hF⟩ | ⟨hc, hF⟩
    · refine x_icmp_ge 103 77 dX6_load_74 (by decide) rfl (fun _ => ?_) (fun q => absurd hc q)
      obtain ⟨e1, e2⟩ := so2 hF
      subst e1
      subst e2
      refine x_sub [(1, .int y1)] [1] rfl ?_
      exact hJ
    · refine x_icmp_ge 103 77 dX6_load_74 (by decide) rfl (fun q => absurd q hc) (fun _ => ?_)
      refine x_aload_n 78 0 dX6_load_77 rfl rfl ?_
      obtain ⟨r28, h29, hF⟩ := b1_inv hF
      refine x_getR 81 5 inX6 rfl (by decide) wd_155 h29 dX6_load_78 rfl ?_
      obtain ⟨v31, s32, h30, hF⟩ := b2_inv hF
      obtain ⟨fs, hb⟩ : ∃ fs : List Value, True ∧ σ r28 = some (.inr (3, fs)) := kX5_readCommand h30
      refine x_callV (As := []) (rest := []) 84 0 0 (mX5_readCommand hst r28 σ n v31 s32 h30) qyX5_readCommand wd_344 wd_309 wd_310 hb.2 rfl rfl rfl (by decide) (Nat.le_of_ble_eq_true rfl) (by decide) dX6_load_81 rfl rfl rfl rfl ?_
      rcases ite_inv hF with ⟨hc, hF⟩ | ⟨hc, hF⟩
      · refine x_if_eq 103 87 dX6_load_84 (by decide) rfl (fun _ => ?_) (fun q => absurd hc q)
        obtain ⟨e1, e2⟩ := so2 hF
        subst e1
        subst e2
        refine x_sub [(1, .int y1)] [1] rfl ?_
        exact hJ
      · refine x_if_eq 103 87 dX6_load_84 (by decide) rfl (fun q => absurd q hc) (fun _ => ?_)
        refine x_aload_n 88 0 dX6_load_87 rfl rfl ?_
        obtain ⟨v34, s35, h33, hF⟩ := b2_inv hF
        obtain ⟨fs, hb⟩ : ∃ fs : List Value, True ∧ s32 a0 = some (.inr (4, fs)) := kX6_doCommandOfText h33
        refine x_callV (As := []) (rest := []) 91 0 0 (mX6_doCommandOfText hst a0 s32 n v34 s35 h33) qyX6_doCommandOfText wd_345 wd_347 wd_4 hb.2 rfl rfl rfl (by decide) (Nat.le_of_ble_eq_true rfl) (by decide) dX6_load_88 rfl rfl rfl rfl ?_
        obtain ⟨x36, h37, hF⟩ := b1_inv hF
        have hJ : qX l G RX6 "load" cX6_load 3 (some .int) [] rmX6_load 1 6 r 0 0 s35 n 97 [(0, .ref a0), (1, .int x36), (2, .int y2)] [] := by
          refine x_iinc 100 2 2 (y2 + (1 : Int32)) [(2, .int (y2 + (1 : Int32))), (0, .ref a0), (1, .int x36)] dX6_load_97 rfl rfl rfl (by decide) rfl ?_
          refine x_goto 71 dX6_load_100 (by decide) ?_
          refine x_sub [(0, .ref a0), (1, .int x36), (2, .int (y2 + (1 : Int32)))] [1, 2, 0] rfl ?_
          exact ih _ _ _ _ _ hF hJ
        have hF := h37
        rcases ite_inv hF with ⟨hc, hF⟩ | ⟨hc, hF⟩
        · refine x_if_ne 97 94 dX6_load_91 (by decide) rfl (fun q => absurd hc q) (fun _ => ?_)
          refine x_iinc 97 1 1 (y1 + (1 : Int32)) [(1, .int (y1 + (1 : Int32))), (0, .ref a0), (2, .int y2)] dX6_load_94 rfl rfl rfl (by decide) rfl ?_
          have e1 := Option.some.inj hF
          subst e1
          refine x_sub [(0, .ref a0), (1, .int (y1 + (1 : Int32))), (2, .int y2)] [1, 0, 2] rfl ?_
          exact hJ
        · refine x_if_ne 97 94 dX6_load_91 (by decide) rfl (fun _ => ?_) (fun q => absurd q hc)
          have e1 := Option.some.inj hF
          subst e1
          exact hJ
theorem kX6_load {tst : Nat → Nat} {b : Nat} {σ : qH} {o : (Int32 × qH) ⊕ (String × qH)} (h : FX6_load tst b σ = some o) : ∃ fs : List Value, True ∧ σ b = some (.inr (4, fs)) := by
  unfold FX6_load at h
  obtain ⟨_, h1, _⟩ := b1_inv h
  obtain ⟨fs, h2⟩ := gC_inv h1
  exact ⟨fs, trivial, h2⟩
set_option maxHeartbeats 4000000 in
set_option maxRecDepth 100000 in
theorem mX6_load {l : Launch} {G : qG} (hst : l.stackTraces = false) (b : Nat) (σ : qH) (n : Option Nat) (o : (Int32 × qH) ⊕ (String × qH)) (hF : FX6_load (G.2.2.2.1) b σ = some o) : qM l G yX6_load cX6_load 3 (some .int) rmX6_load [.ref b] σ n (rIw σ n o) := by
  refine q_body (own := RX6) (nm := "load") (ls := [(0, .ref b)]) hst (by decide +kernel) rfl rfl (Nat.le_of_ble_eq_true rfl) rfl rfl rfl ?_
  unfold FX6_load at hF
  obtain ⟨_, hC, hF⟩ := b1_inv hF
  refine x_aload_n 1 0 dX6_load_0 rfl rfl ?_
  obtain ⟨r1, h2, hF⟩ := b1_inv hF
  refine x_getR 4 5 inX6 rfl (by decide) wd_155 h2 dX6_load_1 rfl ?_
  obtain ⟨v4, s5, h3, hF⟩ := b2_inv hF
  obtain ⟨fs, hb⟩ : ∃ fs : List Value, True ∧ σ r1 = some (.inr (3, fs)) := kX5_findError h3
  refine x_callV (As := []) (rest := []) 7 0 0 (mX5_findError hst r1 σ n v4 s5 h3) qyX5_findError wd_296 wd_297 wd_298 hb.2 rfl rfl rfl (by decide) (Nat.le_of_ble_eq_true rfl) (by decide) dX6_load_4 rfl rfl rfl rfl ?_
  refine x_iconst 8 (-1 : Int32) dX6_load_7 rfl (by decide) ?_
  rcases ite_inv hF with ⟨hc, hF⟩ | ⟨hc, hF⟩
  · refine x_icmp_eq 21 11 dX6_load_8 (by decide) rfl (fun _ => ?_) (fun q => absurd hc q)
    refine x_aload_n 22 0 dX6_load_21 rfl rfl ?_
    obtain ⟨r6, h7, hF⟩ := b1_inv hF
    refine x_getR 25 0 inX6 rfl (by decide) wd_150 h7 dX6_load_22 rfl ?_
    obtain ⟨s9, h8, hF⟩ := b1_inv hF
    obtain ⟨fs, hb⟩ : ∃ fs : List Value, True ∧ s5 r6 = some (.inr (2, fs)) := kX2_makeNew h8
    refine x_callV (As := []) (rest := []) 28 0 0 (mX2_makeNew hst r6 s5 n s9 h8) qyX2_makeNew wd_338 wd_48 wd_49 hb.2 rfl rfl rfl (by decide) (Nat.le_of_ble_eq_true rfl) (by decide) dX6_load_25 rfl rfl rfl rfl ?_
    refine x_aload_n 29 0 dX6_load_28 rfl rfl ?_
    obtain ⟨r10, h11, hF⟩ := b1_inv hF
    refine x_getR 32 4 inX6 rfl (by decide) wd_154 h11 dX6_load_29 rfl ?_
    obtain ⟨s13, h12, hF⟩ := b1_inv hF
    obtain ⟨fs, hb⟩ : ∃ fs : List Value, True ∧ s9 r10 = some (.inr (1, fs)) := kX1_forget h12
    refine x_callV (As := []) (rest := []) 35 0 0 (mX1_forget hst r10 s9 n s13 h12) qyX1_forget wd_339 wd_340 wd_341 hb.2 rfl rfl rfl (by decide) (Nat.le_of_ble_eq_true rfl) (by decide) dX6_load_32 rfl rfl rfl rfl ?_
    refine x_iconst 36 (0 : Int32) dX6_load_35 rfl (by decide) ?_
    refine x_istore_n 37 1 [(1, .int (0 : Int32)), (0, .ref b)] dX6_load_36 rfl rfl (by decide) rfl ?_
    obtain ⟨s22, h41, hF⟩ := b1_inv hF
    have hJ : qX l G RX6 "load" cX6_load 3 (some .int) [] rmX6_load 1 6 (rIw σ n o) 0 0 s22 n 59 [(0, .ref b)] [] := by
      refine x_iconst 60 (0 : Int32) dX6_load_59 rfl (by decide) ?_
      refine x_istore_n 61 1 [(1, .int (0 : Int32)), (0, .ref b)] dX6_load_60 rfl rfl (by decide) rfl ?_
      refine x_aload_n 62 1 dX6_load_61 rfl rfl ?_
      obtain ⟨r23, h24, hF⟩ := b1_inv hF
      refine x_getR 65 5 inX6 rfl (by decide) wd_155 h24 dX6_load_62 rfl ?_
      obtain ⟨v26, s27, h25, hF⟩ := b2_inv hF
      obtain ⟨fs, hb⟩ : ∃ fs : List Value, True ∧ s22 r23 = some (.inr (3, fs)) := kX5_readHead h25
      refine x_callV (As := []) (rest := []) 68 0 0 (mX5_readHead hst r23 s22 n v26 s27 h25) qyX5_readHead wd_343 wd_301 wd_302 hb.2 rfl rfl rfl (by decide) (Nat.le_of_ble_eq_true rfl) (by decide) dX6_load_65 rfl rfl rfl rfl ?_
      refine x_pop 69 rfl dX6_load_68 rfl ?_
      refine x_iconst 70 (0 : Int32) dX6_load_69 rfl (by decide) ?_
      refine x_istore_n 71 2 [(2, .int (0 : Int32)), (1, .int (0 : Int32)), (0, .ref b)] dX6_load_70 rfl rfl (by decide) rfl ?_
      obtain ⟨x38, s39, h40, hF⟩ := b2_inv hF
      have hJ : qX l G RX6 "load" cX6_load 3 (some .int) [] rmX6_load 1 6 (rIw σ n o) 0 0 s39 n 103 [(1, .int x38)] [] := by
        refine x_iload_n 104 0 dX6_load_103 rfl rfl ?_
        cases hF
        exact x_iret rfl rfl (by decide) (by decide) dX6_load_104
      refine x_sub [(0, .ref b), (1, .int (0 : Int32)), (2, .int (0 : Int32))] [2, 1, 0] rfl ?_
      exact mX6_load_L71 hst b n _ qfuel (0 : Int32) (0 : Int32) s27 x38 s39 h40 hJ
    refine x_sub [(0, .ref b), (1, .int (0 : Int32))] [1, 0] rfl ?_
    exact mX6_load_L37 hst b n _ qfuel (0 : Int32) s13 s22 h41 hJ
  · refine x_icmp_eq 21 11 dX6_load_8 (by decide) rfl (fun q => absurd q hc) (fun _ => ?_)
    cases hF
    exact x_throwS (text := "the text is not a parish") (names := ["java/lang/RuntimeException", "java/lang/Exception"]) (by decide) (by decide) rfl wd_267 wd_27 (by decide) tw_60 tg_60 rfl dX6_load_11 dX6_load_14 dX6_load_15 dX6_load_17 dX6_load_20 (by decide) (Nat.le_of_ble_eq_true rfl) (by decide) (by decide) rfl (by decide) (by decide)
def rmX6_about : Room := { frames := 7, cells := 1, slots := 6, locals := 102 }
theorem qyX6_about : qY yX6_about cX6_about 2 (some .int) 1 := ⟨wd_482, wd_17, by decide +kernel, by decide +kernel, by decide +kernel⟩
theorem kX6_about {b : Nat} {p0 : Int32} {σ : qH} {o : (Int32) ⊕ String} (h : FX6_about b p0 σ = some o) : ∃ fs : List Value, True ∧ σ b = some (.inr (4, fs)) := by
  unfold FX6_about at h
  obtain ⟨_, h1, _⟩ := b1_inv h
  obtain ⟨fs, h2⟩ := gC_inv h1
  exact ⟨fs, trivial, h2⟩
set_option maxHeartbeats 4000000 in
set_option maxRecDepth 100000 in
theorem mX6_about {l : Launch} {G : qG} (hst : l.stackTraces = false) (b : Nat) (p0 : Int32) (σ : qH) (n : Option Nat) (o : (Int32) ⊕ String) (hF : FX6_about b p0 σ = some o) : qM l G yX6_about cX6_about 2 (some .int) rmX6_about [.ref b, .int p0] σ n (rI σ n o) := by
  refine q_body (own := RX6) (nm := "about") (ls := [(0, .ref b), (1, .int p0)]) hst (by decide +kernel) rfl rfl (Nat.le_of_ble_eq_true rfl) rfl rfl rfl ?_
  unfold FX6_about at hF
  obtain ⟨_, hC, hF⟩ := b1_inv hF
  refine x_iconst 1 (0 : Int32) dX6_about_0 rfl (by decide) ?_
  refine x_iload_n 2 1 dX6_about_1 rfl rfl ?_
  obtain ⟨x1, h53, hF⟩ := b1_inv hF
  have hJ : qX l G RX6 "about" cX6_about 2 (some .int) [] rmX6_about 1 6 (rI σ n o) 0 0 σ n 16 [(0, .ref b), (1, .int p0)] [.int x1] := by
    rcases bx_inv hF with ⟨u, h2, hF⟩ | ⟨e3, h2, rfl⟩
    rotate_left
    · skip
      exact x_callSX (As := [.int x1]) (rest := []) (mX6_need hst x1 σ n (.inr e3) h2) qyX6_need wd_192 wd_193 rfl rfl (by decide) (Nat.le_of_ble_eq_true rfl) (by decide) dX6_about_16 rfl rfl (by decide) (by decide)
    refine x_callS (As := [.int x1]) (rest := []) 19 1 6 (mX6_need hst x1 σ n (.inl u) h2) qyX6_need wd_192 wd_193 rfl rfl (by decide) (Nat.le_of_ble_eq_true rfl) (by decide) dX6_about_16 rfl rfl rfl rfl ?_
    refine x_iload_n 20 1 dX6_about_19 rfl rfl ?_
    rcases ite_inv hF with ⟨h8, hF⟩ | ⟨h8, hF⟩
    · have hK : qX l G RX6 "about" cX6_about 2 (some .int) [] rmX6_about 1 6 (rI σ n o) 1 6 σ n 72 [(0, .ref b), (1, .int p0)] [] := by
        refine x_aload_n 73 0 dX6_about_72 rfl rfl ?_
        obtain ⟨r4, h5, hF⟩ := b1_inv hF
        refine x_getR 76 0 inX6 rfl (by decide) wd_150 h5 dX6_about_73 rfl ?_
        obtain ⟨v7, h6, hF⟩ := b1_inv hF
        obtain ⟨fs, hb⟩ : ∃ fs : List Value, True ∧ σ r4 = some (.inr (2, fs)) := kX2_count h6
        refine x_callV (As := []) (rest := []) 79 1 6 (mX2_count hst r4 σ n v7 h6) qyX2_count wd_483 wd_484 wd_485 hb.2 rfl rfl rfl (by decide) (Nat.le_of_ble_eq_true rfl) (by decide) dX6_about_76 rfl rfl rfl rfl ?_
        cases hF
        exact x_iret rfl rfl (by decide) (by decide) dX6_about_79
      · exact x_tableIn (52) 72 dX6_about_20 (by rw [h8]; decide) (by rw [h8]; decide) (by rw [h8]; decide) (by decide) hK
    rcases ite_inv hF with ⟨h13, hF⟩ | ⟨h13, hF⟩
    · have hK : qX l G RX6 "about" cX6_about 2 (some .int) [] rmX6_about 1 6 (rI σ n o) 1 6 σ n 80 [(0, .ref b), (1, .int p0)] [] := by
        refine x_aload_n 81 0 dX6_about_80 rfl rfl ?_
        obtain ⟨r9, h10, hF⟩ := b1_inv hF
        refine x_getR 84 0 inX6 rfl (by decide) wd_150 h10 dX6_about_81 rfl ?_
        obtain ⟨v12, h11, hF⟩ := b1_inv hF
        obtain ⟨fs, hb⟩ : ∃ fs : List Value, True ∧ σ r9 = some (.inr (2, fs)) := kX2_came h11
        refine x_callV (As := []) (rest := []) 87 1 6 (mX2_came hst r9 σ n v12 h11) qyX2_came wd_487 wd_488 wd_489 hb.2 rfl rfl rfl (by decide) (Nat.le_of_ble_eq_true rfl) (by decide) dX6_about_84 rfl rfl rfl rfl ?_
        cases hF
        exact x_iret rfl rfl (by decide) (by decide) dX6_about_87
      · exact x_tableIn (60) 80 dX6_about_20 (by rw [h13]; decide) (by rw [h13]; decide) (by rw [h13]; decide) (by decide) hK
    rcases ite_inv hF with ⟨h18, hF⟩ | ⟨h18, hF⟩
    · have hK : qX l G RX6 "about" cX6_about 2 (some .int) [] rmX6_about 1 6 (rI σ n o) 1 6 σ n 88 [(0, .ref b), (1, .int p0)] [] := by
        refine x_aload_n 89 0 dX6_about_88 rfl rfl ?_
        obtain ⟨r14, h15, hF⟩ := b1_inv hF
        refine x_getR 92 0 inX6 rfl (by decide) wd_150 h15 dX6_about_89 rfl ?_
        obtain ⟨v17, h16, hF⟩ := b1_inv hF
        obtain ⟨fs, hb⟩ : ∃ fs : List Value, True ∧ σ r14 = some (.inr (2, fs)) := kX2_evenings h16
        refine x_callV (As := []) (rest := []) 95 1 6 (mX2_evenings hst r14 σ n v17 h16) qyX2_evenings wd_491 wd_492 wd_493 hb.2 rfl rfl rfl (by decide) (Nat.le_of_ble_eq_true rfl) (by decide) dX6_about_92 rfl rfl rfl rfl ?_
        cases hF
        exact x_iret rfl rfl (by decide) (by decide) dX6_about_95
      · exact x_tableIn (68) 88 dX6_about_20 (by rw [h18]; decide) (by rw [h18]; decide) (by rw [h18]; decide) (by decide) hK
    rcases ite_inv hF with ⟨h23, hF⟩ | ⟨h23, hF⟩
    · have hK : qX l G RX6 "about" cX6_about 2 (some .int) [] rmX6_about 1 6 (rI σ n o) 1 6 σ n 96 [(0, .ref b), (1, .int p0)] [] := by
        refine x_aload_n 97 0 dX6_about_96 rfl rfl ?_
        obtain ⟨r19, h20, hF⟩ := b1_inv hF
        refine x_getR 100 0 inX6 rfl (by decide) wd_150 h20 dX6_about_97 rfl ?_
        obtain ⟨v22, h21, hF⟩ := b1_inv hF
        obtain ⟨fs, hb⟩ : ∃ fs : List Value, True ∧ σ r19 = some (.inr (2, fs)) := kX2_surveys h21
        refine x_callV (As := []) (rest := []) 103 1 6 (mX2_surveys hst r19 σ n v22 h21) qyX2_surveys wd_495 wd_496 wd_497 hb.2 rfl rfl rfl (by decide) (Nat.le_of_ble_eq_true rfl) (by decide) dX6_about_100 rfl rfl rfl rfl ?_
        cases hF
        exact x_iret rfl rfl (by decide) (by decide) dX6_about_103
      · exact x_tableIn (76) 96 dX6_about_20 (by rw [h23]; decide) (by rw [h23]; decide) (by rw [h23]; decide) (by decide) hK
    rcases ite_inv hF with ⟨h28, hF⟩ | ⟨h28, hF⟩
    · have hK : qX l G RX6 "about" cX6_about 2 (some .int) [] rmX6_about 1 6 (rI σ n o) 1 6 σ n 104 [(0, .ref b), (1, .int p0)] [] := by
        refine x_aload_n 105 0 dX6_about_104 rfl rfl ?_
        obtain ⟨r24, h25, hF⟩ := b1_inv hF
        refine x_getR 108 0 inX6 rfl (by decide) wd_150 h25 dX6_about_105 rfl ?_
        obtain ⟨v27, h26, hF⟩ := b1_inv hF
        obtain ⟨fs, hb⟩ : ∃ fs : List Value, True ∧ σ r24 = some (.inr (2, fs)) := kX2_pairsThatQuarrel h26
        refine x_callV (As := []) (rest := []) 111 1 6 (mX2_pairsThatQuarrel hst r24 σ n v27 h26) qyX2_pairsThatQuarrel wd_499 wd_500 wd_501 hb.2 rfl rfl rfl (by decide) (Nat.le_of_ble_eq_true rfl) (by decide) dX6_about_108 rfl rfl rfl rfl ?_
        cases hF
        exact x_iret rfl rfl (by decide) (by decide) dX6_about_111
      · exact x_tableIn (84) 104 dX6_about_20 (by rw [h28]; decide) (by rw [h28]; decide) (by rw [h28]; decide) (by decide) hK
    rcases ite_inv hF with ⟨h33, hF⟩ | ⟨h33, hF⟩
    · have hK : qX l G RX6 "about" cX6_about 2 (some .int) [] rmX6_about 1 6 (rI σ n o) 1 6 σ n 112 [(0, .ref b), (1, .int p0)] [] := by
        refine x_aload_n 113 0 dX6_about_112 rfl rfl ?_
        obtain ⟨r29, h30, hF⟩ := b1_inv hF
        refine x_getR 116 0 inX6 rfl (by decide) wd_150 h30 dX6_about_113 rfl ?_
        obtain ⟨v32, h31, hF⟩ := b1_inv hF
        obtain ⟨fs, hb⟩ : ∃ fs : List Value, True ∧ σ r29 = some (.inr (2, fs)) := kX2_pairsThatMatter h31
        refine x_callV (As := []) (rest := []) 119 1 6 (mX2_pairsThatMatter hst r29 σ n v32 h31) qyX2_pairsThatMatter wd_507 wd_508 wd_509 hb.2 rfl rfl rfl (by decide) (Nat.le_of_ble_eq_true rfl) (by decide) dX6_about_116 rfl rfl rfl rfl ?_
        cases hF
        exact x_iret rfl rfl (by decide) (by decide) dX6_about_119
      · exact x_tableIn (92) 112 dX6_about_20 (by rw [h33]; decide) (by rw [h33]; decide) (by rw [h33]; decide) (by decide) hK
    rcases ite_inv hF with ⟨h38, hF⟩ | ⟨h38, hF⟩
    · have hK : qX l G RX6 "about" cX6_about 2 (some .int) [] rmX6_about 1 6 (rI σ n o) 1 6 σ n 120 [(0, .ref b), (1, .int p0)] [] := by
        refine x_aload_n 121 0 dX6_about_120 rfl rfl ?_
        obtain ⟨r34, h35, hF⟩ := b1_inv hF
        refine x_getR 124 0 inX6 rfl (by decide) wd_150 h35 dX6_about_121 rfl ?_
        obtain ⟨v37, h36, hF⟩ := b1_inv hF
        obtain ⟨fs, hb⟩ : ∃ fs : List Value, True ∧ σ r34 = some (.inr (2, fs)) := kX2_trustOfAll h36
        refine x_callV (As := []) (rest := []) 127 1 6 (mX2_trustOfAll hst r34 σ n v37 h36) qyX2_trustOfAll wd_511 wd_512 wd_513 hb.2 rfl rfl rfl (by decide) (Nat.le_of_ble_eq_true rfl) (by decide) dX6_about_124 rfl rfl rfl rfl ?_
        cases hF
        exact x_iret rfl rfl (by decide) (by decide) dX6_about_127
      · exact x_tableIn (100) 120 dX6_about_20 (by rw [h38]; decide) (by rw [h38]; decide) (by rw [h38]; decide) (by decide) hK
    rcases ite_inv hF with ⟨h43, hF⟩ | ⟨h43, hF⟩
    · have hK : qX l G RX6 "about" cX6_about 2 (some .int) [] rmX6_about 1 6 (rI σ n o) 1 6 σ n 128 [(0, .ref b), (1, .int p0)] [] := by
        refine x_aload_n 129 0 dX6_about_128 rfl rfl ?_
        obtain ⟨r39, h40, hF⟩ := b1_inv hF
        refine x_getR 132 0 inX6 rfl (by decide) wd_150 h40 dX6_about_129 rfl ?_
        obtain ⟨v42, h41, hF⟩ := b1_inv hF
        obtain ⟨fs, hb⟩ : ∃ fs : List Value, True ∧ σ r39 = some (.inr (2, fs)) := kX2_lost h41
        refine x_callV (As := []) (rest := []) 135 1 6 (mX2_lost hst r39 σ n v42 h41) qyX2_lost wd_518 wd_519 wd_520 hb.2 rfl rfl rfl (by decide) (Nat.le_of_ble_eq_true rfl) (by decide) dX6_about_132 rfl rfl rfl rfl ?_
        cases hF
        exact x_iret rfl rfl (by decide) (by decide) dX6_about_135
      · exact x_tableIn (108) 128 dX6_about_20 (by rw [h43]; decide) (by rw [h43]; decide) (by rw [h43]; decide) (by decide) hK
    rcases ite_inv hF with ⟨h48, hF⟩ | ⟨h48, hF⟩
    · have hK : qX l G RX6 "about" cX6_about 2 (some .int) [] rmX6_about 1 6 (rI σ n o) 1 6 σ n 136 [(0, .ref b), (1, .int p0)] [] := by
        refine x_aload_n 137 0 dX6_about_136 rfl rfl ?_
        obtain ⟨r44, h45, hF⟩ := b1_inv hF
        refine x_getR 140 0 inX6 rfl (by decide) wd_150 h45 dX6_about_137 rfl ?_
        obtain ⟨v47, h46, hF⟩ := b1_inv hF
        obtain ⟨fs, hb⟩ : ∃ fs : List Value, True ∧ σ r44 = some (.inr (2, fs)) := kX2_rightOfAll h46
        refine x_callV (As := []) (rest := []) 143 1 6 (mX2_rightOfAll hst r44 σ n v47 h46) qyX2_rightOfAll wd_522 wd_523 wd_524 hb.2 rfl rfl rfl (by decide) (Nat.le_of_ble_eq_true rfl) (by decide) dX6_about_140 rfl rfl rfl rfl ?_
        cases hF
        exact x_iret rfl rfl (by decide) (by decide) dX6_about_143
      · exact x_tableIn (116) 136 dX6_about_20 (by rw [h48]; decide) (by rw [h48]; decide) (by rw [h48]; decide) (by decide) hK
    have hK : qX l G RX6 "about" cX6_about 2 (some .int) [] rmX6_about 1 6 (rI σ n o) 1 6 σ n 144 [(0, .ref b), (1, .int p0)] [] := by
      refine x_aload_n 145 0 dX6_about_144 rfl rfl ?_
      obtain ⟨r49, h50, hF⟩ := b1_inv hF
      refine x_getR 148 0 inX6 rfl (by decide) wd_150 h50 dX6_about_145 rfl ?_
      obtain ⟨v52, h51, hF⟩ := b1_inv hF
      obtain ⟨fs, hb⟩ : ∃ fs : List Value, True ∧ σ r49 = some (.inr (2, fs)) := kX2_wrongOfAll h51
      refine x_callV (As := []) (rest := []) 151 1 6 (mX2_wrongOfAll hst r49 σ n v52 h51) qyX2_wrongOfAll wd_526 wd_527 wd_528 hb.2 rfl rfl rfl (by decide) (Nat.le_of_ble_eq_true rfl) (by decide) dX6_about_148 rfl rfl rfl rfl ?_
      cases hF
      exact x_iret rfl rfl (by decide) (by decide) dX6_about_151
    have h8z := i32_ne (z := 0) h8 (by decide)
    have h13z := i32_ne (z := 1) h13 (by decide)
    have h18z := i32_ne (z := 2) h18 (by decide)
    have h23z := i32_ne (z := 3) h23 (by decide)
    have h28z := i32_ne (z := 4) h28 (by decide)
    have h33z := i32_ne (z := 5) h33 (by decide)
    have h38z := i32_ne (z := 6) h38 (by decide)
    have h43z := i32_ne (z := 7) h43 (by decide)
    have h48z := i32_ne (z := 8) h48 (by decide)
    exact x_tableOut 144 dX6_about_20 (by omega) (by decide) hK
  have hF := h53
  rcases ite_inv hF with ⟨hc, hF⟩ | ⟨hc, hF⟩
  · refine x_icmp_gt 15 5 dX6_about_2 (by decide) rfl (fun _ => ?_) (fun q => absurd hc q)
    refine x_iconst 16 (0 : Int32) dX6_about_15 rfl (by decide) ?_
    have e1 := Option.some.inj hF
    subst e1
    exact hJ
  · refine x_icmp_gt 15 5 dX6_about_2 (by decide) rfl (fun q => absurd q hc) (fun _ => ?_)
    refine x_iload_n 6 1 dX6_about_5 rfl rfl ?_
    refine x_bipush 8 (9 : Int32) dX6_about_6 rfl (by decide) ?_
    rcases ite_inv hF with ⟨hc, hF⟩ | ⟨hc, hF⟩
    · refine x_icmp_gt 15 11 dX6_about_8 (by decide) rfl (fun _ => ?_) (fun q => absurd hc q)
      refine x_iconst 16 (0 : Int32) dX6_about_15 rfl (by decide) ?_
      have e1 := Option.some.inj hF
      subst e1
      exact hJ
    · refine x_icmp_gt 15 11 dX6_about_8 (by decide) rfl (fun q => absurd q hc) (fun _ => ?_)
      refine x_iconst 12 (1 : Int32) dX6_about_11 rfl (by decide) ?_
      refine x_goto 16 dX6_about_12 (by decide) ?_
      have e1 := Option.some.inj hF
      subst e1
      exact hJ
def rmX6_needMeasure : Room := { frames := 6, cells := 1, slots := 6, locals := 82 }
theorem qyX6_needMeasure : qY yX6_needMeasure cX6_needMeasure 2 (none) 1 := ⟨wd_541, wd_17, by decide +kernel, by decide +kernel, by decide +kernel⟩
theorem kX6_needMeasure {b : Nat} {p0 : Int32} {σ : qH} {o : (Unit) ⊕ String} (h : FX6_needMeasure b p0 σ = some o) : ∃ fs : List Value, True ∧ σ b = some (.inr (4, fs)) := by
  unfold FX6_needMeasure at h
  obtain ⟨_, h1, _⟩ := b1_inv h
  obtain ⟨fs, h2⟩ := gC_inv h1
  exact ⟨fs, trivial, h2⟩
set_option maxHeartbeats 4000000 in
set_option maxRecDepth 100000 in
theorem mX6_needMeasure {l : Launch} {G : qG} (hst : l.stackTraces = false) (b : Nat) (p0 : Int32) (σ : qH) (n : Option Nat) (o : (Unit) ⊕ String) (hF : FX6_needMeasure b p0 σ = some o) : qM l G yX6_needMeasure cX6_needMeasure 2 (none) rmX6_needMeasure [.ref b, .int p0] σ n (rU σ n o) := by
  refine q_body (own := RX6) (nm := "needMeasure") (ls := [(0, .ref b), (1, .int p0)]) hst (by decide +kernel) rfl rfl (Nat.le_of_ble_eq_true rfl) rfl rfl rfl ?_
  unfold FX6_needMeasure at hF
  obtain ⟨_, hC, hF⟩ := b1_inv hF
  refine x_aload_n 1 0 dX6_needMeasure_0 rfl rfl ?_
  obtain ⟨r1, h2, hF⟩ := b1_inv hF
  refine x_getR 4 0 inX6 rfl (by decide) wd_150 h2 dX6_needMeasure_1 rfl ?_
  refine x_iload_n 5 1 dX6_needMeasure_4 rfl rfl ?_
  obtain ⟨v4, h3, hF⟩ := b1_inv hF
  obtain ⟨fs, hb⟩ : ∃ fs : List Value, True ∧ σ r1 = some (.inr (2, fs)) := kX2_hasMeasure h3
  refine x_callV (As := [.int p0]) (rest := []) 8 0 0 (mX2_hasMeasure hst r1 p0 σ n v4 h3) qyX2_hasMeasure wd_542 wd_407 wd_408 hb.2 rfl rfl rfl (by decide) (Nat.le_of_ble_eq_true rfl) (by decide) dX6_needMeasure_5 rfl rfl rfl rfl ?_
  rcases ite_inv hF with ⟨hc, hF⟩ | ⟨hc, hF⟩
  · refine x_if_ne 22 11 dX6_needMeasure_8 (by decide) rfl (fun q => absurd hc q) (fun _ => ?_)
    cases hF
    exact x_throwSW (text := "no such measure") (names := ["java/lang/RuntimeException", "java/lang/Exception"]) (by decide) (by decide) rfl wd_543 wd_30 (by decide) tw_313 tg_313 rfl dX6_needMeasure_11 dX6_needMeasure_14 dX6_needMeasure_15 dX6_needMeasure_18 dX6_needMeasure_21 (by decide) (Nat.le_of_ble_eq_true rfl) (by decide) (by decide) rfl (by decide) (by decide)
  · refine x_if_ne 22 11 dX6_needMeasure_8 (by decide) rfl (fun _ => ?_) (fun q => absurd q hc)
    cases hF
    exact x_vret rfl rfl (by decide) (by decide) dX6_needMeasure_22
def rmX6_measureOf : Room := { frames := 7, cells := 2, slots := 12, locals := 103 }
theorem qyX6_measureOf : qY yX6_measureOf cX6_measureOf 3 (some .int) 2 := ⟨wd_537, wd_17, by decide +kernel, by decide +kernel, by decide +kernel⟩
theorem kX6_measureOf {b : Nat} {p0 : Int32} {p1 : Int32} {σ : qH} {o : (Int32) ⊕ String} (h : FX6_measureOf b p0 p1 σ = some o) : ∃ fs : List Value, True ∧ σ b = some (.inr (4, fs)) := by
  unfold FX6_measureOf at h
  obtain ⟨_, h1, _⟩ := b1_inv h
  obtain ⟨fs, h2⟩ := gC_inv h1
  exact ⟨fs, trivial, h2⟩
set_option maxHeartbeats 4000000 in
set_option maxRecDepth 100000 in
theorem mX6_measureOf {l : Launch} {G : qG} (hst : l.stackTraces = false) (b : Nat) (p0 : Int32) (p1 : Int32) (σ : qH) (n : Option Nat) (o : (Int32) ⊕ String) (hF : FX6_measureOf b p0 p1 σ = some o) : qM l G yX6_measureOf cX6_measureOf 3 (some .int) rmX6_measureOf [.ref b, .int p0, .int p1] σ n (rI σ n o) := by
  refine q_body (own := RX6) (nm := "measureOf") (ls := [(0, .ref b), (1, .int p0), (2, .int p1)]) hst (by decide +kernel) rfl rfl (Nat.le_of_ble_eq_true rfl) rfl rfl rfl ?_
  unfold FX6_measureOf at hF
  obtain ⟨_, hC, hF⟩ := b1_inv hF
  refine x_aload_n 1 0 dX6_measureOf_0 rfl rfl ?_
  refine x_iload_n 2 1 dX6_measureOf_1 rfl rfl ?_
  rcases bx_inv hF with ⟨u, h1, hF⟩ | ⟨e2, h1, rfl⟩
  rotate_left
  · obtain ⟨fs, hb⟩ : ∃ fs : List Value, True ∧ σ b = some (.inr (4, fs)) := kX6_needMeasure h1
    exact x_callVX (As := [.int p0]) (rest := []) (mX6_needMeasure hst b p0 σ n (.inr e2) h1) qyX6_needMeasure wd_538 wd_540 wd_10 hb.2 rfl rfl rfl (by decide) (Nat.le_of_ble_eq_true rfl) (by decide) dX6_measureOf_2 rfl rfl (by decide) (by decide)
  obtain ⟨fs, hb⟩ : ∃ fs : List Value, True ∧ σ b = some (.inr (4, fs)) := kX6_needMeasure h1
  refine x_callV (As := [.int p0]) (rest := []) 5 1 6 (mX6_needMeasure hst b p0 σ n (.inl u) h1) qyX6_needMeasure wd_538 wd_540 wd_10 hb.2 rfl rfl rfl (by decide) (Nat.le_of_ble_eq_true rfl) (by decide) dX6_measureOf_2 rfl rfl rfl rfl ?_
  refine x_iconst 6 (0 : Int32) dX6_measureOf_5 rfl (by decide) ?_
  refine x_iload_n 7 2 dX6_measureOf_6 rfl rfl ?_
  obtain ⟨x3, h20, hF⟩ := b1_inv hF
  have hJ : qX l G RX6 "measureOf" cX6_measureOf 3 (some .int) [] rmX6_measureOf 2 12 (rI σ n o) 1 6 σ n 21 [(0, .ref b), (1, .int p0), (2, .int p1)] [.int x3] := by
    rcases bx_inv hF with ⟨u, h4, hF⟩ | ⟨e5, h4, rfl⟩
    rotate_left
    · skip
      exact x_callSX (As := [.int x3]) (rest := []) (mX6_need hst x3 σ n (.inr e5) h4) qyX6_need wd_192 wd_193 rfl rfl (by decide) (Nat.le_of_ble_eq_true rfl) (by decide) dX6_measureOf_21 rfl rfl (by decide) (by decide)
    refine x_callS (As := [.int x3]) (rest := []) 24 2 12 (mX6_need hst x3 σ n (.inl u) h4) qyX6_need wd_192 wd_193 rfl rfl (by decide) (Nat.le_of_ble_eq_true rfl) (by decide) dX6_measureOf_21 rfl rfl rfl rfl ?_
    refine x_iload_n 25 2 dX6_measureOf_24 rfl rfl ?_
    rcases ite_inv hF with ⟨h10, hF⟩ | ⟨h10, hF⟩
    · have hK : qX l G RX6 "measureOf" cX6_measureOf 3 (some .int) [] rmX6_measureOf 2 12 (rI σ n o) 2 12 σ n 52 [(0, .ref b), (1, .int p0), (2, .int p1)] [] := by
        refine x_aload_n 53 0 dX6_measureOf_52 rfl rfl ?_
        obtain ⟨r6, h7, hF⟩ := b1_inv hF
        refine x_getR 56 0 inX6 rfl (by decide) wd_150 h7 dX6_measureOf_53 rfl ?_
        refine x_iload_n 57 1 dX6_measureOf_56 rfl rfl ?_
        obtain ⟨v9, h8, hF⟩ := b1_inv hF
        obtain ⟨fs, hb⟩ : ∃ fs : List Value, True ∧ σ r6 = some (.inr (2, fs)) := kX2_weight h8
        refine x_callV (As := [.int p0]) (rest := []) 60 2 12 (mX2_weight hst r6 p0 σ n v9 h8) qyX2_weight wd_559 wd_449 wd_450 hb.2 rfl rfl rfl (by decide) (Nat.le_of_ble_eq_true rfl) (by decide) dX6_measureOf_57 rfl rfl rfl rfl ?_
        cases hF
        exact x_iret rfl rfl (by decide) (by decide) dX6_measureOf_60
      · exact x_lookup (27) 52 dX6_measureOf_25 (by decide) (by rw [h10]; decide) (by decide) hK
    rcases ite_inv hF with ⟨h15, hF⟩ | ⟨h15, hF⟩
    · have hK : qX l G RX6 "measureOf" cX6_measureOf 3 (some .int) [] rmX6_measureOf 2 12 (rI σ n o) 2 12 σ n 61 [(0, .ref b), (1, .int p0), (2, .int p1)] [] := by
        refine x_aload_n 62 0 dX6_measureOf_61 rfl rfl ?_
        obtain ⟨r11, h12, hF⟩ := b1_inv hF
        refine x_getR 65 0 inX6 rfl (by decide) wd_150 h12 dX6_measureOf_62 rfl ?_
        refine x_iload_n 66 1 dX6_measureOf_65 rfl rfl ?_
        obtain ⟨v14, h13, hF⟩ := b1_inv hF
        obtain ⟨fs, hb⟩ : ∃ fs : List Value, True ∧ σ r11 = some (.inr (2, fs)) := kX2_quarrelsOfMeasure h13
        refine x_callV (As := [.int p0]) (rest := []) 69 2 12 (mX2_quarrelsOfMeasure hst r11 p0 σ n v14 h13) qyX2_quarrelsOfMeasure wd_560 wd_561 wd_562 hb.2 rfl rfl rfl (by decide) (Nat.le_of_ble_eq_true rfl) (by decide) dX6_measureOf_66 rfl rfl rfl rfl ?_
        cases hF
        exact x_iret rfl rfl (by decide) (by decide) dX6_measureOf_69
      · exact x_lookup (36) 61 dX6_measureOf_25 (by decide) (by rw [h15]; decide) (by decide) hK
    have hK : qX l G RX6 "measureOf" cX6_measureOf 3 (some .int) [] rmX6_measureOf 2 12 (rI σ n o) 2 12 σ n 70 [(0, .ref b), (1, .int p0), (2, .int p1)] [] := by
      refine x_aload_n 71 0 dX6_measureOf_70 rfl rfl ?_
      obtain ⟨r16, h17, hF⟩ := b1_inv hF
      refine x_getR 74 0 inX6 rfl (by decide) wd_150 h17 dX6_measureOf_71 rfl ?_
      refine x_iload_n 75 1 dX6_measureOf_74 rfl rfl ?_
      refine x_iload_n 76 2 dX6_measureOf_75 rfl rfl ?_
      obtain ⟨v19, h18, hF⟩ := b1_inv hF
      obtain ⟨fs, hb⟩ : ∃ fs : List Value, True ∧ σ r16 = some (.inr (2, fs)) := kX2_number h18
      refine x_callV (As := [.int p0, .int p1]) (rest := []) 79 2 12 (mX2_number hst r16 p0 p1 σ n v19 h18) qyX2_number wd_564 wd_437 wd_438 hb.2 rfl rfl rfl (by decide) (Nat.le_of_ble_eq_true rfl) (by decide) dX6_measureOf_76 rfl rfl rfl rfl ?_
      cases hF
      exact x_iret rfl rfl (by decide) (by decide) dX6_measureOf_79
    have h10z := i32_ne (z := 9) h10 (by decide)
    have h15z := i32_ne (z := 10) h15 (by decide)
    exact x_lookup (45) 70 dX6_measureOf_25 (by decide) (lk_2 h10z h15z) (by decide) hK
  have hF := h20
  rcases ite_inv hF with ⟨hc, hF⟩ | ⟨hc, hF⟩
  · refine x_icmp_gt 20 10 dX6_measureOf_7 (by decide) rfl (fun _ => ?_) (fun q => absurd hc q)
    refine x_iconst 21 (0 : Int32) dX6_measureOf_20 rfl (by decide) ?_
    have e1 := Option.some.inj hF
    subst e1
    exact hJ
  · refine x_icmp_gt 20 10 dX6_measureOf_7 (by decide) rfl (fun q => absurd q hc) (fun _ => ?_)
    refine x_iload_n 11 2 dX6_measureOf_10 rfl rfl ?_
    refine x_bipush 13 (10 : Int32) dX6_measureOf_11 rfl (by decide) ?_
    rcases ite_inv hF with ⟨hc, hF⟩ | ⟨hc, hF⟩
    · refine x_icmp_gt 20 16 dX6_measureOf_13 (by decide) rfl (fun _ => ?_) (fun q => absurd hc q)
      refine x_iconst 21 (0 : Int32) dX6_measureOf_20 rfl (by decide) ?_
      have e1 := Option.some.inj hF
      subst e1
      exact hJ
    · refine x_icmp_gt 20 16 dX6_measureOf_13 (by decide) rfl (fun q => absurd q hc) (fun _ => ?_)
      refine x_iconst 17 (1 : Int32) dX6_measureOf_16 rfl (by decide) ?_
      refine x_goto 21 dX6_measureOf_17 (by decide) ?_
      have e1 := Option.some.inj hF
      subst e1
      exact hJ
def rmX6_needTeller : Room := { frames := 6, cells := 1, slots := 6, locals := 82 }
theorem qyX6_needTeller : qY yX6_needTeller cX6_needTeller 1 (none) 1 := ⟨wd_575, wd_17, by decide +kernel, by decide +kernel, by decide +kernel⟩
set_option maxHeartbeats 4000000 in
set_option maxRecDepth 100000 in
theorem mX6_needTeller {l : Launch} {G : qG} (hst : l.stackTraces = false) (p0 : Int32) (σ : qH) (n : Option Nat) (o : (Unit) ⊕ String) (hF : FX6_needTeller p0 σ = some o) : qM l G yX6_needTeller cX6_needTeller 1 (none) rmX6_needTeller [.int p0] σ n (rU σ n o) := by
  refine q_body (own := RX6) (nm := "needTeller") (ls := [(0, .int p0)]) hst (by decide +kernel) rfl rfl (Nat.le_of_ble_eq_true rfl) rfl rfl rfl ?_
  unfold FX6_needTeller at hF
  refine x_iload_n 1 0 dX6_needTeller_0 rfl rfl ?_
  obtain ⟨v2, h1, hF⟩ := b1_inv hF
  refine x_callS (As := [.int p0]) (rest := []) 4 0 0 (mX2_isTeller hst p0 σ n v2 h1) qyX2_isTeller wd_576 wd_365 rfl rfl (by decide) (Nat.le_of_ble_eq_true rfl) (by decide) dX6_needTeller_1 rfl rfl rfl rfl ?_
  rcases ite_inv hF with ⟨hc, hF⟩ | ⟨hc, hF⟩
  · refine x_if_ne 18 7 dX6_needTeller_4 (by decide) rfl (fun q => absurd hc q) (fun _ => ?_)
    cases hF
    exact x_throwSW (text := "no such teller") (names := ["java/lang/RuntimeException", "java/lang/Exception"]) (by decide) (by decide) rfl wd_543 wd_30 (by decide) tw_313 tg_313 rfl dX6_needTeller_7 dX6_needTeller_10 dX6_needTeller_11 dX6_needTeller_14 dX6_needTeller_17 (by decide) (Nat.le_of_ble_eq_true rfl) (by decide) (by decide) rfl (by decide) (by decide)
  · refine x_if_ne 18 7 dX6_needTeller_4 (by decide) rfl (fun _ => ?_) (fun q => absurd q hc)
    cases hF
    exact x_vret rfl rfl (by decide) (by decide) dX6_needTeller_18
def rmX6_tellerOf : Room := { frames := 7, cells := 2, slots := 12, locals := 114 }
theorem qyX6_tellerOf : qY yX6_tellerOf cX6_tellerOf 3 (some .int) 2 := ⟨wd_572, wd_17, by decide +kernel, by decide +kernel, by decide +kernel⟩
theorem kX6_tellerOf {b : Nat} {p0 : Int32} {p1 : Int32} {σ : qH} {o : (Int32) ⊕ String} (h : FX6_tellerOf b p0 p1 σ = some o) : ∃ fs : List Value, True ∧ σ b = some (.inr (4, fs)) := by
  unfold FX6_tellerOf at h
  obtain ⟨_, h1, _⟩ := b1_inv h
  obtain ⟨fs, h2⟩ := gC_inv h1
  exact ⟨fs, trivial, h2⟩
set_option maxHeartbeats 4000000 in
set_option maxRecDepth 100000 in
theorem mX6_tellerOf {l : Launch} {G : qG} (hst : l.stackTraces = false) (b : Nat) (p0 : Int32) (p1 : Int32) (σ : qH) (n : Option Nat) (o : (Int32) ⊕ String) (hF : FX6_tellerOf b p0 p1 σ = some o) : qM l G yX6_tellerOf cX6_tellerOf 3 (some .int) rmX6_tellerOf [.ref b, .int p0, .int p1] σ n (rI σ n o) := by
  refine q_body (own := RX6) (nm := "tellerOf") (ls := [(0, .ref b), (1, .int p0), (2, .int p1)]) hst (by decide +kernel) rfl rfl (Nat.le_of_ble_eq_true rfl) rfl rfl rfl ?_
  unfold FX6_tellerOf at hF
  obtain ⟨_, hC, hF⟩ := b1_inv hF
  refine x_iload_n 1 1 dX6_tellerOf_0 rfl rfl ?_
  rcases bx_inv hF with ⟨u, h1, hF⟩ | ⟨e2, h1, rfl⟩
  rotate_left
  · skip
    exact x_callSX (As := [.int p0]) (rest := []) (mX6_needTeller hst p0 σ n (.inr e2) h1) qyX6_needTeller wd_573 wd_574 rfl rfl (by decide) (Nat.le_of_ble_eq_true rfl) (by decide) dX6_tellerOf_1 rfl rfl (by decide) (by decide)
  refine x_callS (As := [.int p0]) (rest := []) 4 1 6 (mX6_needTeller hst p0 σ n (.inl u) h1) qyX6_needTeller wd_573 wd_574 rfl rfl (by decide) (Nat.le_of_ble_eq_true rfl) (by decide) dX6_tellerOf_1 rfl rfl rfl rfl ?_
  refine x_iconst 5 (0 : Int32) dX6_tellerOf_4 rfl (by decide) ?_
  refine x_iload_n 6 2 dX6_tellerOf_5 rfl rfl ?_
  obtain ⟨x3, h30, hF⟩ := b1_inv hF
  have hJ : qX l G RX6 "tellerOf" cX6_tellerOf 3 (some .int) [] rmX6_tellerOf 2 12 (rI σ n o) 1 6 σ n 19 [(0, .ref b), (1, .int p0), (2, .int p1)] [.int x3] := by
    rcases bx_inv hF with ⟨u, h4, hF⟩ | ⟨e5, h4, rfl⟩
    rotate_left
    · skip
      exact x_callSX (As := [.int x3]) (rest := []) (mX6_need hst x3 σ n (.inr e5) h4) qyX6_need wd_192 wd_193 rfl rfl (by decide) (Nat.le_of_ble_eq_true rfl) (by decide) dX6_tellerOf_19 rfl rfl (by decide) (by decide)
    refine x_callS (As := [.int x3]) (rest := []) 22 2 12 (mX6_need hst x3 σ n (.inl u) h4) qyX6_need wd_192 wd_193 rfl rfl (by decide) (Nat.le_of_ble_eq_true rfl) (by decide) dX6_tellerOf_19 rfl rfl rfl rfl ?_
    refine x_iload_n 23 2 dX6_tellerOf_22 rfl rfl ?_
    rcases ite_inv hF with ⟨h10, hF⟩ | ⟨h10, hF⟩
    · have hK : qX l G RX6 "tellerOf" cX6_tellerOf 3 (some .int) [] rmX6_tellerOf 2 12 (rI σ n o) 2 12 σ n 52 [(0, .ref b), (1, .int p0), (2, .int p1)] [] := by
        refine x_aload_n 53 0 dX6_tellerOf_52 rfl rfl ?_
        obtain ⟨r6, h7, hF⟩ := b1_inv hF
        refine x_getR 56 0 inX6 rfl (by decide) wd_150 h7 dX6_tellerOf_53 rfl ?_
        refine x_iload_n 57 1 dX6_tellerOf_56 rfl rfl ?_
        obtain ⟨v9, h8, hF⟩ := b1_inv hF
        obtain ⟨fs, hb⟩ : ∃ fs : List Value, True ∧ σ r6 = some (.inr (2, fs)) := kX2_trustOf h8
        refine x_callV (As := [.int p0]) (rest := []) 60 2 12 (mX2_trustOf hst r6 p0 σ n v9 h8) qyX2_trustOf wd_578 wd_579 wd_580 hb.2 rfl rfl rfl (by decide) (Nat.le_of_ble_eq_true rfl) (by decide) dX6_tellerOf_57 rfl rfl rfl rfl ?_
        cases hF
        exact x_iret rfl rfl (by decide) (by decide) dX6_tellerOf_60
      · exact x_tableIn (29) 52 dX6_tellerOf_23 (by rw [h10]; decide) (by rw [h10]; decide) (by rw [h10]; decide) (by decide) hK
    rcases ite_inv hF with ⟨h15, hF⟩ | ⟨h15, hF⟩
    · have hK : qX l G RX6 "tellerOf" cX6_tellerOf 3 (some .int) [] rmX6_tellerOf 2 12 (rI σ n o) 2 12 σ n 61 [(0, .ref b), (1, .int p0), (2, .int p1)] [] := by
        refine x_aload_n 62 0 dX6_tellerOf_61 rfl rfl ?_
        obtain ⟨r11, h12, hF⟩ := b1_inv hF
        refine x_getR 65 0 inX6 rfl (by decide) wd_150 h12 dX6_tellerOf_62 rfl ?_
        refine x_iload_n 66 1 dX6_tellerOf_65 rfl rfl ?_
        obtain ⟨v14, h13, hF⟩ := b1_inv hF
        obtain ⟨fs, hb⟩ : ∃ fs : List Value, True ∧ σ r11 = some (.inr (2, fs)) := kX2_measuresOfTeller h13
        refine x_callV (As := [.int p0]) (rest := []) 69 2 12 (mX2_measuresOfTeller hst r11 p0 σ n v14 h13) qyX2_measuresOfTeller wd_582 wd_583 wd_584 hb.2 rfl rfl rfl (by decide) (Nat.le_of_ble_eq_true rfl) (by decide) dX6_tellerOf_66 rfl rfl rfl rfl ?_
        cases hF
        exact x_iret rfl rfl (by decide) (by decide) dX6_tellerOf_69
      · exact x_tableIn (38) 61 dX6_tellerOf_23 (by rw [h15]; decide) (by rw [h15]; decide) (by rw [h15]; decide) (by decide) hK
    rcases ite_inv hF with ⟨h20, hF⟩ | ⟨h20, hF⟩
    · have hK : qX l G RX6 "tellerOf" cX6_tellerOf 3 (some .int) [] rmX6_tellerOf 2 12 (rI σ n o) 2 12 σ n 70 [(0, .ref b), (1, .int p0), (2, .int p1)] [] := by
        refine x_aload_n 71 0 dX6_tellerOf_70 rfl rfl ?_
        obtain ⟨r16, h17, hF⟩ := b1_inv hF
        refine x_getR 74 0 inX6 rfl (by decide) wd_150 h17 dX6_tellerOf_71 rfl ?_
        refine x_iload_n 75 1 dX6_tellerOf_74 rfl rfl ?_
        obtain ⟨v19, h18, hF⟩ := b1_inv hF
        obtain ⟨fs, hb⟩ : ∃ fs : List Value, True ∧ σ r16 = some (.inr (2, fs)) := kX2_rightOf h18
        refine x_callV (As := [.int p0]) (rest := []) 78 2 12 (mX2_rightOf hst r16 p0 σ n v19 h18) qyX2_rightOf wd_586 wd_587 wd_588 hb.2 rfl rfl rfl (by decide) (Nat.le_of_ble_eq_true rfl) (by decide) dX6_tellerOf_75 rfl rfl rfl rfl ?_
        cases hF
        exact x_iret rfl rfl (by decide) (by decide) dX6_tellerOf_78
      · exact x_tableIn (47) 70 dX6_tellerOf_23 (by rw [h20]; decide) (by rw [h20]; decide) (by rw [h20]; decide) (by decide) hK
    rcases ite_inv hF with ⟨h25, hF⟩ | ⟨h25, hF⟩
    · have hK : qX l G RX6 "tellerOf" cX6_tellerOf 3 (some .int) [] rmX6_tellerOf 2 12 (rI σ n o) 2 12 σ n 79 [(0, .ref b), (1, .int p0), (2, .int p1)] [] := by
        refine x_aload_n 80 0 dX6_tellerOf_79 rfl rfl ?_
        obtain ⟨r21, h22, hF⟩ := b1_inv hF
        refine x_getR 83 0 inX6 rfl (by decide) wd_150 h22 dX6_tellerOf_80 rfl ?_
        refine x_iload_n 84 1 dX6_tellerOf_83 rfl rfl ?_
        obtain ⟨v24, h23, hF⟩ := b1_inv hF
        obtain ⟨fs, hb⟩ : ∃ fs : List Value, True ∧ σ r21 = some (.inr (2, fs)) := kX2_wrongOf h23
        refine x_callV (As := [.int p0]) (rest := []) 87 2 12 (mX2_wrongOf hst r21 p0 σ n v24 h23) qyX2_wrongOf wd_590 wd_591 wd_592 hb.2 rfl rfl rfl (by decide) (Nat.le_of_ble_eq_true rfl) (by decide) dX6_tellerOf_84 rfl rfl rfl rfl ?_
        cases hF
        exact x_iret rfl rfl (by decide) (by decide) dX6_tellerOf_87
      · exact x_tableIn (56) 79 dX6_tellerOf_23 (by rw [h25]; decide) (by rw [h25]; decide) (by rw [h25]; decide) (by decide) hK
    have hK : qX l G RX6 "tellerOf" cX6_tellerOf 3 (some .int) [] rmX6_tellerOf 2 12 (rI σ n o) 2 12 σ n 88 [(0, .ref b), (1, .int p0), (2, .int p1)] [] := by
      refine x_aload_n 89 0 dX6_tellerOf_88 rfl rfl ?_
      obtain ⟨r26, h27, hF⟩ := b1_inv hF
      refine x_getR 92 0 inX6 rfl (by decide) wd_150 h27 dX6_tellerOf_89 rfl ?_
      refine x_iload_n 93 1 dX6_tellerOf_92 rfl rfl ?_
      obtain ⟨v29, h28, hF⟩ := b1_inv hF
      obtain ⟨fs, hb⟩ : ∃ fs : List Value, True ∧ σ r26 = some (.inr (2, fs)) := kX2_quarrelsOfTeller h28
      refine x_callV (As := [.int p0]) (rest := []) 96 2 12 (mX2_quarrelsOfTeller hst r26 p0 σ n v29 h28) qyX2_quarrelsOfTeller wd_594 wd_595 wd_596 hb.2 rfl rfl rfl (by decide) (Nat.le_of_ble_eq_true rfl) (by decide) dX6_tellerOf_93 rfl rfl rfl rfl ?_
      cases hF
      exact x_iret rfl rfl (by decide) (by decide) dX6_tellerOf_96
    have h10z := i32_ne (z := 0) h10 (by decide)
    have h15z := i32_ne (z := 1) h15 (by decide)
    have h20z := i32_ne (z := 2) h20 (by decide)
    have h25z := i32_ne (z := 3) h25 (by decide)
    exact x_tableOut 88 dX6_tellerOf_23 (by omega) (by decide) hK
  have hF := h30
  rcases ite_inv hF with ⟨hc, hF⟩ | ⟨hc, hF⟩
  · refine x_icmp_gt 18 9 dX6_tellerOf_6 (by decide) rfl (fun _ => ?_) (fun q => absurd hc q)
    refine x_iconst 19 (0 : Int32) dX6_tellerOf_18 rfl (by decide) ?_
    have e1 := Option.some.inj hF
    subst e1
    exact hJ
  · refine x_icmp_gt 18 9 dX6_tellerOf_6 (by decide) rfl (fun q => absurd q hc) (fun _ => ?_)
    refine x_iload_n 10 2 dX6_tellerOf_9 rfl rfl ?_
    refine x_iconst 11 (4 : Int32) dX6_tellerOf_10 rfl (by decide) ?_
    rcases ite_inv hF with ⟨hc, hF⟩ | ⟨hc, hF⟩
    · refine x_icmp_gt 18 14 dX6_tellerOf_11 (by decide) rfl (fun _ => ?_) (fun q => absurd hc q)
      refine x_iconst 19 (0 : Int32) dX6_tellerOf_18 rfl (by decide) ?_
      have e1 := Option.some.inj hF
      subst e1
      exact hJ
    · refine x_icmp_gt 18 14 dX6_tellerOf_11 (by decide) rfl (fun q => absurd q hc) (fun _ => ?_)
      refine x_iconst 15 (1 : Int32) dX6_tellerOf_14 rfl (by decide) ?_
      refine x_goto 19 dX6_tellerOf_15 (by decide) ?_
      have e1 := Option.some.inj hF
      subst e1
      exact hJ
def rmX6_needSteeple : Room := { frames := 6, cells := 1, slots := 6, locals := 82 }
theorem qyX6_needSteeple : qY yX6_needSteeple cX6_needSteeple 1 (none) 1 := ⟨wd_608, wd_17, by decide +kernel, by decide +kernel, by decide +kernel⟩
set_option maxHeartbeats 4000000 in
set_option maxRecDepth 100000 in
theorem mX6_needSteeple {l : Launch} {G : qG} (hst : l.stackTraces = false) (p0 : Int32) (σ : qH) (n : Option Nat) (o : (Unit) ⊕ String) (hF : FX6_needSteeple p0 σ = some o) : qM l G yX6_needSteeple cX6_needSteeple 1 (none) rmX6_needSteeple [.int p0] σ n (rU σ n o) := by
  refine q_body (own := RX6) (nm := "needSteeple") (ls := [(0, .int p0)]) hst (by decide +kernel) rfl rfl (Nat.le_of_ble_eq_true rfl) rfl rfl rfl ?_
  unfold FX6_needSteeple at hF
  refine x_iload_n 1 0 dX6_needSteeple_0 rfl rfl ?_
  obtain ⟨v2, h1, hF⟩ := b1_inv hF
  refine x_callS (As := [.int p0]) (rest := []) 4 0 0 (mX2_isSteeple hst p0 σ n v2 h1) qyX2_isSteeple wd_609 wd_362 rfl rfl (by decide) (Nat.le_of_ble_eq_true rfl) (by decide) dX6_needSteeple_1 rfl rfl rfl rfl ?_
  rcases ite_inv hF with ⟨hc, hF⟩ | ⟨hc, hF⟩
  · refine x_if_ne 18 7 dX6_needSteeple_4 (by decide) rfl (fun q => absurd hc q) (fun _ => ?_)
    cases hF
    exact x_throwSW (text := "no such steeple") (names := ["java/lang/RuntimeException", "java/lang/Exception"]) (by decide) (by decide) rfl wd_543 wd_30 (by decide) tw_313 tg_313 rfl dX6_needSteeple_7 dX6_needSteeple_10 dX6_needSteeple_11 dX6_needSteeple_14 dX6_needSteeple_17 (by decide) (Nat.le_of_ble_eq_true rfl) (by decide) (by decide) rfl (by decide) (by decide)
  · refine x_if_ne 18 7 dX6_needSteeple_4 (by decide) rfl (fun _ => ?_) (fun q => absurd q hc)
    cases hF
    exact x_vret rfl rfl (by decide) (by decide) dX6_needSteeple_18
def rmX6_steepleOf : Room := { frames := 7, cells := 2, slots := 12, locals := 102 }
theorem qyX6_steepleOf : qY yX6_steepleOf cX6_steepleOf 3 (some .int) 2 := ⟨wd_605, wd_17, by decide +kernel, by decide +kernel, by decide +kernel⟩
theorem kX6_steepleOf {b : Nat} {p0 : Int32} {p1 : Int32} {σ : qH} {o : (Int32) ⊕ String} (h : FX6_steepleOf b p0 p1 σ = some o) : ∃ fs : List Value, True ∧ σ b = some (.inr (4, fs)) := by
  unfold FX6_steepleOf at h
  obtain ⟨_, h1, _⟩ := b1_inv h
  obtain ⟨fs, h2⟩ := gC_inv h1
  exact ⟨fs, trivial, h2⟩
set_option maxHeartbeats 4000000 in
set_option maxRecDepth 100000 in
theorem mX6_steepleOf {l : Launch} {G : qG} (hst : l.stackTraces = false) (b : Nat) (p0 : Int32) (p1 : Int32) (σ : qH) (n : Option Nat) (o : (Int32) ⊕ String) (hF : FX6_steepleOf b p0 p1 σ = some o) : qM l G yX6_steepleOf cX6_steepleOf 3 (some .int) rmX6_steepleOf [.ref b, .int p0, .int p1] σ n (rI σ n o) := by
  refine q_body (own := RX6) (nm := "steepleOf") (ls := [(0, .ref b), (1, .int p0), (2, .int p1)]) hst (by decide +kernel) rfl rfl (Nat.le_of_ble_eq_true rfl) rfl rfl rfl ?_
  unfold FX6_steepleOf at hF
  obtain ⟨_, hC, hF⟩ := b1_inv hF
  refine x_iload_n 1 1 dX6_steepleOf_0 rfl rfl ?_
  rcases bx_inv hF with ⟨u, h1, hF⟩ | ⟨e2, h1, rfl⟩
  rotate_left
  · skip
    exact x_callSX (As := [.int p0]) (rest := []) (mX6_needSteeple hst p0 σ n (.inr e2) h1) qyX6_needSteeple wd_606 wd_607 rfl rfl (by decide) (Nat.le_of_ble_eq_true rfl) (by decide) dX6_steepleOf_1 rfl rfl (by decide) (by decide)
  refine x_callS (As := [.int p0]) (rest := []) 4 1 6 (mX6_needSteeple hst p0 σ n (.inl u) h1) qyX6_needSteeple wd_606 wd_607 rfl rfl (by decide) (Nat.le_of_ble_eq_true rfl) (by decide) dX6_steepleOf_1 rfl rfl rfl rfl ?_
  refine x_iconst 5 (0 : Int32) dX6_steepleOf_4 rfl (by decide) ?_
  refine x_iload_n 6 2 dX6_steepleOf_5 rfl rfl ?_
  obtain ⟨x3, h20, hF⟩ := b1_inv hF
  have hJ : qX l G RX6 "steepleOf" cX6_steepleOf 3 (some .int) [] rmX6_steepleOf 2 12 (rI σ n o) 1 6 σ n 19 [(0, .ref b), (1, .int p0), (2, .int p1)] [.int x3] := by
    rcases bx_inv hF with ⟨u, h4, hF⟩ | ⟨e5, h4, rfl⟩
    rotate_left
    · skip
      exact x_callSX (As := [.int x3]) (rest := []) (mX6_need hst x3 σ n (.inr e5) h4) qyX6_need wd_192 wd_193 rfl rfl (by decide) (Nat.le_of_ble_eq_true rfl) (by decide) dX6_steepleOf_19 rfl rfl (by decide) (by decide)
    refine x_callS (As := [.int x3]) (rest := []) 22 2 12 (mX6_need hst x3 σ n (.inl u) h4) qyX6_need wd_192 wd_193 rfl rfl (by decide) (Nat.le_of_ble_eq_true rfl) (by decide) dX6_steepleOf_19 rfl rfl rfl rfl ?_
    refine x_iload_n 23 2 dX6_steepleOf_22 rfl rfl ?_
    rcases ite_inv hF with ⟨h10, hF⟩ | ⟨h10, hF⟩
    · have hK : qX l G RX6 "steepleOf" cX6_steepleOf 3 (some .int) [] rmX6_steepleOf 2 12 (rI σ n o) 2 12 σ n 48 [(0, .ref b), (1, .int p0), (2, .int p1)] [] := by
        refine x_aload_n 49 0 dX6_steepleOf_48 rfl rfl ?_
        obtain ⟨r6, h7, hF⟩ := b1_inv hF
        refine x_getR 52 0 inX6 rfl (by decide) wd_150 h7 dX6_steepleOf_49 rfl ?_
        refine x_iload_n 53 1 dX6_steepleOf_52 rfl rfl ?_
        obtain ⟨v9, h8, hF⟩ := b1_inv hF
        obtain ⟨fs, hb⟩ : ∃ fs : List Value, True ∧ σ r6 = some (.inr (2, fs)) := kX2_measuresOfSteeple h8
        refine x_callV (As := [.int p0]) (rest := []) 56 2 12 (mX2_measuresOfSteeple hst r6 p0 σ n v9 h8) qyX2_measuresOfSteeple wd_611 wd_612 wd_613 hb.2 rfl rfl rfl (by decide) (Nat.le_of_ble_eq_true rfl) (by decide) dX6_steepleOf_53 rfl rfl rfl rfl ?_
        cases hF
        exact x_iret rfl rfl (by decide) (by decide) dX6_steepleOf_56
      · exact x_lookup (25) 48 dX6_steepleOf_23 (by decide) (by rw [h10]; decide) (by decide) hK
    rcases ite_inv hF with ⟨h15, hF⟩ | ⟨h15, hF⟩
    · have hK : qX l G RX6 "steepleOf" cX6_steepleOf 3 (some .int) [] rmX6_steepleOf 2 12 (rI σ n o) 2 12 σ n 57 [(0, .ref b), (1, .int p0), (2, .int p1)] [] := by
        refine x_aload_n 58 0 dX6_steepleOf_57 rfl rfl ?_
        obtain ⟨r11, h12, hF⟩ := b1_inv hF
        refine x_getR 61 0 inX6 rfl (by decide) wd_150 h12 dX6_steepleOf_58 rfl ?_
        refine x_iload_n 62 1 dX6_steepleOf_61 rfl rfl ?_
        obtain ⟨v14, h13, hF⟩ := b1_inv hF
        obtain ⟨fs, hb⟩ : ∃ fs : List Value, True ∧ σ r11 = some (.inr (2, fs)) := kX2_heightSurveyed h13
        refine x_callV (As := [.int p0]) (rest := []) 65 2 12 (mX2_heightSurveyed hst r11 p0 σ n v14 h13) qyX2_heightSurveyed wd_615 wd_616 wd_617 hb.2 rfl rfl rfl (by decide) (Nat.le_of_ble_eq_true rfl) (by decide) dX6_steepleOf_62 rfl rfl rfl rfl ?_
        cases hF
        exact x_iret rfl rfl (by decide) (by decide) dX6_steepleOf_65
      · exact x_lookup (34) 57 dX6_steepleOf_23 (by decide) (by rw [h15]; decide) (by decide) hK
    have hK : qX l G RX6 "steepleOf" cX6_steepleOf 3 (some .int) [] rmX6_steepleOf 2 12 (rI σ n o) 2 12 σ n 66 [(0, .ref b), (1, .int p0), (2, .int p1)] [] := by
      refine x_aload_n 67 0 dX6_steepleOf_66 rfl rfl ?_
      obtain ⟨r16, h17, hF⟩ := b1_inv hF
      refine x_getR 70 0 inX6 rfl (by decide) wd_150 h17 dX6_steepleOf_67 rfl ?_
      refine x_iload_n 71 1 dX6_steepleOf_70 rfl rfl ?_
      obtain ⟨v19, h18, hF⟩ := b1_inv hF
      obtain ⟨fs, hb⟩ : ∃ fs : List Value, True ∧ σ r16 = some (.inr (2, fs)) := kX2_weightOfSteeple h18
      refine x_callV (As := [.int p0]) (rest := []) 74 2 12 (mX2_weightOfSteeple hst r16 p0 σ n v19 h18) qyX2_weightOfSteeple wd_619 wd_620 wd_621 hb.2 rfl rfl rfl (by decide) (Nat.le_of_ble_eq_true rfl) (by decide) dX6_steepleOf_71 rfl rfl rfl rfl ?_
      cases hF
      exact x_iret rfl rfl (by decide) (by decide) dX6_steepleOf_74
    have h10z := i32_ne (z := 0) h10 (by decide)
    have h15z := i32_ne (z := 1) h15 (by decide)
    exact x_lookup (43) 66 dX6_steepleOf_23 (by decide) (lk_2 h10z h15z) (by decide) hK
  have hF := h20
  rcases ite_inv hF with ⟨hc, hF⟩ | ⟨hc, hF⟩
  · refine x_icmp_gt 18 9 dX6_steepleOf_6 (by decide) rfl (fun _ => ?_) (fun q => absurd hc q)
    refine x_iconst 19 (0 : Int32) dX6_steepleOf_18 rfl (by decide) ?_
    have e1 := Option.some.inj hF
    subst e1
    exact hJ
  · refine x_icmp_gt 18 9 dX6_steepleOf_6 (by decide) rfl (fun q => absurd q hc) (fun _ => ?_)
    refine x_iload_n 10 2 dX6_steepleOf_9 rfl rfl ?_
    refine x_iconst 11 (2 : Int32) dX6_steepleOf_10 rfl (by decide) ?_
    rcases ite_inv hF with ⟨hc, hF⟩ | ⟨hc, hF⟩
    · refine x_icmp_gt 18 14 dX6_steepleOf_11 (by decide) rfl (fun _ => ?_) (fun q => absurd hc q)
      refine x_iconst 19 (0 : Int32) dX6_steepleOf_18 rfl (by decide) ?_
      have e1 := Option.some.inj hF
      subst e1
      exact hJ
    · refine x_icmp_gt 18 14 dX6_steepleOf_11 (by decide) rfl (fun q => absurd q hc) (fun _ => ?_)
      refine x_iconst 15 (1 : Int32) dX6_steepleOf_14 rfl (by decide) ?_
      refine x_goto 19 dX6_steepleOf_15 (by decide) ?_
      have e1 := Option.some.inj hF
      subst e1
      exact hJ
def rmX6_vote : Room := { frames := 7, cells := 2, slots := 12, locals := 102 }
theorem qyX6_vote : qY yX6_vote cX6_vote 3 (some .int) 2 := ⟨wd_629, wd_17, by decide +kernel, by decide +kernel, by decide +kernel⟩
theorem kX6_vote {b : Nat} {p0 : Int32} {p1 : Int32} {σ : qH} {o : (Int32) ⊕ String} (h : FX6_vote b p0 p1 σ = some o) : ∃ fs : List Value, True ∧ σ b = some (.inr (4, fs)) := by
  unfold FX6_vote at h
  obtain ⟨_, h1, _⟩ := b1_inv h
  obtain ⟨fs, h2⟩ := gC_inv h1
  exact ⟨fs, trivial, h2⟩
set_option maxHeartbeats 4000000 in
set_option maxRecDepth 100000 in
theorem mX6_vote {l : Launch} {G : qG} (hst : l.stackTraces = false) (b : Nat) (p0 : Int32) (p1 : Int32) (σ : qH) (n : Option Nat) (o : (Int32) ⊕ String) (hF : FX6_vote b p0 p1 σ = some o) : qM l G yX6_vote cX6_vote 3 (some .int) rmX6_vote [.ref b, .int p0, .int p1] σ n (rI σ n o) := by
  refine q_body (own := RX6) (nm := "vote") (ls := [(0, .ref b), (1, .int p0), (2, .int p1)]) hst (by decide +kernel) rfl rfl (Nat.le_of_ble_eq_true rfl) rfl rfl rfl ?_
  unfold FX6_vote at hF
  obtain ⟨_, hC, hF⟩ := b1_inv hF
  refine x_iload_n 1 1 dX6_vote_0 rfl rfl ?_
  rcases bx_inv hF with ⟨u, h1, hF⟩ | ⟨e2, h1, rfl⟩
  rotate_left
  · skip
    exact x_callSX (As := [.int p0]) (rest := []) (mX6_needSteeple hst p0 σ n (.inr e2) h1) qyX6_needSteeple wd_606 wd_607 rfl rfl (by decide) (Nat.le_of_ble_eq_true rfl) (by decide) dX6_vote_1 rfl rfl (by decide) (by decide)
  refine x_callS (As := [.int p0]) (rest := []) 4 1 6 (mX6_needSteeple hst p0 σ n (.inl u) h1) qyX6_needSteeple wd_606 wd_607 rfl rfl (by decide) (Nat.le_of_ble_eq_true rfl) (by decide) dX6_vote_1 rfl rfl rfl rfl ?_
  refine x_iload_n 5 2 dX6_vote_4 rfl rfl ?_
  obtain ⟨v4, h3, hF⟩ := b1_inv hF
  refine x_callS (As := [.int p1]) (rest := []) 8 1 6 (mX2_isHeight hst p1 σ n v4 h3) qyX2_isHeight wd_630 wd_374 rfl rfl (by decide) (Nat.le_of_ble_eq_true rfl) (by decide) dX6_vote_5 rfl rfl rfl rfl ?_
  rcases bx_inv hF with ⟨u, h5, hF⟩ | ⟨e6, h5, rfl⟩
  rotate_left
  · skip
    exact x_callSX (As := [.int v4]) (rest := []) (mX6_need hst v4 σ n (.inr e6) h5) qyX6_need wd_192 wd_193 rfl rfl (by decide) (Nat.le_of_ble_eq_true rfl) (by decide) dX6_vote_8 rfl rfl (by decide) (by decide)
  refine x_callS (As := [.int v4]) (rest := []) 11 2 12 (mX6_need hst v4 σ n (.inl u) h5) qyX6_need wd_192 wd_193 rfl rfl (by decide) (Nat.le_of_ble_eq_true rfl) (by decide) dX6_vote_8 rfl rfl rfl rfl ?_
  refine x_aload_n 12 0 dX6_vote_11 rfl rfl ?_
  obtain ⟨r7, h8, hF⟩ := b1_inv hF
  refine x_getR 15 0 inX6 rfl (by decide) wd_150 h8 dX6_vote_12 rfl ?_
  refine x_iload_n 16 1 dX6_vote_15 rfl rfl ?_
  refine x_iload_n 17 2 dX6_vote_16 rfl rfl ?_
  refine x_iconst 18 (-1 : Int32) dX6_vote_17 rfl (by decide) ?_
  obtain ⟨v10, h9, hF⟩ := b1_inv hF
  obtain ⟨fs, hb⟩ : ∃ fs : List Value, True ∧ σ r7 = some (.inr (2, fs)) := kX2_voteOf h9
  refine x_callV (As := [.int p0, .int p1, .int (-1 : Int32)]) (rest := []) 21 2 12 (mX2_voteOf hst r7 p0 p1 (-1 : Int32) σ n v10 h9) qyX2_voteOf wd_631 wd_632 wd_633 hb.2 rfl rfl rfl (by decide) (Nat.le_of_ble_eq_true rfl) (by decide) dX6_vote_18 rfl rfl rfl rfl ?_
  cases hF
  exact x_iret rfl rfl (by decide) (by decide) dX6_vote_21
def rmX6_best : Room := { frames := 7, cells := 2, slots := 12, locals := 102 }
theorem qyX6_best : qY yX6_best cX6_best 4 (some .int) 3 := ⟨wd_641, wd_17, by decide +kernel, by decide +kernel, by decide +kernel⟩
theorem kX6_best {b : Nat} {p0 : Int32} {p1 : Int32} {p2 : Int32} {σ : qH} {o : (Int32 × qH) ⊕ (String × qH)} (h : FX6_best b p0 p1 p2 σ = some o) : ∃ fs : List Value, True ∧ σ b = some (.inr (4, fs)) := by
  unfold FX6_best at h
  obtain ⟨_, h1, _⟩ := b1_inv h
  obtain ⟨fs, h2⟩ := gC_inv h1
  exact ⟨fs, trivial, h2⟩
set_option maxHeartbeats 4000000 in
set_option maxRecDepth 100000 in
theorem mX6_best {l : Launch} {G : qG} (hst : l.stackTraces = false) (b : Nat) (p0 : Int32) (p1 : Int32) (p2 : Int32) (σ : qH) (n : Option Nat) (o : (Int32 × qH) ⊕ (String × qH)) (hF : FX6_best b p0 p1 p2 σ = some o) : qM l G yX6_best cX6_best 4 (some .int) rmX6_best [.ref b, .int p0, .int p1, .int p2] σ n (rIw σ n o) := by
  refine q_body (own := RX6) (nm := "best") (ls := [(0, .ref b), (1, .int p0), (2, .int p1), (3, .int p2)]) hst (by decide +kernel) rfl rfl (Nat.le_of_ble_eq_true rfl) rfl rfl rfl ?_
  unfold FX6_best at hF
  obtain ⟨_, hC, hF⟩ := b1_inv hF
  refine x_iload_n 1 1 dX6_best_0 rfl rfl ?_
  rcases bxw_inv hF with ⟨u, h1, hF⟩ | ⟨e2, h1, rfl⟩
  rotate_left
  · skip
    exact x_callSX (As := [.int p0]) (rest := []) (mX6_needSteeple hst p0 σ n (.inr e2) h1) qyX6_needSteeple wd_606 wd_607 rfl rfl (by decide) (Nat.le_of_ble_eq_true rfl) (by decide) dX6_best_1 rfl rfl (by decide) (by decide)
  refine x_callS (As := [.int p0]) (rest := []) 4 1 6 (mX6_needSteeple hst p0 σ n (.inl u) h1) qyX6_needSteeple wd_606 wd_607 rfl rfl (by decide) (Nat.le_of_ble_eq_true rfl) (by decide) dX6_best_1 rfl rfl rfl rfl ?_
  refine x_iconst 5 (0 : Int32) dX6_best_4 rfl (by decide) ?_
  refine x_iload_n 6 2 dX6_best_5 rfl rfl ?_
  obtain ⟨x3, h24, hF⟩ := b1_inv hF
  have hJ : qX l G RX6 "best" cX6_best 4 (some .int) [] rmX6_best 2 12 (rIw σ n o) 1 6 σ n 29 [(0, .ref b), (1, .int p0), (2, .int p1), (3, .int p2)] [.int x3] := by
    rcases bxw_inv hF with ⟨u, h4, hF⟩ | ⟨e5, h4, rfl⟩
    rotate_left
    · skip
      exact x_callSX (As := [.int x3]) (rest := []) (mX6_need hst x3 σ n (.inr e5) h4) qyX6_need wd_192 wd_193 rfl rfl (by decide) (Nat.le_of_ble_eq_true rfl) (by decide) dX6_best_29 rfl rfl (by decide) (by decide)
    refine x_callS (As := [.int x3]) (rest := []) 32 2 12 (mX6_need hst x3 σ n (.inl u) h4) qyX6_need wd_192 wd_193 rfl rfl (by decide) (Nat.le_of_ble_eq_true rfl) (by decide) dX6_best_29 rfl rfl rfl rfl ?_
    refine x_iload_n 33 3 dX6_best_32 rfl rfl ?_
    obtain ⟨s6, h23, hF⟩ := b1_inv hF
    have hJ : qX l G RX6 "best" cX6_best 4 (some .int) [] rmX6_best 2 12 (rIw σ n o) 2 12 s6 n 64 [(0, .ref b), (2, .int p1)] [] := by
      refine x_aload_n 65 0 dX6_best_64 rfl rfl ?_
      obtain ⟨r19, h20, hF⟩ := b1_inv hF
      refine x_getR 68 6 inX6 rfl (by decide) wd_156 h20 dX6_best_65 rfl ?_
      refine x_iload_n 69 1 dX6_best_68 rfl rfl ?_
      obtain ⟨v22, h21, hF⟩ := b1_inv hF
      obtain ⟨fs, hb⟩ : ∃ fs : List Value, True ∧ s6 r19 = some (.inr (0, fs)) := kX0_told h21
      refine x_callV (As := [.int p1]) (rest := []) 72 2 12 (mX0_told hst r19 p1 s6 n v22 h21) qyX0_told wd_664 wd_665 wd_666 hb.2 rfl rfl rfl (by decide) (Nat.le_of_ble_eq_true rfl) (by decide) dX6_best_69 rfl rfl rfl rfl ?_
      cases hF
      exact x_iret rfl rfl (by decide) (by decide) dX6_best_72
    have hF := h23
    rcases ite_inv hF with ⟨hc, hF⟩ | ⟨hc, hF⟩
    · refine x_if_ne 51 36 dX6_best_33 (by decide) rfl (fun q => absurd hc q) (fun _ => ?_)
      refine x_aload_n 37 0 dX6_best_36 rfl rfl ?_
      obtain ⟨r7, h8, hF⟩ := b1_inv hF
      refine x_getR 40 6 inX6 rfl (by decide) wd_156 h8 dX6_best_37 rfl ?_
      refine x_aload_n 41 0 dX6_best_40 rfl rfl ?_
      obtain ⟨r9, h10, hF⟩ := b1_inv hF
      refine x_getR 44 0 inX6 rfl (by decide) wd_150 h10 dX6_best_41 rfl ?_
      refine x_iload_n 45 1 dX6_best_44 rfl rfl ?_
      obtain ⟨s12, h11, hF⟩ := b1_inv hF
      obtain ⟨fs, hb⟩ : ∃ fs : List Value, True ∧ σ r7 = some (.inr (0, fs)) := kX0_countByHeights h11
      refine x_callV (As := [.ref r9, .int p0]) (rest := []) 48 2 12 (mX0_countByHeights hst r7 r9 p0 σ n s12 h11) qyX0_countByHeights wd_642 wd_643 wd_644 hb.2 rfl rfl rfl (by decide) (Nat.le_of_ble_eq_true rfl) (by decide) dX6_best_45 rfl rfl rfl rfl ?_
      refine x_goto 64 dX6_best_48 (by decide) ?_
      have e1 := Option.some.inj hF
      subst e1
      refine x_sub [(0, .ref b), (2, .int p1)] [0, 2] rfl ?_
      exact hJ
    · refine x_if_ne 51 36 dX6_best_33 (by decide) rfl (fun _ => ?_) (fun q => absurd q hc)
      refine x_aload_n 52 0 dX6_best_51 rfl rfl ?_
      obtain ⟨r13, h14, hF⟩ := b1_inv hF
      refine x_getR 55 6 inX6 rfl (by decide) wd_156 h14 dX6_best_52 rfl ?_
      refine x_aload_n 56 0 dX6_best_55 rfl rfl ?_
      obtain ⟨r15, h16, hF⟩ := b1_inv hF
      refine x_getR 59 0 inX6 rfl (by decide) wd_150 h16 dX6_best_56 rfl ?_
      refine x_iload_n 60 1 dX6_best_59 rfl rfl ?_
      refine x_iconst 61 (-1 : Int32) dX6_best_60 rfl (by decide) ?_
      obtain ⟨s18, h17, hF⟩ := b1_inv hF
      obtain ⟨fs, hb⟩ : ∃ fs : List Value, True ∧ σ r13 = some (.inr (0, fs)) := kX0_countByEnds h17
      refine x_callV (As := [.ref r15, .int p0, .int (-1 : Int32)]) (rest := []) 64 2 12 (mX0_countByEnds hst r13 r15 p0 (-1 : Int32) σ n s18 h17) qyX0_countByEnds wd_655 wd_656 wd_657 hb.2 rfl rfl rfl (by decide) (Nat.le_of_ble_eq_true rfl) (by decide) dX6_best_61 rfl rfl rfl rfl ?_
      have e1 := Option.some.inj hF
      subst e1
      refine x_sub [(0, .ref b), (2, .int p1)] [0, 2] rfl ?_
      exact hJ
  have hF := h24
  rcases ite_inv hF with ⟨hc, hF⟩ | ⟨hc, hF⟩
  · refine x_icmp_gt 28 9 dX6_best_6 (by decide) rfl (fun _ => ?_) (fun q => absurd hc q)
    refine x_iconst 29 (0 : Int32) dX6_best_28 rfl (by decide) ?_
    have e1 := Option.some.inj hF
    subst e1
    exact hJ
  · refine x_icmp_gt 28 9 dX6_best_6 (by decide) rfl (fun q => absurd q hc) (fun _ => ?_)
    refine x_iload_n 10 2 dX6_best_9 rfl rfl ?_
    refine x_iconst 11 (2 : Int32) dX6_best_10 rfl (by decide) ?_
    rcases ite_inv hF with ⟨hc, hF⟩ | ⟨hc, hF⟩
    · refine x_icmp_gt 28 14 dX6_best_11 (by decide) rfl (fun _ => ?_) (fun q => absurd hc q)
      refine x_iconst 29 (0 : Int32) dX6_best_28 rfl (by decide) ?_
      have e1 := Option.some.inj hF
      subst e1
      exact hJ
    · refine x_icmp_gt 28 14 dX6_best_11 (by decide) rfl (fun q => absurd q hc) (fun _ => ?_)
      refine x_iconst 15 (0 : Int32) dX6_best_14 rfl (by decide) ?_
      refine x_iload_n 16 3 dX6_best_15 rfl rfl ?_
      rcases ite_inv hF with ⟨hc, hF⟩ | ⟨hc, hF⟩
      · refine x_icmp_gt 28 19 dX6_best_16 (by decide) rfl (fun _ => ?_) (fun q => absurd hc q)
        refine x_iconst 29 (0 : Int32) dX6_best_28 rfl (by decide) ?_
        have e1 := Option.some.inj hF
        subst e1
        exact hJ
      · refine x_icmp_gt 28 19 dX6_best_16 (by decide) rfl (fun q => absurd q hc) (fun _ => ?_)
        refine x_iload_n 20 3 dX6_best_19 rfl rfl ?_
        refine x_iconst 21 (1 : Int32) dX6_best_20 rfl (by decide) ?_
        rcases ite_inv hF with ⟨hc, hF⟩ | ⟨hc, hF⟩
        · refine x_icmp_gt 28 24 dX6_best_21 (by decide) rfl (fun _ => ?_) (fun q => absurd hc q)
          refine x_iconst 29 (0 : Int32) dX6_best_28 rfl (by decide) ?_
          have e1 := Option.some.inj hF
          subst e1
          exact hJ
        · refine x_icmp_gt 28 24 dX6_best_21 (by decide) rfl (fun q => absurd q hc) (fun _ => ?_)
          refine x_iconst 25 (1 : Int32) dX6_best_24 rfl (by decide) ?_
          refine x_goto 29 dX6_best_25 (by decide) ?_
          have e1 := Option.some.inj hF
          subst e1
          exact hJ
def rmX6_setting : Room := { frames := 7, cells := 1, slots := 6, locals := 102 }
theorem qyX6_setting : qY yX6_setting cX6_setting 2 (some .int) 1 := ⟨wd_674, wd_17, by decide +kernel, by decide +kernel, by decide +kernel⟩
theorem kX6_setting {b : Nat} {p0 : Int32} {σ : qH} {o : (Int32) ⊕ String} (h : FX6_setting b p0 σ = some o) : ∃ fs : List Value, True ∧ σ b = some (.inr (4, fs)) := by
  unfold FX6_setting at h
  obtain ⟨_, h1, _⟩ := b1_inv h
  obtain ⟨fs, h2⟩ := gC_inv h1
  exact ⟨fs, trivial, h2⟩
set_option maxHeartbeats 4000000 in
set_option maxRecDepth 100000 in
theorem mX6_setting {l : Launch} {G : qG} (hst : l.stackTraces = false) (b : Nat) (p0 : Int32) (σ : qH) (n : Option Nat) (o : (Int32) ⊕ String) (hF : FX6_setting b p0 σ = some o) : qM l G yX6_setting cX6_setting 2 (some .int) rmX6_setting [.ref b, .int p0] σ n (rI σ n o) := by
  refine q_body (own := RX6) (nm := "setting") (ls := [(0, .ref b), (1, .int p0)]) hst (by decide +kernel) rfl rfl (Nat.le_of_ble_eq_true rfl) rfl rfl rfl ?_
  unfold FX6_setting at hF
  obtain ⟨_, hC, hF⟩ := b1_inv hF
  refine x_iload_n 1 1 dX6_setting_0 rfl rfl ?_
  obtain ⟨v2, h1, hF⟩ := b1_inv hF
  refine x_callS (As := [.int p0]) (rest := []) 4 0 0 (mX2_isSetting hst p0 σ n v2 h1) qyX2_isSetting wd_675 wd_676 rfl rfl (by decide) (Nat.le_of_ble_eq_true rfl) (by decide) dX6_setting_1 rfl rfl rfl rfl ?_
  rcases bx_inv hF with ⟨u, h3, hF⟩ | ⟨e4, h3, rfl⟩
  rotate_left
  · skip
    exact x_callSX (As := [.int v2]) (rest := []) (mX6_need hst v2 σ n (.inr e4) h3) qyX6_need wd_192 wd_193 rfl rfl (by decide) (Nat.le_of_ble_eq_true rfl) (by decide) dX6_setting_4 rfl rfl (by decide) (by decide)
  refine x_callS (As := [.int v2]) (rest := []) 7 1 6 (mX6_need hst v2 σ n (.inl u) h3) qyX6_need wd_192 wd_193 rfl rfl (by decide) (Nat.le_of_ble_eq_true rfl) (by decide) dX6_setting_4 rfl rfl rfl rfl ?_
  refine x_aload_n 8 0 dX6_setting_7 rfl rfl ?_
  obtain ⟨r5, h6, hF⟩ := b1_inv hF
  refine x_getR 11 0 inX6 rfl (by decide) wd_150 h6 dX6_setting_8 rfl ?_
  refine x_iload_n 12 1 dX6_setting_11 rfl rfl ?_
  obtain ⟨v8, h7, hF⟩ := b1_inv hF
  obtain ⟨fs, hb⟩ : ∃ fs : List Value, True ∧ σ r5 = some (.inr (2, fs)) := kX2_settingOf h7
  refine x_callV (As := [.int p0]) (rest := []) 15 1 6 (mX2_settingOf hst r5 p0 σ n v8 h7) qyX2_settingOf wd_678 wd_679 wd_680 hb.2 rfl rfl rfl (by decide) (Nat.le_of_ble_eq_true rfl) (by decide) dX6_setting_12 rfl rfl rfl rfl ?_
  cases hF
  exact x_iret rfl rfl (by decide) (by decide) dX6_setting_15
def rmX6_measure : Room := { frames := 7, cells := 4, slots := 24, locals := 102 }
theorem qyX6_measure : qY yX6_measure cX6_measure 8 (some .int) 7 := ⟨wd_822, wd_17, by decide +kernel, by decide +kernel, by decide +kernel⟩
theorem kX6_measure {b : Nat} {p0 : Int32} {p1 : Int32} {p2 : Int32} {p3 : Int32} {p4 : Int32} {p5 : Int32} {p6 : Int32} {σ : qH} {o : (Int32 × qH) ⊕ (String × qH)} (h : FX6_measure b p0 p1 p2 p3 p4 p5 p6 σ = some o) : ∃ fs : List Value, True ∧ σ b = some (.inr (4, fs)) := by
  unfold FX6_measure at h
  obtain ⟨_, h1, _⟩ := b1_inv h
  obtain ⟨fs, h2⟩ := gC_inv h1
  exact ⟨fs, trivial, h2⟩
set_option maxHeartbeats 4000000 in
set_option maxRecDepth 100000 in
theorem mX6_measure {l : Launch} {G : qG} (hst : l.stackTraces = false) (b : Nat) (p0 : Int32) (p1 : Int32) (p2 : Int32) (p3 : Int32) (p4 : Int32) (p5 : Int32) (p6 : Int32) (σ : qH) (n : Option Nat) (o : (Int32 × qH) ⊕ (String × qH)) (hF : FX6_measure b p0 p1 p2 p3 p4 p5 p6 σ = some o) : qM l G yX6_measure cX6_measure 8 (some .int) rmX6_measure [.ref b, .int p0, .int p1, .int p2, .int p3, .int p4, .int p5, .int p6] σ n (rIw σ n o) := by
  refine q_body (own := RX6) (nm := "measure") (ls := [(0, .ref b), (1, .int p0), (2, .int p1), (3, .int p2), (4, .int p3), (5, .int p4), (6, .int p5), (7, .int p6)]) hst (by decide +kernel) rfl rfl (Nat.le_of_ble_eq_true rfl) rfl rfl rfl ?_
  unfold FX6_measure at hF
  obtain ⟨_, hC, hF⟩ := b1_inv hF
  refine x_iload_n 1 1 dX6_measure_0 rfl rfl ?_
  rcases bxw_inv hF with ⟨u, h1, hF⟩ | ⟨e2, h1, rfl⟩
  rotate_left
  · skip
    exact x_callSX (As := [.int p0]) (rest := []) (mX6_needSteeple hst p0 σ n (.inr e2) h1) qyX6_needSteeple wd_606 wd_607 rfl rfl (by decide) (Nat.le_of_ble_eq_true rfl) (by decide) dX6_measure_1 rfl rfl (by decide) (by decide)
  refine x_callS (As := [.int p0]) (rest := []) 4 1 6 (mX6_needSteeple hst p0 σ n (.inl u) h1) qyX6_needSteeple wd_606 wd_607 rfl rfl (by decide) (Nat.le_of_ble_eq_true rfl) (by decide) dX6_measure_1 rfl rfl rfl rfl ?_
  refine x_iload_n 5 2 dX6_measure_4 rfl rfl ?_
  rcases bxw_inv hF with ⟨u, h3, hF⟩ | ⟨e4, h3, rfl⟩
  rotate_left
  · skip
    exact x_callSX (As := [.int p1]) (rest := []) (mX6_needTeller hst p1 σ n (.inr e4) h3) qyX6_needTeller wd_573 wd_574 rfl rfl (by decide) (Nat.le_of_ble_eq_true rfl) (by decide) dX6_measure_5 rfl rfl (by decide) (by decide)
  refine x_callS (As := [.int p1]) (rest := []) 8 2 12 (mX6_needTeller hst p1 σ n (.inl u) h3) qyX6_needTeller wd_573 wd_574 rfl rfl (by decide) (Nat.le_of_ble_eq_true rfl) (by decide) dX6_measure_5 rfl rfl rfl rfl ?_
  refine x_iload_n 9 3 dX6_measure_8 rfl rfl ?_
  refine x_iload 11 4 dX6_measure_9 rfl rfl ?_
  refine x_iload 13 5 dX6_measure_11 rfl rfl ?_
  refine x_iload 15 6 dX6_measure_13 rfl rfl ?_
  refine x_iload 17 7 dX6_measure_15 rfl rfl ?_
  obtain ⟨v6, h5, hF⟩ := b1_inv hF
  refine x_callS (As := [.int p2, .int p3, .int p4, .int p5, .int p6]) (rest := []) 20 2 12 (mX2_fits hst p2 p3 p4 p5 p6 σ n v6 h5) qyX2_fits wd_823 wd_368 rfl rfl (by decide) (Nat.le_of_ble_eq_true rfl) (by decide) dX6_measure_17 rfl rfl rfl rfl ?_
  rcases bxw_inv hF with ⟨u, h7, hF⟩ | ⟨e8, h7, rfl⟩
  rotate_left
  · skip
    exact x_callSX (As := [.int v6]) (rest := []) (mX6_need hst v6 σ n (.inr e8) h7) qyX6_need wd_192 wd_193 rfl rfl (by decide) (Nat.le_of_ble_eq_true rfl) (by decide) dX6_measure_20 rfl rfl (by decide) (by decide)
  refine x_callS (As := [.int v6]) (rest := []) 23 3 18 (mX6_need hst v6 σ n (.inl u) h7) qyX6_need wd_192 wd_193 rfl rfl (by decide) (Nat.le_of_ble_eq_true rfl) (by decide) dX6_measure_20 rfl rfl rfl rfl ?_
  refine x_aload_n 24 0 dX6_measure_23 rfl rfl ?_
  obtain ⟨r9, h10, hF⟩ := b1_inv hF
  refine x_getR 27 0 inX6 rfl (by decide) wd_150 h10 dX6_measure_24 rfl ?_
  obtain ⟨v12, h11, hF⟩ := b1_inv hF
  obtain ⟨fs, hb⟩ : ∃ fs : List Value, True ∧ σ r9 = some (.inr (2, fs)) := kX2_isFull h11
  refine x_callV (As := []) (rest := []) 30 3 18 (mX2_isFull hst r9 σ n v12 h11) qyX2_isFull wd_824 wd_377 wd_378 hb.2 rfl rfl rfl (by decide) (Nat.le_of_ble_eq_true rfl) (by decide) dX6_measure_27 rfl rfl rfl rfl ?_
  rcases ite_inv hF with ⟨hc, hF⟩ | ⟨hc, hF⟩
  · refine x_if_eq 43 33 dX6_measure_30 (by decide) rfl (fun _ => ?_) (fun q => absurd hc q)
    refine x_aload_n 44 0 dX6_measure_43 rfl rfl ?_
    obtain ⟨r13, h14, hF⟩ := b1_inv hF
    refine x_getR 47 4 inX6 rfl (by decide) wd_154 h14 dX6_measure_44 rfl ?_
    refine x_aload_n 48 0 dX6_measure_47 rfl rfl ?_
    obtain ⟨r15, h16, hF⟩ := b1_inv hF
    refine x_getR 51 0 inX6 rfl (by decide) wd_150 h16 dX6_measure_48 rfl ?_
    obtain ⟨s18, h17, hF⟩ := b1_inv hF
    obtain ⟨fs, hb⟩ : ∃ fs : List Value, True ∧ σ r13 = some (.inr (1, fs)) := kX1_remember h17
    refine x_callV (As := [.ref r15]) (rest := []) 54 3 18 (mX1_remember hst r13 r15 σ n s18 h17) qyX1_remember wd_689 wd_690 wd_691 hb.2 rfl rfl rfl (by decide) (Nat.le_of_ble_eq_true rfl) (by decide) dX6_measure_51 rfl rfl rfl rfl ?_
    refine x_aload_n 55 0 dX6_measure_54 rfl rfl ?_
    obtain ⟨r19, h20, hF⟩ := b1_inv hF
    refine x_getR 58 0 inX6 rfl (by decide) wd_150 h20 dX6_measure_55 rfl ?_
    refine x_iload_n 59 1 dX6_measure_58 rfl rfl ?_
    refine x_iload_n 60 2 dX6_measure_59 rfl rfl ?_
    refine x_iload_n 61 3 dX6_measure_60 rfl rfl ?_
    refine x_iload 63 4 dX6_measure_61 rfl rfl ?_
    refine x_iload 65 5 dX6_measure_63 rfl rfl ?_
    refine x_iload 67 6 dX6_measure_65 rfl rfl ?_
    refine x_iload 69 7 dX6_measure_67 rfl rfl ?_
    obtain ⟨v22, s23, h21, hF⟩ := b2_inv hF
    obtain ⟨fs, hb⟩ : ∃ fs : List Value, True ∧ s18 r19 = some (.inr (2, fs)) := kX2_addMeasure h21
    refine x_callV (As := [.int p0, .int p1, .int p2, .int p3, .int p4, .int p5, .int p6]) (rest := []) 72 3 18 (mX2_addMeasure hst r19 p0 p1 p2 p3 p4 p5 p6 s18 n v22 s23 h21) qyX2_addMeasure wd_826 wd_381 wd_382 hb.2 rfl rfl rfl (by decide) (Nat.le_of_ble_eq_true rfl) (by decide) dX6_measure_69 rfl rfl rfl rfl ?_
    cases hF
    exact x_iret rfl rfl (by decide) (by decide) dX6_measure_72
  · refine x_if_eq 43 33 dX6_measure_30 (by decide) rfl (fun q => absurd q hc) (fun _ => ?_)
    cases hF
    exact x_throwS (text := "there are 16 measures") (names := ["java/lang/RuntimeException", "java/lang/Exception"]) (by decide) (by decide) rfl wd_267 wd_27 (by decide) tw_60 tg_60 rfl dX6_measure_33 dX6_measure_36 dX6_measure_37 dX6_measure_39 dX6_measure_42 (by decide) (Nat.le_of_ble_eq_true rfl) (by decide) (by decide) rfl (by decide) (by decide)
def rmX6_drop : Room := { frames := 7, cells := 1, slots := 6, locals := 103 }
theorem qyX6_drop : qY yX6_drop cX6_drop 2 (some .int) 1 := ⟨wd_688, wd_17, by decide +kernel, by decide +kernel, by decide +kernel⟩
theorem kX6_drop {b : Nat} {p0 : Int32} {σ : qH} {o : (Int32 × qH) ⊕ (String × qH)} (h : FX6_drop b p0 σ = some o) : ∃ fs : List Value, True ∧ σ b = some (.inr (4, fs)) := by
  unfold FX6_drop at h
  obtain ⟨_, h1, _⟩ := b1_inv h
  obtain ⟨fs, h2⟩ := gC_inv h1
  exact ⟨fs, trivial, h2⟩
set_option maxHeartbeats 4000000 in
set_option maxRecDepth 100000 in
theorem mX6_drop {l : Launch} {G : qG} (hst : l.stackTraces = false) (b : Nat) (p0 : Int32) (σ : qH) (n : Option Nat) (o : (Int32 × qH) ⊕ (String × qH)) (hF : FX6_drop b p0 σ = some o) : qM l G yX6_drop cX6_drop 2 (some .int) rmX6_drop [.ref b, .int p0] σ n (rIw σ n o) := by
  refine q_body (own := RX6) (nm := "drop") (ls := [(0, .ref b), (1, .int p0)]) hst (by decide +kernel) rfl rfl (Nat.le_of_ble_eq_true rfl) rfl rfl rfl ?_
  unfold FX6_drop at hF
  obtain ⟨_, hC, hF⟩ := b1_inv hF
  refine x_aload_n 1 0 dX6_drop_0 rfl rfl ?_
  refine x_iload_n 2 1 dX6_drop_1 rfl rfl ?_
  rcases bxw_inv hF with ⟨u, h1, hF⟩ | ⟨e2, h1, rfl⟩
  rotate_left
  · obtain ⟨fs, hb⟩ : ∃ fs : List Value, True ∧ σ b = some (.inr (4, fs)) := kX6_needMeasure h1
    exact x_callVX (As := [.int p0]) (rest := []) (mX6_needMeasure hst b p0 σ n (.inr e2) h1) qyX6_needMeasure wd_538 wd_540 wd_10 hb.2 rfl rfl rfl (by decide) (Nat.le_of_ble_eq_true rfl) (by decide) dX6_drop_2 rfl rfl (by decide) (by decide)
  obtain ⟨fs, hb⟩ : ∃ fs : List Value, True ∧ σ b = some (.inr (4, fs)) := kX6_needMeasure h1
  refine x_callV (As := [.int p0]) (rest := []) 5 1 6 (mX6_needMeasure hst b p0 σ n (.inl u) h1) qyX6_needMeasure wd_538 wd_540 wd_10 hb.2 rfl rfl rfl (by decide) (Nat.le_of_ble_eq_true rfl) (by decide) dX6_drop_2 rfl rfl rfl rfl ?_
  refine x_aload_n 6 0 dX6_drop_5 rfl rfl ?_
  obtain ⟨r3, h4, hF⟩ := b1_inv hF
  refine x_getR 9 4 inX6 rfl (by decide) wd_154 h4 dX6_drop_6 rfl ?_
  refine x_aload_n 10 0 dX6_drop_9 rfl rfl ?_
  obtain ⟨r5, h6, hF⟩ := b1_inv hF
  refine x_getR 13 0 inX6 rfl (by decide) wd_150 h6 dX6_drop_10 rfl ?_
  obtain ⟨s8, h7, hF⟩ := b1_inv hF
  obtain ⟨fs, hb⟩ : ∃ fs : List Value, True ∧ σ r3 = some (.inr (1, fs)) := kX1_remember h7
  refine x_callV (As := [.ref r5]) (rest := []) 16 1 6 (mX1_remember hst r3 r5 σ n s8 h7) qyX1_remember wd_689 wd_690 wd_691 hb.2 rfl rfl rfl (by decide) (Nat.le_of_ble_eq_true rfl) (by decide) dX6_drop_13 rfl rfl rfl rfl ?_
  refine x_aload_n 17 0 dX6_drop_16 rfl rfl ?_
  obtain ⟨r9, h10, hF⟩ := b1_inv hF
  refine x_getR 20 0 inX6 rfl (by decide) wd_150 h10 dX6_drop_17 rfl ?_
  refine x_iload_n 21 1 dX6_drop_20 rfl rfl ?_
  obtain ⟨v12, s13, h11, hF⟩ := b2_inv hF
  obtain ⟨fs, hb⟩ : ∃ fs : List Value, True ∧ s8 r9 = some (.inr (2, fs)) := kX2_removeMeasure h11
  refine x_callV (As := [.int p0]) (rest := []) 24 1 6 (mX2_removeMeasure hst r9 p0 s8 n v12 s13 h11) qyX2_removeMeasure wd_698 wd_411 wd_412 hb.2 rfl rfl rfl (by decide) (Nat.le_of_ble_eq_true rfl) (by decide) dX6_drop_21 rfl rfl rfl rfl ?_
  cases hF
  exact x_iret rfl rfl (by decide) (by decide) dX6_drop_24
def rmX6_trust : Room := { frames := 7, cells := 2, slots := 12, locals := 102 }
theorem qyX6_trust : qY yX6_trust cX6_trust 3 (some .int) 2 := ⟨wd_705, wd_17, by decide +kernel, by decide +kernel, by decide +kernel⟩
theorem kX6_trust {b : Nat} {p0 : Int32} {p1 : Int32} {σ : qH} {o : (Int32 × qH) ⊕ (String × qH)} (h : FX6_trust b p0 p1 σ = some o) : ∃ fs : List Value, True ∧ σ b = some (.inr (4, fs)) := by
  unfold FX6_trust at h
  obtain ⟨_, h1, _⟩ := b1_inv h
  obtain ⟨fs, h2⟩ := gC_inv h1
  exact ⟨fs, trivial, h2⟩
set_option maxHeartbeats 4000000 in
set_option maxRecDepth 100000 in
theorem mX6_trust {l : Launch} {G : qG} (hst : l.stackTraces = false) (b : Nat) (p0 : Int32) (p1 : Int32) (σ : qH) (n : Option Nat) (o : (Int32 × qH) ⊕ (String × qH)) (hF : FX6_trust b p0 p1 σ = some o) : qM l G yX6_trust cX6_trust 3 (some .int) rmX6_trust [.ref b, .int p0, .int p1] σ n (rIw σ n o) := by
  refine q_body (own := RX6) (nm := "trust") (ls := [(0, .ref b), (1, .int p0), (2, .int p1)]) hst (by decide +kernel) rfl rfl (Nat.le_of_ble_eq_true rfl) rfl rfl rfl ?_
  unfold FX6_trust at hF
  obtain ⟨_, hC, hF⟩ := b1_inv hF
  refine x_iload_n 1 1 dX6_trust_0 rfl rfl ?_
  rcases bxw_inv hF with ⟨u, h1, hF⟩ | ⟨e2, h1, rfl⟩
  rotate_left
  · skip
    exact x_callSX (As := [.int p0]) (rest := []) (mX6_needTeller hst p0 σ n (.inr e2) h1) qyX6_needTeller wd_573 wd_574 rfl rfl (by decide) (Nat.le_of_ble_eq_true rfl) (by decide) dX6_trust_1 rfl rfl (by decide) (by decide)
  refine x_callS (As := [.int p0]) (rest := []) 4 1 6 (mX6_needTeller hst p0 σ n (.inl u) h1) qyX6_needTeller wd_573 wd_574 rfl rfl (by decide) (Nat.le_of_ble_eq_true rfl) (by decide) dX6_trust_1 rfl rfl rfl rfl ?_
  refine x_iload_n 5 2 dX6_trust_4 rfl rfl ?_
  obtain ⟨v4, h3, hF⟩ := b1_inv hF
  refine x_callS (As := [.int p1]) (rest := []) 8 1 6 (mX2_isTrust hst p1 σ n v4 h3) qyX2_isTrust wd_706 wd_422 rfl rfl (by decide) (Nat.le_of_ble_eq_true rfl) (by decide) dX6_trust_5 rfl rfl rfl rfl ?_
  rcases bxw_inv hF with ⟨u, h5, hF⟩ | ⟨e6, h5, rfl⟩
  rotate_left
  · skip
    exact x_callSX (As := [.int v4]) (rest := []) (mX6_need hst v4 σ n (.inr e6) h5) qyX6_need wd_192 wd_193 rfl rfl (by decide) (Nat.le_of_ble_eq_true rfl) (by decide) dX6_trust_8 rfl rfl (by decide) (by decide)
  refine x_callS (As := [.int v4]) (rest := []) 11 2 12 (mX6_need hst v4 σ n (.inl u) h5) qyX6_need wd_192 wd_193 rfl rfl (by decide) (Nat.le_of_ble_eq_true rfl) (by decide) dX6_trust_8 rfl rfl rfl rfl ?_
  refine x_aload_n 12 0 dX6_trust_11 rfl rfl ?_
  obtain ⟨r7, h8, hF⟩ := b1_inv hF
  refine x_getR 15 4 inX6 rfl (by decide) wd_154 h8 dX6_trust_12 rfl ?_
  refine x_aload_n 16 0 dX6_trust_15 rfl rfl ?_
  obtain ⟨r9, h10, hF⟩ := b1_inv hF
  refine x_getR 19 0 inX6 rfl (by decide) wd_150 h10 dX6_trust_16 rfl ?_
  obtain ⟨s12, h11, hF⟩ := b1_inv hF
  obtain ⟨fs, hb⟩ : ∃ fs : List Value, True ∧ σ r7 = some (.inr (1, fs)) := kX1_remember h11
  refine x_callV (As := [.ref r9]) (rest := []) 22 2 12 (mX1_remember hst r7 r9 σ n s12 h11) qyX1_remember wd_689 wd_690 wd_691 hb.2 rfl rfl rfl (by decide) (Nat.le_of_ble_eq_true rfl) (by decide) dX6_trust_19 rfl rfl rfl rfl ?_
  refine x_aload_n 23 0 dX6_trust_22 rfl rfl ?_
  obtain ⟨r13, h14, hF⟩ := b1_inv hF
  refine x_getR 26 0 inX6 rfl (by decide) wd_150 h14 dX6_trust_23 rfl ?_
  refine x_iload_n 27 1 dX6_trust_26 rfl rfl ?_
  refine x_iload_n 28 2 dX6_trust_27 rfl rfl ?_
  obtain ⟨v16, s17, h15, hF⟩ := b2_inv hF
  obtain ⟨fs, hb⟩ : ∃ fs : List Value, True ∧ s12 r13 = some (.inr (2, fs)) := kX2_changeTrust h15
  refine x_callV (As := [.int p0, .int p1]) (rest := []) 31 2 12 (mX2_changeTrust hst r13 p0 p1 s12 n v16 s17 h15) qyX2_changeTrust wd_707 wd_425 wd_426 hb.2 rfl rfl rfl (by decide) (Nat.le_of_ble_eq_true rfl) (by decide) dX6_trust_28 rfl rfl rfl rfl ?_
  cases hF
  exact x_iret rfl rfl (by decide) (by decide) dX6_trust_31
def rmX6_evening : Room := { frames := 4, cells := 0, slots := 0, locals := 91 }
theorem qyX6_evening : qY yX6_evening cX6_evening 1 (some .int) 0 := ⟨wd_914, wd_17, by decide +kernel, by decide +kernel, by decide +kernel⟩
theorem kX6_evening {b : Nat} {σ : qH} {o : Int32 × qH} (h : FX6_evening b σ = some o) : ∃ fs : List Value, True ∧ σ b = some (.inr (4, fs)) := by
  unfold FX6_evening at h
  obtain ⟨_, h1, _⟩ := b1_inv h
  obtain ⟨fs, h2⟩ := gC_inv h1
  exact ⟨fs, trivial, h2⟩
set_option maxHeartbeats 4000000 in
set_option maxRecDepth 100000 in
theorem mX6_evening {l : Launch} {G : qG} (hst : l.stackTraces = false) (b : Nat) (σ : qH) (n : Option Nat) (ro : Int32) (so : qH) (hF : FX6_evening b σ = some (ro, so)) : qM l G yX6_evening cX6_evening 1 (some .int) rmX6_evening [.ref b] σ n (.inl (some (.int ro), so, n)) := by
  refine q_body (own := RX6) (nm := "evening") (ls := [(0, .ref b)]) hst (by decide +kernel) rfl rfl (Nat.le_of_ble_eq_true rfl) rfl rfl rfl ?_
  unfold FX6_evening at hF
  obtain ⟨_, hC, hF⟩ := b1_inv hF
  refine x_aload_n 1 0 dX6_evening_0 rfl rfl ?_
  obtain ⟨r1, h2, hF⟩ := b1_inv hF
  refine x_getR 4 4 inX6 rfl (by decide) wd_154 h2 dX6_evening_1 rfl ?_
  refine x_aload_n 5 0 dX6_evening_4 rfl rfl ?_
  obtain ⟨r3, h4, hF⟩ := b1_inv hF
  refine x_getR 8 0 inX6 rfl (by decide) wd_150 h4 dX6_evening_5 rfl ?_
  obtain ⟨s6, h5, hF⟩ := b1_inv hF
  obtain ⟨fs, hb⟩ : ∃ fs : List Value, True ∧ σ r1 = some (.inr (1, fs)) := kX1_remember h5
  refine x_callV (As := [.ref r3]) (rest := []) 11 0 0 (mX1_remember hst r1 r3 σ n s6 h5) qyX1_remember wd_689 wd_690 wd_691 hb.2 rfl rfl rfl (by decide) (Nat.le_of_ble_eq_true rfl) (by decide) dX6_evening_8 rfl rfl rfl rfl ?_
  refine x_aload_n 12 0 dX6_evening_11 rfl rfl ?_
  obtain ⟨r7, h8, hF⟩ := b1_inv hF
  refine x_getR 15 0 inX6 rfl (by decide) wd_150 h8 dX6_evening_12 rfl ?_
  obtain ⟨v10, s11, h9, hF⟩ := b2_inv hF
  obtain ⟨fs, hb⟩ : ∃ fs : List Value, True ∧ s6 r7 = some (.inr (2, fs)) := kX2_passEvening h9
  refine x_callV (As := []) (rest := []) 18 0 0 (mX2_passEvening hst r7 s6 n v10 s11 h9) qyX2_passEvening wd_428 wd_429 wd_430 hb.2 rfl rfl rfl (by decide) (Nat.le_of_ble_eq_true rfl) (by decide) dX6_evening_15 rfl rfl rfl rfl ?_
  cases hF
  exact x_iret rfl rfl (by decide) (by decide) dX6_evening_18
def rmX6_survey : Room := { frames := 7, cells := 2, slots := 12, locals := 102 }
theorem qyX6_survey : qY yX6_survey cX6_survey 3 (some .int) 2 := ⟨wd_714, wd_17, by decide +kernel, by decide +kernel, by decide +kernel⟩
theorem kX6_survey {b : Nat} {p0 : Int32} {p1 : Int32} {σ : qH} {o : (Int32 × qH) ⊕ (String × qH)} (h : FX6_survey b p0 p1 σ = some o) : ∃ fs : List Value, True ∧ σ b = some (.inr (4, fs)) := by
  unfold FX6_survey at h
  obtain ⟨_, h1, _⟩ := b1_inv h
  obtain ⟨fs, h2⟩ := gC_inv h1
  exact ⟨fs, trivial, h2⟩
set_option maxHeartbeats 4000000 in
set_option maxRecDepth 100000 in
theorem mX6_survey {l : Launch} {G : qG} (hst : l.stackTraces = false) (b : Nat) (p0 : Int32) (p1 : Int32) (σ : qH) (n : Option Nat) (o : (Int32 × qH) ⊕ (String × qH)) (hF : FX6_survey b p0 p1 σ = some o) : qM l G yX6_survey cX6_survey 3 (some .int) rmX6_survey [.ref b, .int p0, .int p1] σ n (rIw σ n o) := by
  refine q_body (own := RX6) (nm := "survey") (ls := [(0, .ref b), (1, .int p0), (2, .int p1)]) hst (by decide +kernel) rfl rfl (Nat.le_of_ble_eq_true rfl) rfl rfl rfl ?_
  unfold FX6_survey at hF
  obtain ⟨_, hC, hF⟩ := b1_inv hF
  refine x_iload_n 1 1 dX6_survey_0 rfl rfl ?_
  rcases bxw_inv hF with ⟨u, h1, hF⟩ | ⟨e2, h1, rfl⟩
  rotate_left
  · skip
    exact x_callSX (As := [.int p0]) (rest := []) (mX6_needSteeple hst p0 σ n (.inr e2) h1) qyX6_needSteeple wd_606 wd_607 rfl rfl (by decide) (Nat.le_of_ble_eq_true rfl) (by decide) dX6_survey_1 rfl rfl (by decide) (by decide)
  refine x_callS (As := [.int p0]) (rest := []) 4 1 6 (mX6_needSteeple hst p0 σ n (.inl u) h1) qyX6_needSteeple wd_606 wd_607 rfl rfl (by decide) (Nat.le_of_ble_eq_true rfl) (by decide) dX6_survey_1 rfl rfl rfl rfl ?_
  refine x_iload_n 5 2 dX6_survey_4 rfl rfl ?_
  obtain ⟨v4, h3, hF⟩ := b1_inv hF
  refine x_callS (As := [.int p1]) (rest := []) 8 1 6 (mX2_isHeight hst p1 σ n v4 h3) qyX2_isHeight wd_630 wd_374 rfl rfl (by decide) (Nat.le_of_ble_eq_true rfl) (by decide) dX6_survey_5 rfl rfl rfl rfl ?_
  rcases bxw_inv hF with ⟨u, h5, hF⟩ | ⟨e6, h5, rfl⟩
  rotate_left
  · skip
    exact x_callSX (As := [.int v4]) (rest := []) (mX6_need hst v4 σ n (.inr e6) h5) qyX6_need wd_192 wd_193 rfl rfl (by decide) (Nat.le_of_ble_eq_true rfl) (by decide) dX6_survey_8 rfl rfl (by decide) (by decide)
  refine x_callS (As := [.int v4]) (rest := []) 11 2 12 (mX6_need hst v4 σ n (.inl u) h5) qyX6_need wd_192 wd_193 rfl rfl (by decide) (Nat.le_of_ble_eq_true rfl) (by decide) dX6_survey_8 rfl rfl rfl rfl ?_
  refine x_aload_n 12 0 dX6_survey_11 rfl rfl ?_
  obtain ⟨r7, h8, hF⟩ := b1_inv hF
  refine x_getR 15 4 inX6 rfl (by decide) wd_154 h8 dX6_survey_12 rfl ?_
  refine x_aload_n 16 0 dX6_survey_15 rfl rfl ?_
  obtain ⟨r9, h10, hF⟩ := b1_inv hF
  refine x_getR 19 0 inX6 rfl (by decide) wd_150 h10 dX6_survey_16 rfl ?_
  obtain ⟨s12, h11, hF⟩ := b1_inv hF
  obtain ⟨fs, hb⟩ : ∃ fs : List Value, True ∧ σ r7 = some (.inr (1, fs)) := kX1_remember h11
  refine x_callV (As := [.ref r9]) (rest := []) 22 2 12 (mX1_remember hst r7 r9 σ n s12 h11) qyX1_remember wd_689 wd_690 wd_691 hb.2 rfl rfl rfl (by decide) (Nat.le_of_ble_eq_true rfl) (by decide) dX6_survey_19 rfl rfl rfl rfl ?_
  refine x_aload_n 23 0 dX6_survey_22 rfl rfl ?_
  obtain ⟨r13, h14, hF⟩ := b1_inv hF
  refine x_getR 26 0 inX6 rfl (by decide) wd_150 h14 dX6_survey_23 rfl ?_
  refine x_iload_n 27 1 dX6_survey_26 rfl rfl ?_
  refine x_iload_n 28 2 dX6_survey_27 rfl rfl ?_
  obtain ⟨v16, s17, h15, hF⟩ := b2_inv hF
  obtain ⟨fs, hb⟩ : ∃ fs : List Value, True ∧ s12 r13 = some (.inr (2, fs)) := kX2_surveySteeple h15
  refine x_callV (As := [.int p0, .int p1]) (rest := []) 31 2 12 (mX2_surveySteeple hst r13 p0 p1 s12 n v16 s17 h15) qyX2_surveySteeple wd_715 wd_457 wd_458 hb.2 rfl rfl rfl (by decide) (Nat.le_of_ble_eq_true rfl) (by decide) dX6_survey_28 rfl rfl rfl rfl ?_
  cases hF
  exact x_iret rfl rfl (by decide) (by decide) dX6_survey_31
def rmX6_set : Room := { frames := 7, cells := 1, slots := 6, locals := 102 }
theorem qyX6_set : qY yX6_set cX6_set 3 (some .int) 2 := ⟨wd_722, wd_17, by decide +kernel, by decide +kernel, by decide +kernel⟩
theorem kX6_set {b : Nat} {p0 : Int32} {p1 : Int32} {σ : qH} {o : (Int32 × qH) ⊕ (String × qH)} (h : FX6_set b p0 p1 σ = some o) : ∃ fs : List Value, True ∧ σ b = some (.inr (4, fs)) := by
  unfold FX6_set at h
  obtain ⟨_, h1, _⟩ := b1_inv h
  obtain ⟨fs, h2⟩ := gC_inv h1
  exact ⟨fs, trivial, h2⟩
set_option maxHeartbeats 4000000 in
set_option maxRecDepth 100000 in
theorem mX6_set {l : Launch} {G : qG} (hst : l.stackTraces = false) (b : Nat) (p0 : Int32) (p1 : Int32) (σ : qH) (n : Option Nat) (o : (Int32 × qH) ⊕ (String × qH)) (hF : FX6_set b p0 p1 σ = some o) : qM l G yX6_set cX6_set 3 (some .int) rmX6_set [.ref b, .int p0, .int p1] σ n (rIw σ n o) := by
  refine q_body (own := RX6) (nm := "set") (ls := [(0, .ref b), (1, .int p0), (2, .int p1)]) hst (by decide +kernel) rfl rfl (Nat.le_of_ble_eq_true rfl) rfl rfl rfl ?_
  unfold FX6_set at hF
  obtain ⟨_, hC, hF⟩ := b1_inv hF
  refine x_iload_n 1 1 dX6_set_0 rfl rfl ?_
  refine x_iload_n 2 2 dX6_set_1 rfl rfl ?_
  obtain ⟨v2, h1, hF⟩ := b1_inv hF
  refine x_callS (As := [.int p0, .int p1]) (rest := []) 5 0 0 (mX2_fitsSetting hst p0 p1 σ n v2 h1) qyX2_fitsSetting wd_723 wd_724 rfl rfl (by decide) (Nat.le_of_ble_eq_true rfl) (by decide) dX6_set_2 rfl rfl rfl rfl ?_
  rcases bxw_inv hF with ⟨u, h3, hF⟩ | ⟨e4, h3, rfl⟩
  rotate_left
  · skip
    exact x_callSX (As := [.int v2]) (rest := []) (mX6_need hst v2 σ n (.inr e4) h3) qyX6_need wd_192 wd_193 rfl rfl (by decide) (Nat.le_of_ble_eq_true rfl) (by decide) dX6_set_5 rfl rfl (by decide) (by decide)
  refine x_callS (As := [.int v2]) (rest := []) 8 1 6 (mX6_need hst v2 σ n (.inl u) h3) qyX6_need wd_192 wd_193 rfl rfl (by decide) (Nat.le_of_ble_eq_true rfl) (by decide) dX6_set_5 rfl rfl rfl rfl ?_
  refine x_aload_n 9 0 dX6_set_8 rfl rfl ?_
  obtain ⟨r5, h6, hF⟩ := b1_inv hF
  refine x_getR 12 4 inX6 rfl (by decide) wd_154 h6 dX6_set_9 rfl ?_
  refine x_aload_n 13 0 dX6_set_12 rfl rfl ?_
  obtain ⟨r7, h8, hF⟩ := b1_inv hF
  refine x_getR 16 0 inX6 rfl (by decide) wd_150 h8 dX6_set_13 rfl ?_
  obtain ⟨s10, h9, hF⟩ := b1_inv hF
  obtain ⟨fs, hb⟩ : ∃ fs : List Value, True ∧ σ r5 = some (.inr (1, fs)) := kX1_remember h9
  refine x_callV (As := [.ref r7]) (rest := []) 19 1 6 (mX1_remember hst r5 r7 σ n s10 h9) qyX1_remember wd_689 wd_690 wd_691 hb.2 rfl rfl rfl (by decide) (Nat.le_of_ble_eq_true rfl) (by decide) dX6_set_16 rfl rfl rfl rfl ?_
  refine x_aload_n 20 0 dX6_set_19 rfl rfl ?_
  obtain ⟨r11, h12, hF⟩ := b1_inv hF
  refine x_getR 23 0 inX6 rfl (by decide) wd_150 h12 dX6_set_20 rfl ?_
  refine x_iload_n 24 1 dX6_set_23 rfl rfl ?_
  refine x_iload_n 25 2 dX6_set_24 rfl rfl ?_
  obtain ⟨v14, s15, h13, hF⟩ := b2_inv hF
  obtain ⟨fs, hb⟩ : ∃ fs : List Value, True ∧ s10 r11 = some (.inr (2, fs)) := kX2_changeSetting h13
  refine x_callV (As := [.int p0, .int p1]) (rest := []) 28 1 6 (mX2_changeSetting hst r11 p0 p1 s10 n v14 s15 h13) qyX2_changeSetting wd_727 wd_728 wd_729 hb.2 rfl rfl rfl (by decide) (Nat.le_of_ble_eq_true rfl) (by decide) dX6_set_25 rfl rfl rfl rfl ?_
  cases hF
  exact x_iret rfl rfl (by decide) (by decide) dX6_set_28
def rmX6_undo : Room := { frames := 6, cells := 1, slots := 6, locals := 82 }
theorem qyX6_undo : qY yX6_undo cX6_undo 1 (some .int) 0 := ⟨wd_737, wd_17, by decide +kernel, by decide +kernel, by decide +kernel⟩
theorem kX6_undo {b : Nat} {σ : qH} {o : (Int32 × qH) ⊕ (String × qH)} (h : FX6_undo b σ = some o) : ∃ fs : List Value, True ∧ σ b = some (.inr (4, fs)) := by
  unfold FX6_undo at h
  obtain ⟨_, h1, _⟩ := b1_inv h
  obtain ⟨fs, h2⟩ := gC_inv h1
  exact ⟨fs, trivial, h2⟩
set_option maxHeartbeats 4000000 in
set_option maxRecDepth 100000 in
theorem mX6_undo {l : Launch} {G : qG} (hst : l.stackTraces = false) (b : Nat) (σ : qH) (n : Option Nat) (o : (Int32 × qH) ⊕ (String × qH)) (hF : FX6_undo b σ = some o) : qM l G yX6_undo cX6_undo 1 (some .int) rmX6_undo [.ref b] σ n (rIw σ n o) := by
  refine q_body (own := RX6) (nm := "undo") (ls := [(0, .ref b)]) hst (by decide +kernel) rfl rfl (Nat.le_of_ble_eq_true rfl) rfl rfl rfl ?_
  unfold FX6_undo at hF
  obtain ⟨_, hC, hF⟩ := b1_inv hF
  refine x_aload_n 1 0 dX6_undo_0 rfl rfl ?_
  obtain ⟨r1, h2, hF⟩ := b1_inv hF
  refine x_getR 4 4 inX6 rfl (by decide) wd_154 h2 dX6_undo_1 rfl ?_
  obtain ⟨v4, h3, hF⟩ := b1_inv hF
  obtain ⟨fs, hb⟩ : ∃ fs : List Value, True ∧ σ r1 = some (.inr (1, fs)) := kX1_isEmpty h3
  refine x_callV (As := []) (rest := []) 7 0 0 (mX1_isEmpty hst r1 σ n v4 h3) qyX1_isEmpty wd_738 wd_739 wd_740 hb.2 rfl rfl rfl (by decide) (Nat.le_of_ble_eq_true rfl) (by decide) dX6_undo_4 rfl rfl rfl rfl ?_
  rcases ite_inv hF with ⟨hc, hF⟩ | ⟨hc, hF⟩
  · refine x_if_eq 20 10 dX6_undo_7 (by decide) rfl (fun _ => ?_) (fun q => absurd hc q)
    refine x_aload_n 21 0 dX6_undo_20 rfl rfl ?_
    obtain ⟨r5, h6, hF⟩ := b1_inv hF
    refine x_getR 24 4 inX6 rfl (by decide) wd_154 h6 dX6_undo_21 rfl ?_
    refine x_aload_n 25 0 dX6_undo_24 rfl rfl ?_
    obtain ⟨r7, h8, hF⟩ := b1_inv hF
    refine x_getR 28 0 inX6 rfl (by decide) wd_150 h8 dX6_undo_25 rfl ?_
    obtain ⟨v10, s11, h9, hF⟩ := b2_inv hF
    obtain ⟨fs, hb⟩ : ∃ fs : List Value, True ∧ σ r5 = some (.inr (1, fs)) := kX1_takeBack h9
    refine x_callV (As := [.ref r7]) (rest := []) 31 0 0 (mX1_takeBack hst r5 r7 σ n v10 s11 h9) qyX1_takeBack wd_743 wd_744 wd_745 hb.2 rfl rfl rfl (by decide) (Nat.le_of_ble_eq_true rfl) (by decide) dX6_undo_28 rfl rfl rfl rfl ?_
    cases hF
    exact x_iret rfl rfl (by decide) (by decide) dX6_undo_31
  · refine x_if_eq 20 10 dX6_undo_7 (by decide) rfl (fun q => absurd q hc) (fun _ => ?_)
    cases hF
    exact x_throwS (text := "no state is remembered") (names := ["java/lang/RuntimeException", "java/lang/Exception"]) (by decide) (by decide) rfl wd_267 wd_27 (by decide) tw_60 tg_60 rfl dX6_undo_10 dX6_undo_13 dX6_undo_14 dX6_undo_16 dX6_undo_19 (by decide) (Nat.le_of_ble_eq_true rfl) (by decide) (by decide) rfl (by decide) (by decide)
def rmX6_apart : Room := { frames := 7, cells := 2, slots := 12, locals := 103 }
theorem qyX6_apart : qY yX6_apart cX6_apart 3 (some .int) 2 := ⟨wd_753, wd_17, by decide +kernel, by decide +kernel, by decide +kernel⟩
theorem kX6_apart {b : Nat} {p0 : Int32} {p1 : Int32} {σ : qH} {o : (Int32) ⊕ String} (h : FX6_apart b p0 p1 σ = some o) : ∃ fs : List Value, True ∧ σ b = some (.inr (4, fs)) := by
  unfold FX6_apart at h
  obtain ⟨_, h1, _⟩ := b1_inv h
  obtain ⟨fs, h2⟩ := gC_inv h1
  exact ⟨fs, trivial, h2⟩
set_option maxHeartbeats 4000000 in
set_option maxRecDepth 100000 in
theorem mX6_apart {l : Launch} {G : qG} (hst : l.stackTraces = false) (b : Nat) (p0 : Int32) (p1 : Int32) (σ : qH) (n : Option Nat) (o : (Int32) ⊕ String) (hF : FX6_apart b p0 p1 σ = some o) : qM l G yX6_apart cX6_apart 3 (some .int) rmX6_apart [.ref b, .int p0, .int p1] σ n (rI σ n o) := by
  refine q_body (own := RX6) (nm := "apart") (ls := [(0, .ref b), (1, .int p0), (2, .int p1)]) hst (by decide +kernel) rfl rfl (Nat.le_of_ble_eq_true rfl) rfl rfl rfl ?_
  unfold FX6_apart at hF
  obtain ⟨_, hC, hF⟩ := b1_inv hF
  refine x_aload_n 1 0 dX6_apart_0 rfl rfl ?_
  refine x_iload_n 2 1 dX6_apart_1 rfl rfl ?_
  rcases bx_inv hF with ⟨u, h1, hF⟩ | ⟨e2, h1, rfl⟩
  rotate_left
  · obtain ⟨fs, hb⟩ : ∃ fs : List Value, True ∧ σ b = some (.inr (4, fs)) := kX6_needMeasure h1
    exact x_callVX (As := [.int p0]) (rest := []) (mX6_needMeasure hst b p0 σ n (.inr e2) h1) qyX6_needMeasure wd_538 wd_540 wd_10 hb.2 rfl rfl rfl (by decide) (Nat.le_of_ble_eq_true rfl) (by decide) dX6_apart_2 rfl rfl (by decide) (by decide)
  obtain ⟨fs, hb⟩ : ∃ fs : List Value, True ∧ σ b = some (.inr (4, fs)) := kX6_needMeasure h1
  refine x_callV (As := [.int p0]) (rest := []) 5 1 6 (mX6_needMeasure hst b p0 σ n (.inl u) h1) qyX6_needMeasure wd_538 wd_540 wd_10 hb.2 rfl rfl rfl (by decide) (Nat.le_of_ble_eq_true rfl) (by decide) dX6_apart_2 rfl rfl rfl rfl ?_
  refine x_aload_n 6 0 dX6_apart_5 rfl rfl ?_
  refine x_iload_n 7 2 dX6_apart_6 rfl rfl ?_
  rcases bx_inv hF with ⟨u, h3, hF⟩ | ⟨e4, h3, rfl⟩
  rotate_left
  · obtain ⟨fs, hb⟩ : ∃ fs : List Value, True ∧ σ b = some (.inr (4, fs)) := kX6_needMeasure h3
    exact x_callVX (As := [.int p1]) (rest := []) (mX6_needMeasure hst b p1 σ n (.inr e4) h3) qyX6_needMeasure wd_538 wd_540 wd_10 hb.2 rfl rfl rfl (by decide) (Nat.le_of_ble_eq_true rfl) (by decide) dX6_apart_7 rfl rfl (by decide) (by decide)
  obtain ⟨fs, hb⟩ : ∃ fs : List Value, True ∧ σ b = some (.inr (4, fs)) := kX6_needMeasure h3
  refine x_callV (As := [.int p1]) (rest := []) 10 2 12 (mX6_needMeasure hst b p1 σ n (.inl u) h3) qyX6_needMeasure wd_538 wd_540 wd_10 hb.2 rfl rfl rfl (by decide) (Nat.le_of_ble_eq_true rfl) (by decide) dX6_apart_7 rfl rfl rfl rfl ?_
  refine x_aload_n 11 0 dX6_apart_10 rfl rfl ?_
  obtain ⟨r5, h6, hF⟩ := b1_inv hF
  refine x_getR 14 0 inX6 rfl (by decide) wd_150 h6 dX6_apart_11 rfl ?_
  refine x_iload_n 15 1 dX6_apart_14 rfl rfl ?_
  refine x_iload_n 16 2 dX6_apart_15 rfl rfl ?_
  obtain ⟨v8, h7, hF⟩ := b1_inv hF
  obtain ⟨fs, hb⟩ : ∃ fs : List Value, True ∧ σ r5 = some (.inr (2, fs)) := kX2_feetApart h7
  refine x_callV (As := [.int p0, .int p1]) (rest := []) 19 2 12 (mX2_feetApart hst r5 p0 p1 σ n v8 h7) qyX2_feetApart wd_754 wd_441 wd_442 hb.2 rfl rfl rfl (by decide) (Nat.le_of_ble_eq_true rfl) (by decide) dX6_apart_16 rfl rfl rfl rfl ?_
  cases hF
  exact x_iret rfl rfl (by decide) (by decide) dX6_apart_19
def rmX6_against : Room := { frames := 7, cells := 1, slots := 6, locals := 102 }
theorem qyX6_against : qY yX6_against cX6_against 2 (some .int) 1 := ⟨wd_761, wd_17, by decide +kernel, by decide +kernel, by decide +kernel⟩
theorem kX6_against {b : Nat} {p0 : Int32} {σ : qH} {o : (Int32 × qH) ⊕ (String × qH)} (h : FX6_against b p0 σ = some o) : ∃ fs : List Value, True ∧ σ b = some (.inr (4, fs)) := by
  unfold FX6_against at h
  obtain ⟨_, h1, _⟩ := b1_inv h
  obtain ⟨fs, h2⟩ := gC_inv h1
  exact ⟨fs, trivial, h2⟩
set_option maxHeartbeats 4000000 in
set_option maxRecDepth 100000 in
theorem mX6_against {l : Launch} {G : qG} (hst : l.stackTraces = false) (b : Nat) (p0 : Int32) (σ : qH) (n : Option Nat) (o : (Int32 × qH) ⊕ (String × qH)) (hF : FX6_against b p0 σ = some o) : qM l G yX6_against cX6_against 2 (some .int) rmX6_against [.ref b, .int p0] σ n (rIw σ n o) := by
  refine q_body (own := RX6) (nm := "against") (ls := [(0, .ref b), (1, .int p0)]) hst (by decide +kernel) rfl rfl (Nat.le_of_ble_eq_true rfl) rfl rfl rfl ?_
  unfold FX6_against at hF
  obtain ⟨_, hC, hF⟩ := b1_inv hF
  refine x_iload_n 1 1 dX6_against_0 rfl rfl ?_
  rcases bxw_inv hF with ⟨u, h1, hF⟩ | ⟨e2, h1, rfl⟩
  rotate_left
  · skip
    exact x_callSX (As := [.int p0]) (rest := []) (mX6_needSteeple hst p0 σ n (.inr e2) h1) qyX6_needSteeple wd_606 wd_607 rfl rfl (by decide) (Nat.le_of_ble_eq_true rfl) (by decide) dX6_against_1 rfl rfl (by decide) (by decide)
  refine x_callS (As := [.int p0]) (rest := []) 4 1 6 (mX6_needSteeple hst p0 σ n (.inl u) h1) qyX6_needSteeple wd_606 wd_607 rfl rfl (by decide) (Nat.le_of_ble_eq_true rfl) (by decide) dX6_against_1 rfl rfl rfl rfl ?_
  refine x_aload_n 5 0 dX6_against_4 rfl rfl ?_
  obtain ⟨r3, h4, hF⟩ := b1_inv hF
  refine x_getR 8 6 inX6 rfl (by decide) wd_156 h4 dX6_against_5 rfl ?_
  refine x_aload_n 9 0 dX6_against_8 rfl rfl ?_
  obtain ⟨r5, h6, hF⟩ := b1_inv hF
  refine x_getR 12 0 inX6 rfl (by decide) wd_150 h6 dX6_against_9 rfl ?_
  refine x_iload_n 13 1 dX6_against_12 rfl rfl ?_
  refine x_iconst 14 (-1 : Int32) dX6_against_13 rfl (by decide) ?_
  obtain ⟨s8, h7, hF⟩ := b1_inv hF
  obtain ⟨fs, hb⟩ : ∃ fs : List Value, True ∧ σ r3 = some (.inr (0, fs)) := kX0_countByEnds h7
  refine x_callV (As := [.ref r5, .int p0, .int (-1 : Int32)]) (rest := []) 17 1 6 (mX0_countByEnds hst r3 r5 p0 (-1 : Int32) σ n s8 h7) qyX0_countByEnds wd_655 wd_656 wd_657 hb.2 rfl rfl rfl (by decide) (Nat.le_of_ble_eq_true rfl) (by decide) dX6_against_14 rfl rfl rfl rfl ?_
  refine x_aload_n 18 0 dX6_against_17 rfl rfl ?_
  obtain ⟨r9, h10, hF⟩ := b1_inv hF
  refine x_getR 21 0 inX6 rfl (by decide) wd_150 h10 dX6_against_18 rfl ?_
  refine x_iload_n 22 1 dX6_against_21 rfl rfl ?_
  refine x_aload_n 23 0 dX6_against_22 rfl rfl ?_
  obtain ⟨r11, h12, hF⟩ := b1_inv hF
  refine x_getR 26 6 inX6 rfl (by decide) wd_156 h12 dX6_against_23 rfl ?_
  obtain ⟨v14, h13, hF⟩ := b1_inv hF
  obtain ⟨fs, hb⟩ : ∃ fs : List Value, True ∧ s8 r11 = some (.inr (0, fs)) := kX0_lowest h13
  refine x_callV (As := []) (rest := [.int p0, .ref r9]) 29 1 6 (mX0_lowest hst r11 s8 n v14 h13) qyX0_lowest wd_762 wd_763 wd_764 hb.2 rfl rfl rfl (by decide) (Nat.le_of_ble_eq_true rfl) (by decide) dX6_against_26 rfl rfl rfl rfl ?_
  obtain ⟨v16, h15, hF⟩ := b1_inv hF
  obtain ⟨fs, hb⟩ : ∃ fs : List Value, True ∧ s8 r9 = some (.inr (2, fs)) := kX2_loudestAgainst h15
  refine x_callV (As := [.int p0, .int v14]) (rest := []) 32 1 6 (mX2_loudestAgainst hst r9 p0 v14 s8 n v16 h15) qyX2_loudestAgainst wd_766 wd_767 wd_768 hb.2 rfl rfl rfl (by decide) (Nat.le_of_ble_eq_true rfl) (by decide) dX6_against_29 rfl rfl rfl rfl ?_
  cases hF
  exact x_iret rfl rfl (by decide) (by decide) dX6_against_32
def rmX6_without : Room := { frames := 7, cells := 2, slots := 12, locals := 103 }
theorem qyX6_without : qY yX6_without cX6_without 3 (some .int) 2 := ⟨wd_784, wd_17, by decide +kernel, by decide +kernel, by decide +kernel⟩
theorem kX6_without {b : Nat} {p0 : Int32} {p1 : Int32} {σ : qH} {o : (Int32 × qH) ⊕ (String × qH)} (h : FX6_without b p0 p1 σ = some o) : ∃ fs : List Value, True ∧ σ b = some (.inr (4, fs)) := by
  unfold FX6_without at h
  obtain ⟨_, h1, _⟩ := b1_inv h
  obtain ⟨fs, h2⟩ := gC_inv h1
  exact ⟨fs, trivial, h2⟩
set_option maxHeartbeats 4000000 in
set_option maxRecDepth 100000 in
theorem mX6_without {l : Launch} {G : qG} (hst : l.stackTraces = false) (b : Nat) (p0 : Int32) (p1 : Int32) (σ : qH) (n : Option Nat) (o : (Int32 × qH) ⊕ (String × qH)) (hF : FX6_without b p0 p1 σ = some o) : qM l G yX6_without cX6_without 3 (some .int) rmX6_without [.ref b, .int p0, .int p1] σ n (rIw σ n o) := by
  refine q_body (own := RX6) (nm := "without") (ls := [(0, .ref b), (1, .int p0), (2, .int p1)]) hst (by decide +kernel) rfl rfl (Nat.le_of_ble_eq_true rfl) rfl rfl rfl ?_
  unfold FX6_without at hF
  obtain ⟨_, hC, hF⟩ := b1_inv hF
  refine x_aload_n 1 0 dX6_without_0 rfl rfl ?_
  refine x_iload_n 2 1 dX6_without_1 rfl rfl ?_
  rcases bxw_inv hF with ⟨u, h1, hF⟩ | ⟨e2, h1, rfl⟩
  rotate_left
  · obtain ⟨fs, hb⟩ : ∃ fs : List Value, True ∧ σ b = some (.inr (4, fs)) := kX6_needMeasure h1
    exact x_callVX (As := [.int p0]) (rest := []) (mX6_needMeasure hst b p0 σ n (.inr e2) h1) qyX6_needMeasure wd_538 wd_540 wd_10 hb.2 rfl rfl rfl (by decide) (Nat.le_of_ble_eq_true rfl) (by decide) dX6_without_2 rfl rfl (by decide) (by decide)
  obtain ⟨fs, hb⟩ : ∃ fs : List Value, True ∧ σ b = some (.inr (4, fs)) := kX6_needMeasure h1
  refine x_callV (As := [.int p0]) (rest := []) 5 1 6 (mX6_needMeasure hst b p0 σ n (.inl u) h1) qyX6_needMeasure wd_538 wd_540 wd_10 hb.2 rfl rfl rfl (by decide) (Nat.le_of_ble_eq_true rfl) (by decide) dX6_without_2 rfl rfl rfl rfl ?_
  refine x_iconst 6 (0 : Int32) dX6_without_5 rfl (by decide) ?_
  refine x_iload_n 7 2 dX6_without_6 rfl rfl ?_
  obtain ⟨x3, h20, hF⟩ := b1_inv hF
  have hJ : qX l G RX6 "without" cX6_without 3 (some .int) [] rmX6_without 2 12 (rIw σ n o) 1 6 σ n 20 [(0, .ref b), (1, .int p0), (2, .int p1)] [.int x3] := by
    rcases bxw_inv hF with ⟨u, h4, hF⟩ | ⟨e5, h4, rfl⟩
    rotate_left
    · skip
      exact x_callSX (As := [.int x3]) (rest := []) (mX6_need hst x3 σ n (.inr e5) h4) qyX6_need wd_192 wd_193 rfl rfl (by decide) (Nat.le_of_ble_eq_true rfl) (by decide) dX6_without_20 rfl rfl (by decide) (by decide)
    refine x_callS (As := [.int x3]) (rest := []) 23 2 12 (mX6_need hst x3 σ n (.inl u) h4) qyX6_need wd_192 wd_193 rfl rfl (by decide) (Nat.le_of_ble_eq_true rfl) (by decide) dX6_without_20 rfl rfl rfl rfl ?_
    refine x_aload_n 24 0 dX6_without_23 rfl rfl ?_
    obtain ⟨r6, h7, hF⟩ := b1_inv hF
    refine x_getR 27 6 inX6 rfl (by decide) wd_156 h7 dX6_without_24 rfl ?_
    refine x_aload_n 28 0 dX6_without_27 rfl rfl ?_
    obtain ⟨r8, h9, hF⟩ := b1_inv hF
    refine x_getR 31 0 inX6 rfl (by decide) wd_150 h9 dX6_without_28 rfl ?_
    refine x_aload_n 32 0 dX6_without_31 rfl rfl ?_
    obtain ⟨r10, h11, hF⟩ := b1_inv hF
    refine x_getR 35 0 inX6 rfl (by decide) wd_150 h11 dX6_without_32 rfl ?_
    refine x_iload_n 36 1 dX6_without_35 rfl rfl ?_
    refine x_iconst 37 (0 : Int32) dX6_without_36 rfl (by decide) ?_
    obtain ⟨v13, h12, hF⟩ := b1_inv hF
    obtain ⟨fs, hb⟩ : ∃ fs : List Value, True ∧ σ r10 = some (.inr (2, fs)) := kX2_number h12
    refine x_callV (As := [.int p0, .int (0 : Int32)]) (rest := [.ref r8, .ref r6]) 40 2 12 (mX2_number hst r10 p0 (0 : Int32) σ n v13 h12) qyX2_number wd_564 wd_437 wd_438 hb.2 rfl rfl rfl (by decide) (Nat.le_of_ble_eq_true rfl) (by decide) dX6_without_37 rfl rfl rfl rfl ?_
    refine x_iload_n 41 1 dX6_without_40 rfl rfl ?_
    obtain ⟨s15, h14, hF⟩ := b1_inv hF
    obtain ⟨fs, hb⟩ : ∃ fs : List Value, True ∧ σ r6 = some (.inr (0, fs)) := kX0_countByEnds h14
    refine x_callV (As := [.ref r8, .int v13, .int p0]) (rest := []) 44 2 12 (mX0_countByEnds hst r6 r8 v13 p0 σ n s15 h14) qyX0_countByEnds wd_655 wd_656 wd_657 hb.2 rfl rfl rfl (by decide) (Nat.le_of_ble_eq_true rfl) (by decide) dX6_without_41 rfl rfl rfl rfl ?_
    refine x_aload_n 45 0 dX6_without_44 rfl rfl ?_
    obtain ⟨r16, h17, hF⟩ := b1_inv hF
    refine x_getR 48 6 inX6 rfl (by decide) wd_156 h17 dX6_without_45 rfl ?_
    refine x_iload_n 49 2 dX6_without_48 rfl rfl ?_
    obtain ⟨v19, h18, hF⟩ := b1_inv hF
    obtain ⟨fs, hb⟩ : ∃ fs : List Value, True ∧ s15 r16 = some (.inr (0, fs)) := kX0_told h18
    refine x_callV (As := [.int p1]) (rest := []) 52 2 12 (mX0_told hst r16 p1 s15 n v19 h18) qyX0_told wd_664 wd_665 wd_666 hb.2 rfl rfl rfl (by decide) (Nat.le_of_ble_eq_true rfl) (by decide) dX6_without_49 rfl rfl rfl rfl ?_
    cases hF
    exact x_iret rfl rfl (by decide) (by decide) dX6_without_52
  have hF := h20
  rcases ite_inv hF with ⟨hc, hF⟩ | ⟨hc, hF⟩
  · refine x_icmp_gt 19 10 dX6_without_7 (by decide) rfl (fun _ => ?_) (fun q => absurd hc q)
    refine x_iconst 20 (0 : Int32) dX6_without_19 rfl (by decide) ?_
    have e1 := Option.some.inj hF
    subst e1
    exact hJ
  · refine x_icmp_gt 19 10 dX6_without_7 (by decide) rfl (fun q => absurd q hc) (fun _ => ?_)
    refine x_iload_n 11 2 dX6_without_10 rfl rfl ?_
    refine x_iconst 12 (2 : Int32) dX6_without_11 rfl (by decide) ?_
    rcases ite_inv hF with ⟨hc, hF⟩ | ⟨hc, hF⟩
    · refine x_icmp_gt 19 15 dX6_without_12 (by decide) rfl (fun _ => ?_) (fun q => absurd hc q)
      refine x_iconst 20 (0 : Int32) dX6_without_19 rfl (by decide) ?_
      have e1 := Option.some.inj hF
      subst e1
      exact hJ
    · refine x_icmp_gt 19 15 dX6_without_12 (by decide) rfl (fun q => absurd q hc) (fun _ => ?_)
      refine x_iconst 16 (1 : Int32) dX6_without_15 rfl (by decide) ?_
      refine x_goto 20 dX6_without_16 (by decide) ?_
      have e1 := Option.some.inj hF
      subst e1
      exact hJ
def rmX6_swings : Room := { frames := 7, cells := 2, slots := 12, locals := 102 }
theorem qyX6_swings : qY yX6_swings cX6_swings 4 (some .int) 2 := ⟨wd_791, wd_17, by decide +kernel, by decide +kernel, by decide +kernel⟩
set_option maxHeartbeats 4000000 in
set_option maxRecDepth 100000 in
theorem mX6_swings_L21 {l : Launch} {G : qG} (hst : l.stackTraces = false) (a0 : Nat) (a1 : Int32) (a2 : Int32) (n : Option Nat) (rf : (Int32 × qH) ⊕ (String × qH) → qR) (hrf : ∀ v : Int32, ∀ σ : qH, rf (.inl (v, σ)) = .inl (some (.int v), σ, n)) : ∀ (q : Nat) (y3 : Int32) (σ : qH) (o : (Int32 × qH) ⊕ (String × qH)), FX6_swings_L21 a0 a1 a2 q y3 σ = some o → qX l G RX6 "swings" cX6_swings 4 (some .int) [] rmX6_swings 2 12 (rf o) 2 12 σ n 21 [(0, .ref a0), (1, .int a1), (2, .int a2), (3, .int y3)] [] := by
  intro q
  induction q with
  | zero => intro y3 σ o hF; rw [FX6_swings_L21] at hF; cases hF
  | succ q ih =>
    intro y3 σ o hF
    rw [FX6_swings_L21] at hF
    refine x_iload_n 22 3 dX6_swings_21 rfl rfl ?_
    refine x_bipush 24 (9 : Int32) dX6_swings_22 rfl (by decide) ?_
    rcases ite_inv hF with ⟨hc, hF⟩ | ⟨hc, hF⟩
    · refine x_icmp_gt 77 27 dX6_swings_24 (by decide) rfl (fun _ => ?_) (fun q => absurd hc q)
      refine x_iconst 78 (-1 : Int32) dX6_swings_77 rfl (by decide) ?_
      cases hF
      exact x_iret rfl (hrf _ _) (by decide) (by decide) dX6_swings_78
    · refine x_icmp_gt 77 27 dX6_swings_24 (by decide) rfl (fun q => absurd q hc) (fun _ => ?_)
      refine x_aload_n 28 0 dX6_swings_27 rfl rfl ?_
      obtain ⟨r11, h12, hF⟩ := b1_inv hF
      refine x_getR 31 1 inX6 rfl (by decide) wd_151 h12 dX6_swings_28 rfl ?_
      refine x_iload_n 32 1 dX6_swings_31 rfl rfl ?_
      refine x_iload_n 33 3 dX6_swings_32 rfl rfl ?_
      obtain ⟨v14, s15, h13, hF⟩ := b2_inv hF
      obtain ⟨fs, hb⟩ : ∃ fs : List Value, True ∧ σ r11 = some (.inr (2, fs)) := kX2_changeTrust h13
      refine x_callV (As := [.int a1, .int y3]) (rest := []) 36 2 12 (mX2_changeTrust hst r11 a1 y3 σ n v14 s15 h13) qyX2_changeTrust wd_707 wd_425 wd_426 hb.2 rfl rfl rfl (by decide) (Nat.le_of_ble_eq_true rfl) (by decide) dX6_swings_33 rfl rfl rfl rfl ?_
      refine x_pop 37 rfl dX6_swings_36 rfl ?_
      refine x_aload_n 38 0 dX6_swings_37 rfl rfl ?_
      obtain ⟨r16, h17, hF⟩ := b1_inv hF
      refine x_getR 41 6 inX6 rfl (by decide) wd_156 h17 dX6_swings_38 rfl ?_
      refine x_aload_n 42 0 dX6_swings_41 rfl rfl ?_
      obtain ⟨r18, h19, hF⟩ := b1_inv hF
      refine x_getR 45 1 inX6 rfl (by decide) wd_151 h19 dX6_swings_42 rfl ?_
      refine x_iload_n 46 2 dX6_swings_45 rfl rfl ?_
      refine x_iconst 47 (-1 : Int32) dX6_swings_46 rfl (by decide) ?_
      obtain ⟨s21, h20, hF⟩ := b1_inv hF
      obtain ⟨fs, hb⟩ : ∃ fs : List Value, True ∧ s15 r16 = some (.inr (0, fs)) := kX0_countByEnds h20
      refine x_callV (As := [.ref r18, .int a2, .int (-1 : Int32)]) (rest := []) 50 2 12 (mX0_countByEnds hst r16 r18 a2 (-1 : Int32) s15 n s21 h20) qyX0_countByEnds wd_655 wd_656 wd_657 hb.2 rfl rfl rfl (by decide) (Nat.le_of_ble_eq_true rfl) (by decide) dX6_swings_47 rfl rfl rfl rfl ?_
      refine x_aload_n 51 0 dX6_swings_50 rfl rfl ?_
      obtain ⟨r22, h23, hF⟩ := b1_inv hF
      refine x_getR 54 1 inX6 rfl (by decide) wd_151 h23 dX6_swings_51 rfl ?_
      refine x_iload_n 55 1 dX6_swings_54 rfl rfl ?_
      refine x_iload_n 56 2 dX6_swings_55 rfl rfl ?_
      refine x_aload_n 57 0 dX6_swings_56 rfl rfl ?_
      obtain ⟨r24, h25, hF⟩ := b1_inv hF
      refine x_getR 60 6 inX6 rfl (by decide) wd_156 h25 dX6_swings_57 rfl ?_
      obtain ⟨v27, h26, hF⟩ := b1_inv hF
      obtain ⟨fs, hb⟩ : ∃ fs : List Value, True ∧ s21 r24 = some (.inr (0, fs)) := kX0_lowest h26
      refine x_callV (As := []) (rest := [.int a2, .int a1, .ref r22]) 63 2 12 (mX0_lowest hst r24 s21 n v27 h26) qyX0_lowest wd_762 wd_763 wd_764 hb.2 rfl rfl rfl (by decide) (Nat.le_of_ble_eq_true rfl) (by decide) dX6_swings_60 rfl rfl rfl rfl ?_
      obtain ⟨v29, h28, hF⟩ := b1_inv hF
      obtain ⟨fs, hb⟩ : ∃ fs : List Value, True ∧ s21 r22 = some (.inr (2, fs)) := kX2_tellsHeight h28
      refine x_callV (As := [.int a1, .int a2, .int v27]) (rest := []) 66 2 12 (mX2_tellsHeight hst r22 a1 a2 v27 s21 n v29 h28) qyX2_tellsHeight wd_793 wd_794 wd_795 hb.2 rfl rfl rfl (by decide) (Nat.le_of_ble_eq_true rfl) (by decide) dX6_swings_63 rfl rfl rfl rfl ?_
      rcases ite_inv hF with ⟨hc, hF⟩ | ⟨hc, hF⟩
      · refine x_if_eq 71 69 dX6_swings_66 (by decide) rfl (fun _ => ?_) (fun q => absurd hc q)
        refine x_iinc 74 3 3 (y3 + (1 : Int32)) [(3, .int (y3 + (1 : Int32))), (0, .ref a0), (1, .int a1), (2, .int a2)] dX6_swings_71 rfl rfl rfl (by decide) rfl ?_
        refine x_goto 21 dX6_swings_74 (by decide) ?_
        refine x_sub [(0, .ref a0), (1, .int a1), (2, .int a2), (3, .int (y3 + (1 : Int32)))] [1, 2, 3, 0] rfl ?_
        exact ih _ _ _ hF
      · refine x_if_eq 71 69 dX6_swings_66 (by decide) rfl (fun q => absurd q hc) (fun _ => ?_)
        refine x_iload_n 70 3 dX6_swings_69 rfl rfl ?_
        cases hF
        exact x_iret rfl (hrf _ _) (by decide) (by decide) dX6_swings_70
theorem kX6_swings {b : Nat} {p0 : Int32} {p1 : Int32} {σ : qH} {o : (Int32 × qH) ⊕ (String × qH)} (h : FX6_swings b p0 p1 σ = some o) : ∃ fs : List Value, True ∧ σ b = some (.inr (4, fs)) := by
  unfold FX6_swings at h
  obtain ⟨_, h1, _⟩ := b1_inv h
  obtain ⟨fs, h2⟩ := gC_inv h1
  exact ⟨fs, trivial, h2⟩
set_option maxHeartbeats 4000000 in
set_option maxRecDepth 100000 in
theorem mX6_swings {l : Launch} {G : qG} (hst : l.stackTraces = false) (b : Nat) (p0 : Int32) (p1 : Int32) (σ : qH) (n : Option Nat) (o : (Int32 × qH) ⊕ (String × qH)) (hF : FX6_swings b p0 p1 σ = some o) : qM l G yX6_swings cX6_swings 4 (some .int) rmX6_swings [.ref b, .int p0, .int p1] σ n (rIw σ n o) := by
  refine q_body (own := RX6) (nm := "swings") (ls := [(0, .ref b), (1, .int p0), (2, .int p1)]) hst (by decide +kernel) rfl rfl (Nat.le_of_ble_eq_true rfl) rfl rfl rfl ?_
  unfold FX6_swings at hF
  obtain ⟨_, hC, hF⟩ := b1_inv hF
  refine x_iload_n 1 1 dX6_swings_0 rfl rfl ?_
  rcases bxw_inv hF with ⟨u, h1, hF⟩ | ⟨e2, h1, rfl⟩
  rotate_left
  · skip
    exact x_callSX (As := [.int p0]) (rest := []) (mX6_needTeller hst p0 σ n (.inr e2) h1) qyX6_needTeller wd_573 wd_574 rfl rfl (by decide) (Nat.le_of_ble_eq_true rfl) (by decide) dX6_swings_1 rfl rfl (by decide) (by decide)
  refine x_callS (As := [.int p0]) (rest := []) 4 1 6 (mX6_needTeller hst p0 σ n (.inl u) h1) qyX6_needTeller wd_573 wd_574 rfl rfl (by decide) (Nat.le_of_ble_eq_true rfl) (by decide) dX6_swings_1 rfl rfl rfl rfl ?_
  refine x_iload_n 5 2 dX6_swings_4 rfl rfl ?_
  rcases bxw_inv hF with ⟨u, h3, hF⟩ | ⟨e4, h3, rfl⟩
  rotate_left
  · skip
    exact x_callSX (As := [.int p1]) (rest := []) (mX6_needSteeple hst p1 σ n (.inr e4) h3) qyX6_needSteeple wd_606 wd_607 rfl rfl (by decide) (Nat.le_of_ble_eq_true rfl) (by decide) dX6_swings_5 rfl rfl (by decide) (by decide)
  refine x_callS (As := [.int p1]) (rest := []) 8 2 12 (mX6_needSteeple hst p1 σ n (.inl u) h3) qyX6_needSteeple wd_606 wd_607 rfl rfl (by decide) (Nat.le_of_ble_eq_true rfl) (by decide) dX6_swings_5 rfl rfl rfl rfl ?_
  refine x_aload_n 9 0 dX6_swings_8 rfl rfl ?_
  obtain ⟨r5, h6, hF⟩ := b1_inv hF
  refine x_getR 12 1 inX6 rfl (by decide) wd_151 h6 dX6_swings_9 rfl ?_
  refine x_aload_n 13 0 dX6_swings_12 rfl rfl ?_
  obtain ⟨r7, h8, hF⟩ := b1_inv hF
  refine x_getR 16 0 inX6 rfl (by decide) wd_150 h8 dX6_swings_13 rfl ?_
  obtain ⟨s10, h9, hF⟩ := b1_inv hF
  obtain ⟨fs, hb⟩ : ∃ fs : List Value, True ∧ σ r5 = some (.inr (2, fs)) := kX2_takeFrom h9
  refine x_callV (As := [.ref r7]) (rest := []) 19 2 12 (mX2_takeFrom hst r5 r7 σ n s10 h9) qyX2_takeFrom wd_792 wd_694 wd_695 hb.2 rfl rfl rfl (by decide) (Nat.le_of_ble_eq_true rfl) (by decide) dX6_swings_16 rfl rfl rfl rfl ?_
  refine x_iconst 20 (0 : Int32) dX6_swings_19 rfl (by decide) ?_
  refine x_istore_n 21 3 [(3, .int (0 : Int32)), (0, .ref b), (1, .int p0), (2, .int p1)] dX6_swings_20 rfl rfl (by decide) rfl ?_
  refine x_sub [(0, .ref b), (1, .int p0), (2, .int p1), (3, .int (0 : Int32))] [1, 2, 3, 0] rfl ?_
  exact mX6_swings_L21 hst b p0 p1 n (rIw σ n) (fun _ _ => rfl) qfuel (0 : Int32) s10 _ hF
def rmX6_truest : Room := { frames := 2, cells := 0, slots := 0, locals := 47 }
theorem qyX6_truest : qY yX6_truest cX6_truest 1 (some .int) 0 := ⟨wd_899, wd_17, by decide +kernel, by decide +kernel, by decide +kernel⟩
theorem kX6_truest {b : Nat} {σ : qH} {o : Int32} (h : FX6_truest b σ = some o) : ∃ fs : List Value, True ∧ σ b = some (.inr (4, fs)) := by
  unfold FX6_truest at h
  obtain ⟨_, h1, _⟩ := b1_inv h
  obtain ⟨fs, h2⟩ := gC_inv h1
  exact ⟨fs, trivial, h2⟩
set_option maxHeartbeats 4000000 in
set_option maxRecDepth 100000 in
theorem mX6_truest {l : Launch} {G : qG} (hst : l.stackTraces = false) (b : Nat) (σ : qH) (n : Option Nat) (ro : Int32) (hF : FX6_truest b σ = some ro) : qM l G yX6_truest cX6_truest 1 (some .int) rmX6_truest [.ref b] σ n (.inl (some (.int ro), σ, n)) := by
  refine q_body (own := RX6) (nm := "truest") (ls := [(0, .ref b)]) hst (by decide +kernel) rfl rfl (Nat.le_of_ble_eq_true rfl) rfl rfl rfl ?_
  unfold FX6_truest at hF
  obtain ⟨_, hC, hF⟩ := b1_inv hF
  refine x_aload_n 1 0 dX6_truest_0 rfl rfl ?_
  obtain ⟨r1, h2, hF⟩ := b1_inv hF
  refine x_getR 4 0 inX6 rfl (by decide) wd_150 h2 dX6_truest_1 rfl ?_
  obtain ⟨v4, h3, hF⟩ := b1_inv hF
  obtain ⟨fs, hb⟩ : ∃ fs : List Value, True ∧ σ r1 = some (.inr (2, fs)) := kX2_tellerMostlyRight h3
  refine x_callV (As := []) (rest := []) 7 0 0 (mX2_tellerMostlyRight hst r1 σ n v4 h3) qyX2_tellerMostlyRight wd_900 wd_901 wd_902 hb.2 rfl rfl rfl (by decide) (Nat.le_of_ble_eq_true rfl) (by decide) dX6_truest_4 rfl rfl rfl rfl ?_
  cases hF
  exact x_iret rfl rfl (by decide) (by decide) dX6_truest_7
def rmX6_runScript : Room := { frames := 7, cells := 2, slots := 12, locals := 143 }
theorem qyX6_runScript : qY yX6_runScript cX6_runScript 5 (some .int) 2 := ⟨wd_833, wd_17, by decide +kernel, by decide +kernel, by decide +kernel⟩
set_option maxHeartbeats 4000000 in
set_option maxRecDepth 100000 in
theorem mX6_runScript_L55 {l : Launch} {G : qG} (hst : l.stackTraces = false) (a0 : Nat) (a1 : Int32) (a2 : Int64) (n : Option Nat) (rf : (Int32 × qH) ⊕ (String × qH) → qR) (hrf : ∀ v : Int32, ∀ σ : qH, rf (.inl (v, σ)) = .inl (some (.int v), σ, n)) : ∀ (q : Nat) (y4 : Int32) (σ : qH) (o : (Int32 × qH) ⊕ (String × qH)), FX6_runScript_L55 a0 a1 a2 q y4 σ = some o → qX l G RX6 "runScript" cX6_runScript 5 (some .int) [] rmX6_runScript 2 12 (rf o) 2 12 σ n 55 [(0, .ref a0), (1, .int a1), (2, .long a2), (4, .int y4)] [] := by
  intro q
  induction q with
  | zero => intro y4 σ o hF; rw [FX6_runScript_L55] at hF; cases hF
  | succ q ih =>
    intro y4 σ o hF
    rw [FX6_runScript_L55] at hF
    refine x_iload 57 3 dX6_runScript_55 rfl rfl ?_
    refine x_iload_n 58 1 dX6_runScript_57 rfl rfl ?_
    rcases ite_inv hF with ⟨hc, hF⟩ | ⟨hc, hF⟩
    · refine x_icmp_ge 94 61 dX6_runScript_58 (by decide) rfl (fun _ => ?_) (fun q => absurd hc q)
      refine x_iconst 95 (-1 : Int32) dX6_runScript_94 rfl (by decide) ?_
      cases hF
      exact x_iret rfl (hrf _ _) (by decide) (by decide) dX6_runScript_95
    · refine x_icmp_ge 94 61 dX6_runScript_58 (by decide) rfl (fun q => absurd q hc) (fun _ => ?_)
      refine x_aload_n 62 0 dX6_runScript_61 rfl rfl ?_
      obtain ⟨r15, h16, hF⟩ := b1_inv hF
      refine x_getR 65 1 inX6 rfl (by decide) wd_151 h16 dX6_runScript_62 rfl ?_
      refine x_aload_n 66 0 dX6_runScript_65 rfl rfl ?_
      obtain ⟨r17, h18, hF⟩ := b1_inv hF
      refine x_getR 69 6 inX6 rfl (by decide) wd_156 h18 dX6_runScript_66 rfl ?_
      refine x_lload_n 70 2 dX6_runScript_69 rfl rfl ?_
      refine x_iload_n 71 1 dX6_runScript_70 rfl rfl ?_
      refine x_iconst 72 (1 : Int32) dX6_runScript_71 rfl (by decide) ?_
      refine x_isub 73 dX6_runScript_72 rfl ?_
      refine x_iload 75 3 dX6_runScript_73 rfl rfl ?_
      refine x_isub 76 dX6_runScript_75 rfl ?_
      obtain ⟨v20, h19, hF⟩ := b1_inv hF
      refine x_callS (As := [.long a2, .int ((a1 - (1 : Int32)) - y4)]) (rest := [.ref r17, .ref r15]) 79 2 12 (mX3_group hst a2 ((a1 - (1 : Int32)) - y4) σ n v20 h19) qyX3_group wd_838 wd_839 rfl rfl (by decide) (Nat.le_of_ble_eq_true rfl) (by decide) dX6_runScript_76 rfl rfl rfl rfl ?_
      obtain ⟨v22, s23, h21, hF⟩ := b2_inv hF
      refine x_callS (As := [.ref r15, .ref r17, .int v20]) (rest := []) 82 2 12 (mX3_succeeds hst r15 r17 v20 σ n v22 s23 h21) qyX3_succeeds wd_841 wd_842 rfl rfl (by decide) (Nat.le_of_ble_eq_true rfl) (by decide) dX6_runScript_79 rfl rfl rfl rfl ?_
      rcases ite_inv hF with ⟨hc, hF⟩ | ⟨hc, hF⟩
      · refine x_if_ne 88 85 dX6_runScript_82 (by decide) rfl (fun q => absurd hc q) (fun _ => ?_)
        refine x_iload 87 3 dX6_runScript_85 rfl rfl ?_
        cases hF
        exact x_iret rfl (hrf _ _) (by decide) (by decide) dX6_runScript_87
      · refine x_if_ne 88 85 dX6_runScript_82 (by decide) rfl (fun _ => ?_) (fun q => absurd q hc)
        refine x_iinc 91 4 3 (y4 + (1 : Int32)) [(4, .int (y4 + (1 : Int32))), (0, .ref a0), (1, .int a1), (2, .long a2)] dX6_runScript_88 rfl rfl rfl (by decide) rfl ?_
        refine x_goto 55 dX6_runScript_91 (by decide) ?_
        refine x_sub [(0, .ref a0), (1, .int a1), (2, .long a2), (4, .int (y4 + (1 : Int32)))] [1, 2, 3, 0] rfl ?_
        exact ih _ _ _ hF
theorem kX6_runScript {b : Nat} {p0 : Int32} {p1 : Int64} {σ : qH} {o : (Int32 × qH) ⊕ (String × qH)} (h : FX6_runScript b p0 p1 σ = some o) : ∃ fs : List Value, True ∧ σ b = some (.inr (4, fs)) := by
  unfold FX6_runScript at h
  obtain ⟨_, h1, _⟩ := b1_inv h
  obtain ⟨fs, h2⟩ := gC_inv h1
  exact ⟨fs, trivial, h2⟩
set_option maxHeartbeats 4000000 in
set_option maxRecDepth 100000 in
theorem mX6_runScript {l : Launch} {G : qG} (hst : l.stackTraces = false) (b : Nat) (p0 : Int32) (p1 : Int64) (σ : qH) (n : Option Nat) (o : (Int32 × qH) ⊕ (String × qH)) (hF : FX6_runScript b p0 p1 σ = some o) : qM l G yX6_runScript cX6_runScript 5 (some .int) rmX6_runScript [.ref b, .int p0, .long p1] σ n (rIw σ n o) := by
  refine q_body (own := RX6) (nm := "runScript") (ls := [(0, .ref b), (1, .int p0), (2, .long p1)]) hst (by decide +kernel) rfl rfl (Nat.le_of_ble_eq_true rfl) rfl rfl rfl ?_
  unfold FX6_runScript at hF
  obtain ⟨_, hC, hF⟩ := b1_inv hF
  refine x_iconst 1 (1 : Int32) dX6_runScript_0 rfl (by decide) ?_
  refine x_iload_n 2 1 dX6_runScript_1 rfl rfl ?_
  obtain ⟨x1, h25, hF⟩ := b1_inv hF
  have hJ : qX l G RX6 "runScript" cX6_runScript 5 (some .int) [] rmX6_runScript 2 12 (rIw σ n o) 0 0 σ n 15 [(0, .ref b), (1, .int p0), (2, .long p1)] [.int x1] := by
    rcases bxw_inv hF with ⟨u, h2, hF⟩ | ⟨e3, h2, rfl⟩
    rotate_left
    · skip
      exact x_callSX (As := [.int x1]) (rest := []) (mX6_need hst x1 σ n (.inr e3) h2) qyX6_need wd_192 wd_193 rfl rfl (by decide) (Nat.le_of_ble_eq_true rfl) (by decide) dX6_runScript_15 rfl rfl (by decide) (by decide)
    refine x_callS (As := [.int x1]) (rest := []) 18 1 6 (mX6_need hst x1 σ n (.inl u) h2) qyX6_need wd_192 wd_193 rfl rfl (by decide) (Nat.le_of_ble_eq_true rfl) (by decide) dX6_runScript_15 rfl rfl rfl rfl ?_
    refine x_lconst 19 (0 : Int64) dX6_runScript_18 rfl (by decide) ?_
    refine x_lload_n 20 2 dX6_runScript_19 rfl rfl ?_
    refine x_lcmp 21 dX6_runScript_20 rfl ?_
    obtain ⟨x4, h24, hF⟩ := b1_inv hF
    have hJ : qX l G RX6 "runScript" cX6_runScript 5 (some .int) [] rmX6_runScript 2 12 (rIw σ n o) 1 6 σ n 38 [(0, .ref b), (1, .int p0), (2, .long p1)] [.int x4] := by
      rcases bxw_inv hF with ⟨u, h7, hF⟩ | ⟨e8, h7, rfl⟩
      rotate_left
      · skip
        exact x_callSX (As := [.int x4]) (rest := []) (mX6_need hst x4 σ n (.inr e8) h7) qyX6_need wd_192 wd_193 rfl rfl (by decide) (Nat.le_of_ble_eq_true rfl) (by decide) dX6_runScript_38 rfl rfl (by decide) (by decide)
      refine x_callS (As := [.int x4]) (rest := []) 41 2 12 (mX6_need hst x4 σ n (.inl u) h7) qyX6_need wd_192 wd_193 rfl rfl (by decide) (Nat.le_of_ble_eq_true rfl) (by decide) dX6_runScript_38 rfl rfl rfl rfl ?_
      refine x_aload_n 42 0 dX6_runScript_41 rfl rfl ?_
      obtain ⟨r9, h10, hF⟩ := b1_inv hF
      refine x_getR 45 1 inX6 rfl (by decide) wd_151 h10 dX6_runScript_42 rfl ?_
      refine x_aload_n 46 0 dX6_runScript_45 rfl rfl ?_
      obtain ⟨r11, h12, hF⟩ := b1_inv hF
      refine x_getR 49 0 inX6 rfl (by decide) wd_150 h12 dX6_runScript_46 rfl ?_
      obtain ⟨s14, h13, hF⟩ := b1_inv hF
      obtain ⟨fs, hb⟩ : ∃ fs : List Value, True ∧ σ r9 = some (.inr (2, fs)) := kX2_takeFrom h13
      refine x_callV (As := [.ref r11]) (rest := []) 52 2 12 (mX2_takeFrom hst r9 r11 σ n s14 h13) qyX2_takeFrom wd_792 wd_694 wd_695 hb.2 rfl rfl rfl (by decide) (Nat.le_of_ble_eq_true rfl) (by decide) dX6_runScript_49 rfl rfl rfl rfl ?_
      refine x_iconst 53 (0 : Int32) dX6_runScript_52 rfl (by decide) ?_
      refine x_istore 55 4 [(4, .int (0 : Int32)), (0, .ref b), (1, .int p0), (2, .long p1)] dX6_runScript_53 rfl (by decide) rfl ?_
      refine x_sub [(0, .ref b), (1, .int p0), (2, .long p1), (4, .int (0 : Int32))] [1, 2, 3, 0] rfl ?_
      exact mX6_runScript_L55 hst b p0 p1 n (rIw σ n) (fun _ _ => rfl) qfuel (0 : Int32) s14 _ hF
    have hF := h24
    rcases ite_inv hF with ⟨hc, hF⟩ | ⟨hc, hF⟩
    · refine x_if_gt 37 24 dX6_runScript_21 (by decide) rfl (fun _ => ?_) (fun q => absurd hc q)
      refine x_iconst 38 (0 : Int32) dX6_runScript_37 rfl (by decide) ?_
      have e1 := Option.some.inj hF
      subst e1
      exact hJ
    · refine x_if_gt 37 24 dX6_runScript_21 (by decide) rfl (fun q => absurd q hc) (fun _ => ?_)
      refine x_lload_n 25 2 dX6_runScript_24 rfl rfl ?_
      refine x_iload_n 26 1 dX6_runScript_25 rfl rfl ?_
      obtain ⟨v6, h5, hF⟩ := b1_inv hF
      refine x_callS (As := [.int p0]) (rest := [.long p1]) 29 1 6 (mX3_limit hst p0 σ n v6 h5) qyX3_limit wd_834 wd_835 rfl rfl (by decide) (Nat.le_of_ble_eq_true rfl) (by decide) dX6_runScript_26 rfl rfl rfl rfl ?_
      refine x_lcmp 30 dX6_runScript_29 rfl ?_
      rcases ite_inv hF with ⟨hc, hF⟩ | ⟨hc, hF⟩
      · refine x_if_ge 37 33 dX6_runScript_30 (by decide) rfl (fun _ => ?_) (fun q => absurd hc q)
        refine x_iconst 38 (0 : Int32) dX6_runScript_37 rfl (by decide) ?_
        have e1 := Option.some.inj hF
        subst e1
        exact hJ
      · refine x_if_ge 37 33 dX6_runScript_30 (by decide) rfl (fun q => absurd q hc) (fun _ => ?_)
        refine x_iconst 34 (1 : Int32) dX6_runScript_33 rfl (by decide) ?_
        refine x_goto 38 dX6_runScript_34 (by decide) ?_
        have e1 := Option.some.inj hF
        subst e1
        exact hJ
  have hF := h25
  rcases ite_inv hF with ⟨hc, hF⟩ | ⟨hc, hF⟩
  · refine x_icmp_gt 14 5 dX6_runScript_2 (by decide) rfl (fun _ => ?_) (fun q => absurd hc q)
    refine x_iconst 15 (0 : Int32) dX6_runScript_14 rfl (by decide) ?_
    have e1 := Option.some.inj hF
    subst e1
    exact hJ
  · refine x_icmp_gt 14 5 dX6_runScript_2 (by decide) rfl (fun q => absurd q hc) (fun _ => ?_)
    refine x_iload_n 6 1 dX6_runScript_5 rfl rfl ?_
    refine x_iconst 7 (3 : Int32) dX6_runScript_6 rfl (by decide) ?_
    rcases ite_inv hF with ⟨hc, hF⟩ | ⟨hc, hF⟩
    · refine x_icmp_gt 14 10 dX6_runScript_7 (by decide) rfl (fun _ => ?_) (fun q => absurd hc q)
      refine x_iconst 15 (0 : Int32) dX6_runScript_14 rfl (by decide) ?_
      have e1 := Option.some.inj hF
      subst e1
      exact hJ
    · refine x_icmp_gt 14 10 dX6_runScript_7 (by decide) rfl (fun q => absurd q hc) (fun _ => ?_)
      refine x_iconst 11 (1 : Int32) dX6_runScript_10 rfl (by decide) ?_
      refine x_goto 15 dX6_runScript_11 (by decide) ?_
      have e1 := Option.some.inj hF
      subst e1
      exact hJ
def rmX6_simulate : Room := { frames := 7, cells := 1, slots := 6, locals := 149 }
theorem qyX6_simulate : qY yX6_simulate cX6_simulate 7 (some .int) 2 := ⟨wd_876, wd_17, by decide +kernel, by decide +kernel, by decide +kernel⟩
set_option maxHeartbeats 4000000 in
set_option maxRecDepth 100000 in
theorem mX6_simulate_L36 {l : Launch} {G : qG} (hst : l.stackTraces = false) (a0 : Nat) (a3 : Int32) (n : Option Nat) (r : qR) : ∀ (q : Nat) (y4 : Int64) (y6 : Int32) (σ : qH) (so : qH), FX6_simulate_L36 a0 a3 q y4 y6 σ = some so → qX l G RX6 "simulate" cX6_simulate 7 (some .int) [] rmX6_simulate 1 6 r 1 6 so n 73 [(0, .ref a0)] [] → qX l G RX6 "simulate" cX6_simulate 7 (some .int) [] rmX6_simulate 1 6 r 1 6 σ n 36 [(0, .ref a0), (3, .int a3), (4, .long y4), (6, .int y6)] [] := by
  intro q
  induction q with
  | zero => intro y4 y6 σ so hF; rw [FX6_simulate_L36] at hF; cases hF
  | succ q ih =>
    intro y4 y6 σ so hF hJ
    rw [FX6_simulate_L36] at hF
    refine x_iload 38 3 dX6_simulate_36 rfl rfl ?_
    refine x_iload_n 39 1 dX6_simulate_38 rfl rfl ?_
    rcases ite_inv hF with ⟨hc, hF⟩ | ⟨hc, hF⟩
    · refine x_icmp_ge 73 42 dX6_simulate_39 (by decide) rfl (fun _ => ?_) (fun q => absurd hc q)
      have e1 := Option.some.inj hF
      subst e1
      refine x_sub [(0, .ref a0)] [0] rfl ?_
      exact hJ
    · refine x_icmp_ge 73 42 dX6_simulate_39 (by decide) rfl (fun q => absurd q hc) (fun _ => ?_)
      refine x_lload 44 2 dX6_simulate_42 rfl rfl ?_
      refine x_ldc2 47 (6364136223846793005 : Int64) wd_877 dX6_simulate_44 rfl ?_
      refine x_lmul 48 dX6_simulate_47 rfl ?_
      refine x_ldc2 51 (1442695040888963407 : Int64) wd_878 dX6_simulate_48 rfl ?_
      refine x_ladd 52 dX6_simulate_51 rfl ?_
      refine x_lstore 54 4 [(4, .long ((y4 * (6364136223846793005 : Int64)) + (1442695040888963407 : Int64))), (0, .ref a0), (3, .int a3), (6, .int y6)] dX6_simulate_52 rfl (by decide) rfl ?_
      refine x_aload_n 55 1 dX6_simulate_54 rfl rfl ?_
      obtain ⟨r10, h11, hF⟩ := b1_inv hF
      refine x_getR 58 1 inX6 rfl (by decide) wd_151 h11 dX6_simulate_55 rfl ?_
      refine x_lload 60 0 dX6_simulate_58 rfl rfl ?_
      refine x_bipush 62 (33 : Int32) dX6_simulate_60 rfl (by decide) ?_
      refine x_lushr 63 dX6_simulate_62 rfl ?_
      refine x_l2i 64 dX6_simulate_63 rfl ?_
      obtain ⟨s13, h12, hF⟩ := b1_inv hF
      refine x_callS (As := [.ref r10, .int ((lus ((y4 * (6364136223846793005 : Int64)) + (1442695040888963407 : Int64)) (33 : Int32))).toInt32]) (rest := []) 67 1 6 (mX4_turn hst r10 ((lus ((y4 * (6364136223846793005 : Int64)) + (1442695040888963407 : Int64)) (33 : Int32))).toInt32 σ n s13 h12) qyX4_turn wd_879 wd_880 rfl rfl (by decide) (Nat.le_of_ble_eq_true rfl) (by decide) dX6_simulate_64 rfl rfl rfl rfl ?_
      refine x_iinc 70 6 3 (y6 + (1 : Int32)) [(6, .int (y6 + (1 : Int32))), (4, .long ((y4 * (6364136223846793005 : Int64)) + (1442695040888963407 : Int64))), (0, .ref a0), (3, .int a3)] dX6_simulate_67 rfl rfl rfl (by decide) rfl ?_
      refine x_goto 36 dX6_simulate_70 (by decide) ?_
      refine x_sub [(0, .ref a0), (3, .int a3), (4, .long ((y4 * (6364136223846793005 : Int64)) + (1442695040888963407 : Int64))), (6, .int (y6 + (1 : Int32)))] [2, 3, 1, 0] rfl ?_
      exact ih _ _ _ _ hF hJ
theorem kX6_simulate {b : Nat} {p0 : Int64} {p1 : Int32} {σ : qH} {o : (Int32 × qH) ⊕ (String × qH)} (h : FX6_simulate b p0 p1 σ = some o) : ∃ fs : List Value, True ∧ σ b = some (.inr (4, fs)) := by
  unfold FX6_simulate at h
  obtain ⟨_, h1, _⟩ := b1_inv h
  obtain ⟨fs, h2⟩ := gC_inv h1
  exact ⟨fs, trivial, h2⟩
set_option maxHeartbeats 4000000 in
set_option maxRecDepth 100000 in
theorem mX6_simulate {l : Launch} {G : qG} (hst : l.stackTraces = false) (b : Nat) (p0 : Int64) (p1 : Int32) (σ : qH) (n : Option Nat) (o : (Int32 × qH) ⊕ (String × qH)) (hF : FX6_simulate b p0 p1 σ = some o) : qM l G yX6_simulate cX6_simulate 7 (some .int) rmX6_simulate [.ref b, .long p0, .int p1] σ n (rIw σ n o) := by
  refine q_body (own := RX6) (nm := "simulate") (ls := [(0, .ref b), (1, .long p0), (3, .int p1)]) hst (by decide +kernel) rfl rfl (Nat.le_of_ble_eq_true rfl) rfl rfl rfl ?_
  unfold FX6_simulate at hF
  obtain ⟨_, hC, hF⟩ := b1_inv hF
  refine x_iconst 1 (1 : Int32) dX6_simulate_0 rfl (by decide) ?_
  refine x_iload_n 2 2 dX6_simulate_1 rfl rfl ?_
  obtain ⟨x1, h32, hF⟩ := b1_inv hF
  have hJ : qX l G RX6 "simulate" cX6_simulate 7 (some .int) [] rmX6_simulate 1 6 (rIw σ n o) 0 0 σ n 16 [(0, .ref b), (1, .long p0), (3, .int p1)] [.int x1] := by
    rcases bxw_inv hF with ⟨u, h2, hF⟩ | ⟨e3, h2, rfl⟩
    rotate_left
    · skip
      exact x_callSX (As := [.int x1]) (rest := []) (mX6_need hst x1 σ n (.inr e3) h2) qyX6_need wd_192 wd_193 rfl rfl (by decide) (Nat.le_of_ble_eq_true rfl) (by decide) dX6_simulate_16 rfl rfl (by decide) (by decide)
    refine x_callS (As := [.int x1]) (rest := []) 19 1 6 (mX6_need hst x1 σ n (.inl u) h2) qyX6_need wd_192 wd_193 rfl rfl (by decide) (Nat.le_of_ble_eq_true rfl) (by decide) dX6_simulate_16 rfl rfl rfl rfl ?_
    refine x_aload_n 20 0 dX6_simulate_19 rfl rfl ?_
    obtain ⟨r4, h5, hF⟩ := b1_inv hF
    refine x_getR 23 1 inX6 rfl (by decide) wd_151 h5 dX6_simulate_20 rfl ?_
    refine x_aload_n 24 0 dX6_simulate_23 rfl rfl ?_
    obtain ⟨r6, h7, hF⟩ := b1_inv hF
    refine x_getR 27 0 inX6 rfl (by decide) wd_150 h7 dX6_simulate_24 rfl ?_
    obtain ⟨s9, h8, hF⟩ := b1_inv hF
    obtain ⟨fs, hb⟩ : ∃ fs : List Value, True ∧ σ r4 = some (.inr (2, fs)) := kX2_takeFrom h8
    refine x_callV (As := [.ref r6]) (rest := []) 30 1 6 (mX2_takeFrom hst r4 r6 σ n s9 h8) qyX2_takeFrom wd_792 wd_694 wd_695 hb.2 rfl rfl rfl (by decide) (Nat.le_of_ble_eq_true rfl) (by decide) dX6_simulate_27 rfl rfl rfl rfl ?_
    refine x_lload_n 31 1 dX6_simulate_30 rfl rfl ?_
    refine x_lstore 33 4 [(4, .long p0), (0, .ref b), (1, .long p0), (3, .int p1)] dX6_simulate_31 rfl (by decide) rfl ?_
    refine x_iconst 34 (0 : Int32) dX6_simulate_33 rfl (by decide) ?_
    refine x_istore 36 6 [(6, .int (0 : Int32)), (4, .long p0), (0, .ref b), (1, .long p0), (3, .int p1)] dX6_simulate_34 rfl (by decide) rfl ?_
    obtain ⟨s14, h31, hF⟩ := b1_inv hF
    have hJ : qX l G RX6 "simulate" cX6_simulate 7 (some .int) [] rmX6_simulate 1 6 (rIw σ n o) 1 6 s14 n 73 [(0, .ref b)] [] := by
      refine x_aload_n 74 0 dX6_simulate_73 rfl rfl ?_
      obtain ⟨r15, h16, hF⟩ := b1_inv hF
      refine x_getR 77 1 inX6 rfl (by decide) wd_151 h16 dX6_simulate_74 rfl ?_
      obtain ⟨v18, h17, hF⟩ := b1_inv hF
      obtain ⟨fs, hb⟩ : ∃ fs : List Value, True ∧ s14 r15 = some (.inr (2, fs)) := kX2_rightOfAll h17
      refine x_callV (As := []) (rest := []) 80 1 6 (mX2_rightOfAll hst r15 s14 n v18 h17) qyX2_rightOfAll wd_522 wd_523 wd_524 hb.2 rfl rfl rfl (by decide) (Nat.le_of_ble_eq_true rfl) (by decide) dX6_simulate_77 rfl rfl rfl rfl ?_
      refine x_aload_n 81 0 dX6_simulate_80 rfl rfl ?_
      obtain ⟨r19, h20, hF⟩ := b1_inv hF
      refine x_getR 84 0 inX6 rfl (by decide) wd_150 h20 dX6_simulate_81 rfl ?_
      obtain ⟨v22, h21, hF⟩ := b1_inv hF
      obtain ⟨fs, hb⟩ : ∃ fs : List Value, True ∧ s14 r19 = some (.inr (2, fs)) := kX2_rightOfAll h21
      refine x_callV (As := []) (rest := [.int v18]) 87 1 6 (mX2_rightOfAll hst r19 s14 n v22 h21) qyX2_rightOfAll wd_522 wd_523 wd_524 hb.2 rfl rfl rfl (by decide) (Nat.le_of_ble_eq_true rfl) (by decide) dX6_simulate_84 rfl rfl rfl rfl ?_
      refine x_isub 88 dX6_simulate_87 rfl ?_
      refine x_istore 90 6 [(6, .int (v18 - v22)), (0, .ref b)] dX6_simulate_88 rfl (by decide) rfl ?_
      refine x_sipush 93 (10000 : Int32) dX6_simulate_90 rfl (by decide) ?_
      refine x_aload_n 94 1 dX6_simulate_93 rfl rfl ?_
      obtain ⟨r23, h24, hF⟩ := b1_inv hF
      refine x_getR 97 1 inX6 rfl (by decide) wd_151 h24 dX6_simulate_94 rfl ?_
      obtain ⟨v26, h25, hF⟩ := b1_inv hF
      obtain ⟨fs, hb⟩ : ∃ fs : List Value, True ∧ s14 r23 = some (.inr (2, fs)) := kX2_count h25
      refine x_callV (As := []) (rest := [.int (10000 : Int32)]) 100 1 6 (mX2_count hst r23 s14 n v26 h25) qyX2_count wd_483 wd_484 wd_485 hb.2 rfl rfl rfl (by decide) (Nat.le_of_ble_eq_true rfl) (by decide) dX6_simulate_97 rfl rfl rfl rfl ?_
      refine x_imul 101 dX6_simulate_100 rfl ?_
      refine x_bipush 103 (100 : Int32) dX6_simulate_101 rfl (by decide) ?_
      refine x_aload_n 104 1 dX6_simulate_103 rfl rfl ?_
      obtain ⟨r27, h28, hF⟩ := b1_inv hF
      refine x_getR 107 1 inX6 rfl (by decide) wd_151 h28 dX6_simulate_104 rfl ?_
      obtain ⟨v30, h29, hF⟩ := b1_inv hF
      obtain ⟨fs, hb⟩ : ∃ fs : List Value, True ∧ s14 r27 = some (.inr (2, fs)) := kX2_trustOfAll h29
      refine x_callV (As := []) (rest := [.int (100 : Int32), .int ((10000 : Int32) * v26)]) 110 1 6 (mX2_trustOfAll hst r27 s14 n v30 h29) qyX2_trustOfAll wd_511 wd_512 wd_513 hb.2 rfl rfl rfl (by decide) (Nat.le_of_ble_eq_true rfl) (by decide) dX6_simulate_107 rfl rfl rfl rfl ?_
      refine x_imul 111 dX6_simulate_110 rfl ?_
      refine x_iadd 112 dX6_simulate_111 rfl ?_
      refine x_iload 114 0 dX6_simulate_112 rfl rfl ?_
      refine x_bipush 116 (100 : Int32) dX6_simulate_114 rfl (by decide) ?_
      refine x_irem 117 (by decide) dX6_simulate_116 rfl ?_
      refine x_iadd 118 dX6_simulate_117 rfl ?_
      cases hF
      exact x_iret rfl rfl (by decide) (by decide) dX6_simulate_118
    refine x_sub [(0, .ref b), (3, .int p1), (4, .long p0), (6, .int (0 : Int32))] [2, 4, 1, 0] rfl ?_
    exact mX6_simulate_L36 hst b p1 n _ qfuel p0 (0 : Int32) s9 s14 h31 hJ
  have hF := h32
  rcases ite_inv hF with ⟨hc, hF⟩ | ⟨hc, hF⟩
  · refine x_icmp_gt 15 5 dX6_simulate_2 (by decide) rfl (fun _ => ?_) (fun q => absurd hc q)
    refine x_iconst 16 (0 : Int32) dX6_simulate_15 rfl (by decide) ?_
    have e1 := Option.some.inj hF
    subst e1
    exact hJ
  · refine x_icmp_gt 15 5 dX6_simulate_2 (by decide) rfl (fun q => absurd q hc) (fun _ => ?_)
    refine x_iload_n 6 2 dX6_simulate_5 rfl rfl ?_
    refine x_bipush 8 (60 : Int32) dX6_simulate_6 rfl (by decide) ?_
    rcases ite_inv hF with ⟨hc, hF⟩ | ⟨hc, hF⟩
    · refine x_icmp_gt 15 11 dX6_simulate_8 (by decide) rfl (fun _ => ?_) (fun q => absurd hc q)
      refine x_iconst 16 (0 : Int32) dX6_simulate_15 rfl (by decide) ?_
      have e1 := Option.some.inj hF
      subst e1
      exact hJ
    · refine x_icmp_gt 15 11 dX6_simulate_8 (by decide) rfl (fun q => absurd q hc) (fun _ => ?_)
      refine x_iconst 12 (1 : Int32) dX6_simulate_11 rfl (by decide) ?_
      refine x_goto 16 dX6_simulate_12 (by decide) ?_
      have e1 := Option.some.inj hF
      subst e1
      exact hJ
def rmX6_needSlot : Room := { frames := 6, cells := 1, slots := 6, locals := 82 }
theorem qyX6_needSlot : qY yX6_needSlot cX6_needSlot 1 (none) 1 := ⟨wd_806, wd_17, by decide +kernel, by decide +kernel, by decide +kernel⟩
set_option maxHeartbeats 4000000 in
set_option maxRecDepth 100000 in
theorem mX6_needSlot {l : Launch} {G : qG} (hst : l.stackTraces = false) (p0 : Int32) (σ : qH) (n : Option Nat) (o : (Unit) ⊕ String) (hF : FX6_needSlot p0 σ = some o) : qM l G yX6_needSlot cX6_needSlot 1 (none) rmX6_needSlot [.int p0] σ n (rU σ n o) := by
  refine q_body (own := RX6) (nm := "needSlot") (ls := [(0, .int p0)]) hst (by decide +kernel) rfl rfl (Nat.le_of_ble_eq_true rfl) rfl rfl rfl ?_
  unfold FX6_needSlot at hF
  refine x_iload_n 1 0 dX6_needSlot_0 rfl rfl ?_
  rcases ite_inv hF with ⟨hc, hF⟩ | ⟨hc, hF⟩
  · refine x_if_lt 9 4 dX6_needSlot_1 (by decide) rfl (fun _ => ?_) (fun q => absurd hc q)
    cases hF
    exact x_throwSW (text := "no such save slot") (names := ["java/lang/RuntimeException", "java/lang/Exception"]) (by decide) (by decide) rfl wd_543 wd_30 (by decide) tw_313 tg_313 rfl dX6_needSlot_9 dX6_needSlot_12 dX6_needSlot_13 dX6_needSlot_16 dX6_needSlot_19 (by decide) (Nat.le_of_ble_eq_true rfl) (by decide) (by decide) rfl (by decide) (by decide)
  · refine x_if_lt 9 4 dX6_needSlot_1 (by decide) rfl (fun q => absurd q hc) (fun _ => ?_)
    refine x_iload_n 5 0 dX6_needSlot_4 rfl rfl ?_
    refine x_iconst 6 (2 : Int32) dX6_needSlot_5 rfl (by decide) ?_
    rcases ite_inv hF with ⟨hc, hF⟩ | ⟨hc, hF⟩
    · refine x_icmp_lt 20 9 dX6_needSlot_6 (by decide) rfl (fun _ => ?_) (fun q => absurd hc q)
      cases hF
      exact x_vret rfl rfl (by decide) (by decide) dX6_needSlot_20
    · refine x_icmp_lt 20 9 dX6_needSlot_6 (by decide) rfl (fun q => absurd q hc) (fun _ => ?_)
      cases hF
      exact x_throwSW (text := "no such save slot") (names := ["java/lang/RuntimeException", "java/lang/Exception"]) (by decide) (by decide) rfl wd_543 wd_30 (by decide) tw_313 tg_313 rfl dX6_needSlot_9 dX6_needSlot_12 dX6_needSlot_13 dX6_needSlot_16 dX6_needSlot_19 (by decide) (Nat.le_of_ble_eq_true rfl) (by decide) (by decide) rfl (by decide) (by decide)
def rmX6_save : Room := { frames := 7, cells := 1, slots := 6, locals := 102 }
theorem qyX6_save : qY yX6_save cX6_save 2 (some .int) 1 := ⟨wd_803, wd_17, by decide +kernel, by decide +kernel, by decide +kernel⟩
theorem kX6_save {b : Nat} {p0 : Int32} {σ : qH} {o : (Int32 × qH) ⊕ (String × qH)} (h : FX6_save b p0 σ = some o) : ∃ fs : List Value, True ∧ σ b = some (.inr (4, fs)) := by
  unfold FX6_save at h
  obtain ⟨_, h1, _⟩ := b1_inv h
  obtain ⟨fs, h2⟩ := gC_inv h1
  exact ⟨fs, trivial, h2⟩
set_option maxHeartbeats 4000000 in
set_option maxRecDepth 100000 in
theorem mX6_save {l : Launch} {G : qG} (hst : l.stackTraces = false) (b : Nat) (p0 : Int32) (σ : qH) (n : Option Nat) (o : (Int32 × qH) ⊕ (String × qH)) (hF : FX6_save b p0 σ = some o) : qM l G yX6_save cX6_save 2 (some .int) rmX6_save [.ref b, .int p0] σ n (rIw σ n o) := by
  refine q_body (own := RX6) (nm := "save") (ls := [(0, .ref b), (1, .int p0)]) hst (by decide +kernel) rfl rfl (Nat.le_of_ble_eq_true rfl) rfl rfl rfl ?_
  unfold FX6_save at hF
  obtain ⟨_, hC, hF⟩ := b1_inv hF
  refine x_iload_n 1 1 dX6_save_0 rfl rfl ?_
  rcases bxw_inv hF with ⟨u, h1, hF⟩ | ⟨e2, h1, rfl⟩
  rotate_left
  · skip
    exact x_callSX (As := [.int p0]) (rest := []) (mX6_needSlot hst p0 σ n (.inr e2) h1) qyX6_needSlot wd_804 wd_805 rfl rfl (by decide) (Nat.le_of_ble_eq_true rfl) (by decide) dX6_save_1 rfl rfl (by decide) (by decide)
  refine x_callS (As := [.int p0]) (rest := []) 4 1 6 (mX6_needSlot hst p0 σ n (.inl u) h1) qyX6_needSlot wd_804 wd_805 rfl rfl (by decide) (Nat.le_of_ble_eq_true rfl) (by decide) dX6_save_1 rfl rfl rfl rfl ?_
  refine x_aload_n 5 0 dX6_save_4 rfl rfl ?_
  obtain ⟨r3, h4, hF⟩ := b1_inv hF
  refine x_getR 8 2 inX6 rfl (by decide) wd_152 h4 dX6_save_5 rfl ?_
  refine x_iload_n 9 1 dX6_save_8 rfl rfl ?_
  obtain ⟨r5, h6, hF⟩ := b1_inv hF
  refine x_aQ 10 h6 dX6_save_9 rfl ?_
  refine x_aload_n 11 0 dX6_save_10 rfl rfl ?_
  obtain ⟨r7, h8, hF⟩ := b1_inv hF
  refine x_getR 14 0 inX6 rfl (by decide) wd_150 h8 dX6_save_11 rfl ?_
  obtain ⟨s10, h9, hF⟩ := b1_inv hF
  obtain ⟨fs, hb⟩ : ∃ fs : List Value, True ∧ σ r5 = some (.inr (2, fs)) := kX2_takeFrom h9
  refine x_callV (As := [.ref r7]) (rest := []) 17 1 6 (mX2_takeFrom hst r5 r7 σ n s10 h9) qyX2_takeFrom wd_792 wd_694 wd_695 hb.2 rfl rfl rfl (by decide) (Nat.le_of_ble_eq_true rfl) (by decide) dX6_save_14 rfl rfl rfl rfl ?_
  refine x_aload_n 18 0 dX6_save_17 rfl rfl ?_
  obtain ⟨r11, h12, hF⟩ := b1_inv hF
  refine x_getR 21 3 inX6 rfl (by decide) wd_153 h12 dX6_save_18 rfl ?_
  refine x_iload_n 22 1 dX6_save_21 rfl rfl ?_
  refine x_iconst 23 (1 : Int32) dX6_save_22 rfl (by decide) ?_
  obtain ⟨s13, h14, hF⟩ := b1_inv hF
  refine x_sZ 24 h14 dX6_save_23 rfl ?_
  refine x_aload_n 25 0 dX6_save_24 rfl rfl ?_
  obtain ⟨r15, h16, hF⟩ := b1_inv hF
  refine x_getR 28 0 inX6 rfl (by decide) wd_150 h16 dX6_save_25 rfl ?_
  obtain ⟨v18, h17, hF⟩ := b1_inv hF
  obtain ⟨fs, hb⟩ : ∃ fs : List Value, True ∧ s13 r15 = some (.inr (2, fs)) := kX2_count h17
  refine x_callV (As := []) (rest := []) 31 1 6 (mX2_count hst r15 s13 n v18 h17) qyX2_count wd_483 wd_484 wd_485 hb.2 rfl rfl rfl (by decide) (Nat.le_of_ble_eq_true rfl) (by decide) dX6_save_28 rfl rfl rfl rfl ?_
  cases hF
  exact x_iret rfl rfl (by decide) (by decide) dX6_save_31
def rmX6_restore : Room := { frames := 7, cells := 2, slots := 12, locals := 102 }
theorem qyX6_restore : qY yX6_restore cX6_restore 2 (some .int) 1 := ⟨wd_814, wd_17, by decide +kernel, by decide +kernel, by decide +kernel⟩
theorem kX6_restore {b : Nat} {p0 : Int32} {σ : qH} {o : (Int32 × qH) ⊕ (String × qH)} (h : FX6_restore b p0 σ = some o) : ∃ fs : List Value, True ∧ σ b = some (.inr (4, fs)) := by
  unfold FX6_restore at h
  obtain ⟨_, h1, _⟩ := b1_inv h
  obtain ⟨fs, h2⟩ := gC_inv h1
  exact ⟨fs, trivial, h2⟩
set_option maxHeartbeats 4000000 in
set_option maxRecDepth 100000 in
theorem mX6_restore {l : Launch} {G : qG} (hst : l.stackTraces = false) (b : Nat) (p0 : Int32) (σ : qH) (n : Option Nat) (o : (Int32 × qH) ⊕ (String × qH)) (hF : FX6_restore b p0 σ = some o) : qM l G yX6_restore cX6_restore 2 (some .int) rmX6_restore [.ref b, .int p0] σ n (rIw σ n o) := by
  refine q_body (own := RX6) (nm := "restore") (ls := [(0, .ref b), (1, .int p0)]) hst (by decide +kernel) rfl rfl (Nat.le_of_ble_eq_true rfl) rfl rfl rfl ?_
  unfold FX6_restore at hF
  obtain ⟨_, hC, hF⟩ := b1_inv hF
  refine x_iload_n 1 1 dX6_restore_0 rfl rfl ?_
  rcases bxw_inv hF with ⟨u, h1, hF⟩ | ⟨e2, h1, rfl⟩
  rotate_left
  · skip
    exact x_callSX (As := [.int p0]) (rest := []) (mX6_needSlot hst p0 σ n (.inr e2) h1) qyX6_needSlot wd_804 wd_805 rfl rfl (by decide) (Nat.le_of_ble_eq_true rfl) (by decide) dX6_restore_1 rfl rfl (by decide) (by decide)
  refine x_callS (As := [.int p0]) (rest := []) 4 1 6 (mX6_needSlot hst p0 σ n (.inl u) h1) qyX6_needSlot wd_804 wd_805 rfl rfl (by decide) (Nat.le_of_ble_eq_true rfl) (by decide) dX6_restore_1 rfl rfl rfl rfl ?_
  refine x_aload_n 5 0 dX6_restore_4 rfl rfl ?_
  obtain ⟨r3, h4, hF⟩ := b1_inv hF
  refine x_getR 8 3 inX6 rfl (by decide) wd_153 h4 dX6_restore_5 rfl ?_
  refine x_iload_n 9 1 dX6_restore_8 rfl rfl ?_
  obtain ⟨v5, h6, hF⟩ := b1_inv hF
  refine x_aZ 10 h6 dX6_restore_9 rfl ?_
  rcases ite_inv hF with ⟨hc, hF⟩ | ⟨hc, hF⟩
  · refine x_if_ne 24 13 dX6_restore_10 (by decide) rfl (fun q => absurd hc q) (fun _ => ?_)
    cases hF
    exact x_throwSW (text := "nothing is saved in this slot") (names := ["java/lang/RuntimeException", "java/lang/Exception"]) (by decide) (by decide) rfl wd_267 wd_27 (by decide) tw_60 tg_60 rfl dX6_restore_13 dX6_restore_16 dX6_restore_17 dX6_restore_20 dX6_restore_23 (by decide) (Nat.le_of_ble_eq_true rfl) (by decide) (by decide) rfl (by decide) (by decide)
  · refine x_if_ne 24 13 dX6_restore_10 (by decide) rfl (fun _ => ?_) (fun q => absurd q hc)
    refine x_aload_n 25 0 dX6_restore_24 rfl rfl ?_
    obtain ⟨r7, h8, hF⟩ := b1_inv hF
    refine x_getR 28 0 inX6 rfl (by decide) wd_150 h8 dX6_restore_25 rfl ?_
    refine x_aload_n 29 0 dX6_restore_28 rfl rfl ?_
    obtain ⟨r9, h10, hF⟩ := b1_inv hF
    refine x_getR 32 2 inX6 rfl (by decide) wd_152 h10 dX6_restore_29 rfl ?_
    refine x_iload_n 33 1 dX6_restore_32 rfl rfl ?_
    obtain ⟨r11, h12, hF⟩ := b1_inv hF
    refine x_aQ 34 h12 dX6_restore_33 rfl ?_
    obtain ⟨s14, h13, hF⟩ := b1_inv hF
    obtain ⟨fs, hb⟩ : ∃ fs : List Value, True ∧ σ r7 = some (.inr (2, fs)) := kX2_takeFrom h13
    refine x_callV (As := [.ref r11]) (rest := []) 37 1 6 (mX2_takeFrom hst r7 r11 σ n s14 h13) qyX2_takeFrom wd_792 wd_694 wd_695 hb.2 rfl rfl rfl (by decide) (Nat.le_of_ble_eq_true rfl) (by decide) dX6_restore_34 rfl rfl rfl rfl ?_
    refine x_aload_n 38 0 dX6_restore_37 rfl rfl ?_
    obtain ⟨r15, h16, hF⟩ := b1_inv hF
    refine x_getR 41 4 inX6 rfl (by decide) wd_154 h16 dX6_restore_38 rfl ?_
    obtain ⟨s18, h17, hF⟩ := b1_inv hF
    obtain ⟨fs, hb⟩ : ∃ fs : List Value, True ∧ s14 r15 = some (.inr (1, fs)) := kX1_forget h17
    refine x_callV (As := []) (rest := []) 44 1 6 (mX1_forget hst r15 s14 n s18 h17) qyX1_forget wd_339 wd_340 wd_341 hb.2 rfl rfl rfl (by decide) (Nat.le_of_ble_eq_true rfl) (by decide) dX6_restore_41 rfl rfl rfl rfl ?_
    refine x_aload_n 45 0 dX6_restore_44 rfl rfl ?_
    obtain ⟨r19, h20, hF⟩ := b1_inv hF
    refine x_getR 48 0 inX6 rfl (by decide) wd_150 h20 dX6_restore_45 rfl ?_
    obtain ⟨v22, h21, hF⟩ := b1_inv hF
    obtain ⟨fs, hb⟩ : ∃ fs : List Value, True ∧ s18 r19 = some (.inr (2, fs)) := kX2_count h21
    refine x_callV (As := []) (rest := []) 51 1 6 (mX2_count hst r19 s18 n v22 h21) qyX2_count wd_483 wd_484 wd_485 hb.2 rfl rfl rfl (by decide) (Nat.le_of_ble_eq_true rfl) (by decide) dX6_restore_48 rfl rfl rfl rfl ?_
    cases hF
    exact x_iret rfl rfl (by decide) (by decide) dX6_restore_51
