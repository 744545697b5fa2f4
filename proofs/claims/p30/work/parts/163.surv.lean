def rmL_surveys : Room := { frames := 10, cells := 176, slots := 1056, locals := 207 }
theorem qyL_surveys : qY yL_surveys cL_surveys 16 (some .boolean) 3 := ⟨wd_920, wd_16, by decide +kernel, by decide +kernel, by decide +kernel⟩
set_option maxHeartbeats 8000000 in
set_option maxRecDepth 100000 in
theorem mL_surveys_L224 {l : Launch} {G : qG} (hst : l.stackTraces = false) (a0 : Nat) (a1 : Nat) (a3 : Int32) (a6 : Int32) (a8 : Int32) (a9 : Int32) (a10 : Int32) (a11 : Int32) (r : qR) (KK JJ : Nat) (gK : KK ≤ 176) (gL : JJ ≤ 1056) : ∀ (q k j : Nat) (y12 : Int32) (y13 : Int32) (σ : qH) (o12 : Int32) (so : qH), k + 6 * q ≤ KK → j + 36 * q ≤ JJ → FL_surveys_L224 (G.2.2.2.1) a0 a1 a3 a6 a8 a9 a10 a11 q y12 y13 σ = some (o12, so) → qX l G RL "surveys" cL_surveys 16 (some .boolean) [] rmL_surveys 176 1056 r KK JJ so none 291 [(0, .ref a0), (1, .ref a1), (3, .int a3), (6, .int a6), (8, .int a8), (9, .int a9), (10, .int a10), (11, .int a11), (12, .int o12)] [] → qX l G RL "surveys" cL_surveys 16 (some .boolean) [] rmL_surveys 176 1056 r k j σ none 224 [(0, .ref a0), (1, .ref a1), (3, .int a3), (6, .int a6), (8, .int a8), (9, .int a9), (10, .int a10), (11, .int a11), (12, .int y12), (13, .int y13)] [] := by
  intro q
  induction q with
  | zero => intro k j y12 y13 σ o12 so gk gj hF; rw [FL_surveys_L224] at hF; cases hF
  | succ q ih =>
    intro k j y12 y13 σ o12 so gk gj hF hJ
    rw [FL_surveys_L224] at hF
    refine x_iload 226 9 dL_surveys_224 rfl rfl ?_
    refine x_iload 228 3 dL_surveys_226 rfl rfl ?_
    rcases ite_inv hF with ⟨hc, hF⟩ | ⟨hc, hF⟩
    · refine x_icmp_ge 291 231 dL_surveys_228 (by decide) rfl (fun _ => ?_) (fun q => absurd hc q)
      obtain ⟨e1, e2⟩ := so2 hF
      subst e1
      subst e2
      refine x_wide KK JJ (by omega) (by omega) ?_
      refine x_sub [(0, .ref a0), (1, .ref a1), (3, .int a3), (6, .int a6), (8, .int a8), (9, .int a9), (10, .int a10), (11, .int a11), (12, .int y12)] [0, 1, 2, 3, 4, 5, 6, 7, 8] rfl ?_
      exact hJ
    · refine x_icmp_ge 291 231 dL_surveys_228 (by decide) rfl (fun q => absurd q hc) (fun _ => ?_)
      refine x_iload 233 8 dL_surveys_231 rfl rfl ?_
      refine x_aload_n 234 0 dL_surveys_233 rfl rfl ?_
      refine x_iconst 235 (3 : Int32) dL_surveys_234 rfl (by decide) ?_
      refine x_iload 237 9 dL_surveys_235 rfl rfl ?_
      refine x_iconst 238 (0 : Int32) dL_surveys_237 rfl (by decide) ?_
      refine x_iconst 239 (0 : Int32) dL_surveys_238 rfl (by decide) ?_
      obtain ⟨v52, s53, h51, hF⟩ := b2_inv hF
      refine x_callS (As := [.ref a0, .int (3 : Int32), .int y13, .int (0 : Int32), .int (0 : Int32)]) (rest := [.int y12]) 242 (k + 2) (j + 12) (mL_call hst a0 (3 : Int32) y13 (0 : Int32) (0 : Int32) σ none v52 s53 h51) qyL_call wd_180 wd_181 rfl rfl (by decide) (Nat.le_of_ble_eq_true rfl) ⟨by show k + 2 ≤ 176; omega, by show j + 12 ≤ 1056; omega⟩ dL_surveys_239 rfl rfl rfl rfl ?_
      refine x_iload 244 5 dL_surveys_242 rfl rfl ?_
      obtain ⟨x54, s55, h62, hF⟩ := b2_inv hF
      have hJ : qX l G RL "surveys" cL_surveys 16 (some .boolean) [] rmL_surveys 176 1056 r (k + 6) (j + 36) s55 none 282 [(0, .ref a0), (1, .ref a1), (3, .int a3), (6, .int a6), (8, .int a8), (9, .int a9), (10, .int a10), (11, .int a11), (13, .int y13)] [.int x54, .int y12] := by
        refine x_iadd 283 dL_surveys_282 rfl ?_
        refine x_istore 285 12 [(12, .int (y12 + x54)), (0, .ref a0), (1, .ref a1), (3, .int a3), (6, .int a6), (8, .int a8), (9, .int a9), (10, .int a10), (11, .int a11), (13, .int y13)] dL_surveys_283 rfl (by decide) rfl ?_
        refine x_iinc 288 13 9 (y13 + (1 : Int32)) [(13, .int (y13 + (1 : Int32))), (12, .int (y12 + x54)), (0, .ref a0), (1, .ref a1), (3, .int a3), (6, .int a6), (8, .int a8), (9, .int a9), (10, .int a10), (11, .int a11)] dL_surveys_285 rfl rfl rfl (by decide) rfl ?_
        refine x_goto 224 dL_surveys_288 (by decide) ?_
        refine x_sub [(0, .ref a0), (1, .ref a1), (3, .int a3), (6, .int a6), (8, .int a8), (9, .int a9), (10, .int a10), (11, .int a11), (12, .int (y12 + x54)), (13, .int (y13 + (1 : Int32)))] [2, 3, 4, 5, 6, 7, 8, 9, 1, 0] rfl ?_
        exact ih (k + 6) (j + 36) _ _ _ _ _ (by omega) (by omega) hF hJ
      have hF := h62
      rcases ite_inv hF with ⟨hc, hF⟩ | ⟨hc, hF⟩
      · refine x_icmp_ne 281 247 dL_surveys_244 (by decide) rfl (fun q => absurd hc q) (fun _ => ?_)
        refine x_aload_n 248 0 dL_surveys_247 rfl rfl ?_
        refine x_iconst 249 (3 : Int32) dL_surveys_248 rfl (by decide) ?_
        refine x_iload 251 9 dL_surveys_249 rfl rfl ?_
        refine x_bipush 253 (7 : Int32) dL_surveys_251 rfl (by decide) ?_
        refine x_iconst 254 (0 : Int32) dL_surveys_253 rfl (by decide) ?_
        obtain ⟨v57, s58, h56, hF⟩ := b2_inv hF
        refine x_callS (As := [.ref a0, .int (3 : Int32), .int y13, .int (7 : Int32), .int (0 : Int32)]) (rest := [.int y12]) 257 (k + 4) (j + 24) (mL_call hst a0 (3 : Int32) y13 (7 : Int32) (0 : Int32) s53 none v57 s58 h56) qyL_call wd_180 wd_181 rfl rfl (by decide) (Nat.le_of_ble_eq_true rfl) ⟨by show (k + 2) + 2 ≤ 176; omega, by show (j + 12) + 12 ≤ 1056; omega⟩ dL_surveys_254 rfl rfl rfl rfl ?_
        refine x_iload 259 6 dL_surveys_257 rfl rfl ?_
        rcases ite_inv hF with ⟨hc, hF⟩ | ⟨hc, hF⟩
        · refine x_icmp_gt 281 262 dL_surveys_259 (by decide) rfl (fun _ => ?_) (fun q => absurd hc q)
          refine x_iconst 282 (0 : Int32) dL_surveys_281 rfl (by decide) ?_
          obtain ⟨e1, e2⟩ := so2 hF
          subst e1
          subst e2
          refine x_wide (k + 6) (j + 36) (by omega) (by omega) ?_
          refine x_sub [(0, .ref a0), (1, .ref a1), (3, .int a3), (6, .int a6), (8, .int a8), (9, .int a9), (10, .int a10), (11, .int a11), (13, .int y13)] [0, 1, 2, 3, 4, 5, 6, 7, 9] rfl ?_
          exact hJ
        · refine x_icmp_gt 281 262 dL_surveys_259 (by decide) rfl (fun q => absurd q hc) (fun _ => ?_)
          refine x_iload 264 6 dL_surveys_262 rfl rfl ?_
          refine x_aload_n 265 0 dL_surveys_264 rfl rfl ?_
          refine x_iconst 266 (3 : Int32) dL_surveys_265 rfl (by decide) ?_
          refine x_iload 268 9 dL_surveys_266 rfl rfl ?_
          refine x_bipush 270 (8 : Int32) dL_surveys_268 rfl (by decide) ?_
          refine x_iconst 271 (0 : Int32) dL_surveys_270 rfl (by decide) ?_
          obtain ⟨v60, s61, h59, hF⟩ := b2_inv hF
          refine x_callS (As := [.ref a0, .int (3 : Int32), .int y13, .int (8 : Int32), .int (0 : Int32)]) (rest := [.int a10, .int y12]) 274 (k + 6) (j + 36) (mL_call hst a0 (3 : Int32) y13 (8 : Int32) (0 : Int32) s58 none v60 s61 h59) qyL_call wd_180 wd_181 rfl rfl (by decide) (Nat.le_of_ble_eq_true rfl) ⟨by show (k + 4) + 2 ≤ 176; omega, by show (j + 24) + 12 ≤ 1056; omega⟩ dL_surveys_271 rfl rfl rfl rfl ?_
          rcases ite_inv hF with ⟨hc, hF⟩ | ⟨hc, hF⟩
          · refine x_icmp_gt 281 277 dL_surveys_274 (by decide) rfl (fun _ => ?_) (fun q => absurd hc q)
            refine x_iconst 282 (0 : Int32) dL_surveys_281 rfl (by decide) ?_
            obtain ⟨e1, e2⟩ := so2 hF
            subst e1
            subst e2
            refine x_sub [(0, .ref a0), (1, .ref a1), (3, .int a3), (6, .int a6), (8, .int a8), (9, .int a9), (10, .int a10), (11, .int a11), (13, .int y13)] [0, 1, 2, 3, 4, 5, 6, 7, 9] rfl ?_
            exact hJ
          · refine x_icmp_gt 281 277 dL_surveys_274 (by decide) rfl (fun q => absurd q hc) (fun _ => ?_)
            refine x_iconst 278 (1 : Int32) dL_surveys_277 rfl (by decide) ?_
            refine x_goto 282 dL_surveys_278 (by decide) ?_
            obtain ⟨e1, e2⟩ := so2 hF
            subst e1
            subst e2
            refine x_sub [(0, .ref a0), (1, .ref a1), (3, .int a3), (6, .int a6), (8, .int a8), (9, .int a9), (10, .int a10), (11, .int a11), (13, .int y13)] [0, 1, 2, 3, 4, 5, 6, 7, 9] rfl ?_
            exact hJ
      · refine x_icmp_ne 281 247 dL_surveys_244 (by decide) rfl (fun _ => ?_) (fun q => absurd q hc)
        refine x_iconst 282 (0 : Int32) dL_surveys_281 rfl (by decide) ?_
        obtain ⟨e1, e2⟩ := so2 hF
        subst e1
        subst e2
        refine x_wide (k + 6) (j + 36) (by omega) (by omega) ?_
        refine x_sub [(0, .ref a0), (1, .ref a1), (3, .int a3), (6, .int a6), (8, .int a8), (9, .int a9), (10, .int a10), (11, .int a11), (13, .int y13)] [0, 1, 2, 3, 4, 5, 6, 7, 9] rfl ?_
        exact hJ
set_option maxHeartbeats 4000000 in
set_option maxRecDepth 100000 in
theorem mL_surveys {l : Launch} {G : qG} (hst : l.stackTraces = false) (p0 : Nat) (p1 : Nat) (p2 : Int32) (σ : qH) (n : Option Nat) (ro : Int32) (so : qH) (hF : FL_surveys (G.2.2.2.1) p0 p1 p2 σ = some (ro, so)) : qM l G yL_surveys cL_surveys 16 (some .boolean) rmL_surveys [.ref p0, .ref p1, .int p2] σ n (.inl (some (.int ro), so, none)) := by
  refine q_body (own := RL) (nm := "surveys") (ls := [(0, .ref p0), (1, .ref p1), (2, .int p2)]) hst (by decide +kernel) rfl rfl (Nat.le_of_ble_eq_true rfl) rfl rfl rfl ?_
  unfold FL_surveys at hF
  refine x_anyn ?_
  refine x_aload_n 1 0 dL_surveys_0 rfl rfl ?_
  refine x_iconst 2 (2 : Int32) dL_surveys_1 rfl (by decide) ?_
  refine x_bipush 4 (6 : Int32) dL_surveys_2 rfl (by decide) ?_
  refine x_iconst 5 (0 : Int32) dL_surveys_4 rfl (by decide) ?_
  refine x_iconst 6 (0 : Int32) dL_surveys_5 rfl (by decide) ?_
  obtain ⟨v2, s3, h1, hF⟩ := b2_inv hF
  refine x_callS (As := [.ref p0, .int (2 : Int32), .int (6 : Int32), .int (0 : Int32), .int (0 : Int32)]) (rest := []) 9 2 12 (mL_call hst p0 (2 : Int32) (6 : Int32) (0 : Int32) (0 : Int32) σ none v2 s3 h1) qyL_call wd_180 wd_181 rfl rfl (by decide) (Nat.le_of_ble_eq_true rfl) ⟨Nat.le_of_ble_eq_true rfl, Nat.le_of_ble_eq_true rfl⟩ dL_surveys_6 rfl rfl rfl rfl ?_
  refine x_istore_n 10 3 [(3, .int v2), (0, .ref p0), (1, .ref p1), (2, .int p2)] dL_surveys_9 rfl rfl (by decide) rfl ?_
  refine x_aload_n 11 1 dL_surveys_10 rfl rfl ?_
  refine x_iconst 12 (2 : Int32) dL_surveys_11 rfl (by decide) ?_
  refine x_bipush 14 (7 : Int32) dL_surveys_12 rfl (by decide) ?_
  refine x_iconst 15 (0 : Int32) dL_surveys_14 rfl (by decide) ?_
  refine x_iconst 16 (0 : Int32) dL_surveys_15 rfl (by decide) ?_
  obtain ⟨v5, s6, h4, hF⟩ := b2_inv hF
  refine x_callS (As := [.ref p0, .int (2 : Int32), .int (7 : Int32), .int (0 : Int32), .int (0 : Int32)]) (rest := []) 19 4 24 (mL_call hst p0 (2 : Int32) (7 : Int32) (0 : Int32) (0 : Int32) s3 none v5 s6 h4) qyL_call wd_180 wd_181 rfl rfl (by decide) (Nat.le_of_ble_eq_true rfl) ⟨Nat.le_of_ble_eq_true rfl, Nat.le_of_ble_eq_true rfl⟩ dL_surveys_16 rfl rfl rfl rfl ?_
  refine x_istore 21 4 [(4, .int v5), (3, .int v2), (0, .ref p0), (1, .ref p1), (2, .int p2)] dL_surveys_19 rfl (by decide) rfl ?_
  refine x_aload_n 22 2 dL_surveys_21 rfl rfl ?_
  refine x_iconst 23 (2 : Int32) dL_surveys_22 rfl (by decide) ?_
  refine x_iconst 24 (5 : Int32) dL_surveys_23 rfl (by decide) ?_
  refine x_iconst 25 (0 : Int32) dL_surveys_24 rfl (by decide) ?_
  refine x_iconst 26 (0 : Int32) dL_surveys_25 rfl (by decide) ?_
  obtain ⟨v8, s9, h7, hF⟩ := b2_inv hF
  refine x_callS (As := [.ref p0, .int (2 : Int32), .int (5 : Int32), .int (0 : Int32), .int (0 : Int32)]) (rest := []) 29 6 36 (mL_call hst p0 (2 : Int32) (5 : Int32) (0 : Int32) (0 : Int32) s6 none v8 s9 h7) qyL_call wd_180 wd_181 rfl rfl (by decide) (Nat.le_of_ble_eq_true rfl) ⟨Nat.le_of_ble_eq_true rfl, Nat.le_of_ble_eq_true rfl⟩ dL_surveys_26 rfl rfl rfl rfl ?_
  refine x_istore 31 5 [(5, .int v8), (4, .int v5), (3, .int v2), (0, .ref p0), (1, .ref p1), (2, .int p2)] dL_surveys_29 rfl (by decide) rfl ?_
  refine x_aload_n 32 3 dL_surveys_31 rfl rfl ?_
  refine x_iconst 33 (2 : Int32) dL_surveys_32 rfl (by decide) ?_
  refine x_iconst 34 (0 : Int32) dL_surveys_33 rfl (by decide) ?_
  refine x_iconst 35 (0 : Int32) dL_surveys_34 rfl (by decide) ?_
  refine x_iconst 36 (0 : Int32) dL_surveys_35 rfl (by decide) ?_
  obtain ⟨v11, s12, h10, hF⟩ := b2_inv hF
  refine x_callS (As := [.ref p0, .int (2 : Int32), .int (0 : Int32), .int (0 : Int32), .int (0 : Int32)]) (rest := []) 39 8 48 (mL_call hst p0 (2 : Int32) (0 : Int32) (0 : Int32) (0 : Int32) s9 none v11 s12 h10) qyL_call wd_180 wd_181 rfl rfl (by decide) (Nat.le_of_ble_eq_true rfl) ⟨Nat.le_of_ble_eq_true rfl, Nat.le_of_ble_eq_true rfl⟩ dL_surveys_36 rfl rfl rfl rfl ?_
  refine x_istore 41 6 [(6, .int v11), (5, .int v8), (4, .int v5), (3, .int v2), (0, .ref p0), (1, .ref p1), (2, .int p2)] dL_surveys_39 rfl (by decide) rfl ?_
  refine x_aload_n 42 4 dL_surveys_41 rfl rfl ?_
  obtain ⟨v14, s15, h13, hF⟩ := b2_inv hF
  obtain ⟨fs, hb⟩ : ∃ fs : List Value, True ∧ s12 p0 = some (.inr (4, fs)) := kX6_evening h13
  refine x_callV (As := []) (rest := []) 45 8 48 (mX6_evening hst p0 s12 none v14 s15 h13) qyX6_evening wd_911 wd_912 wd_913 hb.2 rfl rfl rfl (by decide) (Nat.le_of_ble_eq_true rfl) ⟨Nat.le_of_ble_eq_true rfl, Nat.le_of_ble_eq_true rfl⟩ dL_surveys_42 rfl rfl rfl rfl ?_
  refine x_istore 47 7 [(7, .int v14), (6, .int v11), (5, .int v8), (4, .int v5), (3, .int v2), (0, .ref p0), (1, .ref p1), (2, .int p2)] dL_surveys_45 rfl (by decide) rfl ?_
  refine x_aload_n 48 6 dL_surveys_47 rfl rfl ?_
  obtain ⟨v17, s18, h16, hF⟩ := b2_inv hF
  obtain ⟨fs, hb⟩ : ∃ fs : List Value, True ∧ s15 p1 = some (.inr (4, fs)) := kX6_evening h16
  refine x_callV (As := []) (rest := []) 51 8 48 (mX6_evening hst p1 s15 none v17 s18 h16) qyX6_evening wd_911 wd_912 wd_913 hb.2 rfl rfl rfl (by decide) (Nat.le_of_ble_eq_true rfl) ⟨Nat.le_of_ble_eq_true rfl, Nat.le_of_ble_eq_true rfl⟩ dL_surveys_48 rfl rfl rfl rfl ?_
  refine x_iload 53 0 dL_surveys_51 rfl rfl ?_
  obtain ⟨x19, s20, h125, hF⟩ := b2_inv hF
  have hJ : qX l G RL "surveys" cL_surveys 16 (some .boolean) [] rmL_surveys 176 1056 (.inl (some (.int ro), so, none)) 20 120 s20 none 162 [(0, .ref p0), (1, .ref p1), (2, .int p2), (3, .int v2), (6, .int v11)] [.int x19] := by
    refine x_istore 164 8 [(8, .int x19), (0, .ref p0), (1, .ref p1), (2, .int p2), (3, .int v2), (6, .int v11)] dL_surveys_162 rfl (by decide) rfl ?_
    refine x_iload_n 165 3 dL_surveys_164 rfl rfl ?_
    refine x_iconst 166 (3 : Int32) dL_surveys_165 rfl (by decide) ?_
    refine x_irem 167 (by decide) dL_surveys_166 rfl ?_
    refine x_istore 169 9 [(9, .int (irm p2 (3 : Int32))), (8, .int x19), (0, .ref p0), (1, .ref p1), (2, .int p2), (3, .int v2), (6, .int v11)] dL_surveys_167 rfl (by decide) rfl ?_
    refine x_iload_n 170 4 dL_surveys_169 rfl rfl ?_
    refine x_iconst 171 (3 : Int32) dL_surveys_170 rfl (by decide) ?_
    refine x_idiv 172 (by decide) dL_surveys_171 rfl ?_
    refine x_iconst 173 (3 : Int32) dL_surveys_172 rfl (by decide) ?_
    refine x_irem 174 (by decide) dL_surveys_173 rfl ?_
    obtain ⟨x43, s44, h124, hF⟩ := b2_inv hF
    have hJ : qX l G RL "surveys" cL_surveys 16 (some .boolean) [] rmL_surveys 176 1056 (.inl (some (.int ro), so, none)) 22 132 s44 none 205 [(0, .ref p0), (1, .ref p1), (3, .int v2), (6, .int v11), (8, .int x19), (9, .int (irm p2 (3 : Int32)))] [.int x43] := by
      refine x_istore 207 10 [(10, .int x43), (0, .ref p0), (1, .ref p1), (3, .int v2), (6, .int v11), (8, .int x19), (9, .int (irm p2 (3 : Int32)))] dL_surveys_205 rfl (by decide) rfl ?_
      refine x_aload_n 208 1 dL_surveys_207 rfl rfl ?_
      refine x_iconst 209 (5 : Int32) dL_surveys_208 rfl (by decide) ?_
      refine x_iload 211 6 dL_surveys_209 rfl rfl ?_
      refine x_iconst 212 (0 : Int32) dL_surveys_211 rfl (by decide) ?_
      refine x_iconst 213 (0 : Int32) dL_surveys_212 rfl (by decide) ?_
      obtain ⟨v49, s50, h48, hF⟩ := b2_inv hF
      refine x_callS (As := [.ref p0, .int (5 : Int32), .int (irm p2 (3 : Int32)), .int (0 : Int32), .int (0 : Int32)]) (rest := []) 216 24 144 (mL_call hst p0 (5 : Int32) (irm p2 (3 : Int32)) (0 : Int32) (0 : Int32) s44 none v49 s50 h48) qyL_call wd_180 wd_181 rfl rfl (by decide) (Nat.le_of_ble_eq_true rfl) ⟨Nat.le_of_ble_eq_true rfl, Nat.le_of_ble_eq_true rfl⟩ dL_surveys_213 rfl rfl rfl rfl ?_
      refine x_istore 218 11 [(11, .int v49), (10, .int x43), (0, .ref p0), (1, .ref p1), (3, .int v2), (6, .int v11), (8, .int x19), (9, .int (irm p2 (3 : Int32)))] dL_surveys_216 rfl (by decide) rfl ?_
      refine x_iconst 219 (0 : Int32) dL_surveys_218 rfl (by decide) ?_
      refine x_istore 221 12 [(12, .int (0 : Int32)), (11, .int v49), (10, .int x43), (0, .ref p0), (1, .ref p1), (3, .int v2), (6, .int v11), (8, .int x19), (9, .int (irm p2 (3 : Int32)))] dL_surveys_219 rfl (by decide) rfl ?_
      refine x_iconst 222 (0 : Int32) dL_surveys_221 rfl (by decide) ?_
      refine x_istore 224 13 [(13, .int (0 : Int32)), (12, .int (0 : Int32)), (11, .int v49), (10, .int x43), (0, .ref p0), (1, .ref p1), (3, .int v2), (6, .int v11), (8, .int x19), (9, .int (irm p2 (3 : Int32)))] dL_surveys_222 rfl (by decide) rfl ?_
      obtain ⟨x63, s64, h123, hF⟩ := b2_inv hF
      have hJ : qX l G RL "surveys" cL_surveys 16 (some .boolean) [] rmL_surveys 176 1056 (.inl (some (.int ro), so, none)) 144 864 s64 none 291 [(0, .ref p0), (1, .ref p1), (3, .int v2), (6, .int v11), (8, .int x19), (9, .int (irm p2 (3 : Int32))), (10, .int x43), (11, .int v49), (12, .int x63)] [] := by
        refine x_aload_n 292 0 dL_surveys_291 rfl rfl ?_
        refine x_iconst 293 (2 : Int32) dL_surveys_292 rfl (by decide) ?_
        refine x_bipush 295 (8 : Int32) dL_surveys_293 rfl (by decide) ?_
        refine x_iconst 296 (0 : Int32) dL_surveys_295 rfl (by decide) ?_
        refine x_iconst 297 (0 : Int32) dL_surveys_296 rfl (by decide) ?_
        obtain ⟨v66, s67, h65, hF⟩ := b2_inv hF
        refine x_callS (As := [.ref p0, .int (2 : Int32), .int (8 : Int32), .int (0 : Int32), .int (0 : Int32)]) (rest := []) 300 146 876 (mL_call hst p0 (2 : Int32) (8 : Int32) (0 : Int32) (0 : Int32) s64 none v66 s67 h65) qyL_call wd_180 wd_181 rfl rfl (by decide) (Nat.le_of_ble_eq_true rfl) ⟨Nat.le_of_ble_eq_true rfl, Nat.le_of_ble_eq_true rfl⟩ dL_surveys_297 rfl rfl rfl rfl ?_
        refine x_istore 302 13 [(13, .int v66), (0, .ref p0), (1, .ref p1), (3, .int v2), (6, .int v11), (8, .int x19), (9, .int (irm p2 (3 : Int32))), (10, .int x43), (11, .int v49), (12, .int x63)] dL_surveys_300 rfl (by decide) rfl ?_
        refine x_aload_n 303 1 dL_surveys_302 rfl rfl ?_
        refine x_iconst 304 (2 : Int32) dL_surveys_303 rfl (by decide) ?_
        refine x_bipush 306 (9 : Int32) dL_surveys_304 rfl (by decide) ?_
        refine x_iconst 307 (0 : Int32) dL_surveys_306 rfl (by decide) ?_
        refine x_iconst 308 (0 : Int32) dL_surveys_307 rfl (by decide) ?_
        obtain ⟨v69, s70, h68, hF⟩ := b2_inv hF
        refine x_callS (As := [.ref p0, .int (2 : Int32), .int (9 : Int32), .int (0 : Int32), .int (0 : Int32)]) (rest := []) 311 148 888 (mL_call hst p0 (2 : Int32) (9 : Int32) (0 : Int32) (0 : Int32) s67 none v69 s70 h68) qyL_call wd_180 wd_181 rfl rfl (by decide) (Nat.le_of_ble_eq_true rfl) ⟨Nat.le_of_ble_eq_true rfl, Nat.le_of_ble_eq_true rfl⟩ dL_surveys_308 rfl rfl rfl rfl ?_
        refine x_istore 313 14 [(14, .int v69), (13, .int v66), (0, .ref p0), (1, .ref p1), (3, .int v2), (6, .int v11), (8, .int x19), (9, .int (irm p2 (3 : Int32))), (10, .int x43), (11, .int v49), (12, .int x63)] dL_surveys_311 rfl (by decide) rfl ?_
        refine x_aload_n 314 2 dL_surveys_313 rfl rfl ?_
        refine x_iconst 315 (5 : Int32) dL_surveys_314 rfl (by decide) ?_
        refine x_iload 317 7 dL_surveys_315 rfl rfl ?_
        refine x_iconst 318 (1 : Int32) dL_surveys_317 rfl (by decide) ?_
        refine x_iconst 319 (0 : Int32) dL_surveys_318 rfl (by decide) ?_
        obtain ⟨v72, s73, h71, hF⟩ := b2_inv hF
        refine x_callS (As := [.ref p0, .int (5 : Int32), .int (irm p2 (3 : Int32)), .int (1 : Int32), .int (0 : Int32)]) (rest := []) 322 150 900 (mL_call hst p0 (5 : Int32) (irm p2 (3 : Int32)) (1 : Int32) (0 : Int32) s70 none v72 s73 h71) qyL_call wd_180 wd_181 rfl rfl (by decide) (Nat.le_of_ble_eq_true rfl) ⟨Nat.le_of_ble_eq_true rfl, Nat.le_of_ble_eq_true rfl⟩ dL_surveys_319 rfl rfl rfl rfl ?_
        refine x_istore 324 15 [(15, .int v72), (14, .int v69), (13, .int v66), (0, .ref p0), (1, .ref p1), (3, .int v2), (6, .int v11), (8, .int x19), (9, .int (irm p2 (3 : Int32))), (10, .int x43), (11, .int v49), (12, .int x63)] dL_surveys_322 rfl (by decide) rfl ?_
        refine x_iload 326 7 dL_surveys_324 rfl rfl ?_
        obtain ⟨x74, s75, h122, hF⟩ := b2_inv hF
        have hJ : qX l G RL "surveys" cL_surveys 16 (some .boolean) [] rmL_surveys 176 1056 (.inl (some (.int ro), so, none)) 166 996 s75 none 461 [(0, .ref p0), (1, .ref p1), (3, .int v2), (9, .int (irm p2 (3 : Int32))), (11, .int v49), (15, .int v72)] [.int x74] := by
          refine x_istore 463 8 [(8, .int x74), (0, .ref p0), (1, .ref p1), (3, .int v2), (9, .int (irm p2 (3 : Int32))), (11, .int v49), (15, .int v72)] dL_surveys_461 rfl (by decide) rfl ?_
          refine x_iload 465 0 dL_surveys_463 rfl rfl ?_
          obtain ⟨x100, s101, h121, hF⟩ := b2_inv hF
          have hJ : qX l G RL "surveys" cL_surveys 16 (some .boolean) [] rmL_surveys 176 1056 (.inl (some (.int ro), so, none)) 176 1056 s101 none 544 [] [.int x100] := by
            obtain ⟨hz, hF⟩ := ite_none hF
            cases hF
            exact x_zret rfl (by rcases hz with h | h <;> rw [h] <;> rfl) rfl (Nat.le_of_ble_eq_true rfl) (Nat.le_of_ble_eq_true rfl) dL_surveys_544
          have hF := h121
          rcases ite_inv hF with ⟨hc, hF⟩ | ⟨hc, hF⟩
          · refine x_if_eq 543 468 dL_surveys_465 (by decide) rfl (fun _ => ?_) (fun q => absurd hc q)
            refine x_iconst 544 (0 : Int32) dL_surveys_543 rfl (by decide) ?_
            obtain ⟨e1, e2⟩ := so2 hF
            subst e1
            subst e2
            refine x_wide 176 1056 (Nat.le_of_ble_eq_true rfl) (Nat.le_of_ble_eq_true rfl) ?_
            refine x_sub [] [] rfl ?_
            exact hJ
          · refine x_if_eq 543 468 dL_surveys_465 (by decide) rfl (fun q => absurd q hc) (fun _ => ?_)
            refine x_aload_n 469 1 dL_surveys_468 rfl rfl ?_
            refine x_bipush 471 (13 : Int32) dL_surveys_469 rfl (by decide) ?_
            refine x_iconst 472 (0 : Int32) dL_surveys_471 rfl (by decide) ?_
            refine x_iconst 473 (0 : Int32) dL_surveys_472 rfl (by decide) ?_
            refine x_iconst 474 (0 : Int32) dL_surveys_473 rfl (by decide) ?_
            obtain ⟨v103, s104, h102, hF⟩ := b2_inv hF
            refine x_callS (As := [.ref p0, .int (13 : Int32), .int (0 : Int32), .int (0 : Int32), .int (0 : Int32)]) (rest := []) 477 168 1008 (mL_call hst p0 (13 : Int32) (0 : Int32) (0 : Int32) (0 : Int32) s75 none v103 s104 h102) qyL_call wd_180 wd_181 rfl rfl (by decide) (Nat.le_of_ble_eq_true rfl) ⟨Nat.le_of_ble_eq_true rfl, Nat.le_of_ble_eq_true rfl⟩ dL_surveys_474 rfl rfl rfl rfl ?_
            obtain ⟨v106, h105, hF⟩ := b1_inv hF
            refine x_callS (As := [.int v103]) (rest := []) 480 168 1008 (mL_thrown hst v103 s104 none v106 h105) qyL_thrown wd_921 wd_922 rfl rfl (by decide) (Nat.le_of_ble_eq_true rfl) ⟨Nat.le_of_ble_eq_true rfl, Nat.le_of_ble_eq_true rfl⟩ dL_surveys_477 rfl rfl rfl rfl ?_
            rcases ite_inv hF with ⟨hc, hF⟩ | ⟨hc, hF⟩
            · refine x_if_ne 543 483 dL_surveys_480 (by decide) rfl (fun q => absurd hc q) (fun _ => ?_)
              refine x_aload_n 484 2 dL_surveys_483 rfl rfl ?_
              refine x_bipush 486 (13 : Int32) dL_surveys_484 rfl (by decide) ?_
              refine x_iconst 487 (0 : Int32) dL_surveys_486 rfl (by decide) ?_
              refine x_iconst 488 (0 : Int32) dL_surveys_487 rfl (by decide) ?_
              refine x_iconst 489 (0 : Int32) dL_surveys_488 rfl (by decide) ?_
              obtain ⟨v108, s109, h107, hF⟩ := b2_inv hF
              refine x_callS (As := [.ref p1, .int (13 : Int32), .int (0 : Int32), .int (0 : Int32), .int (0 : Int32)]) (rest := []) 492 170 1020 (mL_call hst p1 (13 : Int32) (0 : Int32) (0 : Int32) (0 : Int32) s104 none v108 s109 h107) qyL_call wd_180 wd_181 rfl rfl (by decide) (Nat.le_of_ble_eq_true rfl) ⟨Nat.le_of_ble_eq_true rfl, Nat.le_of_ble_eq_true rfl⟩ dL_surveys_489 rfl rfl rfl rfl ?_
              obtain ⟨v111, h110, hF⟩ := b1_inv hF
              refine x_callS (As := [.int v108]) (rest := []) 495 170 1020 (mL_thrown hst v108 s109 none v111 h110) qyL_thrown wd_921 wd_922 rfl rfl (by decide) (Nat.le_of_ble_eq_true rfl) ⟨Nat.le_of_ble_eq_true rfl, Nat.le_of_ble_eq_true rfl⟩ dL_surveys_492 rfl rfl rfl rfl ?_
              rcases ite_inv hF with ⟨hc, hF⟩ | ⟨hc, hF⟩
              · refine x_if_ne 543 498 dL_surveys_495 (by decide) rfl (fun q => absurd hc q) (fun _ => ?_)
                refine x_aload_n 499 1 dL_surveys_498 rfl rfl ?_
                refine x_iconst 500 (5 : Int32) dL_surveys_499 rfl (by decide) ?_
                refine x_iload 502 4 dL_surveys_500 rfl rfl ?_
                refine x_iconst 503 (0 : Int32) dL_surveys_502 rfl (by decide) ?_
                refine x_iconst 504 (0 : Int32) dL_surveys_503 rfl (by decide) ?_
                obtain ⟨v113, s114, h112, hF⟩ := b2_inv hF
                refine x_callS (As := [.ref p0, .int (5 : Int32), .int (irm p2 (3 : Int32)), .int (0 : Int32), .int (0 : Int32)]) (rest := []) 507 172 1032 (mL_call hst p0 (5 : Int32) (irm p2 (3 : Int32)) (0 : Int32) (0 : Int32) s109 none v113 s114 h112) qyL_call wd_180 wd_181 rfl rfl (by decide) (Nat.le_of_ble_eq_true rfl) ⟨Nat.le_of_ble_eq_true rfl, Nat.le_of_ble_eq_true rfl⟩ dL_surveys_504 rfl rfl rfl rfl ?_
                refine x_iload 509 5 dL_surveys_507 rfl rfl ?_
                rcases ite_inv hF with ⟨hc, hF⟩ | ⟨hc, hF⟩
                · refine x_icmp_ne 543 512 dL_surveys_509 (by decide) rfl (fun q => absurd hc q) (fun _ => ?_)
                  refine x_aload_n 513 1 dL_surveys_512 rfl rfl ?_
                  refine x_iconst 514 (5 : Int32) dL_surveys_513 rfl (by decide) ?_
                  refine x_iload 516 4 dL_surveys_514 rfl rfl ?_
                  refine x_iconst 517 (1 : Int32) dL_surveys_516 rfl (by decide) ?_
                  refine x_iconst 518 (0 : Int32) dL_surveys_517 rfl (by decide) ?_
                  obtain ⟨v116, s117, h115, hF⟩ := b2_inv hF
                  refine x_callS (As := [.ref p0, .int (5 : Int32), .int (irm p2 (3 : Int32)), .int (1 : Int32), .int (0 : Int32)]) (rest := []) 521 174 1044 (mL_call hst p0 (5 : Int32) (irm p2 (3 : Int32)) (1 : Int32) (0 : Int32) s114 none v116 s117 h115) qyL_call wd_180 wd_181 rfl rfl (by decide) (Nat.le_of_ble_eq_true rfl) ⟨Nat.le_of_ble_eq_true rfl, Nat.le_of_ble_eq_true rfl⟩ dL_surveys_518 rfl rfl rfl rfl ?_
                  refine x_iload 523 6 dL_surveys_521 rfl rfl ?_
                  rcases ite_inv hF with ⟨hc, hF⟩ | ⟨hc, hF⟩
                  · refine x_icmp_ne 543 526 dL_surveys_523 (by decide) rfl (fun q => absurd hc q) (fun _ => ?_)
                    refine x_aload_n 527 1 dL_surveys_526 rfl rfl ?_
                    refine x_iconst 528 (2 : Int32) dL_surveys_527 rfl (by decide) ?_
                    refine x_bipush 530 (6 : Int32) dL_surveys_528 rfl (by decide) ?_
                    refine x_iconst 531 (0 : Int32) dL_surveys_530 rfl (by decide) ?_
                    refine x_iconst 532 (0 : Int32) dL_surveys_531 rfl (by decide) ?_
                    obtain ⟨v119, s120, h118, hF⟩ := b2_inv hF
                    refine x_callS (As := [.ref p0, .int (2 : Int32), .int (6 : Int32), .int (0 : Int32), .int (0 : Int32)]) (rest := []) 535 176 1056 (mL_call hst p0 (2 : Int32) (6 : Int32) (0 : Int32) (0 : Int32) s117 none v119 s120 h118) qyL_call wd_180 wd_181 rfl rfl (by decide) (Nat.le_of_ble_eq_true rfl) ⟨Nat.le_of_ble_eq_true rfl, Nat.le_of_ble_eq_true rfl⟩ dL_surveys_532 rfl rfl rfl rfl ?_
                    refine x_iload_n 536 3 dL_surveys_535 rfl rfl ?_
                    rcases ite_inv hF with ⟨hc, hF⟩ | ⟨hc, hF⟩
                    · refine x_icmp_ne 543 539 dL_surveys_536 (by decide) rfl (fun q => absurd hc q) (fun _ => ?_)
                      refine x_iconst 540 (1 : Int32) dL_surveys_539 rfl (by decide) ?_
                      refine x_goto 544 dL_surveys_540 (by decide) ?_
                      obtain ⟨e1, e2⟩ := so2 hF
                      subst e1
                      subst e2
                      refine x_sub [] [] rfl ?_
                      exact hJ
                    · refine x_icmp_ne 543 539 dL_surveys_536 (by decide) rfl (fun _ => ?_) (fun q => absurd q hc)
                      refine x_iconst 544 (0 : Int32) dL_surveys_543 rfl (by decide) ?_
                      obtain ⟨e1, e2⟩ := so2 hF
                      subst e1
                      subst e2
                      refine x_sub [] [] rfl ?_
                      exact hJ
                  · refine x_icmp_ne 543 526 dL_surveys_523 (by decide) rfl (fun _ => ?_) (fun q => absurd q hc)
                    refine x_iconst 544 (0 : Int32) dL_surveys_543 rfl (by decide) ?_
                    obtain ⟨e1, e2⟩ := so2 hF
                    subst e1
                    subst e2
                    refine x_wide 176 1056 (Nat.le_of_ble_eq_true rfl) (Nat.le_of_ble_eq_true rfl) ?_
                    refine x_sub [] [] rfl ?_
                    exact hJ
                · refine x_icmp_ne 543 512 dL_surveys_509 (by decide) rfl (fun _ => ?_) (fun q => absurd q hc)
                  refine x_iconst 544 (0 : Int32) dL_surveys_543 rfl (by decide) ?_
                  obtain ⟨e1, e2⟩ := so2 hF
                  subst e1
                  subst e2
                  refine x_wide 176 1056 (Nat.le_of_ble_eq_true rfl) (Nat.le_of_ble_eq_true rfl) ?_
                  refine x_sub [] [] rfl ?_
                  exact hJ
              · refine x_if_ne 543 498 dL_surveys_495 (by decide) rfl (fun _ => ?_) (fun q => absurd q hc)
                refine x_iconst 544 (0 : Int32) dL_surveys_543 rfl (by decide) ?_
                obtain ⟨e1, e2⟩ := so2 hF
                subst e1
                subst e2
                refine x_wide 176 1056 (Nat.le_of_ble_eq_true rfl) (Nat.le_of_ble_eq_true rfl) ?_
                refine x_sub [] [] rfl ?_
                exact hJ
            · refine x_if_ne 543 483 dL_surveys_480 (by decide) rfl (fun _ => ?_) (fun q => absurd q hc)
              refine x_iconst 544 (0 : Int32) dL_surveys_543 rfl (by decide) ?_
              obtain ⟨e1, e2⟩ := so2 hF
              subst e1
              subst e2
              refine x_wide 176 1056 (Nat.le_of_ble_eq_true rfl) (Nat.le_of_ble_eq_true rfl) ?_
              refine x_sub [] [] rfl ?_
              exact hJ
        have hF := h122
        rcases ite_inv hF with ⟨hc, hF⟩ | ⟨hc, hF⟩
        · refine x_if_eq 460 329 dL_surveys_326 (by decide) rfl (fun _ => ?_) (fun q => absurd hc q)
          refine x_iconst 461 (0 : Int32) dL_surveys_460 rfl (by decide) ?_
          obtain ⟨e1, e2⟩ := so2 hF
          subst e1
          subst e2
          refine x_wide 166 996 (Nat.le_of_ble_eq_true rfl) (Nat.le_of_ble_eq_true rfl) ?_
          refine x_sub [(0, .ref p0), (1, .ref p1), (3, .int v2), (9, .int (irm p2 (3 : Int32))), (11, .int v49), (15, .int v72)] [3, 4, 5, 8, 10, 0] rfl ?_
          exact hJ
        · refine x_if_eq 460 329 dL_surveys_326 (by decide) rfl (fun q => absurd q hc) (fun _ => ?_)
          refine x_aload_n 330 3 dL_surveys_329 rfl rfl ?_
          refine x_bipush 332 (11 : Int32) dL_surveys_330 rfl (by decide) ?_
          refine x_iload 334 8 dL_surveys_332 rfl rfl ?_
          refine x_iload 336 9 dL_surveys_334 rfl rfl ?_
          refine x_iconst 337 (0 : Int32) dL_surveys_336 rfl (by decide) ?_
          obtain ⟨v77, s78, h76, hF⟩ := b2_inv hF
          refine x_callS (As := [.ref p0, .int (11 : Int32), .int (irm p2 (3 : Int32)), .int x43, .int (0 : Int32)]) (rest := []) 340 152 912 (mL_call hst p0 (11 : Int32) (irm p2 (3 : Int32)) x43 (0 : Int32) s73 none v77 s78 h76) qyL_call wd_180 wd_181 rfl rfl (by decide) (Nat.le_of_ble_eq_true rfl) ⟨Nat.le_of_ble_eq_true rfl, Nat.le_of_ble_eq_true rfl⟩ dL_surveys_337 rfl rfl rfl rfl ?_
          refine x_iload 342 11 dL_surveys_340 rfl rfl ?_
          rcases ite_inv hF with ⟨hc, hF⟩ | ⟨hc, hF⟩
          · refine x_icmp_ne 460 345 dL_surveys_342 (by decide) rfl (fun q => absurd hc q) (fun _ => ?_)
            refine x_aload_n 346 4 dL_surveys_345 rfl rfl ?_
            refine x_bipush 348 (11 : Int32) dL_surveys_346 rfl (by decide) ?_
            refine x_iload 350 8 dL_surveys_348 rfl rfl ?_
            refine x_iload 352 9 dL_surveys_350 rfl rfl ?_
            refine x_iconst 353 (0 : Int32) dL_surveys_352 rfl (by decide) ?_
            obtain ⟨v80, s81, h79, hF⟩ := b2_inv hF
            refine x_callS (As := [.ref p1, .int (11 : Int32), .int (irm p2 (3 : Int32)), .int x43, .int (0 : Int32)]) (rest := []) 356 154 924 (mL_call hst p1 (11 : Int32) (irm p2 (3 : Int32)) x43 (0 : Int32) s78 none v80 s81 h79) qyL_call wd_180 wd_181 rfl rfl (by decide) (Nat.le_of_ble_eq_true rfl) ⟨Nat.le_of_ble_eq_true rfl, Nat.le_of_ble_eq_true rfl⟩ dL_surveys_353 rfl rfl rfl rfl ?_
            refine x_iload 358 11 dL_surveys_356 rfl rfl ?_
            rcases ite_inv hF with ⟨hc, hF⟩ | ⟨hc, hF⟩
            · refine x_icmp_ne 460 361 dL_surveys_358 (by decide) rfl (fun q => absurd hc q) (fun _ => ?_)
              refine x_aload_n 362 3 dL_surveys_361 rfl rfl ?_
              refine x_iconst 363 (2 : Int32) dL_surveys_362 rfl (by decide) ?_
              refine x_bipush 365 (8 : Int32) dL_surveys_363 rfl (by decide) ?_
              refine x_iconst 366 (0 : Int32) dL_surveys_365 rfl (by decide) ?_
              refine x_iconst 367 (0 : Int32) dL_surveys_366 rfl (by decide) ?_
              obtain ⟨v83, s84, h82, hF⟩ := b2_inv hF
              refine x_callS (As := [.ref p0, .int (2 : Int32), .int (8 : Int32), .int (0 : Int32), .int (0 : Int32)]) (rest := []) 370 156 936 (mL_call hst p0 (2 : Int32) (8 : Int32) (0 : Int32) (0 : Int32) s81 none v83 s84 h82) qyL_call wd_180 wd_181 rfl rfl (by decide) (Nat.le_of_ble_eq_true rfl) ⟨Nat.le_of_ble_eq_true rfl, Nat.le_of_ble_eq_true rfl⟩ dL_surveys_367 rfl rfl rfl rfl ?_
              refine x_iload 372 2 dL_surveys_370 rfl rfl ?_
              refine x_iload 374 11 dL_surveys_372 rfl rfl ?_
              refine x_iadd 375 dL_surveys_374 rfl ?_
              rcases ite_inv hF with ⟨hc, hF⟩ | ⟨hc, hF⟩
              · refine x_icmp_ne 460 378 dL_surveys_375 (by decide) rfl (fun q => absurd hc q) (fun _ => ?_)
                refine x_aload_n 379 3 dL_surveys_378 rfl rfl ?_
                refine x_iconst 380 (2 : Int32) dL_surveys_379 rfl (by decide) ?_
                refine x_bipush 382 (9 : Int32) dL_surveys_380 rfl (by decide) ?_
                refine x_iconst 383 (0 : Int32) dL_surveys_382 rfl (by decide) ?_
                refine x_iconst 384 (0 : Int32) dL_surveys_383 rfl (by decide) ?_
                obtain ⟨v86, s87, h85, hF⟩ := b2_inv hF
                refine x_callS (As := [.ref p0, .int (2 : Int32), .int (9 : Int32), .int (0 : Int32), .int (0 : Int32)]) (rest := []) 387 158 948 (mL_call hst p0 (2 : Int32) (9 : Int32) (0 : Int32) (0 : Int32) s84 none v86 s87 h85) qyL_call wd_180 wd_181 rfl rfl (by decide) (Nat.le_of_ble_eq_true rfl) ⟨Nat.le_of_ble_eq_true rfl, Nat.le_of_ble_eq_true rfl⟩ dL_surveys_384 rfl rfl rfl rfl ?_
                refine x_iload 389 1 dL_surveys_387 rfl rfl ?_
                refine x_iload 391 10 dL_surveys_389 rfl rfl ?_
                refine x_iadd 392 dL_surveys_391 rfl ?_
                refine x_iload 394 11 dL_surveys_392 rfl rfl ?_
                refine x_isub 395 dL_surveys_394 rfl ?_
                rcases ite_inv hF with ⟨hc, hF⟩ | ⟨hc, hF⟩
                · refine x_icmp_ne 460 398 dL_surveys_395 (by decide) rfl (fun q => absurd hc q) (fun _ => ?_)
                  refine x_aload_n 399 3 dL_surveys_398 rfl rfl ?_
                  refine x_iconst 400 (5 : Int32) dL_surveys_399 rfl (by decide) ?_
                  refine x_iload 402 8 dL_surveys_400 rfl rfl ?_
                  refine x_iconst 403 (0 : Int32) dL_surveys_402 rfl (by decide) ?_
                  refine x_iconst 404 (0 : Int32) dL_surveys_403 rfl (by decide) ?_
                  obtain ⟨v89, s90, h88, hF⟩ := b2_inv hF
                  refine x_callS (As := [.ref p0, .int (5 : Int32), .int (irm p2 (3 : Int32)), .int (0 : Int32), .int (0 : Int32)]) (rest := []) 407 160 960 (mL_call hst p0 (5 : Int32) (irm p2 (3 : Int32)) (0 : Int32) (0 : Int32) s87 none v89 s90 h88) qyL_call wd_180 wd_181 rfl rfl (by decide) (Nat.le_of_ble_eq_true rfl) ⟨Nat.le_of_ble_eq_true rfl, Nat.le_of_ble_eq_true rfl⟩ dL_surveys_404 rfl rfl rfl rfl ?_
                  rcases ite_inv hF with ⟨hc, hF⟩ | ⟨hc, hF⟩
                  · refine x_if_ne 460 410 dL_surveys_407 (by decide) rfl (fun q => absurd hc q) (fun _ => ?_)
                    refine x_aload_n 411 3 dL_surveys_410 rfl rfl ?_
                    refine x_iconst 412 (5 : Int32) dL_surveys_411 rfl (by decide) ?_
                    refine x_iload 414 8 dL_surveys_412 rfl rfl ?_
                    refine x_iconst 415 (1 : Int32) dL_surveys_414 rfl (by decide) ?_
                    refine x_iconst 416 (0 : Int32) dL_surveys_415 rfl (by decide) ?_
                    obtain ⟨v92, s93, h91, hF⟩ := b2_inv hF
                    refine x_callS (As := [.ref p0, .int (5 : Int32), .int (irm p2 (3 : Int32)), .int (1 : Int32), .int (0 : Int32)]) (rest := []) 419 162 972 (mL_call hst p0 (5 : Int32) (irm p2 (3 : Int32)) (1 : Int32) (0 : Int32) s90 none v92 s93 h91) qyL_call wd_180 wd_181 rfl rfl (by decide) (Nat.le_of_ble_eq_true rfl) ⟨Nat.le_of_ble_eq_true rfl, Nat.le_of_ble_eq_true rfl⟩ dL_surveys_416 rfl rfl rfl rfl ?_
                    refine x_iload 421 9 dL_surveys_419 rfl rfl ?_
                    rcases ite_inv hF with ⟨hc, hF⟩ | ⟨hc, hF⟩
                    · refine x_icmp_ne 460 424 dL_surveys_421 (by decide) rfl (fun q => absurd hc q) (fun _ => ?_)
                      refine x_aload_n 425 3 dL_surveys_424 rfl rfl ?_
                      refine x_iconst 426 (2 : Int32) dL_surveys_425 rfl (by decide) ?_
                      refine x_iconst 427 (0 : Int32) dL_surveys_426 rfl (by decide) ?_
                      refine x_iconst 428 (0 : Int32) dL_surveys_427 rfl (by decide) ?_
                      refine x_iconst 429 (0 : Int32) dL_surveys_428 rfl (by decide) ?_
                      obtain ⟨v95, s96, h94, hF⟩ := b2_inv hF
                      refine x_callS (As := [.ref p0, .int (2 : Int32), .int (0 : Int32), .int (0 : Int32), .int (0 : Int32)]) (rest := []) 432 164 984 (mL_call hst p0 (2 : Int32) (0 : Int32) (0 : Int32) (0 : Int32) s93 none v95 s96 h94) qyL_call wd_180 wd_181 rfl rfl (by decide) (Nat.le_of_ble_eq_true rfl) ⟨Nat.le_of_ble_eq_true rfl, Nat.le_of_ble_eq_true rfl⟩ dL_surveys_429 rfl rfl rfl rfl ?_
                      refine x_iload 434 6 dL_surveys_432 rfl rfl ?_
                      refine x_iload 436 10 dL_surveys_434 rfl rfl ?_
                      refine x_isub 437 dL_surveys_436 rfl ?_
                      rcases ite_inv hF with ⟨hc, hF⟩ | ⟨hc, hF⟩
                      · refine x_icmp_ne 460 440 dL_surveys_437 (by decide) rfl (fun q => absurd hc q) (fun _ => ?_)
                        refine x_aload_n 441 3 dL_surveys_440 rfl rfl ?_
                        refine x_bipush 443 (7 : Int32) dL_surveys_441 rfl (by decide) ?_
                        refine x_iload 445 8 dL_surveys_443 rfl rfl ?_
                        refine x_iconst 446 (1 : Int32) dL_surveys_445 rfl (by decide) ?_
                        refine x_iconst 447 (1 : Int32) dL_surveys_446 rfl (by decide) ?_
                        obtain ⟨v98, s99, h97, hF⟩ := b2_inv hF
                        refine x_callS (As := [.ref p0, .int (7 : Int32), .int (irm p2 (3 : Int32)), .int (1 : Int32), .int (1 : Int32)]) (rest := []) 450 166 996 (mL_call hst p0 (7 : Int32) (irm p2 (3 : Int32)) (1 : Int32) (1 : Int32) s96 none v98 s99 h97) qyL_call wd_180 wd_181 rfl rfl (by decide) (Nat.le_of_ble_eq_true rfl) ⟨Nat.le_of_ble_eq_true rfl, Nat.le_of_ble_eq_true rfl⟩ dL_surveys_447 rfl rfl rfl rfl ?_
                        refine x_sipush 453 (999 : Int32) dL_surveys_450 rfl (by decide) ?_
                        rcases ite_inv hF with ⟨hc, hF⟩ | ⟨hc, hF⟩
                        · refine x_icmp_ne 460 456 dL_surveys_453 (by decide) rfl (fun q => absurd hc q) (fun _ => ?_)
                          refine x_iconst 457 (1 : Int32) dL_surveys_456 rfl (by decide) ?_
                          refine x_goto 461 dL_surveys_457 (by decide) ?_
                          obtain ⟨e1, e2⟩ := so2 hF
                          subst e1
                          subst e2
                          refine x_sub [(0, .ref p0), (1, .ref p1), (3, .int v2), (9, .int (irm p2 (3 : Int32))), (11, .int v49), (15, .int v72)] [3, 4, 5, 8, 10, 0] rfl ?_
                          exact hJ
                        · refine x_icmp_ne 460 456 dL_surveys_453 (by decide) rfl (fun _ => ?_) (fun q => absurd q hc)
                          refine x_iconst 461 (0 : Int32) dL_surveys_460 rfl (by decide) ?_
                          obtain ⟨e1, e2⟩ := so2 hF
                          subst e1
                          subst e2
                          refine x_sub [(0, .ref p0), (1, .ref p1), (3, .int v2), (9, .int (irm p2 (3 : Int32))), (11, .int v49), (15, .int v72)] [3, 4, 5, 8, 10, 0] rfl ?_
                          exact hJ
                      · refine x_icmp_ne 460 440 dL_surveys_437 (by decide) rfl (fun _ => ?_) (fun q => absurd q hc)
                        refine x_iconst 461 (0 : Int32) dL_surveys_460 rfl (by decide) ?_
                        obtain ⟨e1, e2⟩ := so2 hF
                        subst e1
                        subst e2
                        refine x_wide 166 996 (Nat.le_of_ble_eq_true rfl) (Nat.le_of_ble_eq_true rfl) ?_
                        refine x_sub [(0, .ref p0), (1, .ref p1), (3, .int v2), (9, .int (irm p2 (3 : Int32))), (11, .int v49), (15, .int v72)] [3, 4, 5, 8, 10, 0] rfl ?_
                        exact hJ
                    · refine x_icmp_ne 460 424 dL_surveys_421 (by decide) rfl (fun _ => ?_) (fun q => absurd q hc)
                      refine x_iconst 461 (0 : Int32) dL_surveys_460 rfl (by decide) ?_
                      obtain ⟨e1, e2⟩ := so2 hF
                      subst e1
                      subst e2
                      refine x_wide 166 996 (Nat.le_of_ble_eq_true rfl) (Nat.le_of_ble_eq_true rfl) ?_
                      refine x_sub [(0, .ref p0), (1, .ref p1), (3, .int v2), (9, .int (irm p2 (3 : Int32))), (11, .int v49), (15, .int v72)] [3, 4, 5, 8, 10, 0] rfl ?_
                      exact hJ
                  · refine x_if_ne 460 410 dL_surveys_407 (by decide) rfl (fun _ => ?_) (fun q => absurd q hc)
                    refine x_iconst 461 (0 : Int32) dL_surveys_460 rfl (by decide) ?_
                    obtain ⟨e1, e2⟩ := so2 hF
                    subst e1
                    subst e2
                    refine x_wide 166 996 (Nat.le_of_ble_eq_true rfl) (Nat.le_of_ble_eq_true rfl) ?_
                    refine x_sub [(0, .ref p0), (1, .ref p1), (3, .int v2), (9, .int (irm p2 (3 : Int32))), (11, .int v49), (15, .int v72)] [3, 4, 5, 8, 10, 0] rfl ?_
                    exact hJ
                · refine x_icmp_ne 460 398 dL_surveys_395 (by decide) rfl (fun _ => ?_) (fun q => absurd q hc)
                  refine x_iconst 461 (0 : Int32) dL_surveys_460 rfl (by decide) ?_
                  obtain ⟨e1, e2⟩ := so2 hF
                  subst e1
                  subst e2
                  refine x_wide 166 996 (Nat.le_of_ble_eq_true rfl) (Nat.le_of_ble_eq_true rfl) ?_
                  refine x_sub [(0, .ref p0), (1, .ref p1), (3, .int v2), (9, .int (irm p2 (3 : Int32))), (11, .int v49), (15, .int v72)] [3, 4, 5, 8, 10, 0] rfl ?_
                  exact hJ
              · refine x_icmp_ne 460 378 dL_surveys_375 (by decide) rfl (fun _ => ?_) (fun q => absurd q hc)
                refine x_iconst 461 (0 : Int32) dL_surveys_460 rfl (by decide) ?_
                obtain ⟨e1, e2⟩ := so2 hF
                subst e1
                subst e2
                refine x_wide 166 996 (Nat.le_of_ble_eq_true rfl) (Nat.le_of_ble_eq_true rfl) ?_
                refine x_sub [(0, .ref p0), (1, .ref p1), (3, .int v2), (9, .int (irm p2 (3 : Int32))), (11, .int v49), (15, .int v72)] [3, 4, 5, 8, 10, 0] rfl ?_
                exact hJ
            · refine x_icmp_ne 460 361 dL_surveys_358 (by decide) rfl (fun _ => ?_) (fun q => absurd q hc)
              refine x_iconst 461 (0 : Int32) dL_surveys_460 rfl (by decide) ?_
              obtain ⟨e1, e2⟩ := so2 hF
              subst e1
              subst e2
              refine x_wide 166 996 (Nat.le_of_ble_eq_true rfl) (Nat.le_of_ble_eq_true rfl) ?_
              refine x_sub [(0, .ref p0), (1, .ref p1), (3, .int v2), (9, .int (irm p2 (3 : Int32))), (11, .int v49), (15, .int v72)] [3, 4, 5, 8, 10, 0] rfl ?_
              exact hJ
          · refine x_icmp_ne 460 345 dL_surveys_342 (by decide) rfl (fun _ => ?_) (fun q => absurd q hc)
            refine x_iconst 461 (0 : Int32) dL_surveys_460 rfl (by decide) ?_
            obtain ⟨e1, e2⟩ := so2 hF
            subst e1
            subst e2
            refine x_wide 166 996 (Nat.le_of_ble_eq_true rfl) (Nat.le_of_ble_eq_true rfl) ?_
            refine x_sub [(0, .ref p0), (1, .ref p1), (3, .int v2), (9, .int (irm p2 (3 : Int32))), (11, .int v49), (15, .int v72)] [3, 4, 5, 8, 10, 0] rfl ?_
            exact hJ
      refine x_sub [(0, .ref p0), (1, .ref p1), (3, .int v2), (6, .int v11), (8, .int x19), (9, .int (irm p2 (3 : Int32))), (10, .int x43), (11, .int v49), (12, .int (0 : Int32)), (13, .int (0 : Int32))] [4, 5, 6, 7, 8, 9, 3, 2, 1, 0] rfl ?_
      exact mL_surveys_L224 hst p0 p1 v2 v11 x19 (irm p2 (3 : Int32)) x43 v49 _ 144 864 (Nat.le_of_ble_eq_true rfl) (Nat.le_of_ble_eq_true rfl) 20 24 144 (0 : Int32) (0 : Int32) s50 x63 s64 (Nat.le_of_ble_eq_true rfl) (Nat.le_of_ble_eq_true rfl) h123 hJ
    have hF := h124
    rcases ite_inv hF with ⟨hc, hF⟩ | ⟨hc, hF⟩
    · refine x_if_le 195 177 dL_surveys_174 (by decide) rfl (fun _ => ?_) (fun q => absurd hc q)
      refine x_iconst 196 (1 : Int32) dL_surveys_195 rfl (by decide) ?_
      refine x_iload_n 197 4 dL_surveys_196 rfl rfl ?_
      refine x_bipush 199 (18 : Int32) dL_surveys_197 rfl (by decide) ?_
      refine x_idiv 200 (by decide) dL_surveys_199 rfl ?_
      refine x_sipush 203 (999 : Int32) dL_surveys_200 rfl (by decide) ?_
      refine x_irem 204 (by decide) dL_surveys_203 rfl ?_
      refine x_iadd 205 dL_surveys_204 rfl ?_
      obtain ⟨e1, e2⟩ := so2 hF
      subst e1
      subst e2
      refine x_wide 22 132 (Nat.le_of_ble_eq_true rfl) (Nat.le_of_ble_eq_true rfl) ?_
      refine x_sub [(0, .ref p0), (1, .ref p1), (3, .int v2), (6, .int v11), (8, .int x19), (9, .int (irm p2 (3 : Int32)))] [2, 3, 5, 6, 1, 0] rfl ?_
      exact hJ
    · refine x_if_le 195 177 dL_surveys_174 (by decide) rfl (fun q => absurd q hc) (fun _ => ?_)
      refine x_aload_n 178 2 dL_surveys_177 rfl rfl ?_
      refine x_bipush 180 (7 : Int32) dL_surveys_178 rfl (by decide) ?_
      refine x_iload 182 0 dL_surveys_180 rfl rfl ?_
      refine x_iload_n 183 4 dL_surveys_182 rfl rfl ?_
      refine x_bipush 185 (9 : Int32) dL_surveys_183 rfl (by decide) ?_
      refine x_idiv 186 (by decide) dL_surveys_185 rfl ?_
      refine x_iconst 187 (2 : Int32) dL_surveys_186 rfl (by decide) ?_
      refine x_irem 188 (by decide) dL_surveys_187 rfl ?_
      refine x_iconst 189 (0 : Int32) dL_surveys_188 rfl (by decide) ?_
      obtain ⟨v46, s47, h45, hF⟩ := b2_inv hF
      refine x_callS (As := [.ref p0, .int (7 : Int32), .int (irm p2 (3 : Int32)), .int (irm (p2 / (9 : Int32)) (2 : Int32)), .int (0 : Int32)]) (rest := []) 192 22 132 (mL_call hst p0 (7 : Int32) (irm p2 (3 : Int32)) (irm (p2 / (9 : Int32)) (2 : Int32)) (0 : Int32) s20 none v46 s47 h45) qyL_call wd_180 wd_181 rfl rfl (by decide) (Nat.le_of_ble_eq_true rfl) ⟨Nat.le_of_ble_eq_true rfl, Nat.le_of_ble_eq_true rfl⟩ dL_surveys_189 rfl rfl rfl rfl ?_
      refine x_goto 205 dL_surveys_192 (by decide) ?_
      obtain ⟨e1, e2⟩ := so2 hF
      subst e1
      subst e2
      refine x_sub [(0, .ref p0), (1, .ref p1), (3, .int v2), (6, .int v11), (8, .int x19), (9, .int (irm p2 (3 : Int32)))] [2, 3, 5, 6, 1, 0] rfl ?_
      exact hJ
  have hF := h125
  rcases ite_inv hF with ⟨hc, hF⟩ | ⟨hc, hF⟩
  · refine x_icmp_ne 161 56 dL_surveys_53 (by decide) rfl (fun q => absurd hc q) (fun _ => ?_)
    refine x_iload 58 0 dL_surveys_56 rfl rfl ?_
    rcases ite_inv hF with ⟨hc, hF⟩ | ⟨hc, hF⟩
    · refine x_if_lt 161 61 dL_surveys_58 (by decide) rfl (fun _ => ?_) (fun q => absurd hc q)
      refine x_iconst 162 (0 : Int32) dL_surveys_161 rfl (by decide) ?_
      obtain ⟨e1, e2⟩ := so2 hF
      subst e1
      subst e2
      refine x_wide 20 120 (Nat.le_of_ble_eq_true rfl) (Nat.le_of_ble_eq_true rfl) ?_
      refine x_sub [(0, .ref p0), (1, .ref p1), (2, .int p2), (3, .int v2), (6, .int v11)] [5, 6, 7, 4, 1] rfl ?_
      exact hJ
    · refine x_if_lt 161 61 dL_surveys_58 (by decide) rfl (fun q => absurd q hc) (fun _ => ?_)
      refine x_iload 63 0 dL_surveys_61 rfl rfl ?_
      refine x_iload 65 2 dL_surveys_63 rfl rfl ?_
      rcases ite_inv hF with ⟨hc, hF⟩ | ⟨hc, hF⟩
      · refine x_icmp_gt 161 68 dL_surveys_65 (by decide) rfl (fun _ => ?_) (fun q => absurd hc q)
        refine x_iconst 162 (0 : Int32) dL_surveys_161 rfl (by decide) ?_
        obtain ⟨e1, e2⟩ := so2 hF
        subst e1
        subst e2
        refine x_wide 20 120 (Nat.le_of_ble_eq_true rfl) (Nat.le_of_ble_eq_true rfl) ?_
        refine x_sub [(0, .ref p0), (1, .ref p1), (2, .int p2), (3, .int v2), (6, .int v11)] [5, 6, 7, 4, 1] rfl ?_
        exact hJ
      · refine x_icmp_gt 161 68 dL_surveys_65 (by decide) rfl (fun q => absurd q hc) (fun _ => ?_)
        refine x_aload_n 69 5 dL_surveys_68 rfl rfl ?_
        refine x_iconst 70 (2 : Int32) dL_surveys_69 rfl (by decide) ?_
        refine x_bipush 72 (6 : Int32) dL_surveys_70 rfl (by decide) ?_
        refine x_iconst 73 (0 : Int32) dL_surveys_72 rfl (by decide) ?_
        refine x_iconst 74 (0 : Int32) dL_surveys_73 rfl (by decide) ?_
        obtain ⟨v22, s23, h21, hF⟩ := b2_inv hF
        refine x_callS (As := [.ref p0, .int (2 : Int32), .int (6 : Int32), .int (0 : Int32), .int (0 : Int32)]) (rest := []) 77 10 60 (mL_call hst p0 (2 : Int32) (6 : Int32) (0 : Int32) (0 : Int32) s18 none v22 s23 h21) qyL_call wd_180 wd_181 rfl rfl (by decide) (Nat.le_of_ble_eq_true rfl) ⟨Nat.le_of_ble_eq_true rfl, Nat.le_of_ble_eq_true rfl⟩ dL_surveys_74 rfl rfl rfl rfl ?_
        refine x_iload_n 78 4 dL_surveys_77 rfl rfl ?_
        refine x_iload 80 0 dL_surveys_78 rfl rfl ?_
        refine x_isub 81 dL_surveys_80 rfl ?_
        rcases ite_inv hF with ⟨hc, hF⟩ | ⟨hc, hF⟩
        · refine x_icmp_ne 161 84 dL_surveys_81 (by decide) rfl (fun q => absurd hc q) (fun _ => ?_)
          refine x_aload_n 85 5 dL_surveys_84 rfl rfl ?_
          refine x_iconst 86 (2 : Int32) dL_surveys_85 rfl (by decide) ?_
          refine x_bipush 88 (7 : Int32) dL_surveys_86 rfl (by decide) ?_
          refine x_iconst 89 (0 : Int32) dL_surveys_88 rfl (by decide) ?_
          refine x_iconst 90 (0 : Int32) dL_surveys_89 rfl (by decide) ?_
          obtain ⟨v25, s26, h24, hF⟩ := b2_inv hF
          refine x_callS (As := [.ref p0, .int (2 : Int32), .int (7 : Int32), .int (0 : Int32), .int (0 : Int32)]) (rest := []) 93 12 72 (mL_call hst p0 (2 : Int32) (7 : Int32) (0 : Int32) (0 : Int32) s23 none v25 s26 h24) qyL_call wd_180 wd_181 rfl rfl (by decide) (Nat.le_of_ble_eq_true rfl) ⟨Nat.le_of_ble_eq_true rfl, Nat.le_of_ble_eq_true rfl⟩ dL_surveys_90 rfl rfl rfl rfl ?_
          refine x_iload 95 3 dL_surveys_93 rfl rfl ?_
          refine x_iload 97 0 dL_surveys_95 rfl rfl ?_
          refine x_iadd 98 dL_surveys_97 rfl ?_
          rcases ite_inv hF with ⟨hc, hF⟩ | ⟨hc, hF⟩
          · refine x_icmp_ne 161 101 dL_surveys_98 (by decide) rfl (fun q => absurd hc q) (fun _ => ?_)
            refine x_aload_n 102 5 dL_surveys_101 rfl rfl ?_
            refine x_iconst 103 (2 : Int32) dL_surveys_102 rfl (by decide) ?_
            refine x_iconst 104 (0 : Int32) dL_surveys_103 rfl (by decide) ?_
            refine x_iconst 105 (0 : Int32) dL_surveys_104 rfl (by decide) ?_
            refine x_iconst 106 (0 : Int32) dL_surveys_105 rfl (by decide) ?_
            obtain ⟨v28, s29, h27, hF⟩ := b2_inv hF
            refine x_callS (As := [.ref p0, .int (2 : Int32), .int (0 : Int32), .int (0 : Int32), .int (0 : Int32)]) (rest := []) 109 14 84 (mL_call hst p0 (2 : Int32) (0 : Int32) (0 : Int32) (0 : Int32) s26 none v28 s29 h27) qyL_call wd_180 wd_181 rfl rfl (by decide) (Nat.le_of_ble_eq_true rfl) ⟨Nat.le_of_ble_eq_true rfl, Nat.le_of_ble_eq_true rfl⟩ dL_surveys_106 rfl rfl rfl rfl ?_
            refine x_iload 111 1 dL_surveys_109 rfl rfl ?_
            rcases ite_inv hF with ⟨hc, hF⟩ | ⟨hc, hF⟩
            · refine x_icmp_ne 161 114 dL_surveys_111 (by decide) rfl (fun q => absurd hc q) (fun _ => ?_)
              refine x_aload_n 115 5 dL_surveys_114 rfl rfl ?_
              refine x_bipush 117 (13 : Int32) dL_surveys_115 rfl (by decide) ?_
              refine x_iconst 118 (0 : Int32) dL_surveys_117 rfl (by decide) ?_
              refine x_iconst 119 (0 : Int32) dL_surveys_118 rfl (by decide) ?_
              refine x_iconst 120 (0 : Int32) dL_surveys_119 rfl (by decide) ?_
              obtain ⟨v31, s32, h30, hF⟩ := b2_inv hF
              refine x_callS (As := [.ref p0, .int (13 : Int32), .int (0 : Int32), .int (0 : Int32), .int (0 : Int32)]) (rest := []) 123 16 96 (mL_call hst p0 (13 : Int32) (0 : Int32) (0 : Int32) (0 : Int32) s29 none v31 s32 h30) qyL_call wd_180 wd_181 rfl rfl (by decide) (Nat.le_of_ble_eq_true rfl) ⟨Nat.le_of_ble_eq_true rfl, Nat.le_of_ble_eq_true rfl⟩ dL_surveys_120 rfl rfl rfl rfl ?_
              obtain ⟨v34, h33, hF⟩ := b1_inv hF
              refine x_callS (As := [.int v31]) (rest := []) 126 16 96 (mL_thrown hst v31 s32 none v34 h33) qyL_thrown wd_921 wd_922 rfl rfl (by decide) (Nat.le_of_ble_eq_true rfl) ⟨Nat.le_of_ble_eq_true rfl, Nat.le_of_ble_eq_true rfl⟩ dL_surveys_123 rfl rfl rfl rfl ?_
              rcases ite_inv hF with ⟨hc, hF⟩ | ⟨hc, hF⟩
              · refine x_if_ne 161 129 dL_surveys_126 (by decide) rfl (fun q => absurd hc q) (fun _ => ?_)
                refine x_aload_n 130 6 dL_surveys_129 rfl rfl ?_
                refine x_bipush 132 (13 : Int32) dL_surveys_130 rfl (by decide) ?_
                refine x_iconst 133 (0 : Int32) dL_surveys_132 rfl (by decide) ?_
                refine x_iconst 134 (0 : Int32) dL_surveys_133 rfl (by decide) ?_
                refine x_iconst 135 (0 : Int32) dL_surveys_134 rfl (by decide) ?_
                obtain ⟨v36, s37, h35, hF⟩ := b2_inv hF
                refine x_callS (As := [.ref p1, .int (13 : Int32), .int (0 : Int32), .int (0 : Int32), .int (0 : Int32)]) (rest := []) 138 18 108 (mL_call hst p1 (13 : Int32) (0 : Int32) (0 : Int32) (0 : Int32) s32 none v36 s37 h35) qyL_call wd_180 wd_181 rfl rfl (by decide) (Nat.le_of_ble_eq_true rfl) ⟨Nat.le_of_ble_eq_true rfl, Nat.le_of_ble_eq_true rfl⟩ dL_surveys_135 rfl rfl rfl rfl ?_
                obtain ⟨v39, h38, hF⟩ := b1_inv hF
                refine x_callS (As := [.int v36]) (rest := []) 141 18 108 (mL_thrown hst v36 s37 none v39 h38) qyL_thrown wd_921 wd_922 rfl rfl (by decide) (Nat.le_of_ble_eq_true rfl) ⟨Nat.le_of_ble_eq_true rfl, Nat.le_of_ble_eq_true rfl⟩ dL_surveys_138 rfl rfl rfl rfl ?_
                rcases ite_inv hF with ⟨hc, hF⟩ | ⟨hc, hF⟩
                · refine x_if_ne 161 144 dL_surveys_141 (by decide) rfl (fun q => absurd hc q) (fun _ => ?_)
                  refine x_aload_n 145 5 dL_surveys_144 rfl rfl ?_
                  refine x_iconst 146 (2 : Int32) dL_surveys_145 rfl (by decide) ?_
                  refine x_bipush 148 (6 : Int32) dL_surveys_146 rfl (by decide) ?_
                  refine x_iconst 149 (0 : Int32) dL_surveys_148 rfl (by decide) ?_
                  refine x_iconst 150 (0 : Int32) dL_surveys_149 rfl (by decide) ?_
                  obtain ⟨v41, s42, h40, hF⟩ := b2_inv hF
                  refine x_callS (As := [.ref p0, .int (2 : Int32), .int (6 : Int32), .int (0 : Int32), .int (0 : Int32)]) (rest := []) 153 20 120 (mL_call hst p0 (2 : Int32) (6 : Int32) (0 : Int32) (0 : Int32) s37 none v41 s42 h40) qyL_call wd_180 wd_181 rfl rfl (by decide) (Nat.le_of_ble_eq_true rfl) ⟨Nat.le_of_ble_eq_true rfl, Nat.le_of_ble_eq_true rfl⟩ dL_surveys_150 rfl rfl rfl rfl ?_
                  refine x_iload_n 154 4 dL_surveys_153 rfl rfl ?_
                  rcases ite_inv hF with ⟨hc, hF⟩ | ⟨hc, hF⟩
                  · refine x_icmp_ne 161 157 dL_surveys_154 (by decide) rfl (fun q => absurd hc q) (fun _ => ?_)
                    refine x_iconst 158 (1 : Int32) dL_surveys_157 rfl (by decide) ?_
                    refine x_goto 162 dL_surveys_158 (by decide) ?_
                    obtain ⟨e1, e2⟩ := so2 hF
                    subst e1
                    subst e2
                    refine x_sub [(0, .ref p0), (1, .ref p1), (2, .int p2), (3, .int v2), (6, .int v11)] [5, 6, 7, 4, 1] rfl ?_
                    exact hJ
                  · refine x_icmp_ne 161 157 dL_surveys_154 (by decide) rfl (fun _ => ?_) (fun q => absurd q hc)
                    refine x_iconst 162 (0 : Int32) dL_surveys_161 rfl (by decide) ?_
                    obtain ⟨e1, e2⟩ := so2 hF
                    subst e1
                    subst e2
                    refine x_sub [(0, .ref p0), (1, .ref p1), (2, .int p2), (3, .int v2), (6, .int v11)] [5, 6, 7, 4, 1] rfl ?_
                    exact hJ
                · refine x_if_ne 161 144 dL_surveys_141 (by decide) rfl (fun _ => ?_) (fun q => absurd q hc)
                  refine x_iconst 162 (0 : Int32) dL_surveys_161 rfl (by decide) ?_
                  obtain ⟨e1, e2⟩ := so2 hF
                  subst e1
                  subst e2
                  refine x_wide 20 120 (Nat.le_of_ble_eq_true rfl) (Nat.le_of_ble_eq_true rfl) ?_
                  refine x_sub [(0, .ref p0), (1, .ref p1), (2, .int p2), (3, .int v2), (6, .int v11)] [5, 6, 7, 4, 1] rfl ?_
                  exact hJ
              · refine x_if_ne 161 129 dL_surveys_126 (by decide) rfl (fun _ => ?_) (fun q => absurd q hc)
                refine x_iconst 162 (0 : Int32) dL_surveys_161 rfl (by decide) ?_
                obtain ⟨e1, e2⟩ := so2 hF
                subst e1
                subst e2
                refine x_wide 20 120 (Nat.le_of_ble_eq_true rfl) (Nat.le_of_ble_eq_true rfl) ?_
                refine x_sub [(0, .ref p0), (1, .ref p1), (2, .int p2), (3, .int v2), (6, .int v11)] [5, 6, 7, 4, 1] rfl ?_
                exact hJ
            · refine x_icmp_ne 161 114 dL_surveys_111 (by decide) rfl (fun _ => ?_) (fun q => absurd q hc)
              refine x_iconst 162 (0 : Int32) dL_surveys_161 rfl (by decide) ?_
              obtain ⟨e1, e2⟩ := so2 hF
              subst e1
              subst e2
              refine x_wide 20 120 (Nat.le_of_ble_eq_true rfl) (Nat.le_of_ble_eq_true rfl) ?_
              refine x_sub [(0, .ref p0), (1, .ref p1), (2, .int p2), (3, .int v2), (6, .int v11)] [5, 6, 7, 4, 1] rfl ?_
              exact hJ
          · refine x_icmp_ne 161 101 dL_surveys_98 (by decide) rfl (fun _ => ?_) (fun q => absurd q hc)
            refine x_iconst 162 (0 : Int32) dL_surveys_161 rfl (by decide) ?_
            obtain ⟨e1, e2⟩ := so2 hF
            subst e1
            subst e2
            refine x_wide 20 120 (Nat.le_of_ble_eq_true rfl) (Nat.le_of_ble_eq_true rfl) ?_
            refine x_sub [(0, .ref p0), (1, .ref p1), (2, .int p2), (3, .int v2), (6, .int v11)] [5, 6, 7, 4, 1] rfl ?_
            exact hJ
        · refine x_icmp_ne 161 84 dL_surveys_81 (by decide) rfl (fun _ => ?_) (fun q => absurd q hc)
          refine x_iconst 162 (0 : Int32) dL_surveys_161 rfl (by decide) ?_
          obtain ⟨e1, e2⟩ := so2 hF
          subst e1
          subst e2
          refine x_wide 20 120 (Nat.le_of_ble_eq_true rfl) (Nat.le_of_ble_eq_true rfl) ?_
          refine x_sub [(0, .ref p0), (1, .ref p1), (2, .int p2), (3, .int v2), (6, .int v11)] [5, 6, 7, 4, 1] rfl ?_
          exact hJ
  · refine x_icmp_ne 161 56 dL_surveys_53 (by decide) rfl (fun _ => ?_) (fun q => absurd q hc)
    refine x_iconst 162 (0 : Int32) dL_surveys_161 rfl (by decide) ?_
    obtain ⟨e1, e2⟩ := so2 hF
    subst e1
    subst e2
    refine x_wide 20 120 (Nat.le_of_ble_eq_true rfl) (Nat.le_of_ble_eq_true rfl) ?_
    refine x_sub [(0, .ref p0), (1, .ref p1), (2, .int p2), (3, .int v2), (6, .int v11)] [5, 6, 7, 4, 1] rfl ?_
    exact hJ
def rmL_drops : Room := { frames := 10, cells := 208, slots := 1248, locals := 207 }
theorem qyL_drops : qY yL_drops cL_drops 19 (some .boolean) 3 := ⟨wd_926, wd_16, by decide +kernel, by decide +kernel, by decide +kernel⟩
set_option maxHeartbeats 8000000 in
set_option maxRecDepth 100000 in
theorem mL_drops_L381 {l : Launch} {G : qG} (hst : l.stackTraces = false) (a0 : Nat) (a1 : Nat) (a3 : Int32) (a5 : Int32) (a6 : Int32) (a12 : Int32) (a13 : Int32) (a14 : Int32) (a15 : Int32) (a16 : Int32) (r : qR) (KK JJ : Nat) (gK : KK ≤ 208) (gL : JJ ≤ 1248) : ∀ (q k j : Nat) (y17 : Int32) (y18 : Int32) (σ : qH) (o17 : Int32) (so : qH), k + 8 * q ≤ KK → j + 48 * q ≤ JJ → FL_drops_L381 (G.2.2.2.1) a0 a1 a3 a5 a6 a12 a13 a14 a15 a16 q y17 y18 σ = some (o17, so) → qX l G RL "drops" cL_drops 19 (some .boolean) [] rmL_drops 208 1248 r KK JJ so none 468 [(0, .ref a0), (1, .ref a1), (6, .int a6), (12, .int a12), (13, .int a13), (14, .int a14), (15, .int a15), (17, .int o17)] [] → qX l G RL "drops" cL_drops 19 (some .boolean) [] rmL_drops 208 1248 r k j σ none 381 [(0, .ref a0), (1, .ref a1), (3, .int a3), (5, .int a5), (6, .int a6), (12, .int a12), (13, .int a13), (14, .int a14), (15, .int a15), (16, .int a16), (17, .int y17), (18, .int y18)] [] := by
  intro q
  induction q with
  | zero => intro k j y17 y18 σ o17 so gk gj hF; rw [FL_drops_L381] at hF; cases hF
  | succ q ih =>
    intro k j y17 y18 σ o17 so gk gj hF hJ
    rw [FL_drops_L381] at hF
    refine x_iload 383 11 dL_drops_381 rfl rfl ?_
    refine x_iload_n 384 2 dL_drops_383 rfl rfl ?_
    rcases ite_inv hF with ⟨hc, hF⟩ | ⟨hc, hF⟩
    · refine x_icmp_ge 468 387 dL_drops_384 (by decide) rfl (fun _ => ?_) (fun q => absurd hc q)
      obtain ⟨e1, e2⟩ := so2 hF
      subst e1
      subst e2
      refine x_wide KK JJ (by omega) (by omega) ?_
      refine x_sub [(0, .ref a0), (1, .ref a1), (6, .int a6), (12, .int a12), (13, .int a13), (14, .int a14), (15, .int a15), (17, .int y17)] [0, 1, 4, 5, 6, 7, 8, 10] rfl ?_
      exact hJ
    · refine x_icmp_ge 468 387 dL_drops_384 (by decide) rfl (fun q => absurd q hc) (fun _ => ?_)
      refine x_iload 389 5 dL_drops_387 rfl rfl ?_
      rcases ite_inv hF with ⟨hc, hF⟩ | ⟨hc, hF⟩
      · refine x_if_eq 468 392 dL_drops_389 (by decide) rfl (fun _ => ?_) (fun q => absurd hc q)
        obtain ⟨e1, e2⟩ := so2 hF
        subst e1
        subst e2
        refine x_wide KK JJ (by omega) (by omega) ?_
        refine x_sub [(0, .ref a0), (1, .ref a1), (6, .int a6), (12, .int a12), (13, .int a13), (14, .int a14), (15, .int a15), (17, .int y17)] [0, 1, 4, 5, 6, 7, 8, 10] rfl ?_
        exact hJ
      · refine x_if_eq 468 392 dL_drops_389 (by decide) rfl (fun q => absurd q hc) (fun _ => ?_)
        refine x_iload 394 10 dL_drops_392 rfl rfl ?_
        obtain ⟨x75, s76, h89, hF⟩ := b2_inv hF
        have hJ : qX l G RL "drops" cL_drops 19 (some .boolean) [] rmL_drops 208 1248 r (k + 8) (j + 48) s76 none 460 [(0, .ref a0), (1, .ref a1), (3, .int a3), (5, .int a5), (6, .int a6), (12, .int a12), (13, .int a13), (14, .int a14), (15, .int a15), (16, .int a16), (18, .int y18)] [.int x75] := by
          refine x_istore 462 17 [(17, .int x75), (0, .ref a0), (1, .ref a1), (3, .int a3), (5, .int a5), (6, .int a6), (12, .int a12), (13, .int a13), (14, .int a14), (15, .int a15), (16, .int a16), (18, .int y18)] dL_drops_460 rfl (by decide) rfl ?_
          refine x_iinc 465 18 11 (y18 + (1 : Int32)) [(18, .int (y18 + (1 : Int32))), (17, .int x75), (0, .ref a0), (1, .ref a1), (3, .int a3), (5, .int a5), (6, .int a6), (12, .int a12), (13, .int a13), (14, .int a14), (15, .int a15), (16, .int a16)] dL_drops_462 rfl rfl rfl (by decide) rfl ?_
          refine x_goto 381 dL_drops_465 (by decide) ?_
          refine x_sub [(0, .ref a0), (1, .ref a1), (3, .int a3), (5, .int a5), (6, .int a6), (12, .int a12), (13, .int a13), (14, .int a14), (15, .int a15), (16, .int a16), (17, .int x75), (18, .int (y18 + (1 : Int32)))] [2, 3, 4, 5, 6, 7, 8, 9, 10, 11, 1, 0] rfl ?_
          exact ih (k + 8) (j + 48) _ _ _ _ _ (by omega) (by omega) hF hJ
        have hF := h89
        rcases ite_inv hF with ⟨hc, hF⟩ | ⟨hc, hF⟩
        · refine x_if_ne 455 397 dL_drops_394 (by decide) rfl (fun q => absurd hc q) (fun _ => ?_)
          refine x_aload_n 398 0 dL_drops_397 rfl rfl ?_
          refine x_iconst 399 (3 : Int32) dL_drops_398 rfl (by decide) ?_
          refine x_iload 401 11 dL_drops_399 rfl rfl ?_
          refine x_iconst 402 (0 : Int32) dL_drops_401 rfl (by decide) ?_
          refine x_iconst 403 (0 : Int32) dL_drops_402 rfl (by decide) ?_
          obtain ⟨v78, s79, h77, hF⟩ := b2_inv hF
          refine x_callS (As := [.ref a0, .int (3 : Int32), .int y18, .int (0 : Int32), .int (0 : Int32)]) (rest := []) 406 (k + 2) (j + 12) (mL_call hst a0 (3 : Int32) y18 (0 : Int32) (0 : Int32) σ none v78 s79 h77) qyL_call wd_180 wd_181 rfl rfl (by decide) (Nat.le_of_ble_eq_true rfl) ⟨by show k + 2 ≤ 208; omega, by show j + 12 ≤ 1248; omega⟩ dL_drops_403 rfl rfl rfl rfl ?_
          refine x_iload 408 3 dL_drops_406 rfl rfl ?_
          rcases ite_inv hF with ⟨hc, hF⟩ | ⟨hc, hF⟩
          · refine x_icmp_ne 459 411 dL_drops_408 (by decide) rfl (fun q => absurd hc q) (fun _ => ?_)
            refine x_aload_n 412 0 dL_drops_411 rfl rfl ?_
            refine x_iconst 413 (3 : Int32) dL_drops_412 rfl (by decide) ?_
            refine x_iload 415 11 dL_drops_413 rfl rfl ?_
            refine x_iconst 416 (1 : Int32) dL_drops_415 rfl (by decide) ?_
            refine x_iconst 417 (0 : Int32) dL_drops_416 rfl (by decide) ?_
            obtain ⟨v81, s82, h80, hF⟩ := b2_inv hF
            refine x_callS (As := [.ref a0, .int (3 : Int32), .int y18, .int (1 : Int32), .int (0 : Int32)]) (rest := []) 420 (k + 4) (j + 24) (mL_call hst a0 (3 : Int32) y18 (1 : Int32) (0 : Int32) s79 none v81 s82 h80) qyL_call wd_180 wd_181 rfl rfl (by decide) (Nat.le_of_ble_eq_true rfl) ⟨by show (k + 2) + 2 ≤ 208; omega, by show (j + 12) + 12 ≤ 1248; omega⟩ dL_drops_417 rfl rfl rfl rfl ?_
            refine x_iload 422 4 dL_drops_420 rfl rfl ?_
            rcases ite_inv hF with ⟨hc, hF⟩ | ⟨hc, hF⟩
            · refine x_icmp_ne 459 425 dL_drops_422 (by decide) rfl (fun q => absurd hc q) (fun _ => ?_)
              refine x_aload_n 426 0 dL_drops_425 rfl rfl ?_
              refine x_iconst 427 (3 : Int32) dL_drops_426 rfl (by decide) ?_
              refine x_iload 429 11 dL_drops_427 rfl rfl ?_
              refine x_bipush 431 (7 : Int32) dL_drops_429 rfl (by decide) ?_
              refine x_iconst 432 (0 : Int32) dL_drops_431 rfl (by decide) ?_
              obtain ⟨v84, s85, h83, hF⟩ := b2_inv hF
              refine x_callS (As := [.ref a0, .int (3 : Int32), .int y18, .int (7 : Int32), .int (0 : Int32)]) (rest := []) 435 (k + 6) (j + 36) (mL_call hst a0 (3 : Int32) y18 (7 : Int32) (0 : Int32) s82 none v84 s85 h83) qyL_call wd_180 wd_181 rfl rfl (by decide) (Nat.le_of_ble_eq_true rfl) ⟨by show (k + 4) + 2 ≤ 208; omega, by show (j + 24) + 12 ≤ 1248; omega⟩ dL_drops_432 rfl rfl rfl rfl ?_
              refine x_iload 437 9 dL_drops_435 rfl rfl ?_
              rcases ite_inv hF with ⟨hc, hF⟩ | ⟨hc, hF⟩
              · refine x_icmp_gt 459 440 dL_drops_437 (by decide) rfl (fun _ => ?_) (fun q => absurd hc q)
                refine x_iconst 460 (0 : Int32) dL_drops_459 rfl (by decide) ?_
                obtain ⟨e1, e2⟩ := so2 hF
                subst e1
                subst e2
                refine x_wide (k + 8) (j + 48) (by omega) (by omega) ?_
                refine x_sub [(0, .ref a0), (1, .ref a1), (3, .int a3), (5, .int a5), (6, .int a6), (12, .int a12), (13, .int a13), (14, .int a14), (15, .int a15), (16, .int a16), (18, .int y18)] [0, 1, 2, 3, 4, 5, 6, 7, 8, 9, 11] rfl ?_
                exact hJ
              · refine x_icmp_gt 459 440 dL_drops_437 (by decide) rfl (fun q => absurd q hc) (fun _ => ?_)
                refine x_iload 442 9 dL_drops_440 rfl rfl ?_
                refine x_aload_n 443 0 dL_drops_442 rfl rfl ?_
                refine x_iconst 444 (3 : Int32) dL_drops_443 rfl (by decide) ?_
                refine x_iload 446 11 dL_drops_444 rfl rfl ?_
                refine x_bipush 448 (8 : Int32) dL_drops_446 rfl (by decide) ?_
                refine x_iconst 449 (0 : Int32) dL_drops_448 rfl (by decide) ?_
                obtain ⟨v87, s88, h86, hF⟩ := b2_inv hF
                refine x_callS (As := [.ref a0, .int (3 : Int32), .int y18, .int (8 : Int32), .int (0 : Int32)]) (rest := [.int a16]) 452 (k + 8) (j + 48) (mL_call hst a0 (3 : Int32) y18 (8 : Int32) (0 : Int32) s85 none v87 s88 h86) qyL_call wd_180 wd_181 rfl rfl (by decide) (Nat.le_of_ble_eq_true rfl) ⟨by show (k + 6) + 2 ≤ 208; omega, by show (j + 36) + 12 ≤ 1248; omega⟩ dL_drops_449 rfl rfl rfl rfl ?_
                rcases ite_inv hF with ⟨hc, hF⟩ | ⟨hc, hF⟩
                · refine x_icmp_gt 459 455 dL_drops_452 (by decide) rfl (fun _ => ?_) (fun q => absurd hc q)
                  refine x_iconst 460 (0 : Int32) dL_drops_459 rfl (by decide) ?_
                  obtain ⟨e1, e2⟩ := so2 hF
                  subst e1
                  subst e2
                  refine x_sub [(0, .ref a0), (1, .ref a1), (3, .int a3), (5, .int a5), (6, .int a6), (12, .int a12), (13, .int a13), (14, .int a14), (15, .int a15), (16, .int a16), (18, .int y18)] [0, 1, 2, 3, 4, 5, 6, 7, 8, 9, 11] rfl ?_
                  exact hJ
                · refine x_icmp_gt 459 455 dL_drops_452 (by decide) rfl (fun q => absurd q hc) (fun _ => ?_)
                  refine x_iconst 456 (1 : Int32) dL_drops_455 rfl (by decide) ?_
                  refine x_goto 460 dL_drops_456 (by decide) ?_
                  obtain ⟨e1, e2⟩ := so2 hF
                  subst e1
                  subst e2
                  refine x_sub [(0, .ref a0), (1, .ref a1), (3, .int a3), (5, .int a5), (6, .int a6), (12, .int a12), (13, .int a13), (14, .int a14), (15, .int a15), (16, .int a16), (18, .int y18)] [0, 1, 2, 3, 4, 5, 6, 7, 8, 9, 11] rfl ?_
                  exact hJ
            · refine x_icmp_ne 459 425 dL_drops_422 (by decide) rfl (fun _ => ?_) (fun q => absurd q hc)
              refine x_iconst 460 (0 : Int32) dL_drops_459 rfl (by decide) ?_
              obtain ⟨e1, e2⟩ := so2 hF
              subst e1
              subst e2
              refine x_wide (k + 8) (j + 48) (by omega) (by omega) ?_
              refine x_sub [(0, .ref a0), (1, .ref a1), (3, .int a3), (5, .int a5), (6, .int a6), (12, .int a12), (13, .int a13), (14, .int a14), (15, .int a15), (16, .int a16), (18, .int y18)] [0, 1, 2, 3, 4, 5, 6, 7, 8, 9, 11] rfl ?_
              exact hJ
          · refine x_icmp_ne 459 411 dL_drops_408 (by decide) rfl (fun _ => ?_) (fun q => absurd q hc)
            refine x_iconst 460 (0 : Int32) dL_drops_459 rfl (by decide) ?_
            obtain ⟨e1, e2⟩ := so2 hF
            subst e1
            subst e2
            refine x_wide (k + 8) (j + 48) (by omega) (by omega) ?_
            refine x_sub [(0, .ref a0), (1, .ref a1), (3, .int a3), (5, .int a5), (6, .int a6), (12, .int a12), (13, .int a13), (14, .int a14), (15, .int a15), (16, .int a16), (18, .int y18)] [0, 1, 2, 3, 4, 5, 6, 7, 8, 9, 11] rfl ?_
            exact hJ
        · refine x_if_ne 455 397 dL_drops_394 (by decide) rfl (fun _ => ?_) (fun q => absurd q hc)
          refine x_iconst 456 (1 : Int32) dL_drops_455 rfl (by decide) ?_
          refine x_goto 460 dL_drops_456 (by decide) ?_
          obtain ⟨e1, e2⟩ := so2 hF
          subst e1
          subst e2
          refine x_wide (k + 8) (j + 48) (by omega) (by omega) ?_
          refine x_sub [(0, .ref a0), (1, .ref a1), (3, .int a3), (5, .int a5), (6, .int a6), (12, .int a12), (13, .int a13), (14, .int a14), (15, .int a15), (16, .int a16), (18, .int y18)] [0, 1, 2, 3, 4, 5, 6, 7, 8, 9, 11] rfl ?_
          exact hJ
set_option maxHeartbeats 4000000 in
set_option maxRecDepth 100000 in
theorem mL_drops {l : Launch} {G : qG} (hst : l.stackTraces = false) (p0 : Nat) (p1 : Nat) (p2 : Int32) (σ : qH) (n : Option Nat) (ro : Int32) (so : qH) (hF : FL_drops (G.2.2.2.1) p0 p1 p2 σ = some (ro, so)) : qM l G yL_drops cL_drops 19 (some .boolean) rmL_drops [.ref p0, .ref p1, .int p2] σ n (.inl (some (.int ro), so, none)) := by
  refine q_body (own := RL) (nm := "drops") (ls := [(0, .ref p0), (1, .ref p1), (2, .int p2)]) hst (by decide +kernel) rfl rfl (Nat.le_of_ble_eq_true rfl) rfl rfl rfl ?_
  unfold FL_drops at hF
  refine x_anyn ?_
  refine x_aload_n 1 0 dL_drops_0 rfl rfl ?_
  refine x_iconst 2 (2 : Int32) dL_drops_1 rfl (by decide) ?_
  refine x_iconst 3 (0 : Int32) dL_drops_2 rfl (by decide) ?_
  refine x_iconst 4 (0 : Int32) dL_drops_3 rfl (by decide) ?_
  refine x_iconst 5 (0 : Int32) dL_drops_4 rfl (by decide) ?_
  obtain ⟨v2, s3, h1, hF⟩ := b2_inv hF
  refine x_callS (As := [.ref p0, .int (2 : Int32), .int (0 : Int32), .int (0 : Int32), .int (0 : Int32)]) (rest := []) 8 2 12 (mL_call hst p0 (2 : Int32) (0 : Int32) (0 : Int32) (0 : Int32) σ none v2 s3 h1) qyL_call wd_180 wd_181 rfl rfl (by decide) (Nat.le_of_ble_eq_true rfl) ⟨Nat.le_of_ble_eq_true rfl, Nat.le_of_ble_eq_true rfl⟩ dL_drops_5 rfl rfl rfl rfl ?_
  refine x_istore_n 9 3 [(3, .int v2), (0, .ref p0), (1, .ref p1), (2, .int p2)] dL_drops_8 rfl rfl (by decide) rfl ?_
  refine x_iload_n 10 0 dL_drops_9 rfl rfl ?_
  rcases ite_inv hF with ⟨hc, hF⟩ | ⟨hc, hF⟩
  · refine x_if_ne 15 13 dL_drops_10 (by decide) rfl (fun q => absurd hc q) (fun _ => ?_)
    refine x_iconst 14 (1 : Int32) dL_drops_13 rfl (by decide) ?_
    cases hF
    exact x_zret rfl rfl rfl (Nat.le_of_ble_eq_true rfl) (Nat.le_of_ble_eq_true rfl) dL_drops_14
  · refine x_if_ne 15 13 dL_drops_10 (by decide) rfl (fun _ => ?_) (fun q => absurd q hc)
    refine x_iload_n 16 3 dL_drops_15 rfl rfl ?_
    refine x_iload_n 17 0 dL_drops_16 rfl rfl ?_
    obtain ⟨h4, hF⟩ := ite_else hF
    refine x_irem 18 h4 dL_drops_17 rfl ?_
    refine x_istore 20 4 [(4, .int (irm p2 v2)), (3, .int v2), (0, .ref p0), (1, .ref p1), (2, .int p2)] dL_drops_18 rfl (by decide) rfl ?_
    refine x_aload_n 21 2 dL_drops_20 rfl rfl ?_
    refine x_iconst 22 (3 : Int32) dL_drops_21 rfl (by decide) ?_
    refine x_iload 24 0 dL_drops_22 rfl rfl ?_
    refine x_iconst 25 (0 : Int32) dL_drops_24 rfl (by decide) ?_
    refine x_iconst 26 (0 : Int32) dL_drops_25 rfl (by decide) ?_
    obtain ⟨v6, s7, h5, hF⟩ := b2_inv hF
    refine x_callS (As := [.ref p0, .int (3 : Int32), .int (irm p2 v2), .int (0 : Int32), .int (0 : Int32)]) (rest := []) 29 4 24 (mL_call hst p0 (3 : Int32) (irm p2 v2) (0 : Int32) (0 : Int32) s3 none v6 s7 h5) qyL_call wd_180 wd_181 rfl rfl (by decide) (Nat.le_of_ble_eq_true rfl) ⟨Nat.le_of_ble_eq_true rfl, Nat.le_of_ble_eq_true rfl⟩ dL_drops_26 rfl rfl rfl rfl ?_
    refine x_istore 31 5 [(5, .int v6), (4, .int (irm p2 v2)), (3, .int v2), (0, .ref p0), (1, .ref p1), (2, .int p2)] dL_drops_29 rfl (by decide) rfl ?_
    refine x_aload_n 32 3 dL_drops_31 rfl rfl ?_
    refine x_iconst 33 (3 : Int32) dL_drops_32 rfl (by decide) ?_
    refine x_iload 35 1 dL_drops_33 rfl rfl ?_
    refine x_iconst 36 (1 : Int32) dL_drops_35 rfl (by decide) ?_
    refine x_iconst 37 (0 : Int32) dL_drops_36 rfl (by decide) ?_
    obtain ⟨v9, s10, h8, hF⟩ := b2_inv hF
    refine x_callS (As := [.ref p0, .int (3 : Int32), .int (irm p2 v2), .int (1 : Int32), .int (0 : Int32)]) (rest := []) 40 6 36 (mL_call hst p0 (3 : Int32) (irm p2 v2) (1 : Int32) (0 : Int32) s7 none v9 s10 h8) qyL_call wd_180 wd_181 rfl rfl (by decide) (Nat.le_of_ble_eq_true rfl) ⟨Nat.le_of_ble_eq_true rfl, Nat.le_of_ble_eq_true rfl⟩ dL_drops_37 rfl rfl rfl rfl ?_
    refine x_istore 42 6 [(6, .int v9), (5, .int v6), (4, .int (irm p2 v2)), (3, .int v2), (0, .ref p0), (1, .ref p1), (2, .int p2)] dL_drops_40 rfl (by decide) rfl ?_
    refine x_aload_n 43 4 dL_drops_42 rfl rfl ?_
    refine x_bipush 45 (16 : Int32) dL_drops_43 rfl (by decide) ?_
    refine x_iload 47 2 dL_drops_45 rfl rfl ?_
    refine x_iconst 48 (0 : Int32) dL_drops_47 rfl (by decide) ?_
    refine x_iconst 49 (0 : Int32) dL_drops_48 rfl (by decide) ?_
    obtain ⟨v12, s13, h11, hF⟩ := b2_inv hF
    refine x_callS (As := [.ref p0, .int (16 : Int32), .int (irm p2 v2), .int (0 : Int32), .int (0 : Int32)]) (rest := []) 52 8 48 (mL_call hst p0 (16 : Int32) (irm p2 v2) (0 : Int32) (0 : Int32) s10 none v12 s13 h11) qyL_call wd_180 wd_181 rfl rfl (by decide) (Nat.le_of_ble_eq_true rfl) ⟨Nat.le_of_ble_eq_true rfl, Nat.le_of_ble_eq_true rfl⟩ dL_drops_49 rfl rfl rfl rfl ?_
    refine x_istore 54 7 [(7, .int v12), (6, .int v9), (5, .int v6), (4, .int (irm p2 v2)), (3, .int v2), (0, .ref p0), (1, .ref p1), (2, .int p2)] dL_drops_52 rfl (by decide) rfl ?_
    refine x_aload_n 55 5 dL_drops_54 rfl rfl ?_
    refine x_bipush 57 (16 : Int32) dL_drops_55 rfl (by decide) ?_
    refine x_iload 59 3 dL_drops_57 rfl rfl ?_
    refine x_iconst 60 (1 : Int32) dL_drops_59 rfl (by decide) ?_
    refine x_iconst 61 (0 : Int32) dL_drops_60 rfl (by decide) ?_
    obtain ⟨v15, s16, h14, hF⟩ := b2_inv hF
    refine x_callS (As := [.ref p0, .int (16 : Int32), .int (irm p2 v2), .int (1 : Int32), .int (0 : Int32)]) (rest := []) 64 10 60 (mL_call hst p0 (16 : Int32) (irm p2 v2) (1 : Int32) (0 : Int32) s13 none v15 s16 h14) qyL_call wd_180 wd_181 rfl rfl (by decide) (Nat.le_of_ble_eq_true rfl) ⟨Nat.le_of_ble_eq_true rfl, Nat.le_of_ble_eq_true rfl⟩ dL_drops_61 rfl rfl rfl rfl ?_
    refine x_istore 66 8 [(8, .int v15), (7, .int v12), (6, .int v9), (5, .int v6), (4, .int (irm p2 v2)), (3, .int v2), (0, .ref p0), (1, .ref p1), (2, .int p2)] dL_drops_64 rfl (by decide) rfl ?_
    refine x_aload_n 67 6 dL_drops_66 rfl rfl ?_
    refine x_bipush 69 (16 : Int32) dL_drops_67 rfl (by decide) ?_
    refine x_iload 71 4 dL_drops_69 rfl rfl ?_
    refine x_iconst 72 (2 : Int32) dL_drops_71 rfl (by decide) ?_
    refine x_iconst 73 (0 : Int32) dL_drops_72 rfl (by decide) ?_
    obtain ⟨v18, s19, h17, hF⟩ := b2_inv hF
    refine x_callS (As := [.ref p0, .int (16 : Int32), .int (irm p2 v2), .int (2 : Int32), .int (0 : Int32)]) (rest := []) 76 12 72 (mL_call hst p0 (16 : Int32) (irm p2 v2) (2 : Int32) (0 : Int32) s16 none v18 s19 h17) qyL_call wd_180 wd_181 rfl rfl (by decide) (Nat.le_of_ble_eq_true rfl) ⟨Nat.le_of_ble_eq_true rfl, Nat.le_of_ble_eq_true rfl⟩ dL_drops_73 rfl rfl rfl rfl ?_
    refine x_istore 78 9 [(9, .int v18), (8, .int v15), (7, .int v12), (6, .int v9), (5, .int v6), (4, .int (irm p2 v2)), (3, .int v2), (0, .ref p0), (1, .ref p1), (2, .int p2)] dL_drops_76 rfl (by decide) rfl ?_
    refine x_aload_n 79 7 dL_drops_78 rfl rfl ?_
    refine x_iconst 80 (3 : Int32) dL_drops_79 rfl (by decide) ?_
    refine x_iload 82 5 dL_drops_80 rfl rfl ?_
    refine x_bipush 84 (9 : Int32) dL_drops_82 rfl (by decide) ?_
    refine x_iconst 85 (0 : Int32) dL_drops_84 rfl (by decide) ?_
    obtain ⟨v21, s22, h20, hF⟩ := b2_inv hF
    refine x_callS (As := [.ref p0, .int (3 : Int32), .int (irm p2 v2), .int (9 : Int32), .int (0 : Int32)]) (rest := []) 88 14 84 (mL_call hst p0 (3 : Int32) (irm p2 v2) (9 : Int32) (0 : Int32) s19 none v21 s22 h20) qyL_call wd_180 wd_181 rfl rfl (by decide) (Nat.le_of_ble_eq_true rfl) ⟨Nat.le_of_ble_eq_true rfl, Nat.le_of_ble_eq_true rfl⟩ dL_drops_85 rfl rfl rfl rfl ?_
    refine x_istore 90 10 [(10, .int v21), (9, .int v18), (8, .int v15), (7, .int v12), (6, .int v9), (5, .int v6), (4, .int (irm p2 v2)), (3, .int v2), (0, .ref p0), (1, .ref p1), (2, .int p2)] dL_drops_88 rfl (by decide) rfl ?_
    refine x_aload_n 91 8 dL_drops_90 rfl rfl ?_
    refine x_bipush 93 (7 : Int32) dL_drops_91 rfl (by decide) ?_
    refine x_iload 95 5 dL_drops_93 rfl rfl ?_
    refine x_iconst 96 (2 : Int32) dL_drops_95 rfl (by decide) ?_
    refine x_iconst 97 (1 : Int32) dL_drops_96 rfl (by decide) ?_
    obtain ⟨v24, s25, h23, hF⟩ := b2_inv hF
    refine x_callS (As := [.ref p0, .int (7 : Int32), .int v6, .int (2 : Int32), .int (1 : Int32)]) (rest := []) 100 16 96 (mL_call hst p0 (7 : Int32) v6 (2 : Int32) (1 : Int32) s22 none v24 s25 h23) qyL_call wd_180 wd_181 rfl rfl (by decide) (Nat.le_of_ble_eq_true rfl) ⟨Nat.le_of_ble_eq_true rfl, Nat.le_of_ble_eq_true rfl⟩ dL_drops_97 rfl rfl rfl rfl ?_
    refine x_istore 102 11 [(11, .int v24), (10, .int v21), (9, .int v18), (8, .int v15), (7, .int v12), (6, .int v9), (5, .int v6), (4, .int (irm p2 v2)), (3, .int v2), (0, .ref p0), (1, .ref p1), (2, .int p2)] dL_drops_100 rfl (by decide) rfl ?_
    refine x_iload 104 2 dL_drops_102 rfl rfl ?_
    refine x_iload 106 0 dL_drops_104 rfl rfl ?_
    obtain ⟨x26, s27, h113, hF⟩ := b2_inv hF
    have hJ : qX l G RL "drops" cL_drops 19 (some .boolean) [] rmL_drops 208 1248 (.inl (some (.int ro), so, none)) 32 192 s27 none 252 [(0, .ref p0), (1, .ref p1), (2, .int p2), (3, .int v2), (5, .int v6), (6, .int v9)] [.int x26] := by
      refine x_istore 254 12 [(12, .int x26), (0, .ref p0), (1, .ref p1), (2, .int p2), (3, .int v2), (5, .int v6), (6, .int v9)] dL_drops_252 rfl (by decide) rfl ?_
      refine x_aload_n 255 1 dL_drops_254 rfl rfl ?_
      refine x_bipush 257 (17 : Int32) dL_drops_255 rfl (by decide) ?_
      refine x_iload 259 6 dL_drops_257 rfl rfl ?_
      refine x_iload 261 5 dL_drops_259 rfl rfl ?_
      refine x_iconst 262 (0 : Int32) dL_drops_261 rfl (by decide) ?_
      obtain ⟨v57, s58, h56, hF⟩ := b2_inv hF
      refine x_callS (As := [.ref p0, .int (17 : Int32), .int v9, .int v6, .int (0 : Int32)]) (rest := []) 265 34 204 (mL_call hst p0 (17 : Int32) v9 v6 (0 : Int32) s27 none v57 s58 h56) qyL_call wd_180 wd_181 rfl rfl (by decide) (Nat.le_of_ble_eq_true rfl) ⟨Nat.le_of_ble_eq_true rfl, Nat.le_of_ble_eq_true rfl⟩ dL_drops_262 rfl rfl rfl rfl ?_
      refine x_istore 267 13 [(13, .int v57), (12, .int x26), (0, .ref p0), (1, .ref p1), (2, .int p2), (3, .int v2), (5, .int v6), (6, .int v9)] dL_drops_265 rfl (by decide) rfl ?_
      refine x_aload_n 268 2 dL_drops_267 rfl rfl ?_
      refine x_iconst 269 (4 : Int32) dL_drops_268 rfl (by decide) ?_
      refine x_iload 271 7 dL_drops_269 rfl rfl ?_
      refine x_iconst 272 (0 : Int32) dL_drops_271 rfl (by decide) ?_
      refine x_iconst 273 (0 : Int32) dL_drops_272 rfl (by decide) ?_
      obtain ⟨v60, s61, h59, hF⟩ := b2_inv hF
      refine x_callS (As := [.ref p0, .int (4 : Int32), .int v9, .int (0 : Int32), .int (0 : Int32)]) (rest := []) 276 36 216 (mL_call hst p0 (4 : Int32) v9 (0 : Int32) (0 : Int32) s58 none v60 s61 h59) qyL_call wd_180 wd_181 rfl rfl (by decide) (Nat.le_of_ble_eq_true rfl) ⟨Nat.le_of_ble_eq_true rfl, Nat.le_of_ble_eq_true rfl⟩ dL_drops_273 rfl rfl rfl rfl ?_
      refine x_istore 278 14 [(14, .int v60), (13, .int v57), (12, .int x26), (0, .ref p0), (1, .ref p1), (2, .int p2), (3, .int v2), (5, .int v6), (6, .int v9)] dL_drops_276 rfl (by decide) rfl ?_
      refine x_iload 280 1 dL_drops_278 rfl rfl ?_
      refine x_iconst 281 (-1 : Int32) dL_drops_280 rfl (by decide) ?_
      obtain ⟨x62, h112, hF⟩ := b1_inv hF
      have hJ : qX l G RL "drops" cL_drops 19 (some .boolean) [] rmL_drops 208 1248 (.inl (some (.int ro), so, none)) 36 216 s61 none 317 [(0, .ref p0), (1, .ref p1), (3, .int v2), (5, .int v6), (6, .int v9), (12, .int x26), (13, .int v57), (14, .int v60)] [.int x62] := by
        refine x_istore 319 15 [(15, .int x62), (0, .ref p0), (1, .ref p1), (3, .int v2), (5, .int v6), (6, .int v9), (12, .int x26), (13, .int v57), (14, .int v60)] dL_drops_317 rfl (by decide) rfl ?_
        refine x_iload 321 6 dL_drops_319 rfl rfl ?_
        obtain ⟨x64, s65, h111, hF⟩ := b2_inv hF
        have hJ : qX l G RL "drops" cL_drops 19 (some .boolean) [] rmL_drops 208 1248 (.inl (some (.int ro), so, none)) 40 240 s65 none 361 [(0, .ref p0), (1, .ref p1), (3, .int v2), (5, .int v6), (6, .int v9), (13, .int v57), (14, .int v60), (15, .int x62)] [.int x64] := by
          refine x_istore 363 12 [(12, .int x64), (0, .ref p0), (1, .ref p1), (3, .int v2), (5, .int v6), (6, .int v9), (13, .int v57), (14, .int v60), (15, .int x62)] dL_drops_361 rfl (by decide) rfl ?_
          refine x_aload_n 364 1 dL_drops_363 rfl rfl ?_
          refine x_bipush 366 (7 : Int32) dL_drops_364 rfl (by decide) ?_
          refine x_iload 368 4 dL_drops_366 rfl rfl ?_
          refine x_iconst 369 (0 : Int32) dL_drops_368 rfl (by decide) ?_
          refine x_iconst 370 (1 : Int32) dL_drops_369 rfl (by decide) ?_
          obtain ⟨v73, s74, h72, hF⟩ := b2_inv hF
          refine x_callS (As := [.ref p0, .int (7 : Int32), .int v6, .int (0 : Int32), .int (1 : Int32)]) (rest := []) 373 42 252 (mL_call hst p0 (7 : Int32) v6 (0 : Int32) (1 : Int32) s65 none v73 s74 h72) qyL_call wd_180 wd_181 rfl rfl (by decide) (Nat.le_of_ble_eq_true rfl) ⟨Nat.le_of_ble_eq_true rfl, Nat.le_of_ble_eq_true rfl⟩ dL_drops_370 rfl rfl rfl rfl ?_
          refine x_istore 375 16 [(16, .int v73), (12, .int x64), (0, .ref p0), (1, .ref p1), (3, .int v2), (5, .int v6), (6, .int v9), (13, .int v57), (14, .int v60), (15, .int x62)] dL_drops_373 rfl (by decide) rfl ?_
          refine x_iconst 376 (0 : Int32) dL_drops_375 rfl (by decide) ?_
          refine x_istore 378 17 [(17, .int (0 : Int32)), (16, .int v73), (12, .int x64), (0, .ref p0), (1, .ref p1), (3, .int v2), (5, .int v6), (6, .int v9), (13, .int v57), (14, .int v60), (15, .int x62)] dL_drops_376 rfl (by decide) rfl ?_
          refine x_iconst 379 (0 : Int32) dL_drops_378 rfl (by decide) ?_
          refine x_istore 381 18 [(18, .int (0 : Int32)), (17, .int (0 : Int32)), (16, .int v73), (12, .int x64), (0, .ref p0), (1, .ref p1), (3, .int v2), (5, .int v6), (6, .int v9), (13, .int v57), (14, .int v60), (15, .int x62)] dL_drops_379 rfl (by decide) rfl ?_
          obtain ⟨x90, s91, h110, hF⟩ := b2_inv hF
          have hJ : qX l G RL "drops" cL_drops 19 (some .boolean) [] rmL_drops 208 1248 (.inl (some (.int ro), so, none)) 202 1212 s91 none 468 [(0, .ref p0), (1, .ref p1), (6, .int v9), (12, .int x64), (13, .int v57), (14, .int v60), (15, .int x62), (17, .int x90)] [] := by
            refine x_iload 470 3 dL_drops_468 rfl rfl ?_
            obtain ⟨x92, s93, h109, hF⟩ := b2_inv hF
            have hJ : qX l G RL "drops" cL_drops 19 (some .boolean) [] rmL_drops 208 1248 (.inl (some (.int ro), so, none)) 208 1248 s93 none 545 [] [.int x92] := by
              obtain ⟨hz, hF⟩ := ite_none hF
              cases hF
              exact x_zret rfl (by rcases hz with h | h <;> rw [h] <;> rfl) rfl (Nat.le_of_ble_eq_true rfl) (Nat.le_of_ble_eq_true rfl) dL_drops_545
            have hF := h109
            rcases ite_inv hF with ⟨hc, hF⟩ | ⟨hc, hF⟩
            · refine x_if_eq 544 473 dL_drops_470 (by decide) rfl (fun _ => ?_) (fun q => absurd hc q)
              refine x_iconst 545 (0 : Int32) dL_drops_544 rfl (by decide) ?_
              obtain ⟨e1, e2⟩ := so2 hF
              subst e1
              subst e2
              refine x_wide 208 1248 (Nat.le_of_ble_eq_true rfl) (Nat.le_of_ble_eq_true rfl) ?_
              refine x_sub [] [] rfl ?_
              exact hJ
            · refine x_if_eq 544 473 dL_drops_470 (by decide) rfl (fun q => absurd q hc) (fun _ => ?_)
              refine x_iload 475 7 dL_drops_473 rfl rfl ?_
              refine x_iload 477 4 dL_drops_475 rfl rfl ?_
              refine x_iconst 478 (-1 : Int32) dL_drops_477 rfl (by decide) ?_
              obtain ⟨x94, h108, hF⟩ := b1_inv hF
              have hJ : qX l G RL "drops" cL_drops 19 (some .boolean) [] rmL_drops 208 1248 (.inl (some (.int ro), so, none)) 202 1212 s91 none 493 [(0, .ref p0), (1, .ref p1), (6, .int v9), (14, .int v60)] [.int x94, .int x90] := by
                rcases ite_inv hF with ⟨hc, hF⟩ | ⟨hc, hF⟩
                · refine x_icmp_ne 544 496 dL_drops_493 (by decide) rfl (fun q => absurd hc q) (fun _ => ?_)
                  refine x_aload_n 497 0 dL_drops_496 rfl rfl ?_
                  refine x_bipush 499 (13 : Int32) dL_drops_497 rfl (by decide) ?_
                  refine x_iconst 500 (0 : Int32) dL_drops_499 rfl (by decide) ?_
                  refine x_iconst 501 (0 : Int32) dL_drops_500 rfl (by decide) ?_
                  refine x_iconst 502 (0 : Int32) dL_drops_501 rfl (by decide) ?_
                  obtain ⟨v96, s97, h95, hF⟩ := b2_inv hF
                  refine x_callS (As := [.ref p0, .int (13 : Int32), .int (0 : Int32), .int (0 : Int32), .int (0 : Int32)]) (rest := []) 505 204 1224 (mL_call hst p0 (13 : Int32) (0 : Int32) (0 : Int32) (0 : Int32) s91 none v96 s97 h95) qyL_call wd_180 wd_181 rfl rfl (by decide) (Nat.le_of_ble_eq_true rfl) ⟨Nat.le_of_ble_eq_true rfl, Nat.le_of_ble_eq_true rfl⟩ dL_drops_502 rfl rfl rfl rfl ?_
                  obtain ⟨v99, h98, hF⟩ := b1_inv hF
                  refine x_callS (As := [.int v96]) (rest := []) 508 204 1224 (mL_thrown hst v96 s97 none v99 h98) qyL_thrown wd_921 wd_922 rfl rfl (by decide) (Nat.le_of_ble_eq_true rfl) ⟨Nat.le_of_ble_eq_true rfl, Nat.le_of_ble_eq_true rfl⟩ dL_drops_505 rfl rfl rfl rfl ?_
                  rcases ite_inv hF with ⟨hc, hF⟩ | ⟨hc, hF⟩
                  · refine x_if_ne 544 511 dL_drops_508 (by decide) rfl (fun q => absurd hc q) (fun _ => ?_)
                    refine x_aload_n 512 1 dL_drops_511 rfl rfl ?_
                    refine x_bipush 514 (13 : Int32) dL_drops_512 rfl (by decide) ?_
                    refine x_iconst 515 (0 : Int32) dL_drops_514 rfl (by decide) ?_
                    refine x_iconst 516 (0 : Int32) dL_drops_515 rfl (by decide) ?_
                    refine x_iconst 517 (0 : Int32) dL_drops_516 rfl (by decide) ?_
                    obtain ⟨v101, s102, h100, hF⟩ := b2_inv hF
                    refine x_callS (As := [.ref p1, .int (13 : Int32), .int (0 : Int32), .int (0 : Int32), .int (0 : Int32)]) (rest := []) 520 206 1236 (mL_call hst p1 (13 : Int32) (0 : Int32) (0 : Int32) (0 : Int32) s97 none v101 s102 h100) qyL_call wd_180 wd_181 rfl rfl (by decide) (Nat.le_of_ble_eq_true rfl) ⟨Nat.le_of_ble_eq_true rfl, Nat.le_of_ble_eq_true rfl⟩ dL_drops_517 rfl rfl rfl rfl ?_
                    obtain ⟨v104, h103, hF⟩ := b1_inv hF
                    refine x_callS (As := [.int v101]) (rest := []) 523 206 1236 (mL_thrown hst v101 s102 none v104 h103) qyL_thrown wd_921 wd_922 rfl rfl (by decide) (Nat.le_of_ble_eq_true rfl) ⟨Nat.le_of_ble_eq_true rfl, Nat.le_of_ble_eq_true rfl⟩ dL_drops_520 rfl rfl rfl rfl ?_
                    rcases ite_inv hF with ⟨hc, hF⟩ | ⟨hc, hF⟩
                    · refine x_if_ne 544 526 dL_drops_523 (by decide) rfl (fun q => absurd hc q) (fun _ => ?_)
                      refine x_aload_n 527 0 dL_drops_526 rfl rfl ?_
                      refine x_iconst 528 (4 : Int32) dL_drops_527 rfl (by decide) ?_
                      refine x_iload 530 2 dL_drops_528 rfl rfl ?_
                      refine x_iconst 531 (0 : Int32) dL_drops_530 rfl (by decide) ?_
                      refine x_iconst 532 (0 : Int32) dL_drops_531 rfl (by decide) ?_
                      obtain ⟨v106, s107, h105, hF⟩ := b2_inv hF
                      refine x_callS (As := [.ref p0, .int (4 : Int32), .int v9, .int (0 : Int32), .int (0 : Int32)]) (rest := []) 535 208 1248 (mL_call hst p0 (4 : Int32) v9 (0 : Int32) (0 : Int32) s102 none v106 s107 h105) qyL_call wd_180 wd_181 rfl rfl (by decide) (Nat.le_of_ble_eq_true rfl) ⟨Nat.le_of_ble_eq_true rfl, Nat.le_of_ble_eq_true rfl⟩ dL_drops_532 rfl rfl rfl rfl ?_
                      refine x_iload 537 3 dL_drops_535 rfl rfl ?_
                      rcases ite_inv hF with ⟨hc, hF⟩ | ⟨hc, hF⟩
                      · refine x_icmp_ne 544 540 dL_drops_537 (by decide) rfl (fun q => absurd hc q) (fun _ => ?_)
                        refine x_iconst 541 (1 : Int32) dL_drops_540 rfl (by decide) ?_
                        refine x_goto 545 dL_drops_541 (by decide) ?_
                        obtain ⟨e1, e2⟩ := so2 hF
                        subst e1
                        subst e2
                        refine x_sub [] [] rfl ?_
                        exact hJ
                      · refine x_icmp_ne 544 540 dL_drops_537 (by decide) rfl (fun _ => ?_) (fun q => absurd q hc)
                        refine x_iconst 545 (0 : Int32) dL_drops_544 rfl (by decide) ?_
                        obtain ⟨e1, e2⟩ := so2 hF
                        subst e1
                        subst e2
                        refine x_sub [] [] rfl ?_
                        exact hJ
                    · refine x_if_ne 544 526 dL_drops_523 (by decide) rfl (fun _ => ?_) (fun q => absurd q hc)
                      refine x_iconst 545 (0 : Int32) dL_drops_544 rfl (by decide) ?_
                      obtain ⟨e1, e2⟩ := so2 hF
                      subst e1
                      subst e2
                      refine x_wide 208 1248 (Nat.le_of_ble_eq_true rfl) (Nat.le_of_ble_eq_true rfl) ?_
                      refine x_sub [] [] rfl ?_
                      exact hJ
                  · refine x_if_ne 544 511 dL_drops_508 (by decide) rfl (fun _ => ?_) (fun q => absurd q hc)
                    refine x_iconst 545 (0 : Int32) dL_drops_544 rfl (by decide) ?_
                    obtain ⟨e1, e2⟩ := so2 hF
                    subst e1
                    subst e2
                    refine x_wide 208 1248 (Nat.le_of_ble_eq_true rfl) (Nat.le_of_ble_eq_true rfl) ?_
                    refine x_sub [] [] rfl ?_
                    exact hJ
                · refine x_icmp_ne 544 496 dL_drops_493 (by decide) rfl (fun _ => ?_) (fun q => absurd q hc)
                  refine x_iconst 545 (0 : Int32) dL_drops_544 rfl (by decide) ?_
                  obtain ⟨e1, e2⟩ := so2 hF
                  subst e1
                  subst e2
                  refine x_wide 208 1248 (Nat.le_of_ble_eq_true rfl) (Nat.le_of_ble_eq_true rfl) ?_
                  refine x_sub [] [] rfl ?_
                  exact hJ
              have hF := h108
              rcases ite_inv hF with ⟨hc, hF⟩ | ⟨hc, hF⟩
              · refine x_icmp_eq 492 481 dL_drops_478 (by decide) rfl (fun _ => ?_) (fun q => absurd hc q)
                refine x_iconst 493 (0 : Int32) dL_drops_492 rfl (by decide) ?_
                have e1 := Option.some.inj hF
                subst e1
                refine x_sub [(0, .ref p0), (1, .ref p1), (6, .int v9), (14, .int v60)] [0, 1, 2, 5] rfl ?_
                exact hJ
              · refine x_icmp_eq 492 481 dL_drops_478 (by decide) rfl (fun q => absurd q hc) (fun _ => ?_)
                refine x_iload 483 6 dL_drops_481 rfl rfl ?_
                refine x_iload 485 4 dL_drops_483 rfl rfl ?_
                rcases ite_inv hF with ⟨hc, hF⟩ | ⟨hc, hF⟩
                · refine x_icmp_ne 492 488 dL_drops_485 (by decide) rfl (fun q => absurd hc q) (fun _ => ?_)
                  refine x_iconst 489 (1 : Int32) dL_drops_488 rfl (by decide) ?_
                  refine x_goto 493 dL_drops_489 (by decide) ?_
                  have e1 := Option.some.inj hF
                  subst e1
                  refine x_sub [(0, .ref p0), (1, .ref p1), (6, .int v9), (14, .int v60)] [0, 1, 2, 5] rfl ?_
                  exact hJ
                · refine x_icmp_ne 492 488 dL_drops_485 (by decide) rfl (fun _ => ?_) (fun q => absurd q hc)
                  refine x_iconst 493 (0 : Int32) dL_drops_492 rfl (by decide) ?_
                  have e1 := Option.some.inj hF
                  subst e1
                  refine x_sub [(0, .ref p0), (1, .ref p1), (6, .int v9), (14, .int v60)] [0, 1, 2, 5] rfl ?_
                  exact hJ
          refine x_sub [(0, .ref p0), (1, .ref p1), (3, .int v2), (5, .int v6), (6, .int v9), (12, .int x64), (13, .int v57), (14, .int v60), (15, .int x62), (16, .int v73), (17, .int (0 : Int32)), (18, .int (0 : Int32))] [4, 5, 6, 7, 8, 3, 9, 10, 11, 2, 1, 0] rfl ?_
          exact mL_drops_L381 hst p0 p1 v2 v6 v9 x64 v57 v60 x62 v73 _ 202 1212 (Nat.le_of_ble_eq_true rfl) (Nat.le_of_ble_eq_true rfl) 20 42 252 (0 : Int32) (0 : Int32) s74 x90 s91 (Nat.le_of_ble_eq_true rfl) (Nat.le_of_ble_eq_true rfl) h110 hJ
        have hF := h111
        rcases ite_inv hF with ⟨hc, hF⟩ | ⟨hc, hF⟩
        · refine x_if_eq 360 324 dL_drops_321 (by decide) rfl (fun _ => ?_) (fun q => absurd hc q)
          refine x_iconst 361 (0 : Int32) dL_drops_360 rfl (by decide) ?_
          obtain ⟨e1, e2⟩ := so2 hF
          subst e1
          subst e2
          refine x_wide 40 240 (Nat.le_of_ble_eq_true rfl) (Nat.le_of_ble_eq_true rfl) ?_
          refine x_sub [(0, .ref p0), (1, .ref p1), (3, .int v2), (5, .int v6), (6, .int v9), (13, .int v57), (14, .int v60), (15, .int x62)] [1, 2, 3, 4, 5, 7, 8, 0] rfl ?_
          exact hJ
        · refine x_if_eq 360 324 dL_drops_321 (by decide) rfl (fun q => absurd q hc) (fun _ => ?_)
          refine x_aload_n 325 1 dL_drops_324 rfl rfl ?_
          refine x_bipush 327 (10 : Int32) dL_drops_325 rfl (by decide) ?_
          refine x_iload 329 5 dL_drops_327 rfl rfl ?_
          refine x_iload 331 0 dL_drops_329 rfl rfl ?_
          refine x_iconst 332 (0 : Int32) dL_drops_331 rfl (by decide) ?_
          obtain ⟨v67, s68, h66, hF⟩ := b2_inv hF
          refine x_callS (As := [.ref p0, .int (10 : Int32), .int v9, .int x62, .int (0 : Int32)]) (rest := []) 335 38 228 (mL_call hst p0 (10 : Int32) v9 x62 (0 : Int32) s61 none v67 s68 h66) qyL_call wd_180 wd_181 rfl rfl (by decide) (Nat.le_of_ble_eq_true rfl) ⟨Nat.le_of_ble_eq_true rfl, Nat.le_of_ble_eq_true rfl⟩ dL_drops_332 rfl rfl rfl rfl ?_
          refine x_iload 337 8 dL_drops_335 rfl rfl ?_
          rcases ite_inv hF with ⟨hc, hF⟩ | ⟨hc, hF⟩
          · refine x_icmp_ne 360 340 dL_drops_337 (by decide) rfl (fun q => absurd hc q) (fun _ => ?_)
            refine x_aload_n 341 2 dL_drops_340 rfl rfl ?_
            refine x_bipush 343 (10 : Int32) dL_drops_341 rfl (by decide) ?_
            refine x_iload 345 5 dL_drops_343 rfl rfl ?_
            refine x_iload 347 0 dL_drops_345 rfl rfl ?_
            refine x_iconst 348 (0 : Int32) dL_drops_347 rfl (by decide) ?_
            obtain ⟨v70, s71, h69, hF⟩ := b2_inv hF
            refine x_callS (As := [.ref p1, .int (10 : Int32), .int v9, .int x62, .int (0 : Int32)]) (rest := []) 351 40 240 (mL_call hst p1 (10 : Int32) v9 x62 (0 : Int32) s68 none v70 s71 h69) qyL_call wd_180 wd_181 rfl rfl (by decide) (Nat.le_of_ble_eq_true rfl) ⟨Nat.le_of_ble_eq_true rfl, Nat.le_of_ble_eq_true rfl⟩ dL_drops_348 rfl rfl rfl rfl ?_
            refine x_iload 353 8 dL_drops_351 rfl rfl ?_
            rcases ite_inv hF with ⟨hc, hF⟩ | ⟨hc, hF⟩
            · refine x_icmp_ne 360 356 dL_drops_353 (by decide) rfl (fun q => absurd hc q) (fun _ => ?_)
              refine x_iconst 357 (1 : Int32) dL_drops_356 rfl (by decide) ?_
              refine x_goto 361 dL_drops_357 (by decide) ?_
              obtain ⟨e1, e2⟩ := so2 hF
              subst e1
              subst e2
              refine x_sub [(0, .ref p0), (1, .ref p1), (3, .int v2), (5, .int v6), (6, .int v9), (13, .int v57), (14, .int v60), (15, .int x62)] [1, 2, 3, 4, 5, 7, 8, 0] rfl ?_
              exact hJ
            · refine x_icmp_ne 360 356 dL_drops_353 (by decide) rfl (fun _ => ?_) (fun q => absurd q hc)
              refine x_iconst 361 (0 : Int32) dL_drops_360 rfl (by decide) ?_
              obtain ⟨e1, e2⟩ := so2 hF
              subst e1
              subst e2
              refine x_sub [(0, .ref p0), (1, .ref p1), (3, .int v2), (5, .int v6), (6, .int v9), (13, .int v57), (14, .int v60), (15, .int x62)] [1, 2, 3, 4, 5, 7, 8, 0] rfl ?_
              exact hJ
          · refine x_icmp_ne 360 340 dL_drops_337 (by decide) rfl (fun _ => ?_) (fun q => absurd q hc)
            refine x_iconst 361 (0 : Int32) dL_drops_360 rfl (by decide) ?_
            obtain ⟨e1, e2⟩ := so2 hF
            subst e1
            subst e2
            refine x_wide 40 240 (Nat.le_of_ble_eq_true rfl) (Nat.le_of_ble_eq_true rfl) ?_
            refine x_sub [(0, .ref p0), (1, .ref p1), (3, .int v2), (5, .int v6), (6, .int v9), (13, .int v57), (14, .int v60), (15, .int x62)] [1, 2, 3, 4, 5, 7, 8, 0] rfl ?_
            exact hJ
      have hF := h112
      rcases ite_inv hF with ⟨hc, hF⟩ | ⟨hc, hF⟩
      · refine x_icmp_ne 294 284 dL_drops_281 (by decide) rfl (fun q => absurd hc q) (fun _ => ?_)
        refine x_iload_n 285 5 dL_drops_284 rfl rfl ?_
        refine x_bipush 287 (16 : Int32) dL_drops_285 rfl (by decide) ?_
        refine x_idiv 288 (by decide) dL_drops_287 rfl ?_
        refine x_bipush 290 (10 : Int32) dL_drops_288 rfl (by decide) ?_
        refine x_irem 291 (by decide) dL_drops_290 rfl ?_
        refine x_goto 317 dL_drops_291 (by decide) ?_
        have e1 := Option.some.inj hF
        subst e1
        refine x_sub [(0, .ref p0), (1, .ref p1), (3, .int v2), (5, .int v6), (6, .int v9), (12, .int x26), (13, .int v57), (14, .int v60)] [3, 4, 6, 7, 8, 2, 1, 0] rfl ?_
        exact hJ
      · refine x_icmp_ne 294 284 dL_drops_281 (by decide) rfl (fun _ => ?_) (fun q => absurd q hc)
        refine x_iload_n 295 5 dL_drops_294 rfl rfl ?_
        refine x_bipush 297 (16 : Int32) dL_drops_295 rfl (by decide) ?_
        refine x_idiv 298 (by decide) dL_drops_297 rfl ?_
        refine x_iconst 299 (2 : Int32) dL_drops_298 rfl (by decide) ?_
        refine x_irem 300 (by decide) dL_drops_299 rfl ?_
        rcases ite_inv hF with ⟨hc, hF⟩ | ⟨hc, hF⟩
        · refine x_if_ne 308 303 dL_drops_300 (by decide) rfl (fun q => absurd hc q) (fun _ => ?_)
          refine x_iload 305 1 dL_drops_303 rfl rfl ?_
          refine x_goto 317 dL_drops_305 (by decide) ?_
          have e1 := Option.some.inj hF
          subst e1
          refine x_sub [(0, .ref p0), (1, .ref p1), (3, .int v2), (5, .int v6), (6, .int v9), (12, .int x26), (13, .int v57), (14, .int v60)] [3, 4, 6, 7, 8, 2, 1, 0] rfl ?_
          exact hJ
        · refine x_if_ne 308 303 dL_drops_300 (by decide) rfl (fun _ => ?_) (fun q => absurd q hc)
          refine x_iload_n 309 5 dL_drops_308 rfl rfl ?_
          refine x_bipush 311 (32 : Int32) dL_drops_309 rfl (by decide) ?_
          refine x_idiv 312 (by decide) dL_drops_311 rfl ?_
          refine x_iload 314 1 dL_drops_312 rfl rfl ?_
          refine x_iconst 315 (1 : Int32) dL_drops_314 rfl (by decide) ?_
          refine x_iadd 316 dL_drops_315 rfl ?_
          obtain ⟨h63, hF⟩ := ite_else hF
          refine x_irem 317 h63 dL_drops_316 rfl ?_
          have e1 := Option.some.inj hF
          subst e1
          refine x_sub [(0, .ref p0), (1, .ref p1), (3, .int v2), (5, .int v6), (6, .int v9), (12, .int x26), (13, .int v57), (14, .int v60)] [3, 4, 6, 7, 8, 2, 1, 0] rfl ?_
          exact hJ
    have hF := h113
    rcases ite_inv hF with ⟨hc, hF⟩ | ⟨hc, hF⟩
    · refine x_icmp_gt 251 109 dL_drops_106 (by decide) rfl (fun _ => ?_) (fun q => absurd hc q)
      refine x_iconst 252 (0 : Int32) dL_drops_251 rfl (by decide) ?_
      obtain ⟨e1, e2⟩ := so2 hF
      subst e1
      subst e2
      refine x_wide 32 192 (Nat.le_of_ble_eq_true rfl) (Nat.le_of_ble_eq_true rfl) ?_
      refine x_sub [(0, .ref p0), (1, .ref p1), (2, .int p2), (3, .int v2), (5, .int v6), (6, .int v9)] [9, 10, 11, 8, 6, 5] rfl ?_
      exact hJ
    · refine x_icmp_gt 251 109 dL_drops_106 (by decide) rfl (fun q => absurd q hc) (fun _ => ?_)
      refine x_iload 111 0 dL_drops_109 rfl rfl ?_
      refine x_iload 113 2 dL_drops_111 rfl rfl ?_
      refine x_iload 115 1 dL_drops_113 rfl rfl ?_
      refine x_iadd 116 dL_drops_115 rfl ?_
      rcases ite_inv hF with ⟨hc, hF⟩ | ⟨hc, hF⟩
      · refine x_icmp_gt 251 119 dL_drops_116 (by decide) rfl (fun _ => ?_) (fun q => absurd hc q)
        refine x_iconst 252 (0 : Int32) dL_drops_251 rfl (by decide) ?_
        obtain ⟨e1, e2⟩ := so2 hF
        subst e1
        subst e2
        refine x_wide 32 192 (Nat.le_of_ble_eq_true rfl) (Nat.le_of_ble_eq_true rfl) ?_
        refine x_sub [(0, .ref p0), (1, .ref p1), (2, .int p2), (3, .int v2), (5, .int v6), (6, .int v9)] [9, 10, 11, 8, 6, 5] rfl ?_
        exact hJ
      · refine x_icmp_gt 251 119 dL_drops_116 (by decide) rfl (fun q => absurd q hc) (fun _ => ?_)
        refine x_aload_n 120 9 dL_drops_119 rfl rfl ?_
        refine x_bipush 122 (9 : Int32) dL_drops_120 rfl (by decide) ?_
        refine x_iload 124 7 dL_drops_122 rfl rfl ?_
        refine x_iconst 125 (0 : Int32) dL_drops_124 rfl (by decide) ?_
        refine x_iconst 126 (0 : Int32) dL_drops_125 rfl (by decide) ?_
        obtain ⟨v29, s30, h28, hF⟩ := b2_inv hF
        refine x_callS (As := [.ref p0, .int (9 : Int32), .int (irm p2 v2), .int (0 : Int32), .int (0 : Int32)]) (rest := []) 129 18 108 (mL_call hst p0 (9 : Int32) (irm p2 v2) (0 : Int32) (0 : Int32) s25 none v29 s30 h28) qyL_call wd_180 wd_181 rfl rfl (by decide) (Nat.le_of_ble_eq_true rfl) ⟨Nat.le_of_ble_eq_true rfl, Nat.le_of_ble_eq_true rfl⟩ dL_drops_126 rfl rfl rfl rfl ?_
        refine x_iload_n 130 8 dL_drops_129 rfl rfl ?_
        refine x_iconst 131 (1 : Int32) dL_drops_130 rfl (by decide) ?_
        refine x_isub 132 dL_drops_131 rfl ?_
        rcases ite_inv hF with ⟨hc, hF⟩ | ⟨hc, hF⟩
        · refine x_icmp_ne 251 135 dL_drops_132 (by decide) rfl (fun q => absurd hc q) (fun _ => ?_)
          refine x_aload_n 136 10 dL_drops_135 rfl rfl ?_
          refine x_bipush 138 (9 : Int32) dL_drops_136 rfl (by decide) ?_
          refine x_iload 140 7 dL_drops_138 rfl rfl ?_
          refine x_iconst 141 (0 : Int32) dL_drops_140 rfl (by decide) ?_
          refine x_iconst 142 (0 : Int32) dL_drops_141 rfl (by decide) ?_
          obtain ⟨v32, s33, h31, hF⟩ := b2_inv hF
          refine x_callS (As := [.ref p1, .int (9 : Int32), .int (irm p2 v2), .int (0 : Int32), .int (0 : Int32)]) (rest := []) 145 20 120 (mL_call hst p1 (9 : Int32) (irm p2 v2) (0 : Int32) (0 : Int32) s30 none v32 s33 h31) qyL_call wd_180 wd_181 rfl rfl (by decide) (Nat.le_of_ble_eq_true rfl) ⟨Nat.le_of_ble_eq_true rfl, Nat.le_of_ble_eq_true rfl⟩ dL_drops_142 rfl rfl rfl rfl ?_
          refine x_iload_n 146 8 dL_drops_145 rfl rfl ?_
          refine x_iconst 147 (1 : Int32) dL_drops_146 rfl (by decide) ?_
          refine x_isub 148 dL_drops_147 rfl ?_
          rcases ite_inv hF with ⟨hc, hF⟩ | ⟨hc, hF⟩
          · refine x_icmp_ne 251 151 dL_drops_148 (by decide) rfl (fun q => absurd hc q) (fun _ => ?_)
            refine x_aload_n 152 9 dL_drops_151 rfl rfl ?_
            refine x_bipush 154 (7 : Int32) dL_drops_152 rfl (by decide) ?_
            refine x_iload 156 6 dL_drops_154 rfl rfl ?_
            refine x_iconst 157 (0 : Int32) dL_drops_156 rfl (by decide) ?_
            refine x_iload_n 158 11 dL_drops_157 rfl rfl ?_
            refine x_iconst 159 (2 : Int32) dL_drops_158 rfl (by decide) ?_
            refine x_irem 160 (by decide) dL_drops_159 rfl ?_
            obtain ⟨v35, s36, h34, hF⟩ := b2_inv hF
            refine x_callS (As := [.ref p0, .int (7 : Int32), .int v6, .int (0 : Int32), .int (irm p2 (2 : Int32))]) (rest := []) 163 22 132 (mL_call hst p0 (7 : Int32) v6 (0 : Int32) (irm p2 (2 : Int32)) s33 none v35 s36 h34) qyL_call wd_180 wd_181 rfl rfl (by decide) (Nat.le_of_ble_eq_true rfl) ⟨Nat.le_of_ble_eq_true rfl, Nat.le_of_ble_eq_true rfl⟩ dL_drops_160 rfl rfl rfl rfl ?_
            refine x_iload 165 4 dL_drops_163 rfl rfl ?_
            rcases ite_inv hF with ⟨hc, hF⟩ | ⟨hc, hF⟩
            · refine x_icmp_ne 251 168 dL_drops_165 (by decide) rfl (fun q => absurd hc q) (fun _ => ?_)
              refine x_aload_n 169 9 dL_drops_168 rfl rfl ?_
              refine x_bipush 171 (7 : Int32) dL_drops_169 rfl (by decide) ?_
              refine x_iload 173 6 dL_drops_171 rfl rfl ?_
              refine x_iconst 174 (1 : Int32) dL_drops_173 rfl (by decide) ?_
              refine x_iload_n 175 11 dL_drops_174 rfl rfl ?_
              refine x_iconst 176 (2 : Int32) dL_drops_175 rfl (by decide) ?_
              refine x_irem 177 (by decide) dL_drops_176 rfl ?_
              obtain ⟨v38, s39, h37, hF⟩ := b2_inv hF
              refine x_callS (As := [.ref p0, .int (7 : Int32), .int v6, .int (1 : Int32), .int (irm p2 (2 : Int32))]) (rest := []) 180 24 144 (mL_call hst p0 (7 : Int32) v6 (1 : Int32) (irm p2 (2 : Int32)) s36 none v38 s39 h37) qyL_call wd_180 wd_181 rfl rfl (by decide) (Nat.le_of_ble_eq_true rfl) ⟨Nat.le_of_ble_eq_true rfl, Nat.le_of_ble_eq_true rfl⟩ dL_drops_177 rfl rfl rfl rfl ?_
              refine x_iload 182 3 dL_drops_180 rfl rfl ?_
              rcases ite_inv hF with ⟨hc, hF⟩ | ⟨hc, hF⟩
              · refine x_icmp_ne 251 185 dL_drops_182 (by decide) rfl (fun q => absurd hc q) (fun _ => ?_)
                refine x_aload_n 186 9 dL_drops_185 rfl rfl ?_
                refine x_bipush 188 (7 : Int32) dL_drops_186 rfl (by decide) ?_
                refine x_iload 190 6 dL_drops_188 rfl rfl ?_
                refine x_iconst 191 (2 : Int32) dL_drops_190 rfl (by decide) ?_
                refine x_iload_n 192 11 dL_drops_191 rfl rfl ?_
                refine x_iconst 193 (2 : Int32) dL_drops_192 rfl (by decide) ?_
                refine x_irem 194 (by decide) dL_drops_193 rfl ?_
                obtain ⟨v41, s42, h40, hF⟩ := b2_inv hF
                refine x_callS (As := [.ref p0, .int (7 : Int32), .int v6, .int (2 : Int32), .int (irm p2 (2 : Int32))]) (rest := []) 197 26 156 (mL_call hst p0 (7 : Int32) v6 (2 : Int32) (irm p2 (2 : Int32)) s39 none v41 s42 h40) qyL_call wd_180 wd_181 rfl rfl (by decide) (Nat.le_of_ble_eq_true rfl) ⟨Nat.le_of_ble_eq_true rfl, Nat.le_of_ble_eq_true rfl⟩ dL_drops_194 rfl rfl rfl rfl ?_
                refine x_iload 199 2 dL_drops_197 rfl rfl ?_
                rcases ite_inv hF with ⟨hc, hF⟩ | ⟨hc, hF⟩
                · refine x_icmp_ne 251 202 dL_drops_199 (by decide) rfl (fun q => absurd hc q) (fun _ => ?_)
                  refine x_aload_n 203 9 dL_drops_202 rfl rfl ?_
                  refine x_bipush 205 (13 : Int32) dL_drops_203 rfl (by decide) ?_
                  refine x_iconst 206 (0 : Int32) dL_drops_205 rfl (by decide) ?_
                  refine x_iconst 207 (0 : Int32) dL_drops_206 rfl (by decide) ?_
                  refine x_iconst 208 (0 : Int32) dL_drops_207 rfl (by decide) ?_
                  obtain ⟨v44, s45, h43, hF⟩ := b2_inv hF
                  refine x_callS (As := [.ref p0, .int (13 : Int32), .int (0 : Int32), .int (0 : Int32), .int (0 : Int32)]) (rest := []) 211 28 168 (mL_call hst p0 (13 : Int32) (0 : Int32) (0 : Int32) (0 : Int32) s42 none v44 s45 h43) qyL_call wd_180 wd_181 rfl rfl (by decide) (Nat.le_of_ble_eq_true rfl) ⟨Nat.le_of_ble_eq_true rfl, Nat.le_of_ble_eq_true rfl⟩ dL_drops_208 rfl rfl rfl rfl ?_
                  obtain ⟨v47, h46, hF⟩ := b1_inv hF
                  refine x_callS (As := [.int v44]) (rest := []) 214 28 168 (mL_thrown hst v44 s45 none v47 h46) qyL_thrown wd_921 wd_922 rfl rfl (by decide) (Nat.le_of_ble_eq_true rfl) ⟨Nat.le_of_ble_eq_true rfl, Nat.le_of_ble_eq_true rfl⟩ dL_drops_211 rfl rfl rfl rfl ?_
                  rcases ite_inv hF with ⟨hc, hF⟩ | ⟨hc, hF⟩
                  · refine x_if_ne 251 217 dL_drops_214 (by decide) rfl (fun q => absurd hc q) (fun _ => ?_)
                    refine x_aload_n 218 10 dL_drops_217 rfl rfl ?_
                    refine x_bipush 220 (13 : Int32) dL_drops_218 rfl (by decide) ?_
                    refine x_iconst 221 (0 : Int32) dL_drops_220 rfl (by decide) ?_
                    refine x_iconst 222 (0 : Int32) dL_drops_221 rfl (by decide) ?_
                    refine x_iconst 223 (0 : Int32) dL_drops_222 rfl (by decide) ?_
                    obtain ⟨v49, s50, h48, hF⟩ := b2_inv hF
                    refine x_callS (As := [.ref p1, .int (13 : Int32), .int (0 : Int32), .int (0 : Int32), .int (0 : Int32)]) (rest := []) 226 30 180 (mL_call hst p1 (13 : Int32) (0 : Int32) (0 : Int32) (0 : Int32) s45 none v49 s50 h48) qyL_call wd_180 wd_181 rfl rfl (by decide) (Nat.le_of_ble_eq_true rfl) ⟨Nat.le_of_ble_eq_true rfl, Nat.le_of_ble_eq_true rfl⟩ dL_drops_223 rfl rfl rfl rfl ?_
                    obtain ⟨v52, h51, hF⟩ := b1_inv hF
                    refine x_callS (As := [.int v49]) (rest := []) 229 30 180 (mL_thrown hst v49 s50 none v52 h51) qyL_thrown wd_921 wd_922 rfl rfl (by decide) (Nat.le_of_ble_eq_true rfl) ⟨Nat.le_of_ble_eq_true rfl, Nat.le_of_ble_eq_true rfl⟩ dL_drops_226 rfl rfl rfl rfl ?_
                    rcases ite_inv hF with ⟨hc, hF⟩ | ⟨hc, hF⟩
                    · refine x_if_ne 251 232 dL_drops_229 (by decide) rfl (fun q => absurd hc q) (fun _ => ?_)
                      refine x_aload_n 233 9 dL_drops_232 rfl rfl ?_
                      refine x_iconst 234 (3 : Int32) dL_drops_233 rfl (by decide) ?_
                      refine x_iload 236 7 dL_drops_234 rfl rfl ?_
                      refine x_bipush 238 (9 : Int32) dL_drops_236 rfl (by decide) ?_
                      refine x_iconst 239 (0 : Int32) dL_drops_238 rfl (by decide) ?_
                      obtain ⟨v54, s55, h53, hF⟩ := b2_inv hF
                      refine x_callS (As := [.ref p0, .int (3 : Int32), .int (irm p2 v2), .int (9 : Int32), .int (0 : Int32)]) (rest := []) 242 32 192 (mL_call hst p0 (3 : Int32) (irm p2 v2) (9 : Int32) (0 : Int32) s50 none v54 s55 h53) qyL_call wd_180 wd_181 rfl rfl (by decide) (Nat.le_of_ble_eq_true rfl) ⟨Nat.le_of_ble_eq_true rfl, Nat.le_of_ble_eq_true rfl⟩ dL_drops_239 rfl rfl rfl rfl ?_
                      refine x_iload 244 1 dL_drops_242 rfl rfl ?_
                      rcases ite_inv hF with ⟨hc, hF⟩ | ⟨hc, hF⟩
                      · refine x_icmp_ne 251 247 dL_drops_244 (by decide) rfl (fun q => absurd hc q) (fun _ => ?_)
                        refine x_iconst 248 (1 : Int32) dL_drops_247 rfl (by decide) ?_
                        refine x_goto 252 dL_drops_248 (by decide) ?_
                        obtain ⟨e1, e2⟩ := so2 hF
                        subst e1
                        subst e2
                        refine x_sub [(0, .ref p0), (1, .ref p1), (2, .int p2), (3, .int v2), (5, .int v6), (6, .int v9)] [9, 10, 11, 8, 6, 5] rfl ?_
                        exact hJ
                      · refine x_icmp_ne 251 247 dL_drops_244 (by decide) rfl (fun _ => ?_) (fun q => absurd q hc)
                        refine x_iconst 252 (0 : Int32) dL_drops_251 rfl (by decide) ?_
                        obtain ⟨e1, e2⟩ := so2 hF
                        subst e1
                        subst e2
                        refine x_sub [(0, .ref p0), (1, .ref p1), (2, .int p2), (3, .int v2), (5, .int v6), (6, .int v9)] [9, 10, 11, 8, 6, 5] rfl ?_
                        exact hJ
                    · refine x_if_ne 251 232 dL_drops_229 (by decide) rfl (fun _ => ?_) (fun q => absurd q hc)
                      refine x_iconst 252 (0 : Int32) dL_drops_251 rfl (by decide) ?_
                      obtain ⟨e1, e2⟩ := so2 hF
                      subst e1
                      subst e2
                      refine x_wide 32 192 (Nat.le_of_ble_eq_true rfl) (Nat.le_of_ble_eq_true rfl) ?_
                      refine x_sub [(0, .ref p0), (1, .ref p1), (2, .int p2), (3, .int v2), (5, .int v6), (6, .int v9)] [9, 10, 11, 8, 6, 5] rfl ?_
                      exact hJ
                  · refine x_if_ne 251 217 dL_drops_214 (by decide) rfl (fun _ => ?_) (fun q => absurd q hc)
                    refine x_iconst 252 (0 : Int32) dL_drops_251 rfl (by decide) ?_
                    obtain ⟨e1, e2⟩ := so2 hF
                    subst e1
                    subst e2
                    refine x_wide 32 192 (Nat.le_of_ble_eq_true rfl) (Nat.le_of_ble_eq_true rfl) ?_
                    refine x_sub [(0, .ref p0), (1, .ref p1), (2, .int p2), (3, .int v2), (5, .int v6), (6, .int v9)] [9, 10, 11, 8, 6, 5] rfl ?_
                    exact hJ
                · refine x_icmp_ne 251 202 dL_drops_199 (by decide) rfl (fun _ => ?_) (fun q => absurd q hc)
                  refine x_iconst 252 (0 : Int32) dL_drops_251 rfl (by decide) ?_
                  obtain ⟨e1, e2⟩ := so2 hF
                  subst e1
                  subst e2
                  refine x_wide 32 192 (Nat.le_of_ble_eq_true rfl) (Nat.le_of_ble_eq_true rfl) ?_
                  refine x_sub [(0, .ref p0), (1, .ref p1), (2, .int p2), (3, .int v2), (5, .int v6), (6, .int v9)] [9, 10, 11, 8, 6, 5] rfl ?_
                  exact hJ
              · refine x_icmp_ne 251 185 dL_drops_182 (by decide) rfl (fun _ => ?_) (fun q => absurd q hc)
                refine x_iconst 252 (0 : Int32) dL_drops_251 rfl (by decide) ?_
                obtain ⟨e1, e2⟩ := so2 hF
                subst e1
                subst e2
                refine x_wide 32 192 (Nat.le_of_ble_eq_true rfl) (Nat.le_of_ble_eq_true rfl) ?_
                refine x_sub [(0, .ref p0), (1, .ref p1), (2, .int p2), (3, .int v2), (5, .int v6), (6, .int v9)] [9, 10, 11, 8, 6, 5] rfl ?_
                exact hJ
            · refine x_icmp_ne 251 168 dL_drops_165 (by decide) rfl (fun _ => ?_) (fun q => absurd q hc)
              refine x_iconst 252 (0 : Int32) dL_drops_251 rfl (by decide) ?_
              obtain ⟨e1, e2⟩ := so2 hF
              subst e1
              subst e2
              refine x_wide 32 192 (Nat.le_of_ble_eq_true rfl) (Nat.le_of_ble_eq_true rfl) ?_
              refine x_sub [(0, .ref p0), (1, .ref p1), (2, .int p2), (3, .int v2), (5, .int v6), (6, .int v9)] [9, 10, 11, 8, 6, 5] rfl ?_
              exact hJ
          · refine x_icmp_ne 251 151 dL_drops_148 (by decide) rfl (fun _ => ?_) (fun q => absurd q hc)
            refine x_iconst 252 (0 : Int32) dL_drops_251 rfl (by decide) ?_
            obtain ⟨e1, e2⟩ := so2 hF
            subst e1
            subst e2
            refine x_wide 32 192 (Nat.le_of_ble_eq_true rfl) (Nat.le_of_ble_eq_true rfl) ?_
            refine x_sub [(0, .ref p0), (1, .ref p1), (2, .int p2), (3, .int v2), (5, .int v6), (6, .int v9)] [9, 10, 11, 8, 6, 5] rfl ?_
            exact hJ
        · refine x_icmp_ne 251 135 dL_drops_132 (by decide) rfl (fun _ => ?_) (fun q => absurd q hc)
          refine x_iconst 252 (0 : Int32) dL_drops_251 rfl (by decide) ?_
          obtain ⟨e1, e2⟩ := so2 hF
          subst e1
          subst e2
          refine x_wide 32 192 (Nat.le_of_ble_eq_true rfl) (Nat.le_of_ble_eq_true rfl) ?_
          refine x_sub [(0, .ref p0), (1, .ref p1), (2, .int p2), (3, .int v2), (5, .int v6), (6, .int v9)] [9, 10, 11, 8, 6, 5] rfl ?_
          exact hJ
