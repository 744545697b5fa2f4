abbrev rmL_law : Room := room_1
set_option maxHeartbeats 8000000 in
set_option maxRecDepth 100000 in
theorem mL_law_L23 {l : Launch} {G : qG} (hst : l.stackTraces = false) (a0 : Nat) (a1 : Nat) (a2 : Nat) (a3 : Nat) (rf : Int32 × qH → qR) (hrf : ∀ v : Int32, ∀ σ : qH, rf (v, σ) = .inl (some (.int v), σ, none)) : ∀ (q k j : Nat) (y4 : Int32) (σ : qH) (o : Int32 × qH), k + 4 * q ≤ 601024 → j + 24 * q ≤ 7293034 → FL_law_L23 (G.2.2.2.1) a0 a1 a2 a3 q y4 σ = some o → qX l G RL "law" cL_law 7 (some .boolean) [] rmL_law 601024 7293034 (rf o) k j σ none 23 [(0, .ref a0), (1, .ref a1), (2, .ref a2), (3, .ref a3), (4, .int y4)] [] := by
  intro q
  induction q with
  | zero => intro k j y4 σ o hk hj hF; rw [FL_law_L23] at hF; cases hF
  | succ q ih =>
    intro k j y4 σ o hk hj hF
    rw [FL_law_L23] at hF
    refine x_iload 25 4 dL_law_23 rfl rfl ?_
    refine x_aload_n 26 0 dL_law_25 rfl rfl ?_
    obtain ⟨v11, h12, hF⟩ := b1_inv hF
    refine x_aL 27 h12 dL_law_26 rfl ?_
    refine x_bipush 29 (8 : Int32) dL_law_27 rfl (by decide) ?_
    refine x_isub 30 dL_law_29 rfl ?_
    rcases ite_inv hF with ⟨hc, hF⟩ | ⟨hc, hF⟩
    · refine x_icmp_gt 1794 33 dL_law_30 (by decide) rfl (fun _ => ?_) (fun q => absurd hc q)
      refine x_iconst 1795 (1 : Int32) dL_law_1794 rfl (by decide) ?_
      cases hF
      exact x_zret rfl rfl (hrf _ _) (by omega) (by omega) dL_law_1795
    · refine x_icmp_gt 1794 33 dL_law_30 (by decide) rfl (fun q => absurd q hc) (fun _ => ?_)
      refine x_aload_n 34 0 dL_law_33 rfl rfl ?_
      refine x_iload 36 4 dL_law_34 rfl rfl ?_
      obtain ⟨v13, h14, hF⟩ := b1_inv hF
      refine x_aI 37 h14 dL_law_36 rfl ?_
      refine x_bipush 39 (31 : Int32) dL_law_37 rfl (by decide) ?_
      refine x_iand 40 dL_law_39 rfl ?_
      rcases ite_inv hF with ⟨h29, hF⟩ | ⟨h29, hF⟩
      · have hK : qX l G RL "law" cL_law 7 (some .boolean) [] rmL_law 601024 7293034 (rf o) k j σ none 164 [(0, .ref a0), (1, .ref a1), (2, .ref a2), (3, .ref a3), (4, .int y4)] [] := by
          refine x_aload_n 165 1 dL_law_164 rfl rfl ?_
          refine x_aload_n 166 0 dL_law_165 rfl rfl ?_
          refine x_iload 168 4 dL_law_166 rfl rfl ?_
          refine x_iconst 169 (1 : Int32) dL_law_168 rfl (by decide) ?_
          refine x_iadd 170 dL_law_169 rfl ?_
          obtain ⟨v15, h16, hF⟩ := b1_inv hF
          refine x_aI 171 h16 dL_law_170 rfl ?_
          refine x_aload_n 172 3 dL_law_171 rfl rfl ?_
          obtain ⟨v18, s19, h17, hF⟩ := b2_inv hF
          refine x_callSW (As := [.ref a1, .int v15, .ref a3]) (rest := []) 175 (k + 2) (j + 12) (mL_append hst a1 v15 a3 σ none v18 s19 h17) qyL_append wd_292 wd_293 rfl rfl (by decide) (Nat.le_of_ble_eq_true rfl) ⟨by show k + 2 ≤ 601024; omega, by show j + 12 ≤ 7293034; omega⟩ dL_law_172 rfl rfl rfl rfl ?_
          refine x_istore 177 5 [(5, .int v18), (0, .ref a0), (1, .ref a1), (2, .ref a2), (3, .ref a3), (4, .int y4)] dL_law_175 rfl (by decide) rfl ?_
          refine x_aload_n 178 3 dL_law_177 rfl rfl ?_
          refine x_aload_n 179 1 dL_law_178 rfl rfl ?_
          refine x_iload 181 5 dL_law_179 rfl rfl ?_
          refine x_iconst 182 (1 : Int32) dL_law_181 rfl (by decide) ?_
          refine x_iadd 183 dL_law_182 rfl ?_
          obtain ⟨v20, h21, hF⟩ := b1_inv hF
          refine x_aI 184 h21 dL_law_183 rfl ?_
          obtain ⟨v23, s24, h22, hF⟩ := b2_inv hF
          obtain ⟨fs, hb⟩ : ∃ fs : List Value, True ∧ s19 a2 = some (.inr (5, fs)) := kX7_append h22
          refine x_callV (As := [.int v20]) (rest := []) 187 (k + 2) (j + 12) (mX7_append hst a2 v20 s19 none v23 s24 h22) qyX7_append wd_963 wd_964 wd_965 hb.2 rfl rfl rfl (by decide) (Nat.le_of_ble_eq_true rfl) ⟨by show (k + 2) + 0 ≤ 601024; omega, by show (j + 12) + 0 ≤ 7293034; omega⟩ dL_law_184 rfl rfl rfl rfl ?_
          refine x_istore 189 6 [(6, .int v23), (5, .int v18), (0, .ref a0), (1, .ref a1), (2, .ref a2), (3, .ref a3), (4, .int y4)] dL_law_187 rfl (by decide) rfl ?_
          refine x_aload_n 190 4 dL_law_189 rfl rfl ?_
          obtain ⟨v26, h25, hF⟩ := b1_inv hF
          obtain ⟨fs, hb⟩ : ∃ fs : List Value, True ∧ s24 a2 = some (.inr (5, fs)) := kX7_thrown h25
          refine x_callV (As := []) (rest := []) 193 (k + 2) (j + 12) (mX7_thrown hst a2 s24 none v26 h25) qyX7_thrown wd_959 wd_960 wd_961 hb.2 rfl rfl rfl (by decide) (Nat.le_of_ble_eq_true rfl) ⟨by show (k + 2) + 0 ≤ 601024; omega, by show (j + 12) + 0 ≤ 7293034; omega⟩ dL_law_190 rfl rfl rfl rfl ?_
          refine x_iload 195 1 dL_law_193 rfl rfl ?_
          rcases ite_inv hF with ⟨hc, hF⟩ | ⟨hc, hF⟩
          · refine x_icmp_eq 200 198 dL_law_195 (by decide) rfl (fun _ => ?_) (fun q => absurd hc q)
            refine x_iload 202 1 dL_law_200 rfl rfl ?_
            rcases ite_inv hF with ⟨hc, hF⟩ | ⟨hc, hF⟩
            · refine x_if_ne 217 205 dL_law_202 (by decide) rfl (fun q => absurd hc q) (fun _ => ?_)
              refine x_aload_n 206 5 dL_law_205 rfl rfl ?_
              refine x_iconst 207 (0 : Int32) dL_law_206 rfl (by decide) ?_
              obtain ⟨v27, h28, hF⟩ := b1_inv hF
              refine x_aJ 208 h28 dL_law_207 rfl ?_
              refine x_iload 210 0 dL_law_208 rfl rfl ?_
              refine x_i2l 211 dL_law_210 rfl ?_
              refine x_lcmp 212 dL_law_211 rfl ?_
              rcases ite_inv hF with ⟨hc, hF⟩ | ⟨hc, hF⟩
              · refine x_if_eq 217 215 dL_law_212 (by decide) rfl (fun _ => ?_) (fun q => absurd hc q)
                refine x_goto 1788 dL_law_217 (by decide) ?_
                refine x_iinc 1791 4 6 (y4 + (8 : Int32)) [(4, .int (y4 + (8 : Int32))), (6, .int v23), (5, .int v18), (0, .ref a0), (1, .ref a1), (2, .ref a2), (3, .ref a3)] dL_law_1788 rfl rfl rfl (by decide) rfl ?_
                refine x_goto 23 dL_law_1791 (by decide) ?_
                refine x_sub [(0, .ref a0), (1, .ref a1), (2, .ref a2), (3, .ref a3), (4, .int (y4 + (8 : Int32)))] [3, 4, 5, 6, 0] rfl ?_
                exact ih (k + 2) (j + 12) _ _ _ (by omega) (by omega) hF
              · refine x_if_eq 217 215 dL_law_212 (by decide) rfl (fun q => absurd q hc) (fun _ => ?_)
                refine x_iconst 216 (0 : Int32) dL_law_215 rfl (by decide) ?_
                cases hF
                exact x_zret rfl rfl (hrf _ _) (by omega) (by omega) dL_law_216
            · refine x_if_ne 217 205 dL_law_202 (by decide) rfl (fun _ => ?_) (fun q => absurd q hc)
              refine x_goto 1788 dL_law_217 (by decide) ?_
              refine x_iinc 1791 4 6 (y4 + (8 : Int32)) [(4, .int (y4 + (8 : Int32))), (6, .int v23), (5, .int v18), (0, .ref a0), (1, .ref a1), (2, .ref a2), (3, .ref a3)] dL_law_1788 rfl rfl rfl (by decide) rfl ?_
              refine x_goto 23 dL_law_1791 (by decide) ?_
              refine x_sub [(0, .ref a0), (1, .ref a1), (2, .ref a2), (3, .ref a3), (4, .int (y4 + (8 : Int32)))] [3, 4, 5, 6, 0] rfl ?_
              exact ih (k + 2) (j + 12) _ _ _ (by omega) (by omega) hF
          · refine x_icmp_eq 200 198 dL_law_195 (by decide) rfl (fun q => absurd q hc) (fun _ => ?_)
            refine x_iconst 199 (0 : Int32) dL_law_198 rfl (by decide) ?_
            cases hF
            exact x_zret rfl rfl (hrf _ _) (by omega) (by omega) dL_law_199
        · exact x_tableIn (124) 164 dL_law_40 (by rw [h29]; decide) (by rw [h29]; decide) (by rw [h29]; decide) (by decide) hK
      rcases ite_inv hF with ⟨h36, hF⟩ | ⟨h36, hF⟩
      · have hK : qX l G RL "law" cL_law 7 (some .boolean) [] rmL_law 601024 7293034 (rf o) k j σ none 220 [(0, .ref a0), (1, .ref a1), (2, .ref a2), (3, .ref a3), (4, .int y4)] [] := by
          refine x_aload_n 221 1 dL_law_220 rfl rfl ?_
          obtain ⟨v31, s32, h30, hF⟩ := b2_inv hF
          obtain ⟨fs, hb⟩ : ∃ fs : List Value, True ∧ σ a1 = some (.inr (4, fs)) := kX6_clearText h30
          refine x_callV (As := []) (rest := []) 224 k j (mX6_clearText hst a1 σ none v31 s32 h30) qyX6_clearText wd_182 wd_183 wd_184 hb.2 rfl rfl rfl (by decide) (Nat.le_of_ble_eq_true rfl) ⟨by show k + 0 ≤ 601024; omega, by show j + 0 ≤ 7293034; omega⟩ dL_law_221 rfl rfl rfl rfl ?_
          refine x_aload_n 225 2 dL_law_224 rfl rfl ?_
          obtain ⟨v34, s35, h33, hF⟩ := b2_inv hF
          obtain ⟨fs, hb⟩ : ∃ fs : List Value, True ∧ s32 a2 = some (.inr (5, fs)) := kX7_clearText h33
          refine x_callV (As := []) (rest := [.int v31]) 228 k j (mX7_clearText hst a2 s32 none v34 s35 h33) qyX7_clearText wd_975 wd_976 wd_977 hb.2 rfl rfl rfl (by decide) (Nat.le_of_ble_eq_true rfl) ⟨by show k + 0 ≤ 601024; omega, by show j + 0 ≤ 7293034; omega⟩ dL_law_225 rfl rfl rfl rfl ?_
          rcases ite_inv hF with ⟨hc, hF⟩ | ⟨hc, hF⟩
          · refine x_icmp_eq 1788 231 dL_law_228 (by decide) rfl (fun _ => ?_) (fun q => absurd hc q)
            refine x_iinc 1791 4 4 (y4 + (8 : Int32)) [(4, .int (y4 + (8 : Int32))), (0, .ref a0), (1, .ref a1), (2, .ref a2), (3, .ref a3)] dL_law_1788 rfl rfl rfl (by decide) rfl ?_
            refine x_goto 23 dL_law_1791 (by decide) ?_
            refine x_sub [(0, .ref a0), (1, .ref a1), (2, .ref a2), (3, .ref a3), (4, .int (y4 + (8 : Int32)))] [1, 2, 3, 4, 0] rfl ?_
            exact ih k j _ _ _ (by omega) (by omega) hF
          · refine x_icmp_eq 1788 231 dL_law_228 (by decide) rfl (fun q => absurd q hc) (fun _ => ?_)
            refine x_iconst 232 (0 : Int32) dL_law_231 rfl (by decide) ?_
            cases hF
            exact x_zret rfl rfl (hrf _ _) (by omega) (by omega) dL_law_232
        · exact x_tableIn (180) 220 dL_law_40 (by rw [h36]; decide) (by rw [h36]; decide) (by rw [h36]; decide) (by decide) hK
      rcases ite_inv hF with ⟨h43, hF⟩ | ⟨h43, hF⟩
      · have hK : qX l G RL "law" cL_law 7 (some .boolean) [] rmL_law 601024 7293034 (rf o) k j σ none 233 [(0, .ref a0), (1, .ref a1), (2, .ref a2), (3, .ref a3), (4, .int y4)] [] := by
          refine x_aload_n 234 1 dL_law_233 rfl rfl ?_
          obtain ⟨v38, s39, h37, hF⟩ := b2_inv hF
          obtain ⟨fs, hb⟩ : ∃ fs : List Value, True ∧ σ a1 = some (.inr (4, fs)) := kX6_errorPosition h37
          refine x_callV (As := []) (rest := []) 237 k j (mX6_errorPosition hst a1 σ none v38 s39 h37) qyX6_errorPosition wd_190 wd_191 wd_192 hb.2 rfl rfl rfl (by decide) (Nat.le_of_ble_eq_true rfl) ⟨by show k + 0 ≤ 601024; omega, by show j + 0 ≤ 7293034; omega⟩ dL_law_234 rfl rfl rfl rfl ?_
          refine x_aload_n 238 2 dL_law_237 rfl rfl ?_
          obtain ⟨v41, s42, h40, hF⟩ := b2_inv hF
          obtain ⟨fs, hb⟩ : ∃ fs : List Value, True ∧ s39 a2 = some (.inr (5, fs)) := kX7_errorPosition h40
          refine x_callV (As := []) (rest := [.int v38]) 241 k j (mX7_errorPosition hst a2 s39 none v41 s42 h40) qyX7_errorPosition wd_979 wd_980 wd_981 hb.2 rfl rfl rfl (by decide) (Nat.le_of_ble_eq_true rfl) ⟨by show k + 0 ≤ 601024; omega, by show j + 0 ≤ 7293034; omega⟩ dL_law_238 rfl rfl rfl rfl ?_
          rcases ite_inv hF with ⟨hc, hF⟩ | ⟨hc, hF⟩
          · refine x_icmp_eq 1788 244 dL_law_241 (by decide) rfl (fun _ => ?_) (fun q => absurd hc q)
            refine x_iinc 1791 4 4 (y4 + (8 : Int32)) [(4, .int (y4 + (8 : Int32))), (0, .ref a0), (1, .ref a1), (2, .ref a2), (3, .ref a3)] dL_law_1788 rfl rfl rfl (by decide) rfl ?_
            refine x_goto 23 dL_law_1791 (by decide) ?_
            refine x_sub [(0, .ref a0), (1, .ref a1), (2, .ref a2), (3, .ref a3), (4, .int (y4 + (8 : Int32)))] [1, 2, 3, 4, 0] rfl ?_
            exact ih k j _ _ _ (by omega) (by omega) hF
          · refine x_icmp_eq 1788 244 dL_law_241 (by decide) rfl (fun q => absurd q hc) (fun _ => ?_)
            refine x_iconst 245 (0 : Int32) dL_law_244 rfl (by decide) ?_
            cases hF
            exact x_zret rfl rfl (hrf _ _) (by omega) (by omega) dL_law_245
        · exact x_tableIn (193) 233 dL_law_40 (by rw [h43]; decide) (by rw [h43]; decide) (by rw [h43]; decide) (by decide) hK
      rcases ite_inv hF with ⟨h54, hF⟩ | ⟨h54, hF⟩
      · have hK : qX l G RL "law" cL_law 7 (some .boolean) [] rmL_law 601024 7293034 (rf o) k j σ none 246 [(0, .ref a0), (1, .ref a1), (2, .ref a2), (3, .ref a3), (4, .int y4)] [] := by
          refine x_aload_n 247 1 dL_law_246 rfl rfl ?_
          refine x_aload_n 248 3 dL_law_247 rfl rfl ?_
          obtain ⟨v45, s46, h44, hF⟩ := b2_inv hF
          refine x_callSW (As := [.ref a1, .ref a3]) (rest := []) 251 (k + 1) (j + 6) (mL_load hst a1 a3 σ none v45 s46 h44) qyL_load wd_396 wd_397 rfl rfl (by decide) (Nat.le_of_ble_eq_true rfl) ⟨by show k + 1 ≤ 601024; omega, by show j + 6 ≤ 7293034; omega⟩ dL_law_248 rfl rfl rfl rfl ?_
          refine x_istore 253 5 [(5, .int v45), (0, .ref a0), (1, .ref a1), (2, .ref a2), (3, .ref a3), (4, .int y4)] dL_law_251 rfl (by decide) rfl ?_
          refine x_aload_n 254 3 dL_law_253 rfl rfl ?_
          obtain ⟨v48, s49, h47, hF⟩ := b2_inv hF
          obtain ⟨fs, hb⟩ : ∃ fs : List Value, True ∧ s46 a2 = some (.inr (5, fs)) := kX7_load h47
          refine x_callV (As := []) (rest := []) 257 (k + 1) (j + 6) (mX7_load hst a2 s46 none v48 s49 h47) qyX7_load wd_1057 wd_1058 wd_1059 hb.2 rfl rfl rfl (by decide) (Nat.le_of_ble_eq_true rfl) ⟨by show (k + 1) + 0 ≤ 601024; omega, by show (j + 6) + 0 ≤ 7293034; omega⟩ dL_law_254 rfl rfl rfl rfl ?_
          refine x_istore 259 6 [(6, .int v48), (5, .int v45), (0, .ref a0), (1, .ref a1), (2, .ref a2), (3, .ref a3), (4, .int y4)] dL_law_257 rfl (by decide) rfl ?_
          refine x_aload_n 260 4 dL_law_259 rfl rfl ?_
          obtain ⟨v51, h50, hF⟩ := b1_inv hF
          obtain ⟨fs, hb⟩ : ∃ fs : List Value, True ∧ s49 a2 = some (.inr (5, fs)) := kX7_thrown h50
          refine x_callV (As := []) (rest := []) 263 (k + 1) (j + 6) (mX7_thrown hst a2 s49 none v51 h50) qyX7_thrown wd_959 wd_960 wd_961 hb.2 rfl rfl rfl (by decide) (Nat.le_of_ble_eq_true rfl) ⟨by show (k + 1) + 0 ≤ 601024; omega, by show (j + 6) + 0 ≤ 7293034; omega⟩ dL_law_260 rfl rfl rfl rfl ?_
          refine x_iload 265 1 dL_law_263 rfl rfl ?_
          rcases ite_inv hF with ⟨hc, hF⟩ | ⟨hc, hF⟩
          · refine x_icmp_eq 270 268 dL_law_265 (by decide) rfl (fun _ => ?_) (fun q => absurd hc q)
            refine x_iload 272 1 dL_law_270 rfl rfl ?_
            rcases ite_inv hF with ⟨hc, hF⟩ | ⟨hc, hF⟩
            · refine x_if_ne 287 275 dL_law_272 (by decide) rfl (fun q => absurd hc q) (fun _ => ?_)
              refine x_aload_n 276 5 dL_law_275 rfl rfl ?_
              refine x_iconst 277 (0 : Int32) dL_law_276 rfl (by decide) ?_
              obtain ⟨v52, h53, hF⟩ := b1_inv hF
              refine x_aJ 278 h53 dL_law_277 rfl ?_
              refine x_iload 280 0 dL_law_278 rfl rfl ?_
              refine x_i2l 281 dL_law_280 rfl ?_
              refine x_lcmp 282 dL_law_281 rfl ?_
              rcases ite_inv hF with ⟨hc, hF⟩ | ⟨hc, hF⟩
              · refine x_if_eq 287 285 dL_law_282 (by decide) rfl (fun _ => ?_) (fun q => absurd hc q)
                refine x_goto 1788 dL_law_287 (by decide) ?_
                refine x_iinc 1791 4 6 (y4 + (8 : Int32)) [(4, .int (y4 + (8 : Int32))), (6, .int v48), (5, .int v45), (0, .ref a0), (1, .ref a1), (2, .ref a2), (3, .ref a3)] dL_law_1788 rfl rfl rfl (by decide) rfl ?_
                refine x_goto 23 dL_law_1791 (by decide) ?_
                refine x_sub [(0, .ref a0), (1, .ref a1), (2, .ref a2), (3, .ref a3), (4, .int (y4 + (8 : Int32)))] [3, 4, 5, 6, 0] rfl ?_
                exact ih (k + 1) (j + 6) _ _ _ (by omega) (by omega) hF
              · refine x_if_eq 287 285 dL_law_282 (by decide) rfl (fun q => absurd q hc) (fun _ => ?_)
                refine x_iconst 286 (0 : Int32) dL_law_285 rfl (by decide) ?_
                cases hF
                exact x_zret rfl rfl (hrf _ _) (by omega) (by omega) dL_law_286
            · refine x_if_ne 287 275 dL_law_272 (by decide) rfl (fun _ => ?_) (fun q => absurd q hc)
              refine x_goto 1788 dL_law_287 (by decide) ?_
              refine x_iinc 1791 4 6 (y4 + (8 : Int32)) [(4, .int (y4 + (8 : Int32))), (6, .int v48), (5, .int v45), (0, .ref a0), (1, .ref a1), (2, .ref a2), (3, .ref a3)] dL_law_1788 rfl rfl rfl (by decide) rfl ?_
              refine x_goto 23 dL_law_1791 (by decide) ?_
              refine x_sub [(0, .ref a0), (1, .ref a1), (2, .ref a2), (3, .ref a3), (4, .int (y4 + (8 : Int32)))] [3, 4, 5, 6, 0] rfl ?_
              exact ih (k + 1) (j + 6) _ _ _ (by omega) (by omega) hF
          · refine x_icmp_eq 270 268 dL_law_265 (by decide) rfl (fun q => absurd q hc) (fun _ => ?_)
            refine x_iconst 269 (0 : Int32) dL_law_268 rfl (by decide) ?_
            cases hF
            exact x_zret rfl rfl (hrf _ _) (by omega) (by omega) dL_law_269
        · exact x_tableIn (206) 246 dL_law_40 (by rw [h54]; decide) (by rw [h54]; decide) (by rw [h54]; decide) (by decide) hK
      rcases ite_inv hF with ⟨h69, hF⟩ | ⟨h69, hF⟩
      · have hK : qX l G RL "law" cL_law 7 (some .boolean) [] rmL_law 601024 7293034 (rf o) k j σ none 290 [(0, .ref a0), (1, .ref a1), (2, .ref a2), (3, .ref a3), (4, .int y4)] [] := by
          refine x_aload_n 291 1 dL_law_290 rfl rfl ?_
          refine x_aload_n 292 0 dL_law_291 rfl rfl ?_
          refine x_iload 294 4 dL_law_292 rfl rfl ?_
          refine x_iconst 295 (1 : Int32) dL_law_294 rfl (by decide) ?_
          refine x_iadd 296 dL_law_295 rfl ?_
          obtain ⟨v55, h56, hF⟩ := b1_inv hF
          refine x_aI 297 h56 dL_law_296 rfl ?_
          refine x_aload_n 298 3 dL_law_297 rfl rfl ?_
          obtain ⟨v58, s59, h57, hF⟩ := b2_inv hF
          refine x_callSW (As := [.ref a1, .int v55, .ref a3]) (rest := []) 301 (k + 1) (j + 6) (mL_about hst a1 v55 a3 σ none v58 s59 h57) qyL_about wd_510 wd_511 rfl rfl (by decide) (Nat.le_of_ble_eq_true rfl) ⟨by show k + 1 ≤ 601024; omega, by show j + 6 ≤ 7293034; omega⟩ dL_law_298 rfl rfl rfl rfl ?_
          refine x_istore 303 5 [(5, .int v58), (0, .ref a0), (1, .ref a1), (2, .ref a2), (3, .ref a3), (4, .int y4)] dL_law_301 rfl (by decide) rfl ?_
          refine x_aload_n 304 3 dL_law_303 rfl rfl ?_
          refine x_aload_n 305 1 dL_law_304 rfl rfl ?_
          refine x_iload 307 5 dL_law_305 rfl rfl ?_
          refine x_iconst 308 (1 : Int32) dL_law_307 rfl (by decide) ?_
          refine x_iadd 309 dL_law_308 rfl ?_
          obtain ⟨v60, h61, hF⟩ := b1_inv hF
          refine x_aI 310 h61 dL_law_309 rfl ?_
          obtain ⟨v63, s64, h62, hF⟩ := b2_inv hF
          obtain ⟨fs, hb⟩ : ∃ fs : List Value, True ∧ s59 a2 = some (.inr (5, fs)) := kX7_about h62
          refine x_callV (As := [.int v60]) (rest := []) 313 (k + 1) (j + 6) (mX7_about hst a2 v60 s59 none v63 s64 h62) qyX7_about wd_1064 wd_1065 wd_1066 hb.2 rfl rfl rfl (by decide) (Nat.le_of_ble_eq_true rfl) ⟨by show (k + 1) + 0 ≤ 601024; omega, by show (j + 6) + 0 ≤ 7293034; omega⟩ dL_law_310 rfl rfl rfl rfl ?_
          refine x_istore 315 6 [(6, .int v63), (5, .int v58), (0, .ref a0), (1, .ref a1), (2, .ref a2), (3, .ref a3), (4, .int y4)] dL_law_313 rfl (by decide) rfl ?_
          refine x_aload_n 316 4 dL_law_315 rfl rfl ?_
          obtain ⟨v66, h65, hF⟩ := b1_inv hF
          obtain ⟨fs, hb⟩ : ∃ fs : List Value, True ∧ s64 a2 = some (.inr (5, fs)) := kX7_thrown h65
          refine x_callV (As := []) (rest := []) 319 (k + 1) (j + 6) (mX7_thrown hst a2 s64 none v66 h65) qyX7_thrown wd_959 wd_960 wd_961 hb.2 rfl rfl rfl (by decide) (Nat.le_of_ble_eq_true rfl) ⟨by show (k + 1) + 0 ≤ 601024; omega, by show (j + 6) + 0 ≤ 7293034; omega⟩ dL_law_316 rfl rfl rfl rfl ?_
          refine x_iload 321 1 dL_law_319 rfl rfl ?_
          rcases ite_inv hF with ⟨hc, hF⟩ | ⟨hc, hF⟩
          · refine x_icmp_eq 326 324 dL_law_321 (by decide) rfl (fun _ => ?_) (fun q => absurd hc q)
            refine x_iload 328 1 dL_law_326 rfl rfl ?_
            rcases ite_inv hF with ⟨hc, hF⟩ | ⟨hc, hF⟩
            · refine x_if_ne 343 331 dL_law_328 (by decide) rfl (fun q => absurd hc q) (fun _ => ?_)
              refine x_aload_n 332 5 dL_law_331 rfl rfl ?_
              refine x_iconst 333 (0 : Int32) dL_law_332 rfl (by decide) ?_
              obtain ⟨v67, h68, hF⟩ := b1_inv hF
              refine x_aJ 334 h68 dL_law_333 rfl ?_
              refine x_iload 336 0 dL_law_334 rfl rfl ?_
              refine x_i2l 337 dL_law_336 rfl ?_
              refine x_lcmp 338 dL_law_337 rfl ?_
              rcases ite_inv hF with ⟨hc, hF⟩ | ⟨hc, hF⟩
              · refine x_if_eq 343 341 dL_law_338 (by decide) rfl (fun _ => ?_) (fun q => absurd hc q)
                refine x_goto 1788 dL_law_343 (by decide) ?_
                refine x_iinc 1791 4 6 (y4 + (8 : Int32)) [(4, .int (y4 + (8 : Int32))), (6, .int v63), (5, .int v58), (0, .ref a0), (1, .ref a1), (2, .ref a2), (3, .ref a3)] dL_law_1788 rfl rfl rfl (by decide) rfl ?_
                refine x_goto 23 dL_law_1791 (by decide) ?_
                refine x_sub [(0, .ref a0), (1, .ref a1), (2, .ref a2), (3, .ref a3), (4, .int (y4 + (8 : Int32)))] [3, 4, 5, 6, 0] rfl ?_
                exact ih (k + 1) (j + 6) _ _ _ (by omega) (by omega) hF
              · refine x_if_eq 343 341 dL_law_338 (by decide) rfl (fun q => absurd q hc) (fun _ => ?_)
                refine x_iconst 342 (0 : Int32) dL_law_341 rfl (by decide) ?_
                cases hF
                exact x_zret rfl rfl (hrf _ _) (by omega) (by omega) dL_law_342
            · refine x_if_ne 343 331 dL_law_328 (by decide) rfl (fun _ => ?_) (fun q => absurd q hc)
              refine x_goto 1788 dL_law_343 (by decide) ?_
              refine x_iinc 1791 4 6 (y4 + (8 : Int32)) [(4, .int (y4 + (8 : Int32))), (6, .int v63), (5, .int v58), (0, .ref a0), (1, .ref a1), (2, .ref a2), (3, .ref a3)] dL_law_1788 rfl rfl rfl (by decide) rfl ?_
              refine x_goto 23 dL_law_1791 (by decide) ?_
              refine x_sub [(0, .ref a0), (1, .ref a1), (2, .ref a2), (3, .ref a3), (4, .int (y4 + (8 : Int32)))] [3, 4, 5, 6, 0] rfl ?_
              exact ih (k + 1) (j + 6) _ _ _ (by omega) (by omega) hF
          · refine x_icmp_eq 326 324 dL_law_321 (by decide) rfl (fun q => absurd q hc) (fun _ => ?_)
            refine x_iconst 325 (0 : Int32) dL_law_324 rfl (by decide) ?_
            cases hF
            exact x_zret rfl rfl (hrf _ _) (by omega) (by omega) dL_law_325
        · exact x_tableIn (250) 290 dL_law_40 (by rw [h69]; decide) (by rw [h69]; decide) (by rw [h69]; decide) (by decide) hK
      rcases ite_inv hF with ⟨h88, hF⟩ | ⟨h88, hF⟩
      · have hK : qX l G RL "law" cL_law 7 (some .boolean) [] rmL_law 601024 7293034 (rf o) k j σ none 346 [(0, .ref a0), (1, .ref a1), (2, .ref a2), (3, .ref a3), (4, .int y4)] [] := by
          refine x_aload_n 347 1 dL_law_346 rfl rfl ?_
          refine x_aload_n 348 0 dL_law_347 rfl rfl ?_
          refine x_iload 350 4 dL_law_348 rfl rfl ?_
          refine x_iconst 351 (1 : Int32) dL_law_350 rfl (by decide) ?_
          refine x_iadd 352 dL_law_351 rfl ?_
          obtain ⟨v70, h71, hF⟩ := b1_inv hF
          refine x_aI 353 h71 dL_law_352 rfl ?_
          refine x_aload_n 354 0 dL_law_353 rfl rfl ?_
          refine x_iload 356 4 dL_law_354 rfl rfl ?_
          refine x_iconst 357 (2 : Int32) dL_law_356 rfl (by decide) ?_
          refine x_iadd 358 dL_law_357 rfl ?_
          obtain ⟨v72, h73, hF⟩ := b1_inv hF
          refine x_aI 359 h73 dL_law_358 rfl ?_
          refine x_aload_n 360 3 dL_law_359 rfl rfl ?_
          obtain ⟨v75, s76, h74, hF⟩ := b2_inv hF
          refine x_callSW (As := [.ref a1, .int v70, .int v72, .ref a3]) (rest := []) 363 (k + 2) (j + 12) (mL_measureOf hst a1 v70 v72 a3 σ none v75 s76 h74) qyL_measureOf wd_564 wd_565 rfl rfl (by decide) (Nat.le_of_ble_eq_true rfl) ⟨by show k + 2 ≤ 601024; omega, by show j + 12 ≤ 7293034; omega⟩ dL_law_360 rfl rfl rfl rfl ?_
          refine x_istore 365 5 [(5, .int v75), (0, .ref a0), (1, .ref a1), (2, .ref a2), (3, .ref a3), (4, .int y4)] dL_law_363 rfl (by decide) rfl ?_
          refine x_aload_n 366 3 dL_law_365 rfl rfl ?_
          refine x_aload_n 367 1 dL_law_366 rfl rfl ?_
          refine x_iload 369 5 dL_law_367 rfl rfl ?_
          refine x_iconst 370 (1 : Int32) dL_law_369 rfl (by decide) ?_
          refine x_iadd 371 dL_law_370 rfl ?_
          obtain ⟨v77, h78, hF⟩ := b1_inv hF
          refine x_aI 372 h78 dL_law_371 rfl ?_
          refine x_aload_n 373 1 dL_law_372 rfl rfl ?_
          refine x_iload 375 5 dL_law_373 rfl rfl ?_
          refine x_iconst 376 (2 : Int32) dL_law_375 rfl (by decide) ?_
          refine x_iadd 377 dL_law_376 rfl ?_
          obtain ⟨v79, h80, hF⟩ := b1_inv hF
          refine x_aI 378 h80 dL_law_377 rfl ?_
          obtain ⟨v82, s83, h81, hF⟩ := b2_inv hF
          obtain ⟨fs, hb⟩ : ∃ fs : List Value, True ∧ s76 a2 = some (.inr (5, fs)) := kX7_measureOf h81
          refine x_callV (As := [.int v77, .int v79]) (rest := []) 381 (k + 2) (j + 12) (mX7_measureOf hst a2 v77 v79 s76 none v82 s83 h81) qyX7_measureOf wd_1074 wd_1075 wd_1076 hb.2 rfl rfl rfl (by decide) (Nat.le_of_ble_eq_true rfl) ⟨by show (k + 2) + 0 ≤ 601024; omega, by show (j + 12) + 0 ≤ 7293034; omega⟩ dL_law_378 rfl rfl rfl rfl ?_
          refine x_istore 383 6 [(6, .int v82), (5, .int v75), (0, .ref a0), (1, .ref a1), (2, .ref a2), (3, .ref a3), (4, .int y4)] dL_law_381 rfl (by decide) rfl ?_
          refine x_aload_n 384 4 dL_law_383 rfl rfl ?_
          obtain ⟨v85, h84, hF⟩ := b1_inv hF
          obtain ⟨fs, hb⟩ : ∃ fs : List Value, True ∧ s83 a2 = some (.inr (5, fs)) := kX7_thrown h84
          refine x_callV (As := []) (rest := []) 387 (k + 2) (j + 12) (mX7_thrown hst a2 s83 none v85 h84) qyX7_thrown wd_959 wd_960 wd_961 hb.2 rfl rfl rfl (by decide) (Nat.le_of_ble_eq_true rfl) ⟨by show (k + 2) + 0 ≤ 601024; omega, by show (j + 12) + 0 ≤ 7293034; omega⟩ dL_law_384 rfl rfl rfl rfl ?_
          refine x_iload 389 1 dL_law_387 rfl rfl ?_
          rcases ite_inv hF with ⟨hc, hF⟩ | ⟨hc, hF⟩
          · refine x_icmp_eq 394 392 dL_law_389 (by decide) rfl (fun _ => ?_) (fun q => absurd hc q)
            refine x_iload 396 1 dL_law_394 rfl rfl ?_
            rcases ite_inv hF with ⟨hc, hF⟩ | ⟨hc, hF⟩
            · refine x_if_ne 411 399 dL_law_396 (by decide) rfl (fun q => absurd hc q) (fun _ => ?_)
              refine x_aload_n 400 5 dL_law_399 rfl rfl ?_
              refine x_iconst 401 (0 : Int32) dL_law_400 rfl (by decide) ?_
              obtain ⟨v86, h87, hF⟩ := b1_inv hF
              refine x_aJ 402 h87 dL_law_401 rfl ?_
              refine x_iload 404 0 dL_law_402 rfl rfl ?_
              refine x_i2l 405 dL_law_404 rfl ?_
              refine x_lcmp 406 dL_law_405 rfl ?_
              rcases ite_inv hF with ⟨hc, hF⟩ | ⟨hc, hF⟩
              · refine x_if_eq 411 409 dL_law_406 (by decide) rfl (fun _ => ?_) (fun q => absurd hc q)
                refine x_goto 1788 dL_law_411 (by decide) ?_
                refine x_iinc 1791 4 6 (y4 + (8 : Int32)) [(4, .int (y4 + (8 : Int32))), (6, .int v82), (5, .int v75), (0, .ref a0), (1, .ref a1), (2, .ref a2), (3, .ref a3)] dL_law_1788 rfl rfl rfl (by decide) rfl ?_
                refine x_goto 23 dL_law_1791 (by decide) ?_
                refine x_sub [(0, .ref a0), (1, .ref a1), (2, .ref a2), (3, .ref a3), (4, .int (y4 + (8 : Int32)))] [3, 4, 5, 6, 0] rfl ?_
                exact ih (k + 2) (j + 12) _ _ _ (by omega) (by omega) hF
              · refine x_if_eq 411 409 dL_law_406 (by decide) rfl (fun q => absurd q hc) (fun _ => ?_)
                refine x_iconst 410 (0 : Int32) dL_law_409 rfl (by decide) ?_
                cases hF
                exact x_zret rfl rfl (hrf _ _) (by omega) (by omega) dL_law_410
            · refine x_if_ne 411 399 dL_law_396 (by decide) rfl (fun _ => ?_) (fun q => absurd q hc)
              refine x_goto 1788 dL_law_411 (by decide) ?_
              refine x_iinc 1791 4 6 (y4 + (8 : Int32)) [(4, .int (y4 + (8 : Int32))), (6, .int v82), (5, .int v75), (0, .ref a0), (1, .ref a1), (2, .ref a2), (3, .ref a3)] dL_law_1788 rfl rfl rfl (by decide) rfl ?_
              refine x_goto 23 dL_law_1791 (by decide) ?_
              refine x_sub [(0, .ref a0), (1, .ref a1), (2, .ref a2), (3, .ref a3), (4, .int (y4 + (8 : Int32)))] [3, 4, 5, 6, 0] rfl ?_
              exact ih (k + 2) (j + 12) _ _ _ (by omega) (by omega) hF
          · refine x_icmp_eq 394 392 dL_law_389 (by decide) rfl (fun q => absurd q hc) (fun _ => ?_)
            refine x_iconst 393 (0 : Int32) dL_law_392 rfl (by decide) ?_
            cases hF
            exact x_zret rfl rfl (hrf _ _) (by omega) (by omega) dL_law_393
        · exact x_tableIn (306) 346 dL_law_40 (by rw [h88]; decide) (by rw [h88]; decide) (by rw [h88]; decide) (by decide) hK
      rcases ite_inv hF with ⟨h107, hF⟩ | ⟨h107, hF⟩
      · have hK : qX l G RL "law" cL_law 7 (some .boolean) [] rmL_law 601024 7293034 (rf o) k j σ none 414 [(0, .ref a0), (1, .ref a1), (2, .ref a2), (3, .ref a3), (4, .int y4)] [] := by
          refine x_aload_n 415 1 dL_law_414 rfl rfl ?_
          refine x_aload_n 416 0 dL_law_415 rfl rfl ?_
          refine x_iload 418 4 dL_law_416 rfl rfl ?_
          refine x_iconst 419 (1 : Int32) dL_law_418 rfl (by decide) ?_
          refine x_iadd 420 dL_law_419 rfl ?_
          obtain ⟨v89, h90, hF⟩ := b1_inv hF
          refine x_aI 421 h90 dL_law_420 rfl ?_
          refine x_aload_n 422 0 dL_law_421 rfl rfl ?_
          refine x_iload 424 4 dL_law_422 rfl rfl ?_
          refine x_iconst 425 (2 : Int32) dL_law_424 rfl (by decide) ?_
          refine x_iadd 426 dL_law_425 rfl ?_
          obtain ⟨v91, h92, hF⟩ := b1_inv hF
          refine x_aI 427 h92 dL_law_426 rfl ?_
          refine x_aload_n 428 3 dL_law_427 rfl rfl ?_
          obtain ⟨v94, s95, h93, hF⟩ := b2_inv hF
          refine x_callSW (As := [.ref a1, .int v89, .int v91, .ref a3]) (rest := []) 431 (k + 2) (j + 12) (mL_tellerOf hst a1 v89 v91 a3 σ none v94 s95 h93) qyL_tellerOf wd_599 wd_600 rfl rfl (by decide) (Nat.le_of_ble_eq_true rfl) ⟨by show k + 2 ≤ 601024; omega, by show j + 12 ≤ 7293034; omega⟩ dL_law_428 rfl rfl rfl rfl ?_
          refine x_istore 433 5 [(5, .int v94), (0, .ref a0), (1, .ref a1), (2, .ref a2), (3, .ref a3), (4, .int y4)] dL_law_431 rfl (by decide) rfl ?_
          refine x_aload_n 434 3 dL_law_433 rfl rfl ?_
          refine x_aload_n 435 1 dL_law_434 rfl rfl ?_
          refine x_iload 437 5 dL_law_435 rfl rfl ?_
          refine x_iconst 438 (1 : Int32) dL_law_437 rfl (by decide) ?_
          refine x_iadd 439 dL_law_438 rfl ?_
          obtain ⟨v96, h97, hF⟩ := b1_inv hF
          refine x_aI 440 h97 dL_law_439 rfl ?_
          refine x_aload_n 441 1 dL_law_440 rfl rfl ?_
          refine x_iload 443 5 dL_law_441 rfl rfl ?_
          refine x_iconst 444 (2 : Int32) dL_law_443 rfl (by decide) ?_
          refine x_iadd 445 dL_law_444 rfl ?_
          obtain ⟨v98, h99, hF⟩ := b1_inv hF
          refine x_aI 446 h99 dL_law_445 rfl ?_
          obtain ⟨v101, s102, h100, hF⟩ := b2_inv hF
          obtain ⟨fs, hb⟩ : ∃ fs : List Value, True ∧ s95 a2 = some (.inr (5, fs)) := kX7_tellerOf h100
          refine x_callV (As := [.int v96, .int v98]) (rest := []) 449 (k + 2) (j + 12) (mX7_tellerOf hst a2 v96 v98 s95 none v101 s102 h100) qyX7_tellerOf wd_1082 wd_1083 wd_1084 hb.2 rfl rfl rfl (by decide) (Nat.le_of_ble_eq_true rfl) ⟨by show (k + 2) + 0 ≤ 601024; omega, by show (j + 12) + 0 ≤ 7293034; omega⟩ dL_law_446 rfl rfl rfl rfl ?_
          refine x_istore 451 6 [(6, .int v101), (5, .int v94), (0, .ref a0), (1, .ref a1), (2, .ref a2), (3, .ref a3), (4, .int y4)] dL_law_449 rfl (by decide) rfl ?_
          refine x_aload_n 452 4 dL_law_451 rfl rfl ?_
          obtain ⟨v104, h103, hF⟩ := b1_inv hF
          obtain ⟨fs, hb⟩ : ∃ fs : List Value, True ∧ s102 a2 = some (.inr (5, fs)) := kX7_thrown h103
          refine x_callV (As := []) (rest := []) 455 (k + 2) (j + 12) (mX7_thrown hst a2 s102 none v104 h103) qyX7_thrown wd_959 wd_960 wd_961 hb.2 rfl rfl rfl (by decide) (Nat.le_of_ble_eq_true rfl) ⟨by show (k + 2) + 0 ≤ 601024; omega, by show (j + 12) + 0 ≤ 7293034; omega⟩ dL_law_452 rfl rfl rfl rfl ?_
          refine x_iload 457 1 dL_law_455 rfl rfl ?_
          rcases ite_inv hF with ⟨hc, hF⟩ | ⟨hc, hF⟩
          · refine x_icmp_eq 462 460 dL_law_457 (by decide) rfl (fun _ => ?_) (fun q => absurd hc q)
            refine x_iload 464 1 dL_law_462 rfl rfl ?_
            rcases ite_inv hF with ⟨hc, hF⟩ | ⟨hc, hF⟩
            · refine x_if_ne 479 467 dL_law_464 (by decide) rfl (fun q => absurd hc q) (fun _ => ?_)
              refine x_aload_n 468 5 dL_law_467 rfl rfl ?_
              refine x_iconst 469 (0 : Int32) dL_law_468 rfl (by decide) ?_
              obtain ⟨v105, h106, hF⟩ := b1_inv hF
              refine x_aJ 470 h106 dL_law_469 rfl ?_
              refine x_iload 472 0 dL_law_470 rfl rfl ?_
              refine x_i2l 473 dL_law_472 rfl ?_
              refine x_lcmp 474 dL_law_473 rfl ?_
              rcases ite_inv hF with ⟨hc, hF⟩ | ⟨hc, hF⟩
              · refine x_if_eq 479 477 dL_law_474 (by decide) rfl (fun _ => ?_) (fun q => absurd hc q)
                refine x_goto 1788 dL_law_479 (by decide) ?_
                refine x_iinc 1791 4 6 (y4 + (8 : Int32)) [(4, .int (y4 + (8 : Int32))), (6, .int v101), (5, .int v94), (0, .ref a0), (1, .ref a1), (2, .ref a2), (3, .ref a3)] dL_law_1788 rfl rfl rfl (by decide) rfl ?_
                refine x_goto 23 dL_law_1791 (by decide) ?_
                refine x_sub [(0, .ref a0), (1, .ref a1), (2, .ref a2), (3, .ref a3), (4, .int (y4 + (8 : Int32)))] [3, 4, 5, 6, 0] rfl ?_
                exact ih (k + 2) (j + 12) _ _ _ (by omega) (by omega) hF
              · refine x_if_eq 479 477 dL_law_474 (by decide) rfl (fun q => absurd q hc) (fun _ => ?_)
                refine x_iconst 478 (0 : Int32) dL_law_477 rfl (by decide) ?_
                cases hF
                exact x_zret rfl rfl (hrf _ _) (by omega) (by omega) dL_law_478
            · refine x_if_ne 479 467 dL_law_464 (by decide) rfl (fun _ => ?_) (fun q => absurd q hc)
              refine x_goto 1788 dL_law_479 (by decide) ?_
              refine x_iinc 1791 4 6 (y4 + (8 : Int32)) [(4, .int (y4 + (8 : Int32))), (6, .int v101), (5, .int v94), (0, .ref a0), (1, .ref a1), (2, .ref a2), (3, .ref a3)] dL_law_1788 rfl rfl rfl (by decide) rfl ?_
              refine x_goto 23 dL_law_1791 (by decide) ?_
              refine x_sub [(0, .ref a0), (1, .ref a1), (2, .ref a2), (3, .ref a3), (4, .int (y4 + (8 : Int32)))] [3, 4, 5, 6, 0] rfl ?_
              exact ih (k + 2) (j + 12) _ _ _ (by omega) (by omega) hF
          · refine x_icmp_eq 462 460 dL_law_457 (by decide) rfl (fun q => absurd q hc) (fun _ => ?_)
            refine x_iconst 461 (0 : Int32) dL_law_460 rfl (by decide) ?_
            cases hF
            exact x_zret rfl rfl (hrf _ _) (by omega) (by omega) dL_law_461
        · exact x_tableIn (374) 414 dL_law_40 (by rw [h107]; decide) (by rw [h107]; decide) (by rw [h107]; decide) (by decide) hK
      rcases ite_inv hF with ⟨h126, hF⟩ | ⟨h126, hF⟩
      · have hK : qX l G RL "law" cL_law 7 (some .boolean) [] rmL_law 601024 7293034 (rf o) k j σ none 482 [(0, .ref a0), (1, .ref a1), (2, .ref a2), (3, .ref a3), (4, .int y4)] [] := by
          refine x_aload_n 483 1 dL_law_482 rfl rfl ?_
          refine x_aload_n 484 0 dL_law_483 rfl rfl ?_
          refine x_iload 486 4 dL_law_484 rfl rfl ?_
          refine x_iconst 487 (1 : Int32) dL_law_486 rfl (by decide) ?_
          refine x_iadd 488 dL_law_487 rfl ?_
          obtain ⟨v108, h109, hF⟩ := b1_inv hF
          refine x_aI 489 h109 dL_law_488 rfl ?_
          refine x_aload_n 490 0 dL_law_489 rfl rfl ?_
          refine x_iload 492 4 dL_law_490 rfl rfl ?_
          refine x_iconst 493 (2 : Int32) dL_law_492 rfl (by decide) ?_
          refine x_iadd 494 dL_law_493 rfl ?_
          obtain ⟨v110, h111, hF⟩ := b1_inv hF
          refine x_aI 495 h111 dL_law_494 rfl ?_
          refine x_aload_n 496 3 dL_law_495 rfl rfl ?_
          obtain ⟨v113, s114, h112, hF⟩ := b2_inv hF
          refine x_callSW (As := [.ref a1, .int v108, .int v110, .ref a3]) (rest := []) 499 (k + 2) (j + 12) (mL_steepleOf hst a1 v108 v110 a3 σ none v113 s114 h112) qyL_steepleOf wd_632 wd_633 rfl rfl (by decide) (Nat.le_of_ble_eq_true rfl) ⟨by show k + 2 ≤ 601024; omega, by show j + 12 ≤ 7293034; omega⟩ dL_law_496 rfl rfl rfl rfl ?_
          refine x_istore 501 5 [(5, .int v113), (0, .ref a0), (1, .ref a1), (2, .ref a2), (3, .ref a3), (4, .int y4)] dL_law_499 rfl (by decide) rfl ?_
          refine x_aload_n 502 3 dL_law_501 rfl rfl ?_
          refine x_aload_n 503 1 dL_law_502 rfl rfl ?_
          refine x_iload 505 5 dL_law_503 rfl rfl ?_
          refine x_iconst 506 (1 : Int32) dL_law_505 rfl (by decide) ?_
          refine x_iadd 507 dL_law_506 rfl ?_
          obtain ⟨v115, h116, hF⟩ := b1_inv hF
          refine x_aI 508 h116 dL_law_507 rfl ?_
          refine x_aload_n 509 1 dL_law_508 rfl rfl ?_
          refine x_iload 511 5 dL_law_509 rfl rfl ?_
          refine x_iconst 512 (2 : Int32) dL_law_511 rfl (by decide) ?_
          refine x_iadd 513 dL_law_512 rfl ?_
          obtain ⟨v117, h118, hF⟩ := b1_inv hF
          refine x_aI 514 h118 dL_law_513 rfl ?_
          obtain ⟨v120, s121, h119, hF⟩ := b2_inv hF
          obtain ⟨fs, hb⟩ : ∃ fs : List Value, True ∧ s114 a2 = some (.inr (5, fs)) := kX7_steepleOf h119
          refine x_callV (As := [.int v115, .int v117]) (rest := []) 517 (k + 2) (j + 12) (mX7_steepleOf hst a2 v115 v117 s114 none v120 s121 h119) qyX7_steepleOf wd_1091 wd_1092 wd_1093 hb.2 rfl rfl rfl (by decide) (Nat.le_of_ble_eq_true rfl) ⟨by show (k + 2) + 0 ≤ 601024; omega, by show (j + 12) + 0 ≤ 7293034; omega⟩ dL_law_514 rfl rfl rfl rfl ?_
          refine x_istore 519 6 [(6, .int v120), (5, .int v113), (0, .ref a0), (1, .ref a1), (2, .ref a2), (3, .ref a3), (4, .int y4)] dL_law_517 rfl (by decide) rfl ?_
          refine x_aload_n 520 4 dL_law_519 rfl rfl ?_
          obtain ⟨v123, h122, hF⟩ := b1_inv hF
          obtain ⟨fs, hb⟩ : ∃ fs : List Value, True ∧ s121 a2 = some (.inr (5, fs)) := kX7_thrown h122
          refine x_callV (As := []) (rest := []) 523 (k + 2) (j + 12) (mX7_thrown hst a2 s121 none v123 h122) qyX7_thrown wd_959 wd_960 wd_961 hb.2 rfl rfl rfl (by decide) (Nat.le_of_ble_eq_true rfl) ⟨by show (k + 2) + 0 ≤ 601024; omega, by show (j + 12) + 0 ≤ 7293034; omega⟩ dL_law_520 rfl rfl rfl rfl ?_
          refine x_iload 525 1 dL_law_523 rfl rfl ?_
          rcases ite_inv hF with ⟨hc, hF⟩ | ⟨hc, hF⟩
          · refine x_icmp_eq 530 528 dL_law_525 (by decide) rfl (fun _ => ?_) (fun q => absurd hc q)
            refine x_iload 532 1 dL_law_530 rfl rfl ?_
            rcases ite_inv hF with ⟨hc, hF⟩ | ⟨hc, hF⟩
            · refine x_if_ne 547 535 dL_law_532 (by decide) rfl (fun q => absurd hc q) (fun _ => ?_)
              refine x_aload_n 536 5 dL_law_535 rfl rfl ?_
              refine x_iconst 537 (0 : Int32) dL_law_536 rfl (by decide) ?_
              obtain ⟨v124, h125, hF⟩ := b1_inv hF
              refine x_aJ 538 h125 dL_law_537 rfl ?_
              refine x_iload 540 0 dL_law_538 rfl rfl ?_
              refine x_i2l 541 dL_law_540 rfl ?_
              refine x_lcmp 542 dL_law_541 rfl ?_
              rcases ite_inv hF with ⟨hc, hF⟩ | ⟨hc, hF⟩
              · refine x_if_eq 547 545 dL_law_542 (by decide) rfl (fun _ => ?_) (fun q => absurd hc q)
                refine x_goto 1788 dL_law_547 (by decide) ?_
                refine x_iinc 1791 4 6 (y4 + (8 : Int32)) [(4, .int (y4 + (8 : Int32))), (6, .int v120), (5, .int v113), (0, .ref a0), (1, .ref a1), (2, .ref a2), (3, .ref a3)] dL_law_1788 rfl rfl rfl (by decide) rfl ?_
                refine x_goto 23 dL_law_1791 (by decide) ?_
                refine x_sub [(0, .ref a0), (1, .ref a1), (2, .ref a2), (3, .ref a3), (4, .int (y4 + (8 : Int32)))] [3, 4, 5, 6, 0] rfl ?_
                exact ih (k + 2) (j + 12) _ _ _ (by omega) (by omega) hF
              · refine x_if_eq 547 545 dL_law_542 (by decide) rfl (fun q => absurd q hc) (fun _ => ?_)
                refine x_iconst 546 (0 : Int32) dL_law_545 rfl (by decide) ?_
                cases hF
                exact x_zret rfl rfl (hrf _ _) (by omega) (by omega) dL_law_546
            · refine x_if_ne 547 535 dL_law_532 (by decide) rfl (fun _ => ?_) (fun q => absurd q hc)
              refine x_goto 1788 dL_law_547 (by decide) ?_
              refine x_iinc 1791 4 6 (y4 + (8 : Int32)) [(4, .int (y4 + (8 : Int32))), (6, .int v120), (5, .int v113), (0, .ref a0), (1, .ref a1), (2, .ref a2), (3, .ref a3)] dL_law_1788 rfl rfl rfl (by decide) rfl ?_
              refine x_goto 23 dL_law_1791 (by decide) ?_
              refine x_sub [(0, .ref a0), (1, .ref a1), (2, .ref a2), (3, .ref a3), (4, .int (y4 + (8 : Int32)))] [3, 4, 5, 6, 0] rfl ?_
              exact ih (k + 2) (j + 12) _ _ _ (by omega) (by omega) hF
          · refine x_icmp_eq 530 528 dL_law_525 (by decide) rfl (fun q => absurd q hc) (fun _ => ?_)
            refine x_iconst 529 (0 : Int32) dL_law_528 rfl (by decide) ?_
            cases hF
            exact x_zret rfl rfl (hrf _ _) (by omega) (by omega) dL_law_529
        · exact x_tableIn (442) 482 dL_law_40 (by rw [h126]; decide) (by rw [h126]; decide) (by rw [h126]; decide) (by decide) hK
      rcases ite_inv hF with ⟨h145, hF⟩ | ⟨h145, hF⟩
      · have hK : qX l G RL "law" cL_law 7 (some .boolean) [] rmL_law 601024 7293034 (rf o) k j σ none 550 [(0, .ref a0), (1, .ref a1), (2, .ref a2), (3, .ref a3), (4, .int y4)] [] := by
          refine x_aload_n 551 1 dL_law_550 rfl rfl ?_
          refine x_aload_n 552 0 dL_law_551 rfl rfl ?_
          refine x_iload 554 4 dL_law_552 rfl rfl ?_
          refine x_iconst 555 (1 : Int32) dL_law_554 rfl (by decide) ?_
          refine x_iadd 556 dL_law_555 rfl ?_
          obtain ⟨v127, h128, hF⟩ := b1_inv hF
          refine x_aI 557 h128 dL_law_556 rfl ?_
          refine x_aload_n 558 0 dL_law_557 rfl rfl ?_
          refine x_iload 560 4 dL_law_558 rfl rfl ?_
          refine x_iconst 561 (2 : Int32) dL_law_560 rfl (by decide) ?_
          refine x_iadd 562 dL_law_561 rfl ?_
          obtain ⟨v129, h130, hF⟩ := b1_inv hF
          refine x_aI 563 h130 dL_law_562 rfl ?_
          refine x_aload_n 564 3 dL_law_563 rfl rfl ?_
          obtain ⟨v132, s133, h131, hF⟩ := b2_inv hF
          refine x_callSW (As := [.ref a1, .int v127, .int v129, .ref a3]) (rest := []) 567 (k + 2) (j + 12) (mL_vote hst a1 v127 v129 a3 σ none v132 s133 h131) qyL_vote wd_656 wd_657 rfl rfl (by decide) (Nat.le_of_ble_eq_true rfl) ⟨by show k + 2 ≤ 601024; omega, by show j + 12 ≤ 7293034; omega⟩ dL_law_564 rfl rfl rfl rfl ?_
          refine x_istore 569 5 [(5, .int v132), (0, .ref a0), (1, .ref a1), (2, .ref a2), (3, .ref a3), (4, .int y4)] dL_law_567 rfl (by decide) rfl ?_
          refine x_aload_n 570 3 dL_law_569 rfl rfl ?_
          refine x_aload_n 571 1 dL_law_570 rfl rfl ?_
          refine x_iload 573 5 dL_law_571 rfl rfl ?_
          refine x_iconst 574 (1 : Int32) dL_law_573 rfl (by decide) ?_
          refine x_iadd 575 dL_law_574 rfl ?_
          obtain ⟨v134, h135, hF⟩ := b1_inv hF
          refine x_aI 576 h135 dL_law_575 rfl ?_
          refine x_aload_n 577 1 dL_law_576 rfl rfl ?_
          refine x_iload 579 5 dL_law_577 rfl rfl ?_
          refine x_iconst 580 (2 : Int32) dL_law_579 rfl (by decide) ?_
          refine x_iadd 581 dL_law_580 rfl ?_
          obtain ⟨v136, h137, hF⟩ := b1_inv hF
          refine x_aI 582 h137 dL_law_581 rfl ?_
          obtain ⟨v139, s140, h138, hF⟩ := b2_inv hF
          obtain ⟨fs, hb⟩ : ∃ fs : List Value, True ∧ s133 a2 = some (.inr (5, fs)) := kX7_vote h138
          refine x_callV (As := [.int v134, .int v136]) (rest := []) 585 (k + 2) (j + 12) (mX7_vote hst a2 v134 v136 s133 none v139 s140 h138) qyX7_vote wd_1099 wd_1100 wd_1101 hb.2 rfl rfl rfl (by decide) (Nat.le_of_ble_eq_true rfl) ⟨by show (k + 2) + 0 ≤ 601024; omega, by show (j + 12) + 0 ≤ 7293034; omega⟩ dL_law_582 rfl rfl rfl rfl ?_
          refine x_istore 587 6 [(6, .int v139), (5, .int v132), (0, .ref a0), (1, .ref a1), (2, .ref a2), (3, .ref a3), (4, .int y4)] dL_law_585 rfl (by decide) rfl ?_
          refine x_aload_n 588 4 dL_law_587 rfl rfl ?_
          obtain ⟨v142, h141, hF⟩ := b1_inv hF
          obtain ⟨fs, hb⟩ : ∃ fs : List Value, True ∧ s140 a2 = some (.inr (5, fs)) := kX7_thrown h141
          refine x_callV (As := []) (rest := []) 591 (k + 2) (j + 12) (mX7_thrown hst a2 s140 none v142 h141) qyX7_thrown wd_959 wd_960 wd_961 hb.2 rfl rfl rfl (by decide) (Nat.le_of_ble_eq_true rfl) ⟨by show (k + 2) + 0 ≤ 601024; omega, by show (j + 12) + 0 ≤ 7293034; omega⟩ dL_law_588 rfl rfl rfl rfl ?_
          refine x_iload 593 1 dL_law_591 rfl rfl ?_
          rcases ite_inv hF with ⟨hc, hF⟩ | ⟨hc, hF⟩
          · refine x_icmp_eq 598 596 dL_law_593 (by decide) rfl (fun _ => ?_) (fun q => absurd hc q)
            refine x_iload 600 1 dL_law_598 rfl rfl ?_
            rcases ite_inv hF with ⟨hc, hF⟩ | ⟨hc, hF⟩
            · refine x_if_ne 615 603 dL_law_600 (by decide) rfl (fun q => absurd hc q) (fun _ => ?_)
              refine x_aload_n 604 5 dL_law_603 rfl rfl ?_
              refine x_iconst 605 (0 : Int32) dL_law_604 rfl (by decide) ?_
              obtain ⟨v143, h144, hF⟩ := b1_inv hF
              refine x_aJ 606 h144 dL_law_605 rfl ?_
              refine x_iload 608 0 dL_law_606 rfl rfl ?_
              refine x_i2l 609 dL_law_608 rfl ?_
              refine x_lcmp 610 dL_law_609 rfl ?_
              rcases ite_inv hF with ⟨hc, hF⟩ | ⟨hc, hF⟩
              · refine x_if_eq 615 613 dL_law_610 (by decide) rfl (fun _ => ?_) (fun q => absurd hc q)
                refine x_goto 1788 dL_law_615 (by decide) ?_
                refine x_iinc 1791 4 6 (y4 + (8 : Int32)) [(4, .int (y4 + (8 : Int32))), (6, .int v139), (5, .int v132), (0, .ref a0), (1, .ref a1), (2, .ref a2), (3, .ref a3)] dL_law_1788 rfl rfl rfl (by decide) rfl ?_
                refine x_goto 23 dL_law_1791 (by decide) ?_
                refine x_sub [(0, .ref a0), (1, .ref a1), (2, .ref a2), (3, .ref a3), (4, .int (y4 + (8 : Int32)))] [3, 4, 5, 6, 0] rfl ?_
                exact ih (k + 2) (j + 12) _ _ _ (by omega) (by omega) hF
              · refine x_if_eq 615 613 dL_law_610 (by decide) rfl (fun q => absurd q hc) (fun _ => ?_)
                refine x_iconst 614 (0 : Int32) dL_law_613 rfl (by decide) ?_
                cases hF
                exact x_zret rfl rfl (hrf _ _) (by omega) (by omega) dL_law_614
            · refine x_if_ne 615 603 dL_law_600 (by decide) rfl (fun _ => ?_) (fun q => absurd q hc)
              refine x_goto 1788 dL_law_615 (by decide) ?_
              refine x_iinc 1791 4 6 (y4 + (8 : Int32)) [(4, .int (y4 + (8 : Int32))), (6, .int v139), (5, .int v132), (0, .ref a0), (1, .ref a1), (2, .ref a2), (3, .ref a3)] dL_law_1788 rfl rfl rfl (by decide) rfl ?_
              refine x_goto 23 dL_law_1791 (by decide) ?_
              refine x_sub [(0, .ref a0), (1, .ref a1), (2, .ref a2), (3, .ref a3), (4, .int (y4 + (8 : Int32)))] [3, 4, 5, 6, 0] rfl ?_
              exact ih (k + 2) (j + 12) _ _ _ (by omega) (by omega) hF
          · refine x_icmp_eq 598 596 dL_law_593 (by decide) rfl (fun q => absurd q hc) (fun _ => ?_)
            refine x_iconst 597 (0 : Int32) dL_law_596 rfl (by decide) ?_
            cases hF
            exact x_zret rfl rfl (hrf _ _) (by omega) (by omega) dL_law_597
        · exact x_tableIn (510) 550 dL_law_40 (by rw [h145]; decide) (by rw [h145]; decide) (by rw [h145]; decide) (by decide) hK
      rcases ite_inv hF with ⟨h168, hF⟩ | ⟨h168, hF⟩
      · have hK : qX l G RL "law" cL_law 7 (some .boolean) [] rmL_law 601024 7293034 (rf o) k j σ none 618 [(0, .ref a0), (1, .ref a1), (2, .ref a2), (3, .ref a3), (4, .int y4)] [] := by
          refine x_aload_n 619 1 dL_law_618 rfl rfl ?_
          refine x_aload_n 620 0 dL_law_619 rfl rfl ?_
          refine x_iload 622 4 dL_law_620 rfl rfl ?_
          refine x_iconst 623 (1 : Int32) dL_law_622 rfl (by decide) ?_
          refine x_iadd 624 dL_law_623 rfl ?_
          obtain ⟨v146, h147, hF⟩ := b1_inv hF
          refine x_aI 625 h147 dL_law_624 rfl ?_
          refine x_aload_n 626 0 dL_law_625 rfl rfl ?_
          refine x_iload 628 4 dL_law_626 rfl rfl ?_
          refine x_iconst 629 (2 : Int32) dL_law_628 rfl (by decide) ?_
          refine x_iadd 630 dL_law_629 rfl ?_
          obtain ⟨v148, h149, hF⟩ := b1_inv hF
          refine x_aI 631 h149 dL_law_630 rfl ?_
          refine x_aload_n 632 0 dL_law_631 rfl rfl ?_
          refine x_iload 634 4 dL_law_632 rfl rfl ?_
          refine x_iconst 635 (3 : Int32) dL_law_634 rfl (by decide) ?_
          refine x_iadd 636 dL_law_635 rfl ?_
          obtain ⟨v150, h151, hF⟩ := b1_inv hF
          refine x_aI 637 h151 dL_law_636 rfl ?_
          refine x_aload_n 638 3 dL_law_637 rfl rfl ?_
          obtain ⟨v153, s154, h152, hF⟩ := b2_inv hF
          refine x_callSW (As := [.ref a1, .int v146, .int v148, .int v150, .ref a3]) (rest := []) 641 (k + 2) (j + 12) (mL_best hst a1 v146 v148 v150 a3 σ none v153 s154 h152) qyL_best wd_668 wd_669 rfl rfl (by decide) (Nat.le_of_ble_eq_true rfl) ⟨by show k + 2 ≤ 601024; omega, by show j + 12 ≤ 7293034; omega⟩ dL_law_638 rfl rfl rfl rfl ?_
          refine x_istore 643 5 [(5, .int v153), (0, .ref a0), (1, .ref a1), (2, .ref a2), (3, .ref a3), (4, .int y4)] dL_law_641 rfl (by decide) rfl ?_
          refine x_aload_n 644 3 dL_law_643 rfl rfl ?_
          refine x_aload_n 645 1 dL_law_644 rfl rfl ?_
          refine x_iload 647 5 dL_law_645 rfl rfl ?_
          refine x_iconst 648 (1 : Int32) dL_law_647 rfl (by decide) ?_
          refine x_iadd 649 dL_law_648 rfl ?_
          obtain ⟨v155, h156, hF⟩ := b1_inv hF
          refine x_aI 650 h156 dL_law_649 rfl ?_
          refine x_aload_n 651 1 dL_law_650 rfl rfl ?_
          refine x_iload 653 5 dL_law_651 rfl rfl ?_
          refine x_iconst 654 (2 : Int32) dL_law_653 rfl (by decide) ?_
          refine x_iadd 655 dL_law_654 rfl ?_
          obtain ⟨v157, h158, hF⟩ := b1_inv hF
          refine x_aI 656 h158 dL_law_655 rfl ?_
          refine x_aload_n 657 1 dL_law_656 rfl rfl ?_
          refine x_iload 659 5 dL_law_657 rfl rfl ?_
          refine x_iconst 660 (3 : Int32) dL_law_659 rfl (by decide) ?_
          refine x_iadd 661 dL_law_660 rfl ?_
          obtain ⟨v159, h160, hF⟩ := b1_inv hF
          refine x_aI 662 h160 dL_law_661 rfl ?_
          obtain ⟨v162, s163, h161, hF⟩ := b2_inv hF
          obtain ⟨fs, hb⟩ : ∃ fs : List Value, True ∧ s154 a2 = some (.inr (5, fs)) := kX7_best h161
          refine x_callV (As := [.int v155, .int v157, .int v159]) (rest := []) 665 (k + 2) (j + 12) (mX7_best hst a2 v155 v157 v159 s154 none v162 s163 h161) qyX7_best wd_1106 wd_1107 wd_1108 hb.2 rfl rfl rfl (by decide) (Nat.le_of_ble_eq_true rfl) ⟨by show (k + 2) + 0 ≤ 601024; omega, by show (j + 12) + 0 ≤ 7293034; omega⟩ dL_law_662 rfl rfl rfl rfl ?_
          refine x_istore 667 6 [(6, .int v162), (5, .int v153), (0, .ref a0), (1, .ref a1), (2, .ref a2), (3, .ref a3), (4, .int y4)] dL_law_665 rfl (by decide) rfl ?_
          refine x_aload_n 668 4 dL_law_667 rfl rfl ?_
          obtain ⟨v165, h164, hF⟩ := b1_inv hF
          obtain ⟨fs, hb⟩ : ∃ fs : List Value, True ∧ s163 a2 = some (.inr (5, fs)) := kX7_thrown h164
          refine x_callV (As := []) (rest := []) 671 (k + 2) (j + 12) (mX7_thrown hst a2 s163 none v165 h164) qyX7_thrown wd_959 wd_960 wd_961 hb.2 rfl rfl rfl (by decide) (Nat.le_of_ble_eq_true rfl) ⟨by show (k + 2) + 0 ≤ 601024; omega, by show (j + 12) + 0 ≤ 7293034; omega⟩ dL_law_668 rfl rfl rfl rfl ?_
          refine x_iload 673 1 dL_law_671 rfl rfl ?_
          rcases ite_inv hF with ⟨hc, hF⟩ | ⟨hc, hF⟩
          · refine x_icmp_eq 678 676 dL_law_673 (by decide) rfl (fun _ => ?_) (fun q => absurd hc q)
            refine x_iload 680 1 dL_law_678 rfl rfl ?_
            rcases ite_inv hF with ⟨hc, hF⟩ | ⟨hc, hF⟩
            · refine x_if_ne 695 683 dL_law_680 (by decide) rfl (fun q => absurd hc q) (fun _ => ?_)
              refine x_aload_n 684 5 dL_law_683 rfl rfl ?_
              refine x_iconst 685 (0 : Int32) dL_law_684 rfl (by decide) ?_
              obtain ⟨v166, h167, hF⟩ := b1_inv hF
              refine x_aJ 686 h167 dL_law_685 rfl ?_
              refine x_iload 688 0 dL_law_686 rfl rfl ?_
              refine x_i2l 689 dL_law_688 rfl ?_
              refine x_lcmp 690 dL_law_689 rfl ?_
              rcases ite_inv hF with ⟨hc, hF⟩ | ⟨hc, hF⟩
              · refine x_if_eq 695 693 dL_law_690 (by decide) rfl (fun _ => ?_) (fun q => absurd hc q)
                refine x_goto 1788 dL_law_695 (by decide) ?_
                refine x_iinc 1791 4 6 (y4 + (8 : Int32)) [(4, .int (y4 + (8 : Int32))), (6, .int v162), (5, .int v153), (0, .ref a0), (1, .ref a1), (2, .ref a2), (3, .ref a3)] dL_law_1788 rfl rfl rfl (by decide) rfl ?_
                refine x_goto 23 dL_law_1791 (by decide) ?_
                refine x_sub [(0, .ref a0), (1, .ref a1), (2, .ref a2), (3, .ref a3), (4, .int (y4 + (8 : Int32)))] [3, 4, 5, 6, 0] rfl ?_
                exact ih (k + 2) (j + 12) _ _ _ (by omega) (by omega) hF
              · refine x_if_eq 695 693 dL_law_690 (by decide) rfl (fun q => absurd q hc) (fun _ => ?_)
                refine x_iconst 694 (0 : Int32) dL_law_693 rfl (by decide) ?_
                cases hF
                exact x_zret rfl rfl (hrf _ _) (by omega) (by omega) dL_law_694
            · refine x_if_ne 695 683 dL_law_680 (by decide) rfl (fun _ => ?_) (fun q => absurd q hc)
              refine x_goto 1788 dL_law_695 (by decide) ?_
              refine x_iinc 1791 4 6 (y4 + (8 : Int32)) [(4, .int (y4 + (8 : Int32))), (6, .int v162), (5, .int v153), (0, .ref a0), (1, .ref a1), (2, .ref a2), (3, .ref a3)] dL_law_1788 rfl rfl rfl (by decide) rfl ?_
              refine x_goto 23 dL_law_1791 (by decide) ?_
              refine x_sub [(0, .ref a0), (1, .ref a1), (2, .ref a2), (3, .ref a3), (4, .int (y4 + (8 : Int32)))] [3, 4, 5, 6, 0] rfl ?_
              exact ih (k + 2) (j + 12) _ _ _ (by omega) (by omega) hF
          · refine x_icmp_eq 678 676 dL_law_673 (by decide) rfl (fun q => absurd q hc) (fun _ => ?_)
            refine x_iconst 677 (0 : Int32) dL_law_676 rfl (by decide) ?_
            cases hF
            exact x_zret rfl rfl (hrf _ _) (by omega) (by omega) dL_law_677
        · exact x_tableIn (578) 618 dL_law_40 (by rw [h168]; decide) (by rw [h168]; decide) (by rw [h168]; decide) (by decide) hK
      rcases ite_inv hF with ⟨h183, hF⟩ | ⟨h183, hF⟩
      · have hK : qX l G RL "law" cL_law 7 (some .boolean) [] rmL_law 601024 7293034 (rf o) k j σ none 698 [(0, .ref a0), (1, .ref a1), (2, .ref a2), (3, .ref a3), (4, .int y4)] [] := by
          refine x_aload_n 699 1 dL_law_698 rfl rfl ?_
          refine x_aload_n 700 0 dL_law_699 rfl rfl ?_
          refine x_iload 702 4 dL_law_700 rfl rfl ?_
          refine x_iconst 703 (1 : Int32) dL_law_702 rfl (by decide) ?_
          refine x_iadd 704 dL_law_703 rfl ?_
          obtain ⟨v169, h170, hF⟩ := b1_inv hF
          refine x_aI 705 h170 dL_law_704 rfl ?_
          refine x_aload_n 706 3 dL_law_705 rfl rfl ?_
          obtain ⟨v172, s173, h171, hF⟩ := b2_inv hF
          refine x_callSW (As := [.ref a1, .int v169, .ref a3]) (rest := []) 709 (k + 1) (j + 6) (mL_setting hst a1 v169 a3 σ none v172 s173 h171) qyL_setting wd_701 wd_702 rfl rfl (by decide) (Nat.le_of_ble_eq_true rfl) ⟨by show k + 1 ≤ 601024; omega, by show j + 6 ≤ 7293034; omega⟩ dL_law_706 rfl rfl rfl rfl ?_
          refine x_istore 711 5 [(5, .int v172), (0, .ref a0), (1, .ref a1), (2, .ref a2), (3, .ref a3), (4, .int y4)] dL_law_709 rfl (by decide) rfl ?_
          refine x_aload_n 712 3 dL_law_711 rfl rfl ?_
          refine x_aload_n 713 1 dL_law_712 rfl rfl ?_
          refine x_iload 715 5 dL_law_713 rfl rfl ?_
          refine x_iconst 716 (1 : Int32) dL_law_715 rfl (by decide) ?_
          refine x_iadd 717 dL_law_716 rfl ?_
          obtain ⟨v174, h175, hF⟩ := b1_inv hF
          refine x_aI 718 h175 dL_law_717 rfl ?_
          obtain ⟨v177, s178, h176, hF⟩ := b2_inv hF
          obtain ⟨fs, hb⟩ : ∃ fs : List Value, True ∧ s173 a2 = some (.inr (5, fs)) := kX7_setting h176
          refine x_callV (As := [.int v174]) (rest := []) 721 (k + 1) (j + 6) (mX7_setting hst a2 v174 s173 none v177 s178 h176) qyX7_setting wd_1116 wd_1117 wd_1118 hb.2 rfl rfl rfl (by decide) (Nat.le_of_ble_eq_true rfl) ⟨by show (k + 1) + 0 ≤ 601024; omega, by show (j + 6) + 0 ≤ 7293034; omega⟩ dL_law_718 rfl rfl rfl rfl ?_
          refine x_istore 723 6 [(6, .int v177), (5, .int v172), (0, .ref a0), (1, .ref a1), (2, .ref a2), (3, .ref a3), (4, .int y4)] dL_law_721 rfl (by decide) rfl ?_
          refine x_aload_n 724 4 dL_law_723 rfl rfl ?_
          obtain ⟨v180, h179, hF⟩ := b1_inv hF
          obtain ⟨fs, hb⟩ : ∃ fs : List Value, True ∧ s178 a2 = some (.inr (5, fs)) := kX7_thrown h179
          refine x_callV (As := []) (rest := []) 727 (k + 1) (j + 6) (mX7_thrown hst a2 s178 none v180 h179) qyX7_thrown wd_959 wd_960 wd_961 hb.2 rfl rfl rfl (by decide) (Nat.le_of_ble_eq_true rfl) ⟨by show (k + 1) + 0 ≤ 601024; omega, by show (j + 6) + 0 ≤ 7293034; omega⟩ dL_law_724 rfl rfl rfl rfl ?_
          refine x_iload 729 1 dL_law_727 rfl rfl ?_
          rcases ite_inv hF with ⟨hc, hF⟩ | ⟨hc, hF⟩
          · refine x_icmp_eq 734 732 dL_law_729 (by decide) rfl (fun _ => ?_) (fun q => absurd hc q)
            refine x_iload 736 1 dL_law_734 rfl rfl ?_
            rcases ite_inv hF with ⟨hc, hF⟩ | ⟨hc, hF⟩
            · refine x_if_ne 751 739 dL_law_736 (by decide) rfl (fun q => absurd hc q) (fun _ => ?_)
              refine x_aload_n 740 5 dL_law_739 rfl rfl ?_
              refine x_iconst 741 (0 : Int32) dL_law_740 rfl (by decide) ?_
              obtain ⟨v181, h182, hF⟩ := b1_inv hF
              refine x_aJ 742 h182 dL_law_741 rfl ?_
              refine x_iload 744 0 dL_law_742 rfl rfl ?_
              refine x_i2l 745 dL_law_744 rfl ?_
              refine x_lcmp 746 dL_law_745 rfl ?_
              rcases ite_inv hF with ⟨hc, hF⟩ | ⟨hc, hF⟩
              · refine x_if_eq 751 749 dL_law_746 (by decide) rfl (fun _ => ?_) (fun q => absurd hc q)
                refine x_goto 1788 dL_law_751 (by decide) ?_
                refine x_iinc 1791 4 6 (y4 + (8 : Int32)) [(4, .int (y4 + (8 : Int32))), (6, .int v177), (5, .int v172), (0, .ref a0), (1, .ref a1), (2, .ref a2), (3, .ref a3)] dL_law_1788 rfl rfl rfl (by decide) rfl ?_
                refine x_goto 23 dL_law_1791 (by decide) ?_
                refine x_sub [(0, .ref a0), (1, .ref a1), (2, .ref a2), (3, .ref a3), (4, .int (y4 + (8 : Int32)))] [3, 4, 5, 6, 0] rfl ?_
                exact ih (k + 1) (j + 6) _ _ _ (by omega) (by omega) hF
              · refine x_if_eq 751 749 dL_law_746 (by decide) rfl (fun q => absurd q hc) (fun _ => ?_)
                refine x_iconst 750 (0 : Int32) dL_law_749 rfl (by decide) ?_
                cases hF
                exact x_zret rfl rfl (hrf _ _) (by omega) (by omega) dL_law_750
            · refine x_if_ne 751 739 dL_law_736 (by decide) rfl (fun _ => ?_) (fun q => absurd q hc)
              refine x_goto 1788 dL_law_751 (by decide) ?_
              refine x_iinc 1791 4 6 (y4 + (8 : Int32)) [(4, .int (y4 + (8 : Int32))), (6, .int v177), (5, .int v172), (0, .ref a0), (1, .ref a1), (2, .ref a2), (3, .ref a3)] dL_law_1788 rfl rfl rfl (by decide) rfl ?_
              refine x_goto 23 dL_law_1791 (by decide) ?_
              refine x_sub [(0, .ref a0), (1, .ref a1), (2, .ref a2), (3, .ref a3), (4, .int (y4 + (8 : Int32)))] [3, 4, 5, 6, 0] rfl ?_
              exact ih (k + 1) (j + 6) _ _ _ (by omega) (by omega) hF
          · refine x_icmp_eq 734 732 dL_law_729 (by decide) rfl (fun q => absurd q hc) (fun _ => ?_)
            refine x_iconst 733 (0 : Int32) dL_law_732 rfl (by decide) ?_
            cases hF
            exact x_zret rfl rfl (hrf _ _) (by omega) (by omega) dL_law_733
        · exact x_tableIn (658) 698 dL_law_40 (by rw [h183]; decide) (by rw [h183]; decide) (by rw [h183]; decide) (by decide) hK
      rcases ite_inv hF with ⟨h222, hF⟩ | ⟨h222, hF⟩
      · have hK : qX l G RL "law" cL_law 7 (some .boolean) [] rmL_law 601024 7293034 (rf o) k j σ none 754 [(0, .ref a0), (1, .ref a1), (2, .ref a2), (3, .ref a3), (4, .int y4)] [] := by
          refine x_aload_n 755 1 dL_law_754 rfl rfl ?_
          refine x_aload_n 756 0 dL_law_755 rfl rfl ?_
          refine x_iload 758 4 dL_law_756 rfl rfl ?_
          refine x_iconst 759 (1 : Int32) dL_law_758 rfl (by decide) ?_
          refine x_iadd 760 dL_law_759 rfl ?_
          obtain ⟨v184, h185, hF⟩ := b1_inv hF
          refine x_aI 761 h185 dL_law_760 rfl ?_
          refine x_aload_n 762 0 dL_law_761 rfl rfl ?_
          refine x_iload 764 4 dL_law_762 rfl rfl ?_
          refine x_iconst 765 (2 : Int32) dL_law_764 rfl (by decide) ?_
          refine x_iadd 766 dL_law_765 rfl ?_
          obtain ⟨v186, h187, hF⟩ := b1_inv hF
          refine x_aI 767 h187 dL_law_766 rfl ?_
          refine x_aload_n 768 0 dL_law_767 rfl rfl ?_
          refine x_iload 770 4 dL_law_768 rfl rfl ?_
          refine x_iconst 771 (3 : Int32) dL_law_770 rfl (by decide) ?_
          refine x_iadd 772 dL_law_771 rfl ?_
          obtain ⟨v188, h189, hF⟩ := b1_inv hF
          refine x_aI 773 h189 dL_law_772 rfl ?_
          refine x_aload_n 774 0 dL_law_773 rfl rfl ?_
          refine x_iload 776 4 dL_law_774 rfl rfl ?_
          refine x_iconst 777 (4 : Int32) dL_law_776 rfl (by decide) ?_
          refine x_iadd 778 dL_law_777 rfl ?_
          obtain ⟨v190, h191, hF⟩ := b1_inv hF
          refine x_aI 779 h191 dL_law_778 rfl ?_
          refine x_aload_n 780 0 dL_law_779 rfl rfl ?_
          refine x_iload 782 4 dL_law_780 rfl rfl ?_
          refine x_iconst 783 (5 : Int32) dL_law_782 rfl (by decide) ?_
          refine x_iadd 784 dL_law_783 rfl ?_
          obtain ⟨v192, h193, hF⟩ := b1_inv hF
          refine x_aI 785 h193 dL_law_784 rfl ?_
          refine x_aload_n 786 0 dL_law_785 rfl rfl ?_
          refine x_iload 788 4 dL_law_786 rfl rfl ?_
          refine x_bipush 790 (6 : Int32) dL_law_788 rfl (by decide) ?_
          refine x_iadd 791 dL_law_790 rfl ?_
          obtain ⟨v194, h195, hF⟩ := b1_inv hF
          refine x_aI 792 h195 dL_law_791 rfl ?_
          refine x_aload_n 793 0 dL_law_792 rfl rfl ?_
          refine x_iload 795 4 dL_law_793 rfl rfl ?_
          refine x_bipush 797 (7 : Int32) dL_law_795 rfl (by decide) ?_
          refine x_iadd 798 dL_law_797 rfl ?_
          obtain ⟨v196, h197, hF⟩ := b1_inv hF
          refine x_aI 799 h197 dL_law_798 rfl ?_
          refine x_aload_n 800 3 dL_law_799 rfl rfl ?_
          obtain ⟨v199, s200, h198, hF⟩ := b2_inv hF
          refine x_callSW (As := [.ref a1, .int v184, .int v186, .int v188, .int v190, .int v192, .int v194, .int v196, .ref a3]) (rest := []) 803 (k + 4) (j + 24) (mL_measure hst a1 v184 v186 v188 v190 v192 v194 v196 a3 σ none v199 s200 h198) qyL_measure wd_715 wd_716 rfl rfl (by decide) (Nat.le_of_ble_eq_true rfl) ⟨by show k + 4 ≤ 601024; omega, by show j + 24 ≤ 7293034; omega⟩ dL_law_800 rfl rfl rfl rfl ?_
          refine x_istore 805 5 [(5, .int v199), (0, .ref a0), (1, .ref a1), (2, .ref a2), (3, .ref a3), (4, .int y4)] dL_law_803 rfl (by decide) rfl ?_
          refine x_aload_n 806 3 dL_law_805 rfl rfl ?_
          refine x_aload_n 807 1 dL_law_806 rfl rfl ?_
          refine x_iload 809 5 dL_law_807 rfl rfl ?_
          refine x_iconst 810 (1 : Int32) dL_law_809 rfl (by decide) ?_
          refine x_iadd 811 dL_law_810 rfl ?_
          obtain ⟨v201, h202, hF⟩ := b1_inv hF
          refine x_aI 812 h202 dL_law_811 rfl ?_
          refine x_aload_n 813 1 dL_law_812 rfl rfl ?_
          refine x_iload 815 5 dL_law_813 rfl rfl ?_
          refine x_iconst 816 (2 : Int32) dL_law_815 rfl (by decide) ?_
          refine x_iadd 817 dL_law_816 rfl ?_
          obtain ⟨v203, h204, hF⟩ := b1_inv hF
          refine x_aI 818 h204 dL_law_817 rfl ?_
          refine x_aload_n 819 1 dL_law_818 rfl rfl ?_
          refine x_iload 821 5 dL_law_819 rfl rfl ?_
          refine x_iconst 822 (3 : Int32) dL_law_821 rfl (by decide) ?_
          refine x_iadd 823 dL_law_822 rfl ?_
          obtain ⟨v205, h206, hF⟩ := b1_inv hF
          refine x_aI 824 h206 dL_law_823 rfl ?_
          refine x_aload_n 825 1 dL_law_824 rfl rfl ?_
          refine x_iload 827 5 dL_law_825 rfl rfl ?_
          refine x_iconst 828 (4 : Int32) dL_law_827 rfl (by decide) ?_
          refine x_iadd 829 dL_law_828 rfl ?_
          obtain ⟨v207, h208, hF⟩ := b1_inv hF
          refine x_aI 830 h208 dL_law_829 rfl ?_
          refine x_aload_n 831 1 dL_law_830 rfl rfl ?_
          refine x_iload 833 5 dL_law_831 rfl rfl ?_
          refine x_iconst 834 (5 : Int32) dL_law_833 rfl (by decide) ?_
          refine x_iadd 835 dL_law_834 rfl ?_
          obtain ⟨v209, h210, hF⟩ := b1_inv hF
          refine x_aI 836 h210 dL_law_835 rfl ?_
          refine x_aload_n 837 1 dL_law_836 rfl rfl ?_
          refine x_iload 839 5 dL_law_837 rfl rfl ?_
          refine x_bipush 841 (6 : Int32) dL_law_839 rfl (by decide) ?_
          refine x_iadd 842 dL_law_841 rfl ?_
          obtain ⟨v211, h212, hF⟩ := b1_inv hF
          refine x_aI 843 h212 dL_law_842 rfl ?_
          refine x_aload_n 844 1 dL_law_843 rfl rfl ?_
          refine x_iload 846 5 dL_law_844 rfl rfl ?_
          refine x_bipush 848 (7 : Int32) dL_law_846 rfl (by decide) ?_
          refine x_iadd 849 dL_law_848 rfl ?_
          obtain ⟨v213, h214, hF⟩ := b1_inv hF
          refine x_aI 850 h214 dL_law_849 rfl ?_
          obtain ⟨v216, s217, h215, hF⟩ := b2_inv hF
          obtain ⟨fs, hb⟩ : ∃ fs : List Value, True ∧ s200 a2 = some (.inr (5, fs)) := kX7_measure h215
          refine x_callV (As := [.int v201, .int v203, .int v205, .int v207, .int v209, .int v211, .int v213]) (rest := []) 853 (k + 4) (j + 24) (mX7_measure hst a2 v201 v203 v205 v207 v209 v211 v213 s200 none v216 s217 h215) qyX7_measure wd_1120 wd_1121 wd_1122 hb.2 rfl rfl rfl (by decide) (Nat.le_of_ble_eq_true rfl) ⟨by show (k + 4) + 0 ≤ 601024; omega, by show (j + 24) + 0 ≤ 7293034; omega⟩ dL_law_850 rfl rfl rfl rfl ?_
          refine x_istore 855 6 [(6, .int v216), (5, .int v199), (0, .ref a0), (1, .ref a1), (2, .ref a2), (3, .ref a3), (4, .int y4)] dL_law_853 rfl (by decide) rfl ?_
          refine x_aload_n 856 4 dL_law_855 rfl rfl ?_
          obtain ⟨v219, h218, hF⟩ := b1_inv hF
          obtain ⟨fs, hb⟩ : ∃ fs : List Value, True ∧ s217 a2 = some (.inr (5, fs)) := kX7_thrown h218
          refine x_callV (As := []) (rest := []) 859 (k + 4) (j + 24) (mX7_thrown hst a2 s217 none v219 h218) qyX7_thrown wd_959 wd_960 wd_961 hb.2 rfl rfl rfl (by decide) (Nat.le_of_ble_eq_true rfl) ⟨by show (k + 4) + 0 ≤ 601024; omega, by show (j + 24) + 0 ≤ 7293034; omega⟩ dL_law_856 rfl rfl rfl rfl ?_
          refine x_iload 861 1 dL_law_859 rfl rfl ?_
          rcases ite_inv hF with ⟨hc, hF⟩ | ⟨hc, hF⟩
          · refine x_icmp_eq 866 864 dL_law_861 (by decide) rfl (fun _ => ?_) (fun q => absurd hc q)
            refine x_iload 868 1 dL_law_866 rfl rfl ?_
            rcases ite_inv hF with ⟨hc, hF⟩ | ⟨hc, hF⟩
            · refine x_if_ne 883 871 dL_law_868 (by decide) rfl (fun q => absurd hc q) (fun _ => ?_)
              refine x_aload_n 872 5 dL_law_871 rfl rfl ?_
              refine x_iconst 873 (0 : Int32) dL_law_872 rfl (by decide) ?_
              obtain ⟨v220, h221, hF⟩ := b1_inv hF
              refine x_aJ 874 h221 dL_law_873 rfl ?_
              refine x_iload 876 0 dL_law_874 rfl rfl ?_
              refine x_i2l 877 dL_law_876 rfl ?_
              refine x_lcmp 878 dL_law_877 rfl ?_
              rcases ite_inv hF with ⟨hc, hF⟩ | ⟨hc, hF⟩
              · refine x_if_eq 883 881 dL_law_878 (by decide) rfl (fun _ => ?_) (fun q => absurd hc q)
                refine x_goto 1788 dL_law_883 (by decide) ?_
                refine x_iinc 1791 4 6 (y4 + (8 : Int32)) [(4, .int (y4 + (8 : Int32))), (6, .int v216), (5, .int v199), (0, .ref a0), (1, .ref a1), (2, .ref a2), (3, .ref a3)] dL_law_1788 rfl rfl rfl (by decide) rfl ?_
                refine x_goto 23 dL_law_1791 (by decide) ?_
                refine x_sub [(0, .ref a0), (1, .ref a1), (2, .ref a2), (3, .ref a3), (4, .int (y4 + (8 : Int32)))] [3, 4, 5, 6, 0] rfl ?_
                exact ih (k + 4) (j + 24) _ _ _ (by omega) (by omega) hF
              · refine x_if_eq 883 881 dL_law_878 (by decide) rfl (fun q => absurd q hc) (fun _ => ?_)
                refine x_iconst 882 (0 : Int32) dL_law_881 rfl (by decide) ?_
                cases hF
                exact x_zret rfl rfl (hrf _ _) (by omega) (by omega) dL_law_882
            · refine x_if_ne 883 871 dL_law_868 (by decide) rfl (fun _ => ?_) (fun q => absurd q hc)
              refine x_goto 1788 dL_law_883 (by decide) ?_
              refine x_iinc 1791 4 6 (y4 + (8 : Int32)) [(4, .int (y4 + (8 : Int32))), (6, .int v216), (5, .int v199), (0, .ref a0), (1, .ref a1), (2, .ref a2), (3, .ref a3)] dL_law_1788 rfl rfl rfl (by decide) rfl ?_
              refine x_goto 23 dL_law_1791 (by decide) ?_
              refine x_sub [(0, .ref a0), (1, .ref a1), (2, .ref a2), (3, .ref a3), (4, .int (y4 + (8 : Int32)))] [3, 4, 5, 6, 0] rfl ?_
              exact ih (k + 4) (j + 24) _ _ _ (by omega) (by omega) hF
          · refine x_icmp_eq 866 864 dL_law_861 (by decide) rfl (fun q => absurd q hc) (fun _ => ?_)
            refine x_iconst 865 (0 : Int32) dL_law_864 rfl (by decide) ?_
            cases hF
            exact x_zret rfl rfl (hrf _ _) (by omega) (by omega) dL_law_865
        · exact x_tableIn (714) 754 dL_law_40 (by rw [h222]; decide) (by rw [h222]; decide) (by rw [h222]; decide) (by decide) hK
      rcases ite_inv hF with ⟨h237, hF⟩ | ⟨h237, hF⟩
      · have hK : qX l G RL "law" cL_law 7 (some .boolean) [] rmL_law 601024 7293034 (rf o) k j σ none 886 [(0, .ref a0), (1, .ref a1), (2, .ref a2), (3, .ref a3), (4, .int y4)] [] := by
          refine x_aload_n 887 1 dL_law_886 rfl rfl ?_
          refine x_aload_n 888 0 dL_law_887 rfl rfl ?_
          refine x_iload 890 4 dL_law_888 rfl rfl ?_
          refine x_iconst 891 (1 : Int32) dL_law_890 rfl (by decide) ?_
          refine x_iadd 892 dL_law_891 rfl ?_
          obtain ⟨v223, h224, hF⟩ := b1_inv hF
          refine x_aI 893 h224 dL_law_892 rfl ?_
          refine x_aload_n 894 3 dL_law_893 rfl rfl ?_
          obtain ⟨v226, s227, h225, hF⟩ := b2_inv hF
          refine x_callSW (As := [.ref a1, .int v223, .ref a3]) (rest := []) 897 (k + 1) (j + 6) (mL_drop hst a1 v223 a3 σ none v226 s227 h225) qyL_drop wd_726 wd_727 rfl rfl (by decide) (Nat.le_of_ble_eq_true rfl) ⟨by show k + 1 ≤ 601024; omega, by show j + 6 ≤ 7293034; omega⟩ dL_law_894 rfl rfl rfl rfl ?_
          refine x_istore 899 5 [(5, .int v226), (0, .ref a0), (1, .ref a1), (2, .ref a2), (3, .ref a3), (4, .int y4)] dL_law_897 rfl (by decide) rfl ?_
          refine x_aload_n 900 3 dL_law_899 rfl rfl ?_
          refine x_aload_n 901 1 dL_law_900 rfl rfl ?_
          refine x_iload 903 5 dL_law_901 rfl rfl ?_
          refine x_iconst 904 (1 : Int32) dL_law_903 rfl (by decide) ?_
          refine x_iadd 905 dL_law_904 rfl ?_
          obtain ⟨v228, h229, hF⟩ := b1_inv hF
          refine x_aI 906 h229 dL_law_905 rfl ?_
          obtain ⟨v231, s232, h230, hF⟩ := b2_inv hF
          obtain ⟨fs, hb⟩ : ∃ fs : List Value, True ∧ s227 a2 = some (.inr (5, fs)) := kX7_drop h230
          refine x_callV (As := [.int v228]) (rest := []) 909 (k + 1) (j + 6) (mX7_drop hst a2 v228 s227 none v231 s232 h230) qyX7_drop wd_1128 wd_1129 wd_1130 hb.2 rfl rfl rfl (by decide) (Nat.le_of_ble_eq_true rfl) ⟨by show (k + 1) + 0 ≤ 601024; omega, by show (j + 6) + 0 ≤ 7293034; omega⟩ dL_law_906 rfl rfl rfl rfl ?_
          refine x_istore 911 6 [(6, .int v231), (5, .int v226), (0, .ref a0), (1, .ref a1), (2, .ref a2), (3, .ref a3), (4, .int y4)] dL_law_909 rfl (by decide) rfl ?_
          refine x_aload_n 912 4 dL_law_911 rfl rfl ?_
          obtain ⟨v234, h233, hF⟩ := b1_inv hF
          obtain ⟨fs, hb⟩ : ∃ fs : List Value, True ∧ s232 a2 = some (.inr (5, fs)) := kX7_thrown h233
          refine x_callV (As := []) (rest := []) 915 (k + 1) (j + 6) (mX7_thrown hst a2 s232 none v234 h233) qyX7_thrown wd_959 wd_960 wd_961 hb.2 rfl rfl rfl (by decide) (Nat.le_of_ble_eq_true rfl) ⟨by show (k + 1) + 0 ≤ 601024; omega, by show (j + 6) + 0 ≤ 7293034; omega⟩ dL_law_912 rfl rfl rfl rfl ?_
          refine x_iload 917 1 dL_law_915 rfl rfl ?_
          rcases ite_inv hF with ⟨hc, hF⟩ | ⟨hc, hF⟩
          · refine x_icmp_eq 922 920 dL_law_917 (by decide) rfl (fun _ => ?_) (fun q => absurd hc q)
            refine x_iload 924 1 dL_law_922 rfl rfl ?_
            rcases ite_inv hF with ⟨hc, hF⟩ | ⟨hc, hF⟩
            · refine x_if_ne 939 927 dL_law_924 (by decide) rfl (fun q => absurd hc q) (fun _ => ?_)
              refine x_aload_n 928 5 dL_law_927 rfl rfl ?_
              refine x_iconst 929 (0 : Int32) dL_law_928 rfl (by decide) ?_
              obtain ⟨v235, h236, hF⟩ := b1_inv hF
              refine x_aJ 930 h236 dL_law_929 rfl ?_
              refine x_iload 932 0 dL_law_930 rfl rfl ?_
              refine x_i2l 933 dL_law_932 rfl ?_
              refine x_lcmp 934 dL_law_933 rfl ?_
              rcases ite_inv hF with ⟨hc, hF⟩ | ⟨hc, hF⟩
              · refine x_if_eq 939 937 dL_law_934 (by decide) rfl (fun _ => ?_) (fun q => absurd hc q)
                refine x_goto 1788 dL_law_939 (by decide) ?_
                refine x_iinc 1791 4 6 (y4 + (8 : Int32)) [(4, .int (y4 + (8 : Int32))), (6, .int v231), (5, .int v226), (0, .ref a0), (1, .ref a1), (2, .ref a2), (3, .ref a3)] dL_law_1788 rfl rfl rfl (by decide) rfl ?_
                refine x_goto 23 dL_law_1791 (by decide) ?_
                refine x_sub [(0, .ref a0), (1, .ref a1), (2, .ref a2), (3, .ref a3), (4, .int (y4 + (8 : Int32)))] [3, 4, 5, 6, 0] rfl ?_
                exact ih (k + 1) (j + 6) _ _ _ (by omega) (by omega) hF
              · refine x_if_eq 939 937 dL_law_934 (by decide) rfl (fun q => absurd q hc) (fun _ => ?_)
                refine x_iconst 938 (0 : Int32) dL_law_937 rfl (by decide) ?_
                cases hF
                exact x_zret rfl rfl (hrf _ _) (by omega) (by omega) dL_law_938
            · refine x_if_ne 939 927 dL_law_924 (by decide) rfl (fun _ => ?_) (fun q => absurd q hc)
              refine x_goto 1788 dL_law_939 (by decide) ?_
              refine x_iinc 1791 4 6 (y4 + (8 : Int32)) [(4, .int (y4 + (8 : Int32))), (6, .int v231), (5, .int v226), (0, .ref a0), (1, .ref a1), (2, .ref a2), (3, .ref a3)] dL_law_1788 rfl rfl rfl (by decide) rfl ?_
              refine x_goto 23 dL_law_1791 (by decide) ?_
              refine x_sub [(0, .ref a0), (1, .ref a1), (2, .ref a2), (3, .ref a3), (4, .int (y4 + (8 : Int32)))] [3, 4, 5, 6, 0] rfl ?_
              exact ih (k + 1) (j + 6) _ _ _ (by omega) (by omega) hF
          · refine x_icmp_eq 922 920 dL_law_917 (by decide) rfl (fun q => absurd q hc) (fun _ => ?_)
            refine x_iconst 921 (0 : Int32) dL_law_920 rfl (by decide) ?_
            cases hF
            exact x_zret rfl rfl (hrf _ _) (by omega) (by omega) dL_law_921
        · exact x_tableIn (846) 886 dL_law_40 (by rw [h237]; decide) (by rw [h237]; decide) (by rw [h237]; decide) (by decide) hK
      rcases ite_inv hF with ⟨h256, hF⟩ | ⟨h256, hF⟩
      · have hK : qX l G RL "law" cL_law 7 (some .boolean) [] rmL_law 601024 7293034 (rf o) k j σ none 942 [(0, .ref a0), (1, .ref a1), (2, .ref a2), (3, .ref a3), (4, .int y4)] [] := by
          refine x_aload_n 943 1 dL_law_942 rfl rfl ?_
          refine x_aload_n 944 0 dL_law_943 rfl rfl ?_
          refine x_iload 946 4 dL_law_944 rfl rfl ?_
          refine x_iconst 947 (1 : Int32) dL_law_946 rfl (by decide) ?_
          refine x_iadd 948 dL_law_947 rfl ?_
          obtain ⟨v238, h239, hF⟩ := b1_inv hF
          refine x_aI 949 h239 dL_law_948 rfl ?_
          refine x_aload_n 950 0 dL_law_949 rfl rfl ?_
          refine x_iload 952 4 dL_law_950 rfl rfl ?_
          refine x_iconst 953 (2 : Int32) dL_law_952 rfl (by decide) ?_
          refine x_iadd 954 dL_law_953 rfl ?_
          obtain ⟨v240, h241, hF⟩ := b1_inv hF
          refine x_aI 955 h241 dL_law_954 rfl ?_
          refine x_aload_n 956 3 dL_law_955 rfl rfl ?_
          obtain ⟨v243, s244, h242, hF⟩ := b2_inv hF
          refine x_callSW (As := [.ref a1, .int v238, .int v240, .ref a3]) (rest := []) 959 (k + 2) (j + 12) (mL_trust hst a1 v238 v240 a3 σ none v243 s244 h242) qyL_trust wd_734 wd_735 rfl rfl (by decide) (Nat.le_of_ble_eq_true rfl) ⟨by show k + 2 ≤ 601024; omega, by show j + 12 ≤ 7293034; omega⟩ dL_law_956 rfl rfl rfl rfl ?_
          refine x_istore 961 5 [(5, .int v243), (0, .ref a0), (1, .ref a1), (2, .ref a2), (3, .ref a3), (4, .int y4)] dL_law_959 rfl (by decide) rfl ?_
          refine x_aload_n 962 3 dL_law_961 rfl rfl ?_
          refine x_aload_n 963 1 dL_law_962 rfl rfl ?_
          refine x_iload 965 5 dL_law_963 rfl rfl ?_
          refine x_iconst 966 (1 : Int32) dL_law_965 rfl (by decide) ?_
          refine x_iadd 967 dL_law_966 rfl ?_
          obtain ⟨v245, h246, hF⟩ := b1_inv hF
          refine x_aI 968 h246 dL_law_967 rfl ?_
          refine x_aload_n 969 1 dL_law_968 rfl rfl ?_
          refine x_iload 971 5 dL_law_969 rfl rfl ?_
          refine x_iconst 972 (2 : Int32) dL_law_971 rfl (by decide) ?_
          refine x_iadd 973 dL_law_972 rfl ?_
          obtain ⟨v247, h248, hF⟩ := b1_inv hF
          refine x_aI 974 h248 dL_law_973 rfl ?_
          obtain ⟨v250, s251, h249, hF⟩ := b2_inv hF
          obtain ⟨fs, hb⟩ : ∃ fs : List Value, True ∧ s244 a2 = some (.inr (5, fs)) := kX7_trust h249
          refine x_callV (As := [.int v245, .int v247]) (rest := []) 977 (k + 2) (j + 12) (mX7_trust hst a2 v245 v247 s244 none v250 s251 h249) qyX7_trust wd_1132 wd_1133 wd_1134 hb.2 rfl rfl rfl (by decide) (Nat.le_of_ble_eq_true rfl) ⟨by show (k + 2) + 0 ≤ 601024; omega, by show (j + 12) + 0 ≤ 7293034; omega⟩ dL_law_974 rfl rfl rfl rfl ?_
          refine x_istore 979 6 [(6, .int v250), (5, .int v243), (0, .ref a0), (1, .ref a1), (2, .ref a2), (3, .ref a3), (4, .int y4)] dL_law_977 rfl (by decide) rfl ?_
          refine x_aload_n 980 4 dL_law_979 rfl rfl ?_
          obtain ⟨v253, h252, hF⟩ := b1_inv hF
          obtain ⟨fs, hb⟩ : ∃ fs : List Value, True ∧ s251 a2 = some (.inr (5, fs)) := kX7_thrown h252
          refine x_callV (As := []) (rest := []) 983 (k + 2) (j + 12) (mX7_thrown hst a2 s251 none v253 h252) qyX7_thrown wd_959 wd_960 wd_961 hb.2 rfl rfl rfl (by decide) (Nat.le_of_ble_eq_true rfl) ⟨by show (k + 2) + 0 ≤ 601024; omega, by show (j + 12) + 0 ≤ 7293034; omega⟩ dL_law_980 rfl rfl rfl rfl ?_
          refine x_iload 985 1 dL_law_983 rfl rfl ?_
          rcases ite_inv hF with ⟨hc, hF⟩ | ⟨hc, hF⟩
          · refine x_icmp_eq 990 988 dL_law_985 (by decide) rfl (fun _ => ?_) (fun q => absurd hc q)
            refine x_iload 992 1 dL_law_990 rfl rfl ?_
            rcases ite_inv hF with ⟨hc, hF⟩ | ⟨hc, hF⟩
            · refine x_if_ne 1007 995 dL_law_992 (by decide) rfl (fun q => absurd hc q) (fun _ => ?_)
              refine x_aload_n 996 5 dL_law_995 rfl rfl ?_
              refine x_iconst 997 (0 : Int32) dL_law_996 rfl (by decide) ?_
              obtain ⟨v254, h255, hF⟩ := b1_inv hF
              refine x_aJ 998 h255 dL_law_997 rfl ?_
              refine x_iload 1000 0 dL_law_998 rfl rfl ?_
              refine x_i2l 1001 dL_law_1000 rfl ?_
              refine x_lcmp 1002 dL_law_1001 rfl ?_
              rcases ite_inv hF with ⟨hc, hF⟩ | ⟨hc, hF⟩
              · refine x_if_eq 1007 1005 dL_law_1002 (by decide) rfl (fun _ => ?_) (fun q => absurd hc q)
                refine x_goto 1788 dL_law_1007 (by decide) ?_
                refine x_iinc 1791 4 6 (y4 + (8 : Int32)) [(4, .int (y4 + (8 : Int32))), (6, .int v250), (5, .int v243), (0, .ref a0), (1, .ref a1), (2, .ref a2), (3, .ref a3)] dL_law_1788 rfl rfl rfl (by decide) rfl ?_
                refine x_goto 23 dL_law_1791 (by decide) ?_
                refine x_sub [(0, .ref a0), (1, .ref a1), (2, .ref a2), (3, .ref a3), (4, .int (y4 + (8 : Int32)))] [3, 4, 5, 6, 0] rfl ?_
                exact ih (k + 2) (j + 12) _ _ _ (by omega) (by omega) hF
              · refine x_if_eq 1007 1005 dL_law_1002 (by decide) rfl (fun q => absurd q hc) (fun _ => ?_)
                refine x_iconst 1006 (0 : Int32) dL_law_1005 rfl (by decide) ?_
                cases hF
                exact x_zret rfl rfl (hrf _ _) (by omega) (by omega) dL_law_1006
            · refine x_if_ne 1007 995 dL_law_992 (by decide) rfl (fun _ => ?_) (fun q => absurd q hc)
              refine x_goto 1788 dL_law_1007 (by decide) ?_
              refine x_iinc 1791 4 6 (y4 + (8 : Int32)) [(4, .int (y4 + (8 : Int32))), (6, .int v250), (5, .int v243), (0, .ref a0), (1, .ref a1), (2, .ref a2), (3, .ref a3)] dL_law_1788 rfl rfl rfl (by decide) rfl ?_
              refine x_goto 23 dL_law_1791 (by decide) ?_
              refine x_sub [(0, .ref a0), (1, .ref a1), (2, .ref a2), (3, .ref a3), (4, .int (y4 + (8 : Int32)))] [3, 4, 5, 6, 0] rfl ?_
              exact ih (k + 2) (j + 12) _ _ _ (by omega) (by omega) hF
          · refine x_icmp_eq 990 988 dL_law_985 (by decide) rfl (fun q => absurd q hc) (fun _ => ?_)
            refine x_iconst 989 (0 : Int32) dL_law_988 rfl (by decide) ?_
            cases hF
            exact x_zret rfl rfl (hrf _ _) (by omega) (by omega) dL_law_989
        · exact x_tableIn (902) 942 dL_law_40 (by rw [h256]; decide) (by rw [h256]; decide) (by rw [h256]; decide) (by decide) hK
      rcases ite_inv hF with ⟨h263, hF⟩ | ⟨h263, hF⟩
      · have hK : qX l G RL "law" cL_law 7 (some .boolean) [] rmL_law 601024 7293034 (rf o) k j σ none 1010 [(0, .ref a0), (1, .ref a1), (2, .ref a2), (3, .ref a3), (4, .int y4)] [] := by
          refine x_aload_n 1011 1 dL_law_1010 rfl rfl ?_
          obtain ⟨v258, s259, h257, hF⟩ := b2_inv hF
          obtain ⟨fs, hb⟩ : ∃ fs : List Value, True ∧ σ a1 = some (.inr (4, fs)) := kX6_evening h257
          refine x_callV (As := []) (rest := []) 1014 k j (mX6_evening hst a1 σ none v258 s259 h257) qyX6_evening wd_235 wd_236 wd_237 hb.2 rfl rfl rfl (by decide) (Nat.le_of_ble_eq_true rfl) ⟨by show k + 0 ≤ 601024; omega, by show j + 0 ≤ 7293034; omega⟩ dL_law_1011 rfl rfl rfl rfl ?_
          refine x_aload_n 1015 2 dL_law_1014 rfl rfl ?_
          obtain ⟨v261, s262, h260, hF⟩ := b2_inv hF
          obtain ⟨fs, hb⟩ : ∃ fs : List Value, True ∧ s259 a2 = some (.inr (5, fs)) := kX7_evening h260
          refine x_callV (As := []) (rest := [.int v258]) 1018 k j (mX7_evening hst a2 s259 none v261 s262 h260) qyX7_evening wd_1136 wd_1137 wd_1138 hb.2 rfl rfl rfl (by decide) (Nat.le_of_ble_eq_true rfl) ⟨by show k + 0 ≤ 601024; omega, by show j + 0 ≤ 7293034; omega⟩ dL_law_1015 rfl rfl rfl rfl ?_
          rcases ite_inv hF with ⟨hc, hF⟩ | ⟨hc, hF⟩
          · refine x_icmp_eq 1788 1021 dL_law_1018 (by decide) rfl (fun _ => ?_) (fun q => absurd hc q)
            refine x_iinc 1791 4 4 (y4 + (8 : Int32)) [(4, .int (y4 + (8 : Int32))), (0, .ref a0), (1, .ref a1), (2, .ref a2), (3, .ref a3)] dL_law_1788 rfl rfl rfl (by decide) rfl ?_
            refine x_goto 23 dL_law_1791 (by decide) ?_
            refine x_sub [(0, .ref a0), (1, .ref a1), (2, .ref a2), (3, .ref a3), (4, .int (y4 + (8 : Int32)))] [1, 2, 3, 4, 0] rfl ?_
            exact ih k j _ _ _ (by omega) (by omega) hF
          · refine x_icmp_eq 1788 1021 dL_law_1018 (by decide) rfl (fun q => absurd q hc) (fun _ => ?_)
            refine x_iconst 1022 (0 : Int32) dL_law_1021 rfl (by decide) ?_
            cases hF
            exact x_zret rfl rfl (hrf _ _) (by omega) (by omega) dL_law_1022
        · exact x_tableIn (970) 1010 dL_law_40 (by rw [h263]; decide) (by rw [h263]; decide) (by rw [h263]; decide) (by decide) hK
      rcases ite_inv hF with ⟨h282, hF⟩ | ⟨h282, hF⟩
      · have hK : qX l G RL "law" cL_law 7 (some .boolean) [] rmL_law 601024 7293034 (rf o) k j σ none 1023 [(0, .ref a0), (1, .ref a1), (2, .ref a2), (3, .ref a3), (4, .int y4)] [] := by
          refine x_aload_n 1024 1 dL_law_1023 rfl rfl ?_
          refine x_aload_n 1025 0 dL_law_1024 rfl rfl ?_
          refine x_iload 1027 4 dL_law_1025 rfl rfl ?_
          refine x_iconst 1028 (1 : Int32) dL_law_1027 rfl (by decide) ?_
          refine x_iadd 1029 dL_law_1028 rfl ?_
          obtain ⟨v264, h265, hF⟩ := b1_inv hF
          refine x_aI 1030 h265 dL_law_1029 rfl ?_
          refine x_aload_n 1031 0 dL_law_1030 rfl rfl ?_
          refine x_iload 1033 4 dL_law_1031 rfl rfl ?_
          refine x_iconst 1034 (2 : Int32) dL_law_1033 rfl (by decide) ?_
          refine x_iadd 1035 dL_law_1034 rfl ?_
          obtain ⟨v266, h267, hF⟩ := b1_inv hF
          refine x_aI 1036 h267 dL_law_1035 rfl ?_
          refine x_aload_n 1037 3 dL_law_1036 rfl rfl ?_
          obtain ⟨v269, s270, h268, hF⟩ := b2_inv hF
          refine x_callSW (As := [.ref a1, .int v264, .int v266, .ref a3]) (rest := []) 1040 (k + 2) (j + 12) (mL_survey hst a1 v264 v266 a3 σ none v269 s270 h268) qyL_survey wd_743 wd_744 rfl rfl (by decide) (Nat.le_of_ble_eq_true rfl) ⟨by show k + 2 ≤ 601024; omega, by show j + 12 ≤ 7293034; omega⟩ dL_law_1037 rfl rfl rfl rfl ?_
          refine x_istore 1042 5 [(5, .int v269), (0, .ref a0), (1, .ref a1), (2, .ref a2), (3, .ref a3), (4, .int y4)] dL_law_1040 rfl (by decide) rfl ?_
          refine x_aload_n 1043 3 dL_law_1042 rfl rfl ?_
          refine x_aload_n 1044 1 dL_law_1043 rfl rfl ?_
          refine x_iload 1046 5 dL_law_1044 rfl rfl ?_
          refine x_iconst 1047 (1 : Int32) dL_law_1046 rfl (by decide) ?_
          refine x_iadd 1048 dL_law_1047 rfl ?_
          obtain ⟨v271, h272, hF⟩ := b1_inv hF
          refine x_aI 1049 h272 dL_law_1048 rfl ?_
          refine x_aload_n 1050 1 dL_law_1049 rfl rfl ?_
          refine x_iload 1052 5 dL_law_1050 rfl rfl ?_
          refine x_iconst 1053 (2 : Int32) dL_law_1052 rfl (by decide) ?_
          refine x_iadd 1054 dL_law_1053 rfl ?_
          obtain ⟨v273, h274, hF⟩ := b1_inv hF
          refine x_aI 1055 h274 dL_law_1054 rfl ?_
          obtain ⟨v276, s277, h275, hF⟩ := b2_inv hF
          obtain ⟨fs, hb⟩ : ∃ fs : List Value, True ∧ s270 a2 = some (.inr (5, fs)) := kX7_survey h275
          refine x_callV (As := [.int v271, .int v273]) (rest := []) 1058 (k + 2) (j + 12) (mX7_survey hst a2 v271 v273 s270 none v276 s277 h275) qyX7_survey wd_1140 wd_1141 wd_1142 hb.2 rfl rfl rfl (by decide) (Nat.le_of_ble_eq_true rfl) ⟨by show (k + 2) + 0 ≤ 601024; omega, by show (j + 12) + 0 ≤ 7293034; omega⟩ dL_law_1055 rfl rfl rfl rfl ?_
          refine x_istore 1060 6 [(6, .int v276), (5, .int v269), (0, .ref a0), (1, .ref a1), (2, .ref a2), (3, .ref a3), (4, .int y4)] dL_law_1058 rfl (by decide) rfl ?_
          refine x_aload_n 1061 4 dL_law_1060 rfl rfl ?_
          obtain ⟨v279, h278, hF⟩ := b1_inv hF
          obtain ⟨fs, hb⟩ : ∃ fs : List Value, True ∧ s277 a2 = some (.inr (5, fs)) := kX7_thrown h278
          refine x_callV (As := []) (rest := []) 1064 (k + 2) (j + 12) (mX7_thrown hst a2 s277 none v279 h278) qyX7_thrown wd_959 wd_960 wd_961 hb.2 rfl rfl rfl (by decide) (Nat.le_of_ble_eq_true rfl) ⟨by show (k + 2) + 0 ≤ 601024; omega, by show (j + 12) + 0 ≤ 7293034; omega⟩ dL_law_1061 rfl rfl rfl rfl ?_
          refine x_iload 1066 1 dL_law_1064 rfl rfl ?_
          rcases ite_inv hF with ⟨hc, hF⟩ | ⟨hc, hF⟩
          · refine x_icmp_eq 1071 1069 dL_law_1066 (by decide) rfl (fun _ => ?_) (fun q => absurd hc q)
            refine x_iload 1073 1 dL_law_1071 rfl rfl ?_
            rcases ite_inv hF with ⟨hc, hF⟩ | ⟨hc, hF⟩
            · refine x_if_ne 1088 1076 dL_law_1073 (by decide) rfl (fun q => absurd hc q) (fun _ => ?_)
              refine x_aload_n 1077 5 dL_law_1076 rfl rfl ?_
              refine x_iconst 1078 (0 : Int32) dL_law_1077 rfl (by decide) ?_
              obtain ⟨v280, h281, hF⟩ := b1_inv hF
              refine x_aJ 1079 h281 dL_law_1078 rfl ?_
              refine x_iload 1081 0 dL_law_1079 rfl rfl ?_
              refine x_i2l 1082 dL_law_1081 rfl ?_
              refine x_lcmp 1083 dL_law_1082 rfl ?_
              rcases ite_inv hF with ⟨hc, hF⟩ | ⟨hc, hF⟩
              · refine x_if_eq 1088 1086 dL_law_1083 (by decide) rfl (fun _ => ?_) (fun q => absurd hc q)
                refine x_goto 1788 dL_law_1088 (by decide) ?_
                refine x_iinc 1791 4 6 (y4 + (8 : Int32)) [(4, .int (y4 + (8 : Int32))), (6, .int v276), (5, .int v269), (0, .ref a0), (1, .ref a1), (2, .ref a2), (3, .ref a3)] dL_law_1788 rfl rfl rfl (by decide) rfl ?_
                refine x_goto 23 dL_law_1791 (by decide) ?_
                refine x_sub [(0, .ref a0), (1, .ref a1), (2, .ref a2), (3, .ref a3), (4, .int (y4 + (8 : Int32)))] [3, 4, 5, 6, 0] rfl ?_
                exact ih (k + 2) (j + 12) _ _ _ (by omega) (by omega) hF
              · refine x_if_eq 1088 1086 dL_law_1083 (by decide) rfl (fun q => absurd q hc) (fun _ => ?_)
                refine x_iconst 1087 (0 : Int32) dL_law_1086 rfl (by decide) ?_
                cases hF
                exact x_zret rfl rfl (hrf _ _) (by omega) (by omega) dL_law_1087
            · refine x_if_ne 1088 1076 dL_law_1073 (by decide) rfl (fun _ => ?_) (fun q => absurd q hc)
              refine x_goto 1788 dL_law_1088 (by decide) ?_
              refine x_iinc 1791 4 6 (y4 + (8 : Int32)) [(4, .int (y4 + (8 : Int32))), (6, .int v276), (5, .int v269), (0, .ref a0), (1, .ref a1), (2, .ref a2), (3, .ref a3)] dL_law_1788 rfl rfl rfl (by decide) rfl ?_
              refine x_goto 23 dL_law_1791 (by decide) ?_
              refine x_sub [(0, .ref a0), (1, .ref a1), (2, .ref a2), (3, .ref a3), (4, .int (y4 + (8 : Int32)))] [3, 4, 5, 6, 0] rfl ?_
              exact ih (k + 2) (j + 12) _ _ _ (by omega) (by omega) hF
          · refine x_icmp_eq 1071 1069 dL_law_1066 (by decide) rfl (fun q => absurd q hc) (fun _ => ?_)
            refine x_iconst 1070 (0 : Int32) dL_law_1069 rfl (by decide) ?_
            cases hF
            exact x_zret rfl rfl (hrf _ _) (by omega) (by omega) dL_law_1070
        · exact x_tableIn (983) 1023 dL_law_40 (by rw [h282]; decide) (by rw [h282]; decide) (by rw [h282]; decide) (by decide) hK
      rcases ite_inv hF with ⟨h301, hF⟩ | ⟨h301, hF⟩
      · have hK : qX l G RL "law" cL_law 7 (some .boolean) [] rmL_law 601024 7293034 (rf o) k j σ none 1091 [(0, .ref a0), (1, .ref a1), (2, .ref a2), (3, .ref a3), (4, .int y4)] [] := by
          refine x_aload_n 1092 1 dL_law_1091 rfl rfl ?_
          refine x_aload_n 1093 0 dL_law_1092 rfl rfl ?_
          refine x_iload 1095 4 dL_law_1093 rfl rfl ?_
          refine x_iconst 1096 (1 : Int32) dL_law_1095 rfl (by decide) ?_
          refine x_iadd 1097 dL_law_1096 rfl ?_
          obtain ⟨v283, h284, hF⟩ := b1_inv hF
          refine x_aI 1098 h284 dL_law_1097 rfl ?_
          refine x_aload_n 1099 0 dL_law_1098 rfl rfl ?_
          refine x_iload 1101 4 dL_law_1099 rfl rfl ?_
          refine x_iconst 1102 (2 : Int32) dL_law_1101 rfl (by decide) ?_
          refine x_iadd 1103 dL_law_1102 rfl ?_
          obtain ⟨v285, h286, hF⟩ := b1_inv hF
          refine x_aI 1104 h286 dL_law_1103 rfl ?_
          refine x_aload_n 1105 3 dL_law_1104 rfl rfl ?_
          obtain ⟨v288, s289, h287, hF⟩ := b2_inv hF
          refine x_callSW (As := [.ref a1, .int v283, .int v285, .ref a3]) (rest := []) 1108 (k + 1) (j + 6) (mL_set hst a1 v283 v285 a3 σ none v288 s289 h287) qyL_set wd_751 wd_752 rfl rfl (by decide) (Nat.le_of_ble_eq_true rfl) ⟨by show k + 1 ≤ 601024; omega, by show j + 6 ≤ 7293034; omega⟩ dL_law_1105 rfl rfl rfl rfl ?_
          refine x_istore 1110 5 [(5, .int v288), (0, .ref a0), (1, .ref a1), (2, .ref a2), (3, .ref a3), (4, .int y4)] dL_law_1108 rfl (by decide) rfl ?_
          refine x_aload_n 1111 3 dL_law_1110 rfl rfl ?_
          refine x_aload_n 1112 1 dL_law_1111 rfl rfl ?_
          refine x_iload 1114 5 dL_law_1112 rfl rfl ?_
          refine x_iconst 1115 (1 : Int32) dL_law_1114 rfl (by decide) ?_
          refine x_iadd 1116 dL_law_1115 rfl ?_
          obtain ⟨v290, h291, hF⟩ := b1_inv hF
          refine x_aI 1117 h291 dL_law_1116 rfl ?_
          refine x_aload_n 1118 1 dL_law_1117 rfl rfl ?_
          refine x_iload 1120 5 dL_law_1118 rfl rfl ?_
          refine x_iconst 1121 (2 : Int32) dL_law_1120 rfl (by decide) ?_
          refine x_iadd 1122 dL_law_1121 rfl ?_
          obtain ⟨v292, h293, hF⟩ := b1_inv hF
          refine x_aI 1123 h293 dL_law_1122 rfl ?_
          obtain ⟨v295, s296, h294, hF⟩ := b2_inv hF
          obtain ⟨fs, hb⟩ : ∃ fs : List Value, True ∧ s289 a2 = some (.inr (5, fs)) := kX7_set h294
          refine x_callV (As := [.int v290, .int v292]) (rest := []) 1126 (k + 1) (j + 6) (mX7_set hst a2 v290 v292 s289 none v295 s296 h294) qyX7_set wd_1144 wd_1145 wd_1146 hb.2 rfl rfl rfl (by decide) (Nat.le_of_ble_eq_true rfl) ⟨by show (k + 1) + 0 ≤ 601024; omega, by show (j + 6) + 0 ≤ 7293034; omega⟩ dL_law_1123 rfl rfl rfl rfl ?_
          refine x_istore 1128 6 [(6, .int v295), (5, .int v288), (0, .ref a0), (1, .ref a1), (2, .ref a2), (3, .ref a3), (4, .int y4)] dL_law_1126 rfl (by decide) rfl ?_
          refine x_aload_n 1129 4 dL_law_1128 rfl rfl ?_
          obtain ⟨v298, h297, hF⟩ := b1_inv hF
          obtain ⟨fs, hb⟩ : ∃ fs : List Value, True ∧ s296 a2 = some (.inr (5, fs)) := kX7_thrown h297
          refine x_callV (As := []) (rest := []) 1132 (k + 1) (j + 6) (mX7_thrown hst a2 s296 none v298 h297) qyX7_thrown wd_959 wd_960 wd_961 hb.2 rfl rfl rfl (by decide) (Nat.le_of_ble_eq_true rfl) ⟨by show (k + 1) + 0 ≤ 601024; omega, by show (j + 6) + 0 ≤ 7293034; omega⟩ dL_law_1129 rfl rfl rfl rfl ?_
          refine x_iload 1134 1 dL_law_1132 rfl rfl ?_
          rcases ite_inv hF with ⟨hc, hF⟩ | ⟨hc, hF⟩
          · refine x_icmp_eq 1139 1137 dL_law_1134 (by decide) rfl (fun _ => ?_) (fun q => absurd hc q)
            refine x_iload 1141 1 dL_law_1139 rfl rfl ?_
            rcases ite_inv hF with ⟨hc, hF⟩ | ⟨hc, hF⟩
            · refine x_if_ne 1156 1144 dL_law_1141 (by decide) rfl (fun q => absurd hc q) (fun _ => ?_)
              refine x_aload_n 1145 5 dL_law_1144 rfl rfl ?_
              refine x_iconst 1146 (0 : Int32) dL_law_1145 rfl (by decide) ?_
              obtain ⟨v299, h300, hF⟩ := b1_inv hF
              refine x_aJ 1147 h300 dL_law_1146 rfl ?_
              refine x_iload 1149 0 dL_law_1147 rfl rfl ?_
              refine x_i2l 1150 dL_law_1149 rfl ?_
              refine x_lcmp 1151 dL_law_1150 rfl ?_
              rcases ite_inv hF with ⟨hc, hF⟩ | ⟨hc, hF⟩
              · refine x_if_eq 1156 1154 dL_law_1151 (by decide) rfl (fun _ => ?_) (fun q => absurd hc q)
                refine x_goto 1788 dL_law_1156 (by decide) ?_
                refine x_iinc 1791 4 6 (y4 + (8 : Int32)) [(4, .int (y4 + (8 : Int32))), (6, .int v295), (5, .int v288), (0, .ref a0), (1, .ref a1), (2, .ref a2), (3, .ref a3)] dL_law_1788 rfl rfl rfl (by decide) rfl ?_
                refine x_goto 23 dL_law_1791 (by decide) ?_
                refine x_sub [(0, .ref a0), (1, .ref a1), (2, .ref a2), (3, .ref a3), (4, .int (y4 + (8 : Int32)))] [3, 4, 5, 6, 0] rfl ?_
                exact ih (k + 1) (j + 6) _ _ _ (by omega) (by omega) hF
              · refine x_if_eq 1156 1154 dL_law_1151 (by decide) rfl (fun q => absurd q hc) (fun _ => ?_)
                refine x_iconst 1155 (0 : Int32) dL_law_1154 rfl (by decide) ?_
                cases hF
                exact x_zret rfl rfl (hrf _ _) (by omega) (by omega) dL_law_1155
            · refine x_if_ne 1156 1144 dL_law_1141 (by decide) rfl (fun _ => ?_) (fun q => absurd q hc)
              refine x_goto 1788 dL_law_1156 (by decide) ?_
              refine x_iinc 1791 4 6 (y4 + (8 : Int32)) [(4, .int (y4 + (8 : Int32))), (6, .int v295), (5, .int v288), (0, .ref a0), (1, .ref a1), (2, .ref a2), (3, .ref a3)] dL_law_1788 rfl rfl rfl (by decide) rfl ?_
              refine x_goto 23 dL_law_1791 (by decide) ?_
              refine x_sub [(0, .ref a0), (1, .ref a1), (2, .ref a2), (3, .ref a3), (4, .int (y4 + (8 : Int32)))] [3, 4, 5, 6, 0] rfl ?_
              exact ih (k + 1) (j + 6) _ _ _ (by omega) (by omega) hF
          · refine x_icmp_eq 1139 1137 dL_law_1134 (by decide) rfl (fun q => absurd q hc) (fun _ => ?_)
            refine x_iconst 1138 (0 : Int32) dL_law_1137 rfl (by decide) ?_
            cases hF
            exact x_zret rfl rfl (hrf _ _) (by omega) (by omega) dL_law_1138
        · exact x_tableIn (1051) 1091 dL_law_40 (by rw [h301]; decide) (by rw [h301]; decide) (by rw [h301]; decide) (by decide) hK
      rcases ite_inv hF with ⟨h312, hF⟩ | ⟨h312, hF⟩
      · have hK : qX l G RL "law" cL_law 7 (some .boolean) [] rmL_law 601024 7293034 (rf o) k j σ none 1159 [(0, .ref a0), (1, .ref a1), (2, .ref a2), (3, .ref a3), (4, .int y4)] [] := by
          refine x_aload_n 1160 1 dL_law_1159 rfl rfl ?_
          refine x_aload_n 1161 3 dL_law_1160 rfl rfl ?_
          obtain ⟨v303, s304, h302, hF⟩ := b2_inv hF
          refine x_callSW (As := [.ref a1, .ref a3]) (rest := []) 1164 (k + 1) (j + 6) (mL_undo hst a1 a3 σ none v303 s304 h302) qyL_undo wd_766 wd_767 rfl rfl (by decide) (Nat.le_of_ble_eq_true rfl) ⟨by show k + 1 ≤ 601024; omega, by show j + 6 ≤ 7293034; omega⟩ dL_law_1161 rfl rfl rfl rfl ?_
          refine x_istore 1166 5 [(5, .int v303), (0, .ref a0), (1, .ref a1), (2, .ref a2), (3, .ref a3), (4, .int y4)] dL_law_1164 rfl (by decide) rfl ?_
          refine x_aload_n 1167 3 dL_law_1166 rfl rfl ?_
          obtain ⟨v306, s307, h305, hF⟩ := b2_inv hF
          obtain ⟨fs, hb⟩ : ∃ fs : List Value, True ∧ s304 a2 = some (.inr (5, fs)) := kX7_undo h305
          refine x_callV (As := []) (rest := []) 1170 (k + 1) (j + 6) (mX7_undo hst a2 s304 none v306 s307 h305) qyX7_undo wd_1155 wd_1156 wd_1157 hb.2 rfl rfl rfl (by decide) (Nat.le_of_ble_eq_true rfl) ⟨by show (k + 1) + 0 ≤ 601024; omega, by show (j + 6) + 0 ≤ 7293034; omega⟩ dL_law_1167 rfl rfl rfl rfl ?_
          refine x_istore 1172 6 [(6, .int v306), (5, .int v303), (0, .ref a0), (1, .ref a1), (2, .ref a2), (3, .ref a3), (4, .int y4)] dL_law_1170 rfl (by decide) rfl ?_
          refine x_aload_n 1173 4 dL_law_1172 rfl rfl ?_
          obtain ⟨v309, h308, hF⟩ := b1_inv hF
          obtain ⟨fs, hb⟩ : ∃ fs : List Value, True ∧ s307 a2 = some (.inr (5, fs)) := kX7_thrown h308
          refine x_callV (As := []) (rest := []) 1176 (k + 1) (j + 6) (mX7_thrown hst a2 s307 none v309 h308) qyX7_thrown wd_959 wd_960 wd_961 hb.2 rfl rfl rfl (by decide) (Nat.le_of_ble_eq_true rfl) ⟨by show (k + 1) + 0 ≤ 601024; omega, by show (j + 6) + 0 ≤ 7293034; omega⟩ dL_law_1173 rfl rfl rfl rfl ?_
          refine x_iload 1178 1 dL_law_1176 rfl rfl ?_
          rcases ite_inv hF with ⟨hc, hF⟩ | ⟨hc, hF⟩
          · refine x_icmp_eq 1183 1181 dL_law_1178 (by decide) rfl (fun _ => ?_) (fun q => absurd hc q)
            refine x_iload 1185 1 dL_law_1183 rfl rfl ?_
            rcases ite_inv hF with ⟨hc, hF⟩ | ⟨hc, hF⟩
            · refine x_if_ne 1200 1188 dL_law_1185 (by decide) rfl (fun q => absurd hc q) (fun _ => ?_)
              refine x_aload_n 1189 5 dL_law_1188 rfl rfl ?_
              refine x_iconst 1190 (0 : Int32) dL_law_1189 rfl (by decide) ?_
              obtain ⟨v310, h311, hF⟩ := b1_inv hF
              refine x_aJ 1191 h311 dL_law_1190 rfl ?_
              refine x_iload 1193 0 dL_law_1191 rfl rfl ?_
              refine x_i2l 1194 dL_law_1193 rfl ?_
              refine x_lcmp 1195 dL_law_1194 rfl ?_
              rcases ite_inv hF with ⟨hc, hF⟩ | ⟨hc, hF⟩
              · refine x_if_eq 1200 1198 dL_law_1195 (by decide) rfl (fun _ => ?_) (fun q => absurd hc q)
                refine x_goto 1788 dL_law_1200 (by decide) ?_
                refine x_iinc 1791 4 6 (y4 + (8 : Int32)) [(4, .int (y4 + (8 : Int32))), (6, .int v306), (5, .int v303), (0, .ref a0), (1, .ref a1), (2, .ref a2), (3, .ref a3)] dL_law_1788 rfl rfl rfl (by decide) rfl ?_
                refine x_goto 23 dL_law_1791 (by decide) ?_
                refine x_sub [(0, .ref a0), (1, .ref a1), (2, .ref a2), (3, .ref a3), (4, .int (y4 + (8 : Int32)))] [3, 4, 5, 6, 0] rfl ?_
                exact ih (k + 1) (j + 6) _ _ _ (by omega) (by omega) hF
              · refine x_if_eq 1200 1198 dL_law_1195 (by decide) rfl (fun q => absurd q hc) (fun _ => ?_)
                refine x_iconst 1199 (0 : Int32) dL_law_1198 rfl (by decide) ?_
                cases hF
                exact x_zret rfl rfl (hrf _ _) (by omega) (by omega) dL_law_1199
            · refine x_if_ne 1200 1188 dL_law_1185 (by decide) rfl (fun _ => ?_) (fun q => absurd q hc)
              refine x_goto 1788 dL_law_1200 (by decide) ?_
              refine x_iinc 1791 4 6 (y4 + (8 : Int32)) [(4, .int (y4 + (8 : Int32))), (6, .int v306), (5, .int v303), (0, .ref a0), (1, .ref a1), (2, .ref a2), (3, .ref a3)] dL_law_1788 rfl rfl rfl (by decide) rfl ?_
              refine x_goto 23 dL_law_1791 (by decide) ?_
              refine x_sub [(0, .ref a0), (1, .ref a1), (2, .ref a2), (3, .ref a3), (4, .int (y4 + (8 : Int32)))] [3, 4, 5, 6, 0] rfl ?_
              exact ih (k + 1) (j + 6) _ _ _ (by omega) (by omega) hF
          · refine x_icmp_eq 1183 1181 dL_law_1178 (by decide) rfl (fun q => absurd q hc) (fun _ => ?_)
            refine x_iconst 1182 (0 : Int32) dL_law_1181 rfl (by decide) ?_
            cases hF
            exact x_zret rfl rfl (hrf _ _) (by omega) (by omega) dL_law_1182
        · exact x_tableIn (1119) 1159 dL_law_40 (by rw [h312]; decide) (by rw [h312]; decide) (by rw [h312]; decide) (by decide) hK
      rcases ite_inv hF with ⟨h331, hF⟩ | ⟨h331, hF⟩
      · have hK : qX l G RL "law" cL_law 7 (some .boolean) [] rmL_law 601024 7293034 (rf o) k j σ none 1203 [(0, .ref a0), (1, .ref a1), (2, .ref a2), (3, .ref a3), (4, .int y4)] [] := by
          refine x_aload_n 1204 1 dL_law_1203 rfl rfl ?_
          refine x_aload_n 1205 0 dL_law_1204 rfl rfl ?_
          refine x_iload 1207 4 dL_law_1205 rfl rfl ?_
          refine x_iconst 1208 (1 : Int32) dL_law_1207 rfl (by decide) ?_
          refine x_iadd 1209 dL_law_1208 rfl ?_
          obtain ⟨v313, h314, hF⟩ := b1_inv hF
          refine x_aI 1210 h314 dL_law_1209 rfl ?_
          refine x_aload_n 1211 0 dL_law_1210 rfl rfl ?_
          refine x_iload 1213 4 dL_law_1211 rfl rfl ?_
          refine x_iconst 1214 (2 : Int32) dL_law_1213 rfl (by decide) ?_
          refine x_iadd 1215 dL_law_1214 rfl ?_
          obtain ⟨v315, h316, hF⟩ := b1_inv hF
          refine x_aI 1216 h316 dL_law_1215 rfl ?_
          refine x_aload_n 1217 3 dL_law_1216 rfl rfl ?_
          obtain ⟨v318, s319, h317, hF⟩ := b2_inv hF
          refine x_callSW (As := [.ref a1, .int v313, .int v315, .ref a3]) (rest := []) 1220 (k + 2) (j + 12) (mL_apart hst a1 v313 v315 a3 σ none v318 s319 h317) qyL_apart wd_782 wd_783 rfl rfl (by decide) (Nat.le_of_ble_eq_true rfl) ⟨by show k + 2 ≤ 601024; omega, by show j + 12 ≤ 7293034; omega⟩ dL_law_1217 rfl rfl rfl rfl ?_
          refine x_istore 1222 5 [(5, .int v318), (0, .ref a0), (1, .ref a1), (2, .ref a2), (3, .ref a3), (4, .int y4)] dL_law_1220 rfl (by decide) rfl ?_
          refine x_aload_n 1223 3 dL_law_1222 rfl rfl ?_
          refine x_aload_n 1224 1 dL_law_1223 rfl rfl ?_
          refine x_iload 1226 5 dL_law_1224 rfl rfl ?_
          refine x_iconst 1227 (1 : Int32) dL_law_1226 rfl (by decide) ?_
          refine x_iadd 1228 dL_law_1227 rfl ?_
          obtain ⟨v320, h321, hF⟩ := b1_inv hF
          refine x_aI 1229 h321 dL_law_1228 rfl ?_
          refine x_aload_n 1230 1 dL_law_1229 rfl rfl ?_
          refine x_iload 1232 5 dL_law_1230 rfl rfl ?_
          refine x_iconst 1233 (2 : Int32) dL_law_1232 rfl (by decide) ?_
          refine x_iadd 1234 dL_law_1233 rfl ?_
          obtain ⟨v322, h323, hF⟩ := b1_inv hF
          refine x_aI 1235 h323 dL_law_1234 rfl ?_
          obtain ⟨v325, s326, h324, hF⟩ := b2_inv hF
          obtain ⟨fs, hb⟩ : ∃ fs : List Value, True ∧ s319 a2 = some (.inr (5, fs)) := kX7_apart h324
          refine x_callV (As := [.int v320, .int v322]) (rest := []) 1238 (k + 2) (j + 12) (mX7_apart hst a2 v320 v322 s319 none v325 s326 h324) qyX7_apart wd_1159 wd_1160 wd_1161 hb.2 rfl rfl rfl (by decide) (Nat.le_of_ble_eq_true rfl) ⟨by show (k + 2) + 0 ≤ 601024; omega, by show (j + 12) + 0 ≤ 7293034; omega⟩ dL_law_1235 rfl rfl rfl rfl ?_
          refine x_istore 1240 6 [(6, .int v325), (5, .int v318), (0, .ref a0), (1, .ref a1), (2, .ref a2), (3, .ref a3), (4, .int y4)] dL_law_1238 rfl (by decide) rfl ?_
          refine x_aload_n 1241 4 dL_law_1240 rfl rfl ?_
          obtain ⟨v328, h327, hF⟩ := b1_inv hF
          obtain ⟨fs, hb⟩ : ∃ fs : List Value, True ∧ s326 a2 = some (.inr (5, fs)) := kX7_thrown h327
          refine x_callV (As := []) (rest := []) 1244 (k + 2) (j + 12) (mX7_thrown hst a2 s326 none v328 h327) qyX7_thrown wd_959 wd_960 wd_961 hb.2 rfl rfl rfl (by decide) (Nat.le_of_ble_eq_true rfl) ⟨by show (k + 2) + 0 ≤ 601024; omega, by show (j + 12) + 0 ≤ 7293034; omega⟩ dL_law_1241 rfl rfl rfl rfl ?_
          refine x_iload 1246 1 dL_law_1244 rfl rfl ?_
          rcases ite_inv hF with ⟨hc, hF⟩ | ⟨hc, hF⟩
          · refine x_icmp_eq 1251 1249 dL_law_1246 (by decide) rfl (fun _ => ?_) (fun q => absurd hc q)
            refine x_iload 1253 1 dL_law_1251 rfl rfl ?_
            rcases ite_inv hF with ⟨hc, hF⟩ | ⟨hc, hF⟩
            · refine x_if_ne 1268 1256 dL_law_1253 (by decide) rfl (fun q => absurd hc q) (fun _ => ?_)
              refine x_aload_n 1257 5 dL_law_1256 rfl rfl ?_
              refine x_iconst 1258 (0 : Int32) dL_law_1257 rfl (by decide) ?_
              obtain ⟨v329, h330, hF⟩ := b1_inv hF
              refine x_aJ 1259 h330 dL_law_1258 rfl ?_
              refine x_iload 1261 0 dL_law_1259 rfl rfl ?_
              refine x_i2l 1262 dL_law_1261 rfl ?_
              refine x_lcmp 1263 dL_law_1262 rfl ?_
              rcases ite_inv hF with ⟨hc, hF⟩ | ⟨hc, hF⟩
              · refine x_if_eq 1268 1266 dL_law_1263 (by decide) rfl (fun _ => ?_) (fun q => absurd hc q)
                refine x_goto 1788 dL_law_1268 (by decide) ?_
                refine x_iinc 1791 4 6 (y4 + (8 : Int32)) [(4, .int (y4 + (8 : Int32))), (6, .int v325), (5, .int v318), (0, .ref a0), (1, .ref a1), (2, .ref a2), (3, .ref a3)] dL_law_1788 rfl rfl rfl (by decide) rfl ?_
                refine x_goto 23 dL_law_1791 (by decide) ?_
                refine x_sub [(0, .ref a0), (1, .ref a1), (2, .ref a2), (3, .ref a3), (4, .int (y4 + (8 : Int32)))] [3, 4, 5, 6, 0] rfl ?_
                exact ih (k + 2) (j + 12) _ _ _ (by omega) (by omega) hF
              · refine x_if_eq 1268 1266 dL_law_1263 (by decide) rfl (fun q => absurd q hc) (fun _ => ?_)
                refine x_iconst 1267 (0 : Int32) dL_law_1266 rfl (by decide) ?_
                cases hF
                exact x_zret rfl rfl (hrf _ _) (by omega) (by omega) dL_law_1267
            · refine x_if_ne 1268 1256 dL_law_1253 (by decide) rfl (fun _ => ?_) (fun q => absurd q hc)
              refine x_goto 1788 dL_law_1268 (by decide) ?_
              refine x_iinc 1791 4 6 (y4 + (8 : Int32)) [(4, .int (y4 + (8 : Int32))), (6, .int v325), (5, .int v318), (0, .ref a0), (1, .ref a1), (2, .ref a2), (3, .ref a3)] dL_law_1788 rfl rfl rfl (by decide) rfl ?_
              refine x_goto 23 dL_law_1791 (by decide) ?_
              refine x_sub [(0, .ref a0), (1, .ref a1), (2, .ref a2), (3, .ref a3), (4, .int (y4 + (8 : Int32)))] [3, 4, 5, 6, 0] rfl ?_
              exact ih (k + 2) (j + 12) _ _ _ (by omega) (by omega) hF
          · refine x_icmp_eq 1251 1249 dL_law_1246 (by decide) rfl (fun q => absurd q hc) (fun _ => ?_)
            refine x_iconst 1250 (0 : Int32) dL_law_1249 rfl (by decide) ?_
            cases hF
            exact x_zret rfl rfl (hrf _ _) (by omega) (by omega) dL_law_1250
        · exact x_tableIn (1163) 1203 dL_law_40 (by rw [h331]; decide) (by rw [h331]; decide) (by rw [h331]; decide) (by decide) hK
      rcases ite_inv hF with ⟨h346, hF⟩ | ⟨h346, hF⟩
      · have hK : qX l G RL "law" cL_law 7 (some .boolean) [] rmL_law 601024 7293034 (rf o) k j σ none 1271 [(0, .ref a0), (1, .ref a1), (2, .ref a2), (3, .ref a3), (4, .int y4)] [] := by
          refine x_aload_n 1272 1 dL_law_1271 rfl rfl ?_
          refine x_aload_n 1273 0 dL_law_1272 rfl rfl ?_
          refine x_iload 1275 4 dL_law_1273 rfl rfl ?_
          refine x_iconst 1276 (1 : Int32) dL_law_1275 rfl (by decide) ?_
          refine x_iadd 1277 dL_law_1276 rfl ?_
          obtain ⟨v332, h333, hF⟩ := b1_inv hF
          refine x_aI 1278 h333 dL_law_1277 rfl ?_
          refine x_aload_n 1279 3 dL_law_1278 rfl rfl ?_
          obtain ⟨v335, s336, h334, hF⟩ := b2_inv hF
          refine x_callSW (As := [.ref a1, .int v332, .ref a3]) (rest := []) 1282 (k + 1) (j + 6) (mL_against hst a1 v332 a3 σ none v335 s336 h334) qyL_against wd_790 wd_791 rfl rfl (by decide) (Nat.le_of_ble_eq_true rfl) ⟨by show k + 1 ≤ 601024; omega, by show j + 6 ≤ 7293034; omega⟩ dL_law_1279 rfl rfl rfl rfl ?_
          refine x_istore 1284 5 [(5, .int v335), (0, .ref a0), (1, .ref a1), (2, .ref a2), (3, .ref a3), (4, .int y4)] dL_law_1282 rfl (by decide) rfl ?_
          refine x_aload_n 1285 3 dL_law_1284 rfl rfl ?_
          refine x_aload_n 1286 1 dL_law_1285 rfl rfl ?_
          refine x_iload 1288 5 dL_law_1286 rfl rfl ?_
          refine x_iconst 1289 (1 : Int32) dL_law_1288 rfl (by decide) ?_
          refine x_iadd 1290 dL_law_1289 rfl ?_
          obtain ⟨v337, h338, hF⟩ := b1_inv hF
          refine x_aI 1291 h338 dL_law_1290 rfl ?_
          obtain ⟨v340, s341, h339, hF⟩ := b2_inv hF
          obtain ⟨fs, hb⟩ : ∃ fs : List Value, True ∧ s336 a2 = some (.inr (5, fs)) := kX7_against h339
          refine x_callV (As := [.int v337]) (rest := []) 1294 (k + 1) (j + 6) (mX7_against hst a2 v337 s336 none v340 s341 h339) qyX7_against wd_1163 wd_1164 wd_1165 hb.2 rfl rfl rfl (by decide) (Nat.le_of_ble_eq_true rfl) ⟨by show (k + 1) + 0 ≤ 601024; omega, by show (j + 6) + 0 ≤ 7293034; omega⟩ dL_law_1291 rfl rfl rfl rfl ?_
          refine x_istore 1296 6 [(6, .int v340), (5, .int v335), (0, .ref a0), (1, .ref a1), (2, .ref a2), (3, .ref a3), (4, .int y4)] dL_law_1294 rfl (by decide) rfl ?_
          refine x_aload_n 1297 4 dL_law_1296 rfl rfl ?_
          obtain ⟨v343, h342, hF⟩ := b1_inv hF
          obtain ⟨fs, hb⟩ : ∃ fs : List Value, True ∧ s341 a2 = some (.inr (5, fs)) := kX7_thrown h342
          refine x_callV (As := []) (rest := []) 1300 (k + 1) (j + 6) (mX7_thrown hst a2 s341 none v343 h342) qyX7_thrown wd_959 wd_960 wd_961 hb.2 rfl rfl rfl (by decide) (Nat.le_of_ble_eq_true rfl) ⟨by show (k + 1) + 0 ≤ 601024; omega, by show (j + 6) + 0 ≤ 7293034; omega⟩ dL_law_1297 rfl rfl rfl rfl ?_
          refine x_iload 1302 1 dL_law_1300 rfl rfl ?_
          rcases ite_inv hF with ⟨hc, hF⟩ | ⟨hc, hF⟩
          · refine x_icmp_eq 1307 1305 dL_law_1302 (by decide) rfl (fun _ => ?_) (fun q => absurd hc q)
            refine x_iload 1309 1 dL_law_1307 rfl rfl ?_
            rcases ite_inv hF with ⟨hc, hF⟩ | ⟨hc, hF⟩
            · refine x_if_ne 1324 1312 dL_law_1309 (by decide) rfl (fun q => absurd hc q) (fun _ => ?_)
              refine x_aload_n 1313 5 dL_law_1312 rfl rfl ?_
              refine x_iconst 1314 (0 : Int32) dL_law_1313 rfl (by decide) ?_
              obtain ⟨v344, h345, hF⟩ := b1_inv hF
              refine x_aJ 1315 h345 dL_law_1314 rfl ?_
              refine x_iload 1317 0 dL_law_1315 rfl rfl ?_
              refine x_i2l 1318 dL_law_1317 rfl ?_
              refine x_lcmp 1319 dL_law_1318 rfl ?_
              rcases ite_inv hF with ⟨hc, hF⟩ | ⟨hc, hF⟩
              · refine x_if_eq 1324 1322 dL_law_1319 (by decide) rfl (fun _ => ?_) (fun q => absurd hc q)
                refine x_goto 1788 dL_law_1324 (by decide) ?_
                refine x_iinc 1791 4 6 (y4 + (8 : Int32)) [(4, .int (y4 + (8 : Int32))), (6, .int v340), (5, .int v335), (0, .ref a0), (1, .ref a1), (2, .ref a2), (3, .ref a3)] dL_law_1788 rfl rfl rfl (by decide) rfl ?_
                refine x_goto 23 dL_law_1791 (by decide) ?_
                refine x_sub [(0, .ref a0), (1, .ref a1), (2, .ref a2), (3, .ref a3), (4, .int (y4 + (8 : Int32)))] [3, 4, 5, 6, 0] rfl ?_
                exact ih (k + 1) (j + 6) _ _ _ (by omega) (by omega) hF
              · refine x_if_eq 1324 1322 dL_law_1319 (by decide) rfl (fun q => absurd q hc) (fun _ => ?_)
                refine x_iconst 1323 (0 : Int32) dL_law_1322 rfl (by decide) ?_
                cases hF
                exact x_zret rfl rfl (hrf _ _) (by omega) (by omega) dL_law_1323
            · refine x_if_ne 1324 1312 dL_law_1309 (by decide) rfl (fun _ => ?_) (fun q => absurd q hc)
              refine x_goto 1788 dL_law_1324 (by decide) ?_
              refine x_iinc 1791 4 6 (y4 + (8 : Int32)) [(4, .int (y4 + (8 : Int32))), (6, .int v340), (5, .int v335), (0, .ref a0), (1, .ref a1), (2, .ref a2), (3, .ref a3)] dL_law_1788 rfl rfl rfl (by decide) rfl ?_
              refine x_goto 23 dL_law_1791 (by decide) ?_
              refine x_sub [(0, .ref a0), (1, .ref a1), (2, .ref a2), (3, .ref a3), (4, .int (y4 + (8 : Int32)))] [3, 4, 5, 6, 0] rfl ?_
              exact ih (k + 1) (j + 6) _ _ _ (by omega) (by omega) hF
          · refine x_icmp_eq 1307 1305 dL_law_1302 (by decide) rfl (fun q => absurd q hc) (fun _ => ?_)
            refine x_iconst 1306 (0 : Int32) dL_law_1305 rfl (by decide) ?_
            cases hF
            exact x_zret rfl rfl (hrf _ _) (by omega) (by omega) dL_law_1306
        · exact x_tableIn (1231) 1271 dL_law_40 (by rw [h346]; decide) (by rw [h346]; decide) (by rw [h346]; decide) (by decide) hK
      rcases ite_inv hF with ⟨h365, hF⟩ | ⟨h365, hF⟩
      · have hK : qX l G RL "law" cL_law 7 (some .boolean) [] rmL_law 601024 7293034 (rf o) k j σ none 1327 [(0, .ref a0), (1, .ref a1), (2, .ref a2), (3, .ref a3), (4, .int y4)] [] := by
          refine x_aload_n 1328 1 dL_law_1327 rfl rfl ?_
          refine x_aload_n 1329 0 dL_law_1328 rfl rfl ?_
          refine x_iload 1331 4 dL_law_1329 rfl rfl ?_
          refine x_iconst 1332 (1 : Int32) dL_law_1331 rfl (by decide) ?_
          refine x_iadd 1333 dL_law_1332 rfl ?_
          obtain ⟨v347, h348, hF⟩ := b1_inv hF
          refine x_aI 1334 h348 dL_law_1333 rfl ?_
          refine x_aload_n 1335 0 dL_law_1334 rfl rfl ?_
          refine x_iload 1337 4 dL_law_1335 rfl rfl ?_
          refine x_iconst 1338 (2 : Int32) dL_law_1337 rfl (by decide) ?_
          refine x_iadd 1339 dL_law_1338 rfl ?_
          obtain ⟨v349, h350, hF⟩ := b1_inv hF
          refine x_aI 1340 h350 dL_law_1339 rfl ?_
          refine x_aload_n 1341 3 dL_law_1340 rfl rfl ?_
          obtain ⟨v352, s353, h351, hF⟩ := b2_inv hF
          refine x_callSW (As := [.ref a1, .int v347, .int v349, .ref a3]) (rest := []) 1344 (k + 2) (j + 12) (mL_without hst a1 v347 v349 a3 σ none v352 s353 h351) qyL_without wd_813 wd_814 rfl rfl (by decide) (Nat.le_of_ble_eq_true rfl) ⟨by show k + 2 ≤ 601024; omega, by show j + 12 ≤ 7293034; omega⟩ dL_law_1341 rfl rfl rfl rfl ?_
          refine x_istore 1346 5 [(5, .int v352), (0, .ref a0), (1, .ref a1), (2, .ref a2), (3, .ref a3), (4, .int y4)] dL_law_1344 rfl (by decide) rfl ?_
          refine x_aload_n 1347 3 dL_law_1346 rfl rfl ?_
          refine x_aload_n 1348 1 dL_law_1347 rfl rfl ?_
          refine x_iload 1350 5 dL_law_1348 rfl rfl ?_
          refine x_iconst 1351 (1 : Int32) dL_law_1350 rfl (by decide) ?_
          refine x_iadd 1352 dL_law_1351 rfl ?_
          obtain ⟨v354, h355, hF⟩ := b1_inv hF
          refine x_aI 1353 h355 dL_law_1352 rfl ?_
          refine x_aload_n 1354 1 dL_law_1353 rfl rfl ?_
          refine x_iload 1356 5 dL_law_1354 rfl rfl ?_
          refine x_iconst 1357 (2 : Int32) dL_law_1356 rfl (by decide) ?_
          refine x_iadd 1358 dL_law_1357 rfl ?_
          obtain ⟨v356, h357, hF⟩ := b1_inv hF
          refine x_aI 1359 h357 dL_law_1358 rfl ?_
          obtain ⟨v359, s360, h358, hF⟩ := b2_inv hF
          obtain ⟨fs, hb⟩ : ∃ fs : List Value, True ∧ s353 a2 = some (.inr (5, fs)) := kX7_without h358
          refine x_callV (As := [.int v354, .int v356]) (rest := []) 1362 (k + 2) (j + 12) (mX7_without hst a2 v354 v356 s353 none v359 s360 h358) qyX7_without wd_1170 wd_1171 wd_1172 hb.2 rfl rfl rfl (by decide) (Nat.le_of_ble_eq_true rfl) ⟨by show (k + 2) + 0 ≤ 601024; omega, by show (j + 12) + 0 ≤ 7293034; omega⟩ dL_law_1359 rfl rfl rfl rfl ?_
          refine x_istore 1364 6 [(6, .int v359), (5, .int v352), (0, .ref a0), (1, .ref a1), (2, .ref a2), (3, .ref a3), (4, .int y4)] dL_law_1362 rfl (by decide) rfl ?_
          refine x_aload_n 1365 4 dL_law_1364 rfl rfl ?_
          obtain ⟨v362, h361, hF⟩ := b1_inv hF
          obtain ⟨fs, hb⟩ : ∃ fs : List Value, True ∧ s360 a2 = some (.inr (5, fs)) := kX7_thrown h361
          refine x_callV (As := []) (rest := []) 1368 (k + 2) (j + 12) (mX7_thrown hst a2 s360 none v362 h361) qyX7_thrown wd_959 wd_960 wd_961 hb.2 rfl rfl rfl (by decide) (Nat.le_of_ble_eq_true rfl) ⟨by show (k + 2) + 0 ≤ 601024; omega, by show (j + 12) + 0 ≤ 7293034; omega⟩ dL_law_1365 rfl rfl rfl rfl ?_
          refine x_iload 1370 1 dL_law_1368 rfl rfl ?_
          rcases ite_inv hF with ⟨hc, hF⟩ | ⟨hc, hF⟩
          · refine x_icmp_eq 1375 1373 dL_law_1370 (by decide) rfl (fun _ => ?_) (fun q => absurd hc q)
            refine x_iload 1377 1 dL_law_1375 rfl rfl ?_
            rcases ite_inv hF with ⟨hc, hF⟩ | ⟨hc, hF⟩
            · refine x_if_ne 1392 1380 dL_law_1377 (by decide) rfl (fun q => absurd hc q) (fun _ => ?_)
              refine x_aload_n 1381 5 dL_law_1380 rfl rfl ?_
              refine x_iconst 1382 (0 : Int32) dL_law_1381 rfl (by decide) ?_
              obtain ⟨v363, h364, hF⟩ := b1_inv hF
              refine x_aJ 1383 h364 dL_law_1382 rfl ?_
              refine x_iload 1385 0 dL_law_1383 rfl rfl ?_
              refine x_i2l 1386 dL_law_1385 rfl ?_
              refine x_lcmp 1387 dL_law_1386 rfl ?_
              rcases ite_inv hF with ⟨hc, hF⟩ | ⟨hc, hF⟩
              · refine x_if_eq 1392 1390 dL_law_1387 (by decide) rfl (fun _ => ?_) (fun q => absurd hc q)
                refine x_goto 1788 dL_law_1392 (by decide) ?_
                refine x_iinc 1791 4 6 (y4 + (8 : Int32)) [(4, .int (y4 + (8 : Int32))), (6, .int v359), (5, .int v352), (0, .ref a0), (1, .ref a1), (2, .ref a2), (3, .ref a3)] dL_law_1788 rfl rfl rfl (by decide) rfl ?_
                refine x_goto 23 dL_law_1791 (by decide) ?_
                refine x_sub [(0, .ref a0), (1, .ref a1), (2, .ref a2), (3, .ref a3), (4, .int (y4 + (8 : Int32)))] [3, 4, 5, 6, 0] rfl ?_
                exact ih (k + 2) (j + 12) _ _ _ (by omega) (by omega) hF
              · refine x_if_eq 1392 1390 dL_law_1387 (by decide) rfl (fun q => absurd q hc) (fun _ => ?_)
                refine x_iconst 1391 (0 : Int32) dL_law_1390 rfl (by decide) ?_
                cases hF
                exact x_zret rfl rfl (hrf _ _) (by omega) (by omega) dL_law_1391
            · refine x_if_ne 1392 1380 dL_law_1377 (by decide) rfl (fun _ => ?_) (fun q => absurd q hc)
              refine x_goto 1788 dL_law_1392 (by decide) ?_
              refine x_iinc 1791 4 6 (y4 + (8 : Int32)) [(4, .int (y4 + (8 : Int32))), (6, .int v359), (5, .int v352), (0, .ref a0), (1, .ref a1), (2, .ref a2), (3, .ref a3)] dL_law_1788 rfl rfl rfl (by decide) rfl ?_
              refine x_goto 23 dL_law_1791 (by decide) ?_
              refine x_sub [(0, .ref a0), (1, .ref a1), (2, .ref a2), (3, .ref a3), (4, .int (y4 + (8 : Int32)))] [3, 4, 5, 6, 0] rfl ?_
              exact ih (k + 2) (j + 12) _ _ _ (by omega) (by omega) hF
          · refine x_icmp_eq 1375 1373 dL_law_1370 (by decide) rfl (fun q => absurd q hc) (fun _ => ?_)
            refine x_iconst 1374 (0 : Int32) dL_law_1373 rfl (by decide) ?_
            cases hF
            exact x_zret rfl rfl (hrf _ _) (by omega) (by omega) dL_law_1374
        · exact x_tableIn (1287) 1327 dL_law_40 (by rw [h365]; decide) (by rw [h365]; decide) (by rw [h365]; decide) (by decide) hK
      rcases ite_inv hF with ⟨h384, hF⟩ | ⟨h384, hF⟩
      · have hK : qX l G RL "law" cL_law 7 (some .boolean) [] rmL_law 601024 7293034 (rf o) k j σ none 1395 [(0, .ref a0), (1, .ref a1), (2, .ref a2), (3, .ref a3), (4, .int y4)] [] := by
          refine x_aload_n 1396 1 dL_law_1395 rfl rfl ?_
          refine x_aload_n 1397 0 dL_law_1396 rfl rfl ?_
          refine x_iload 1399 4 dL_law_1397 rfl rfl ?_
          refine x_iconst 1400 (1 : Int32) dL_law_1399 rfl (by decide) ?_
          refine x_iadd 1401 dL_law_1400 rfl ?_
          obtain ⟨v366, h367, hF⟩ := b1_inv hF
          refine x_aI 1402 h367 dL_law_1401 rfl ?_
          refine x_aload_n 1403 0 dL_law_1402 rfl rfl ?_
          refine x_iload 1405 4 dL_law_1403 rfl rfl ?_
          refine x_iconst 1406 (2 : Int32) dL_law_1405 rfl (by decide) ?_
          refine x_iadd 1407 dL_law_1406 rfl ?_
          obtain ⟨v368, h369, hF⟩ := b1_inv hF
          refine x_aI 1408 h369 dL_law_1407 rfl ?_
          refine x_aload_n 1409 3 dL_law_1408 rfl rfl ?_
          obtain ⟨v371, s372, h370, hF⟩ := b2_inv hF
          refine x_callSW (As := [.ref a1, .int v366, .int v368, .ref a3]) (rest := []) 1412 (k + 2) (j + 12) (mL_swings hst a1 v366 v368 a3 σ none v371 s372 h370) qyL_swings wd_820 wd_821 rfl rfl (by decide) (Nat.le_of_ble_eq_true rfl) ⟨by show k + 2 ≤ 601024; omega, by show j + 12 ≤ 7293034; omega⟩ dL_law_1409 rfl rfl rfl rfl ?_
          refine x_istore 1414 5 [(5, .int v371), (0, .ref a0), (1, .ref a1), (2, .ref a2), (3, .ref a3), (4, .int y4)] dL_law_1412 rfl (by decide) rfl ?_
          refine x_aload_n 1415 3 dL_law_1414 rfl rfl ?_
          refine x_aload_n 1416 1 dL_law_1415 rfl rfl ?_
          refine x_iload 1418 5 dL_law_1416 rfl rfl ?_
          refine x_iconst 1419 (1 : Int32) dL_law_1418 rfl (by decide) ?_
          refine x_iadd 1420 dL_law_1419 rfl ?_
          obtain ⟨v373, h374, hF⟩ := b1_inv hF
          refine x_aI 1421 h374 dL_law_1420 rfl ?_
          refine x_aload_n 1422 1 dL_law_1421 rfl rfl ?_
          refine x_iload 1424 5 dL_law_1422 rfl rfl ?_
          refine x_iconst 1425 (2 : Int32) dL_law_1424 rfl (by decide) ?_
          refine x_iadd 1426 dL_law_1425 rfl ?_
          obtain ⟨v375, h376, hF⟩ := b1_inv hF
          refine x_aI 1427 h376 dL_law_1426 rfl ?_
          obtain ⟨v378, s379, h377, hF⟩ := b2_inv hF
          obtain ⟨fs, hb⟩ : ∃ fs : List Value, True ∧ s372 a2 = some (.inr (5, fs)) := kX7_swings h377
          refine x_callV (As := [.int v373, .int v375]) (rest := []) 1430 (k + 2) (j + 12) (mX7_swings hst a2 v373 v375 s372 none v378 s379 h377) qyX7_swings wd_1174 wd_1175 wd_1176 hb.2 rfl rfl rfl (by decide) (Nat.le_of_ble_eq_true rfl) ⟨by show (k + 2) + 0 ≤ 601024; omega, by show (j + 12) + 0 ≤ 7293034; omega⟩ dL_law_1427 rfl rfl rfl rfl ?_
          refine x_istore 1432 6 [(6, .int v378), (5, .int v371), (0, .ref a0), (1, .ref a1), (2, .ref a2), (3, .ref a3), (4, .int y4)] dL_law_1430 rfl (by decide) rfl ?_
          refine x_aload_n 1433 4 dL_law_1432 rfl rfl ?_
          obtain ⟨v381, h380, hF⟩ := b1_inv hF
          obtain ⟨fs, hb⟩ : ∃ fs : List Value, True ∧ s379 a2 = some (.inr (5, fs)) := kX7_thrown h380
          refine x_callV (As := []) (rest := []) 1436 (k + 2) (j + 12) (mX7_thrown hst a2 s379 none v381 h380) qyX7_thrown wd_959 wd_960 wd_961 hb.2 rfl rfl rfl (by decide) (Nat.le_of_ble_eq_true rfl) ⟨by show (k + 2) + 0 ≤ 601024; omega, by show (j + 12) + 0 ≤ 7293034; omega⟩ dL_law_1433 rfl rfl rfl rfl ?_
          refine x_iload 1438 1 dL_law_1436 rfl rfl ?_
          rcases ite_inv hF with ⟨hc, hF⟩ | ⟨hc, hF⟩
          · refine x_icmp_eq 1443 1441 dL_law_1438 (by decide) rfl (fun _ => ?_) (fun q => absurd hc q)
            refine x_iload 1445 1 dL_law_1443 rfl rfl ?_
            rcases ite_inv hF with ⟨hc, hF⟩ | ⟨hc, hF⟩
            · refine x_if_ne 1460 1448 dL_law_1445 (by decide) rfl (fun q => absurd hc q) (fun _ => ?_)
              refine x_aload_n 1449 5 dL_law_1448 rfl rfl ?_
              refine x_iconst 1450 (0 : Int32) dL_law_1449 rfl (by decide) ?_
              obtain ⟨v382, h383, hF⟩ := b1_inv hF
              refine x_aJ 1451 h383 dL_law_1450 rfl ?_
              refine x_iload 1453 0 dL_law_1451 rfl rfl ?_
              refine x_i2l 1454 dL_law_1453 rfl ?_
              refine x_lcmp 1455 dL_law_1454 rfl ?_
              rcases ite_inv hF with ⟨hc, hF⟩ | ⟨hc, hF⟩
              · refine x_if_eq 1460 1458 dL_law_1455 (by decide) rfl (fun _ => ?_) (fun q => absurd hc q)
                refine x_goto 1788 dL_law_1460 (by decide) ?_
                refine x_iinc 1791 4 6 (y4 + (8 : Int32)) [(4, .int (y4 + (8 : Int32))), (6, .int v378), (5, .int v371), (0, .ref a0), (1, .ref a1), (2, .ref a2), (3, .ref a3)] dL_law_1788 rfl rfl rfl (by decide) rfl ?_
                refine x_goto 23 dL_law_1791 (by decide) ?_
                refine x_sub [(0, .ref a0), (1, .ref a1), (2, .ref a2), (3, .ref a3), (4, .int (y4 + (8 : Int32)))] [3, 4, 5, 6, 0] rfl ?_
                exact ih (k + 2) (j + 12) _ _ _ (by omega) (by omega) hF
              · refine x_if_eq 1460 1458 dL_law_1455 (by decide) rfl (fun q => absurd q hc) (fun _ => ?_)
                refine x_iconst 1459 (0 : Int32) dL_law_1458 rfl (by decide) ?_
                cases hF
                exact x_zret rfl rfl (hrf _ _) (by omega) (by omega) dL_law_1459
            · refine x_if_ne 1460 1448 dL_law_1445 (by decide) rfl (fun _ => ?_) (fun q => absurd q hc)
              refine x_goto 1788 dL_law_1460 (by decide) ?_
              refine x_iinc 1791 4 6 (y4 + (8 : Int32)) [(4, .int (y4 + (8 : Int32))), (6, .int v378), (5, .int v371), (0, .ref a0), (1, .ref a1), (2, .ref a2), (3, .ref a3)] dL_law_1788 rfl rfl rfl (by decide) rfl ?_
              refine x_goto 23 dL_law_1791 (by decide) ?_
              refine x_sub [(0, .ref a0), (1, .ref a1), (2, .ref a2), (3, .ref a3), (4, .int (y4 + (8 : Int32)))] [3, 4, 5, 6, 0] rfl ?_
              exact ih (k + 2) (j + 12) _ _ _ (by omega) (by omega) hF
          · refine x_icmp_eq 1443 1441 dL_law_1438 (by decide) rfl (fun q => absurd q hc) (fun _ => ?_)
            refine x_iconst 1442 (0 : Int32) dL_law_1441 rfl (by decide) ?_
            cases hF
            exact x_zret rfl rfl (hrf _ _) (by omega) (by omega) dL_law_1442
        · exact x_tableIn (1355) 1395 dL_law_40 (by rw [h384]; decide) (by rw [h384]; decide) (by rw [h384]; decide) (by decide) hK
      rcases ite_inv hF with ⟨h390, hF⟩ | ⟨h390, hF⟩
      · have hK : qX l G RL "law" cL_law 7 (some .boolean) [] rmL_law 601024 7293034 (rf o) k j σ none 1463 [(0, .ref a0), (1, .ref a1), (2, .ref a2), (3, .ref a3), (4, .int y4)] [] := by
          refine x_aload_n 1464 1 dL_law_1463 rfl rfl ?_
          obtain ⟨v386, h385, hF⟩ := b1_inv hF
          obtain ⟨fs, hb⟩ : ∃ fs : List Value, True ∧ σ a1 = some (.inr (4, fs)) := kX6_truest h385
          refine x_callV (As := []) (rest := []) 1467 k j (mX6_truest hst a1 σ none v386 h385) qyX6_truest wd_280 wd_281 wd_282 hb.2 rfl rfl rfl (by decide) (Nat.le_of_ble_eq_true rfl) ⟨by show k + 0 ≤ 601024; omega, by show j + 0 ≤ 7293034; omega⟩ dL_law_1464 rfl rfl rfl rfl ?_
          refine x_aload_n 1468 2 dL_law_1467 rfl rfl ?_
          obtain ⟨v388, s389, h387, hF⟩ := b2_inv hF
          obtain ⟨fs, hb⟩ : ∃ fs : List Value, True ∧ σ a2 = some (.inr (5, fs)) := kX7_truest h387
          refine x_callV (As := []) (rest := [.int v386]) 1471 k j (mX7_truest hst a2 σ none v388 s389 h387) qyX7_truest wd_1181 wd_1182 wd_1183 hb.2 rfl rfl rfl (by decide) (Nat.le_of_ble_eq_true rfl) ⟨by show k + 0 ≤ 601024; omega, by show j + 0 ≤ 7293034; omega⟩ dL_law_1468 rfl rfl rfl rfl ?_
          rcases ite_inv hF with ⟨hc, hF⟩ | ⟨hc, hF⟩
          · refine x_icmp_eq 1788 1474 dL_law_1471 (by decide) rfl (fun _ => ?_) (fun q => absurd hc q)
            refine x_iinc 1791 4 4 (y4 + (8 : Int32)) [(4, .int (y4 + (8 : Int32))), (0, .ref a0), (1, .ref a1), (2, .ref a2), (3, .ref a3)] dL_law_1788 rfl rfl rfl (by decide) rfl ?_
            refine x_goto 23 dL_law_1791 (by decide) ?_
            refine x_sub [(0, .ref a0), (1, .ref a1), (2, .ref a2), (3, .ref a3), (4, .int (y4 + (8 : Int32)))] [1, 2, 3, 4, 0] rfl ?_
            exact ih k j _ _ _ (by omega) (by omega) hF
          · refine x_icmp_eq 1788 1474 dL_law_1471 (by decide) rfl (fun q => absurd q hc) (fun _ => ?_)
            refine x_iconst 1475 (0 : Int32) dL_law_1474 rfl (by decide) ?_
            cases hF
            exact x_zret rfl rfl (hrf _ _) (by omega) (by omega) dL_law_1475
        · exact x_tableIn (1423) 1463 dL_law_40 (by rw [h390]; decide) (by rw [h390]; decide) (by rw [h390]; decide) (by decide) hK
      rcases ite_inv hF with ⟨h413, hF⟩ | ⟨h413, hF⟩
      · have hK : qX l G RL "law" cL_law 7 (some .boolean) [] rmL_law 601024 7293034 (rf o) k j σ none 1476 [(0, .ref a0), (1, .ref a1), (2, .ref a2), (3, .ref a3), (4, .int y4)] [] := by
          refine x_aload_n 1477 1 dL_law_1476 rfl rfl ?_
          refine x_aload_n 1478 0 dL_law_1477 rfl rfl ?_
          refine x_iload 1480 4 dL_law_1478 rfl rfl ?_
          refine x_iconst 1481 (1 : Int32) dL_law_1480 rfl (by decide) ?_
          refine x_iadd 1482 dL_law_1481 rfl ?_
          obtain ⟨v391, h392, hF⟩ := b1_inv hF
          refine x_aI 1483 h392 dL_law_1482 rfl ?_
          refine x_aload_n 1484 0 dL_law_1483 rfl rfl ?_
          refine x_iload 1486 4 dL_law_1484 rfl rfl ?_
          refine x_iconst 1487 (2 : Int32) dL_law_1486 rfl (by decide) ?_
          refine x_iadd 1488 dL_law_1487 rfl ?_
          obtain ⟨v393, h394, hF⟩ := b1_inv hF
          refine x_aI 1489 h394 dL_law_1488 rfl ?_
          refine x_i2l 1490 dL_law_1489 rfl ?_
          refine x_bipush 1492 (32 : Int32) dL_law_1490 rfl (by decide) ?_
          refine x_lshl 1493 dL_law_1492 rfl ?_
          refine x_aload_n 1494 0 dL_law_1493 rfl rfl ?_
          refine x_iload 1496 4 dL_law_1494 rfl rfl ?_
          refine x_iconst 1497 (3 : Int32) dL_law_1496 rfl (by decide) ?_
          refine x_iadd 1498 dL_law_1497 rfl ?_
          obtain ⟨v395, h396, hF⟩ := b1_inv hF
          refine x_aI 1499 h396 dL_law_1498 rfl ?_
          refine x_i2l 1500 dL_law_1499 rfl ?_
          refine x_ldc2 1503 (4294967295 : Int64) wd_1217 dL_law_1500 rfl ?_
          refine x_land 1504 dL_law_1503 rfl ?_
          refine x_lor 1505 dL_law_1504 rfl ?_
          refine x_aload_n 1506 3 dL_law_1505 rfl rfl ?_
          obtain ⟨v398, s399, h397, hF⟩ := b2_inv hF
          refine x_callSW (As := [.ref a1, .int v391, .long (((v393).toInt64 <<< ((32 : Int32).toInt64 &&& 63)) ||| ((v395).toInt64 &&& (4294967295 : Int64))), .ref a3]) (rest := []) 1509 (k + 2) (j + 12) (mL_runScript hst a1 v391 (((v393).toInt64 <<< ((32 : Int32).toInt64 &&& 63)) ||| ((v395).toInt64 &&& (4294967295 : Int64))) a3 σ none v398 s399 h397) qyL_runScript wd_832 wd_833 rfl rfl (by decide) (Nat.le_of_ble_eq_true rfl) ⟨by show k + 2 ≤ 601024; omega, by show j + 12 ≤ 7293034; omega⟩ dL_law_1506 rfl rfl rfl rfl ?_
          refine x_istore 1511 5 [(5, .int v398), (0, .ref a0), (1, .ref a1), (2, .ref a2), (3, .ref a3), (4, .int y4)] dL_law_1509 rfl (by decide) rfl ?_
          refine x_aload_n 1512 3 dL_law_1511 rfl rfl ?_
          refine x_aload_n 1513 1 dL_law_1512 rfl rfl ?_
          refine x_iload 1515 5 dL_law_1513 rfl rfl ?_
          refine x_iconst 1516 (1 : Int32) dL_law_1515 rfl (by decide) ?_
          refine x_iadd 1517 dL_law_1516 rfl ?_
          obtain ⟨v400, h401, hF⟩ := b1_inv hF
          refine x_aI 1518 h401 dL_law_1517 rfl ?_
          refine x_aload_n 1519 1 dL_law_1518 rfl rfl ?_
          refine x_iload 1521 5 dL_law_1519 rfl rfl ?_
          refine x_iconst 1522 (2 : Int32) dL_law_1521 rfl (by decide) ?_
          refine x_iadd 1523 dL_law_1522 rfl ?_
          obtain ⟨v402, h403, hF⟩ := b1_inv hF
          refine x_aI 1524 h403 dL_law_1523 rfl ?_
          refine x_i2l 1525 dL_law_1524 rfl ?_
          refine x_bipush 1527 (32 : Int32) dL_law_1525 rfl (by decide) ?_
          refine x_lshl 1528 dL_law_1527 rfl ?_
          refine x_aload_n 1529 1 dL_law_1528 rfl rfl ?_
          refine x_iload 1531 5 dL_law_1529 rfl rfl ?_
          refine x_iconst 1532 (3 : Int32) dL_law_1531 rfl (by decide) ?_
          refine x_iadd 1533 dL_law_1532 rfl ?_
          obtain ⟨v404, h405, hF⟩ := b1_inv hF
          refine x_aI 1534 h405 dL_law_1533 rfl ?_
          refine x_i2l 1535 dL_law_1534 rfl ?_
          refine x_ldc2 1538 (4294967295 : Int64) wd_1217 dL_law_1535 rfl ?_
          refine x_land 1539 dL_law_1538 rfl ?_
          refine x_lor 1540 dL_law_1539 rfl ?_
          obtain ⟨v407, s408, h406, hF⟩ := b2_inv hF
          obtain ⟨fs, hb⟩ : ∃ fs : List Value, True ∧ s399 a2 = some (.inr (5, fs)) := kX7_runScript h406
          refine x_callV (As := [.int v400, .long (((v402).toInt64 <<< ((32 : Int32).toInt64 &&& 63)) ||| ((v404).toInt64 &&& (4294967295 : Int64)))]) (rest := []) 1543 (k + 2) (j + 12) (mX7_runScript hst a2 v400 (((v402).toInt64 <<< ((32 : Int32).toInt64 &&& 63)) ||| ((v404).toInt64 &&& (4294967295 : Int64))) s399 none v407 s408 h406) qyX7_runScript wd_1185 wd_1186 wd_1187 hb.2 rfl rfl rfl (by decide) (Nat.le_of_ble_eq_true rfl) ⟨by show (k + 2) + 0 ≤ 601024; omega, by show (j + 12) + 0 ≤ 7293034; omega⟩ dL_law_1540 rfl rfl rfl rfl ?_
          refine x_istore 1545 6 [(6, .int v407), (5, .int v398), (0, .ref a0), (1, .ref a1), (2, .ref a2), (3, .ref a3), (4, .int y4)] dL_law_1543 rfl (by decide) rfl ?_
          refine x_aload_n 1546 4 dL_law_1545 rfl rfl ?_
          obtain ⟨v410, h409, hF⟩ := b1_inv hF
          obtain ⟨fs, hb⟩ : ∃ fs : List Value, True ∧ s408 a2 = some (.inr (5, fs)) := kX7_thrown h409
          refine x_callV (As := []) (rest := []) 1549 (k + 2) (j + 12) (mX7_thrown hst a2 s408 none v410 h409) qyX7_thrown wd_959 wd_960 wd_961 hb.2 rfl rfl rfl (by decide) (Nat.le_of_ble_eq_true rfl) ⟨by show (k + 2) + 0 ≤ 601024; omega, by show (j + 12) + 0 ≤ 7293034; omega⟩ dL_law_1546 rfl rfl rfl rfl ?_
          refine x_iload 1551 1 dL_law_1549 rfl rfl ?_
          rcases ite_inv hF with ⟨hc, hF⟩ | ⟨hc, hF⟩
          · refine x_icmp_eq 1556 1554 dL_law_1551 (by decide) rfl (fun _ => ?_) (fun q => absurd hc q)
            refine x_iload 1558 1 dL_law_1556 rfl rfl ?_
            rcases ite_inv hF with ⟨hc, hF⟩ | ⟨hc, hF⟩
            · refine x_if_ne 1573 1561 dL_law_1558 (by decide) rfl (fun q => absurd hc q) (fun _ => ?_)
              refine x_aload_n 1562 5 dL_law_1561 rfl rfl ?_
              refine x_iconst 1563 (0 : Int32) dL_law_1562 rfl (by decide) ?_
              obtain ⟨v411, h412, hF⟩ := b1_inv hF
              refine x_aJ 1564 h412 dL_law_1563 rfl ?_
              refine x_iload 1566 0 dL_law_1564 rfl rfl ?_
              refine x_i2l 1567 dL_law_1566 rfl ?_
              refine x_lcmp 1568 dL_law_1567 rfl ?_
              rcases ite_inv hF with ⟨hc, hF⟩ | ⟨hc, hF⟩
              · refine x_if_eq 1573 1571 dL_law_1568 (by decide) rfl (fun _ => ?_) (fun q => absurd hc q)
                refine x_goto 1788 dL_law_1573 (by decide) ?_
                refine x_iinc 1791 4 6 (y4 + (8 : Int32)) [(4, .int (y4 + (8 : Int32))), (6, .int v407), (5, .int v398), (0, .ref a0), (1, .ref a1), (2, .ref a2), (3, .ref a3)] dL_law_1788 rfl rfl rfl (by decide) rfl ?_
                refine x_goto 23 dL_law_1791 (by decide) ?_
                refine x_sub [(0, .ref a0), (1, .ref a1), (2, .ref a2), (3, .ref a3), (4, .int (y4 + (8 : Int32)))] [3, 4, 5, 6, 0] rfl ?_
                exact ih (k + 2) (j + 12) _ _ _ (by omega) (by omega) hF
              · refine x_if_eq 1573 1571 dL_law_1568 (by decide) rfl (fun q => absurd q hc) (fun _ => ?_)
                refine x_iconst 1572 (0 : Int32) dL_law_1571 rfl (by decide) ?_
                cases hF
                exact x_zret rfl rfl (hrf _ _) (by omega) (by omega) dL_law_1572
            · refine x_if_ne 1573 1561 dL_law_1558 (by decide) rfl (fun _ => ?_) (fun q => absurd q hc)
              refine x_goto 1788 dL_law_1573 (by decide) ?_
              refine x_iinc 1791 4 6 (y4 + (8 : Int32)) [(4, .int (y4 + (8 : Int32))), (6, .int v407), (5, .int v398), (0, .ref a0), (1, .ref a1), (2, .ref a2), (3, .ref a3)] dL_law_1788 rfl rfl rfl (by decide) rfl ?_
              refine x_goto 23 dL_law_1791 (by decide) ?_
              refine x_sub [(0, .ref a0), (1, .ref a1), (2, .ref a2), (3, .ref a3), (4, .int (y4 + (8 : Int32)))] [3, 4, 5, 6, 0] rfl ?_
              exact ih (k + 2) (j + 12) _ _ _ (by omega) (by omega) hF
          · refine x_icmp_eq 1556 1554 dL_law_1551 (by decide) rfl (fun q => absurd q hc) (fun _ => ?_)
            refine x_iconst 1555 (0 : Int32) dL_law_1554 rfl (by decide) ?_
            cases hF
            exact x_zret rfl rfl (hrf _ _) (by omega) (by omega) dL_law_1555
        · exact x_tableIn (1436) 1476 dL_law_40 (by rw [h413]; decide) (by rw [h413]; decide) (by rw [h413]; decide) (by decide) hK
      rcases ite_inv hF with ⟨h436, hF⟩ | ⟨h436, hF⟩
      · have hK : qX l G RL "law" cL_law 7 (some .boolean) [] rmL_law 601024 7293034 (rf o) k j σ none 1576 [(0, .ref a0), (1, .ref a1), (2, .ref a2), (3, .ref a3), (4, .int y4)] [] := by
          refine x_aload_n 1577 1 dL_law_1576 rfl rfl ?_
          refine x_aload_n 1578 0 dL_law_1577 rfl rfl ?_
          refine x_iload 1580 4 dL_law_1578 rfl rfl ?_
          refine x_iconst 1581 (1 : Int32) dL_law_1580 rfl (by decide) ?_
          refine x_iadd 1582 dL_law_1581 rfl ?_
          obtain ⟨v414, h415, hF⟩ := b1_inv hF
          refine x_aI 1583 h415 dL_law_1582 rfl ?_
          refine x_i2l 1584 dL_law_1583 rfl ?_
          refine x_bipush 1586 (32 : Int32) dL_law_1584 rfl (by decide) ?_
          refine x_lshl 1587 dL_law_1586 rfl ?_
          refine x_aload_n 1588 0 dL_law_1587 rfl rfl ?_
          refine x_iload 1590 4 dL_law_1588 rfl rfl ?_
          refine x_iconst 1591 (2 : Int32) dL_law_1590 rfl (by decide) ?_
          refine x_iadd 1592 dL_law_1591 rfl ?_
          obtain ⟨v416, h417, hF⟩ := b1_inv hF
          refine x_aI 1593 h417 dL_law_1592 rfl ?_
          refine x_i2l 1594 dL_law_1593 rfl ?_
          refine x_ldc2 1597 (4294967295 : Int64) wd_1217 dL_law_1594 rfl ?_
          refine x_land 1598 dL_law_1597 rfl ?_
          refine x_lor 1599 dL_law_1598 rfl ?_
          refine x_aload_n 1600 0 dL_law_1599 rfl rfl ?_
          refine x_iload 1602 4 dL_law_1600 rfl rfl ?_
          refine x_iconst 1603 (3 : Int32) dL_law_1602 rfl (by decide) ?_
          refine x_iadd 1604 dL_law_1603 rfl ?_
          obtain ⟨v418, h419, hF⟩ := b1_inv hF
          refine x_aI 1605 h419 dL_law_1604 rfl ?_
          refine x_aload_n 1606 3 dL_law_1605 rfl rfl ?_
          obtain ⟨v421, s422, h420, hF⟩ := b2_inv hF
          refine x_callSW (As := [.ref a1, .long (((v414).toInt64 <<< ((32 : Int32).toInt64 &&& 63)) ||| ((v416).toInt64 &&& (4294967295 : Int64))), .int v418, .ref a3]) (rest := []) 1609 (k + 1) (j + 6) (mL_simulate hst a1 (((v414).toInt64 <<< ((32 : Int32).toInt64 &&& 63)) ||| ((v416).toInt64 &&& (4294967295 : Int64))) v418 a3 σ none v421 s422 h420) qyL_simulate wd_874 wd_875 rfl rfl (by decide) (Nat.le_of_ble_eq_true rfl) ⟨by show k + 1 ≤ 601024; omega, by show j + 6 ≤ 7293034; omega⟩ dL_law_1606 rfl rfl rfl rfl ?_
          refine x_istore 1611 5 [(5, .int v421), (0, .ref a0), (1, .ref a1), (2, .ref a2), (3, .ref a3), (4, .int y4)] dL_law_1609 rfl (by decide) rfl ?_
          refine x_aload_n 1612 3 dL_law_1611 rfl rfl ?_
          refine x_aload_n 1613 1 dL_law_1612 rfl rfl ?_
          refine x_iload 1615 5 dL_law_1613 rfl rfl ?_
          refine x_iconst 1616 (1 : Int32) dL_law_1615 rfl (by decide) ?_
          refine x_iadd 1617 dL_law_1616 rfl ?_
          obtain ⟨v423, h424, hF⟩ := b1_inv hF
          refine x_aI 1618 h424 dL_law_1617 rfl ?_
          refine x_i2l 1619 dL_law_1618 rfl ?_
          refine x_bipush 1621 (32 : Int32) dL_law_1619 rfl (by decide) ?_
          refine x_lshl 1622 dL_law_1621 rfl ?_
          refine x_aload_n 1623 1 dL_law_1622 rfl rfl ?_
          refine x_iload 1625 5 dL_law_1623 rfl rfl ?_
          refine x_iconst 1626 (2 : Int32) dL_law_1625 rfl (by decide) ?_
          refine x_iadd 1627 dL_law_1626 rfl ?_
          obtain ⟨v425, h426, hF⟩ := b1_inv hF
          refine x_aI 1628 h426 dL_law_1627 rfl ?_
          refine x_i2l 1629 dL_law_1628 rfl ?_
          refine x_ldc2 1632 (4294967295 : Int64) wd_1217 dL_law_1629 rfl ?_
          refine x_land 1633 dL_law_1632 rfl ?_
          refine x_lor 1634 dL_law_1633 rfl ?_
          refine x_aload_n 1635 1 dL_law_1634 rfl rfl ?_
          refine x_iload 1637 5 dL_law_1635 rfl rfl ?_
          refine x_iconst 1638 (3 : Int32) dL_law_1637 rfl (by decide) ?_
          refine x_iadd 1639 dL_law_1638 rfl ?_
          obtain ⟨v427, h428, hF⟩ := b1_inv hF
          refine x_aI 1640 h428 dL_law_1639 rfl ?_
          obtain ⟨v430, s431, h429, hF⟩ := b2_inv hF
          obtain ⟨fs, hb⟩ : ∃ fs : List Value, True ∧ s422 a2 = some (.inr (5, fs)) := kX7_simulate h429
          refine x_callV (As := [.long (((v423).toInt64 <<< ((32 : Int32).toInt64 &&& 63)) ||| ((v425).toInt64 &&& (4294967295 : Int64))), .int v427]) (rest := []) 1643 (k + 1) (j + 6) (mX7_simulate hst a2 (((v423).toInt64 <<< ((32 : Int32).toInt64 &&& 63)) ||| ((v425).toInt64 &&& (4294967295 : Int64))) v427 s422 none v430 s431 h429) qyX7_simulate wd_1200 wd_1201 wd_1202 hb.2 rfl rfl rfl (by decide) (Nat.le_of_ble_eq_true rfl) ⟨by show (k + 1) + 0 ≤ 601024; omega, by show (j + 6) + 0 ≤ 7293034; omega⟩ dL_law_1640 rfl rfl rfl rfl ?_
          refine x_istore 1645 6 [(6, .int v430), (5, .int v421), (0, .ref a0), (1, .ref a1), (2, .ref a2), (3, .ref a3), (4, .int y4)] dL_law_1643 rfl (by decide) rfl ?_
          refine x_aload_n 1646 4 dL_law_1645 rfl rfl ?_
          obtain ⟨v433, h432, hF⟩ := b1_inv hF
          obtain ⟨fs, hb⟩ : ∃ fs : List Value, True ∧ s431 a2 = some (.inr (5, fs)) := kX7_thrown h432
          refine x_callV (As := []) (rest := []) 1649 (k + 1) (j + 6) (mX7_thrown hst a2 s431 none v433 h432) qyX7_thrown wd_959 wd_960 wd_961 hb.2 rfl rfl rfl (by decide) (Nat.le_of_ble_eq_true rfl) ⟨by show (k + 1) + 0 ≤ 601024; omega, by show (j + 6) + 0 ≤ 7293034; omega⟩ dL_law_1646 rfl rfl rfl rfl ?_
          refine x_iload 1651 1 dL_law_1649 rfl rfl ?_
          rcases ite_inv hF with ⟨hc, hF⟩ | ⟨hc, hF⟩
          · refine x_icmp_eq 1656 1654 dL_law_1651 (by decide) rfl (fun _ => ?_) (fun q => absurd hc q)
            refine x_iload 1658 1 dL_law_1656 rfl rfl ?_
            rcases ite_inv hF with ⟨hc, hF⟩ | ⟨hc, hF⟩
            · refine x_if_ne 1673 1661 dL_law_1658 (by decide) rfl (fun q => absurd hc q) (fun _ => ?_)
              refine x_aload_n 1662 5 dL_law_1661 rfl rfl ?_
              refine x_iconst 1663 (0 : Int32) dL_law_1662 rfl (by decide) ?_
              obtain ⟨v434, h435, hF⟩ := b1_inv hF
              refine x_aJ 1664 h435 dL_law_1663 rfl ?_
              refine x_iload 1666 0 dL_law_1664 rfl rfl ?_
              refine x_i2l 1667 dL_law_1666 rfl ?_
              refine x_lcmp 1668 dL_law_1667 rfl ?_
              rcases ite_inv hF with ⟨hc, hF⟩ | ⟨hc, hF⟩
              · refine x_if_eq 1673 1671 dL_law_1668 (by decide) rfl (fun _ => ?_) (fun q => absurd hc q)
                refine x_goto 1788 dL_law_1673 (by decide) ?_
                refine x_iinc 1791 4 6 (y4 + (8 : Int32)) [(4, .int (y4 + (8 : Int32))), (6, .int v430), (5, .int v421), (0, .ref a0), (1, .ref a1), (2, .ref a2), (3, .ref a3)] dL_law_1788 rfl rfl rfl (by decide) rfl ?_
                refine x_goto 23 dL_law_1791 (by decide) ?_
                refine x_sub [(0, .ref a0), (1, .ref a1), (2, .ref a2), (3, .ref a3), (4, .int (y4 + (8 : Int32)))] [3, 4, 5, 6, 0] rfl ?_
                exact ih (k + 1) (j + 6) _ _ _ (by omega) (by omega) hF
              · refine x_if_eq 1673 1671 dL_law_1668 (by decide) rfl (fun q => absurd q hc) (fun _ => ?_)
                refine x_iconst 1672 (0 : Int32) dL_law_1671 rfl (by decide) ?_
                cases hF
                exact x_zret rfl rfl (hrf _ _) (by omega) (by omega) dL_law_1672
            · refine x_if_ne 1673 1661 dL_law_1658 (by decide) rfl (fun _ => ?_) (fun q => absurd q hc)
              refine x_goto 1788 dL_law_1673 (by decide) ?_
              refine x_iinc 1791 4 6 (y4 + (8 : Int32)) [(4, .int (y4 + (8 : Int32))), (6, .int v430), (5, .int v421), (0, .ref a0), (1, .ref a1), (2, .ref a2), (3, .ref a3)] dL_law_1788 rfl rfl rfl (by decide) rfl ?_
              refine x_goto 23 dL_law_1791 (by decide) ?_
              refine x_sub [(0, .ref a0), (1, .ref a1), (2, .ref a2), (3, .ref a3), (4, .int (y4 + (8 : Int32)))] [3, 4, 5, 6, 0] rfl ?_
              exact ih (k + 1) (j + 6) _ _ _ (by omega) (by omega) hF
          · refine x_icmp_eq 1656 1654 dL_law_1651 (by decide) rfl (fun q => absurd q hc) (fun _ => ?_)
            refine x_iconst 1655 (0 : Int32) dL_law_1654 rfl (by decide) ?_
            cases hF
            exact x_zret rfl rfl (hrf _ _) (by omega) (by omega) dL_law_1655
        · exact x_tableIn (1536) 1576 dL_law_40 (by rw [h436]; decide) (by rw [h436]; decide) (by rw [h436]; decide) (by decide) hK
      rcases ite_inv hF with ⟨h451, hF⟩ | ⟨h451, hF⟩
      · have hK : qX l G RL "law" cL_law 7 (some .boolean) [] rmL_law 601024 7293034 (rf o) k j σ none 1676 [(0, .ref a0), (1, .ref a1), (2, .ref a2), (3, .ref a3), (4, .int y4)] [] := by
          refine x_aload_n 1677 1 dL_law_1676 rfl rfl ?_
          refine x_aload_n 1678 0 dL_law_1677 rfl rfl ?_
          refine x_iload 1680 4 dL_law_1678 rfl rfl ?_
          refine x_iconst 1681 (1 : Int32) dL_law_1680 rfl (by decide) ?_
          refine x_iadd 1682 dL_law_1681 rfl ?_
          obtain ⟨v437, h438, hF⟩ := b1_inv hF
          refine x_aI 1683 h438 dL_law_1682 rfl ?_
          refine x_aload_n 1684 3 dL_law_1683 rfl rfl ?_
          obtain ⟨v440, s441, h439, hF⟩ := b2_inv hF
          refine x_callSW (As := [.ref a1, .int v437, .ref a3]) (rest := []) 1687 (k + 1) (j + 6) (mL_save hst a1 v437 a3 σ none v440 s441 h439) qyL_save wd_897 wd_898 rfl rfl (by decide) (Nat.le_of_ble_eq_true rfl) ⟨by show k + 1 ≤ 601024; omega, by show j + 6 ≤ 7293034; omega⟩ dL_law_1684 rfl rfl rfl rfl ?_
          refine x_istore 1689 5 [(5, .int v440), (0, .ref a0), (1, .ref a1), (2, .ref a2), (3, .ref a3), (4, .int y4)] dL_law_1687 rfl (by decide) rfl ?_
          refine x_aload_n 1690 3 dL_law_1689 rfl rfl ?_
          refine x_aload_n 1691 1 dL_law_1690 rfl rfl ?_
          refine x_iload 1693 5 dL_law_1691 rfl rfl ?_
          refine x_iconst 1694 (1 : Int32) dL_law_1693 rfl (by decide) ?_
          refine x_iadd 1695 dL_law_1694 rfl ?_
          obtain ⟨v442, h443, hF⟩ := b1_inv hF
          refine x_aI 1696 h443 dL_law_1695 rfl ?_
          obtain ⟨v445, s446, h444, hF⟩ := b2_inv hF
          obtain ⟨fs, hb⟩ : ∃ fs : List Value, True ∧ s441 a2 = some (.inr (5, fs)) := kX7_save h444
          refine x_callV (As := [.int v442]) (rest := []) 1699 (k + 1) (j + 6) (mX7_save hst a2 v442 s441 none v445 s446 h444) qyX7_save wd_1209 wd_1210 wd_1211 hb.2 rfl rfl rfl (by decide) (Nat.le_of_ble_eq_true rfl) ⟨by show (k + 1) + 0 ≤ 601024; omega, by show (j + 6) + 0 ≤ 7293034; omega⟩ dL_law_1696 rfl rfl rfl rfl ?_
          refine x_istore 1701 6 [(6, .int v445), (5, .int v440), (0, .ref a0), (1, .ref a1), (2, .ref a2), (3, .ref a3), (4, .int y4)] dL_law_1699 rfl (by decide) rfl ?_
          refine x_aload_n 1702 4 dL_law_1701 rfl rfl ?_
          obtain ⟨v448, h447, hF⟩ := b1_inv hF
          obtain ⟨fs, hb⟩ : ∃ fs : List Value, True ∧ s446 a2 = some (.inr (5, fs)) := kX7_thrown h447
          refine x_callV (As := []) (rest := []) 1705 (k + 1) (j + 6) (mX7_thrown hst a2 s446 none v448 h447) qyX7_thrown wd_959 wd_960 wd_961 hb.2 rfl rfl rfl (by decide) (Nat.le_of_ble_eq_true rfl) ⟨by show (k + 1) + 0 ≤ 601024; omega, by show (j + 6) + 0 ≤ 7293034; omega⟩ dL_law_1702 rfl rfl rfl rfl ?_
          refine x_iload 1707 1 dL_law_1705 rfl rfl ?_
          rcases ite_inv hF with ⟨hc, hF⟩ | ⟨hc, hF⟩
          · refine x_icmp_eq 1712 1710 dL_law_1707 (by decide) rfl (fun _ => ?_) (fun q => absurd hc q)
            refine x_iload 1714 1 dL_law_1712 rfl rfl ?_
            rcases ite_inv hF with ⟨hc, hF⟩ | ⟨hc, hF⟩
            · refine x_if_ne 1729 1717 dL_law_1714 (by decide) rfl (fun q => absurd hc q) (fun _ => ?_)
              refine x_aload_n 1718 5 dL_law_1717 rfl rfl ?_
              refine x_iconst 1719 (0 : Int32) dL_law_1718 rfl (by decide) ?_
              obtain ⟨v449, h450, hF⟩ := b1_inv hF
              refine x_aJ 1720 h450 dL_law_1719 rfl ?_
              refine x_iload 1722 0 dL_law_1720 rfl rfl ?_
              refine x_i2l 1723 dL_law_1722 rfl ?_
              refine x_lcmp 1724 dL_law_1723 rfl ?_
              rcases ite_inv hF with ⟨hc, hF⟩ | ⟨hc, hF⟩
              · refine x_if_eq 1729 1727 dL_law_1724 (by decide) rfl (fun _ => ?_) (fun q => absurd hc q)
                refine x_goto 1788 dL_law_1729 (by decide) ?_
                refine x_iinc 1791 4 6 (y4 + (8 : Int32)) [(4, .int (y4 + (8 : Int32))), (6, .int v445), (5, .int v440), (0, .ref a0), (1, .ref a1), (2, .ref a2), (3, .ref a3)] dL_law_1788 rfl rfl rfl (by decide) rfl ?_
                refine x_goto 23 dL_law_1791 (by decide) ?_
                refine x_sub [(0, .ref a0), (1, .ref a1), (2, .ref a2), (3, .ref a3), (4, .int (y4 + (8 : Int32)))] [3, 4, 5, 6, 0] rfl ?_
                exact ih (k + 1) (j + 6) _ _ _ (by omega) (by omega) hF
              · refine x_if_eq 1729 1727 dL_law_1724 (by decide) rfl (fun q => absurd q hc) (fun _ => ?_)
                refine x_iconst 1728 (0 : Int32) dL_law_1727 rfl (by decide) ?_
                cases hF
                exact x_zret rfl rfl (hrf _ _) (by omega) (by omega) dL_law_1728
            · refine x_if_ne 1729 1717 dL_law_1714 (by decide) rfl (fun _ => ?_) (fun q => absurd q hc)
              refine x_goto 1788 dL_law_1729 (by decide) ?_
              refine x_iinc 1791 4 6 (y4 + (8 : Int32)) [(4, .int (y4 + (8 : Int32))), (6, .int v445), (5, .int v440), (0, .ref a0), (1, .ref a1), (2, .ref a2), (3, .ref a3)] dL_law_1788 rfl rfl rfl (by decide) rfl ?_
              refine x_goto 23 dL_law_1791 (by decide) ?_
              refine x_sub [(0, .ref a0), (1, .ref a1), (2, .ref a2), (3, .ref a3), (4, .int (y4 + (8 : Int32)))] [3, 4, 5, 6, 0] rfl ?_
              exact ih (k + 1) (j + 6) _ _ _ (by omega) (by omega) hF
          · refine x_icmp_eq 1712 1710 dL_law_1707 (by decide) rfl (fun q => absurd q hc) (fun _ => ?_)
            refine x_iconst 1711 (0 : Int32) dL_law_1710 rfl (by decide) ?_
            cases hF
            exact x_zret rfl rfl (hrf _ _) (by omega) (by omega) dL_law_1711
        · exact x_tableIn (1636) 1676 dL_law_40 (by rw [h451]; decide) (by rw [h451]; decide) (by rw [h451]; decide) (by decide) hK
      rcases ite_inv hF with ⟨h466, hF⟩ | ⟨h466, hF⟩
      · have hK : qX l G RL "law" cL_law 7 (some .boolean) [] rmL_law 601024 7293034 (rf o) k j σ none 1732 [(0, .ref a0), (1, .ref a1), (2, .ref a2), (3, .ref a3), (4, .int y4)] [] := by
          refine x_aload_n 1733 1 dL_law_1732 rfl rfl ?_
          refine x_aload_n 1734 0 dL_law_1733 rfl rfl ?_
          refine x_iload 1736 4 dL_law_1734 rfl rfl ?_
          refine x_iconst 1737 (1 : Int32) dL_law_1736 rfl (by decide) ?_
          refine x_iadd 1738 dL_law_1737 rfl ?_
          obtain ⟨v452, h453, hF⟩ := b1_inv hF
          refine x_aI 1739 h453 dL_law_1738 rfl ?_
          refine x_aload_n 1740 3 dL_law_1739 rfl rfl ?_
          obtain ⟨v455, s456, h454, hF⟩ := b2_inv hF
          refine x_callSW (As := [.ref a1, .int v452, .ref a3]) (rest := []) 1743 (k + 2) (j + 12) (mL_restore hst a1 v452 a3 σ none v455 s456 h454) qyL_restore wd_908 wd_909 rfl rfl (by decide) (Nat.le_of_ble_eq_true rfl) ⟨by show k + 2 ≤ 601024; omega, by show j + 12 ≤ 7293034; omega⟩ dL_law_1740 rfl rfl rfl rfl ?_
          refine x_istore 1745 5 [(5, .int v455), (0, .ref a0), (1, .ref a1), (2, .ref a2), (3, .ref a3), (4, .int y4)] dL_law_1743 rfl (by decide) rfl ?_
          refine x_aload_n 1746 3 dL_law_1745 rfl rfl ?_
          refine x_aload_n 1747 1 dL_law_1746 rfl rfl ?_
          refine x_iload 1749 5 dL_law_1747 rfl rfl ?_
          refine x_iconst 1750 (1 : Int32) dL_law_1749 rfl (by decide) ?_
          refine x_iadd 1751 dL_law_1750 rfl ?_
          obtain ⟨v457, h458, hF⟩ := b1_inv hF
          refine x_aI 1752 h458 dL_law_1751 rfl ?_
          obtain ⟨v460, s461, h459, hF⟩ := b2_inv hF
          obtain ⟨fs, hb⟩ : ∃ fs : List Value, True ∧ s456 a2 = some (.inr (5, fs)) := kX7_restore h459
          refine x_callV (As := [.int v457]) (rest := []) 1755 (k + 2) (j + 12) (mX7_restore hst a2 v457 s456 none v460 s461 h459) qyX7_restore wd_1213 wd_1214 wd_1215 hb.2 rfl rfl rfl (by decide) (Nat.le_of_ble_eq_true rfl) ⟨by show (k + 2) + 0 ≤ 601024; omega, by show (j + 12) + 0 ≤ 7293034; omega⟩ dL_law_1752 rfl rfl rfl rfl ?_
          refine x_istore 1757 6 [(6, .int v460), (5, .int v455), (0, .ref a0), (1, .ref a1), (2, .ref a2), (3, .ref a3), (4, .int y4)] dL_law_1755 rfl (by decide) rfl ?_
          refine x_aload_n 1758 4 dL_law_1757 rfl rfl ?_
          obtain ⟨v463, h462, hF⟩ := b1_inv hF
          obtain ⟨fs, hb⟩ : ∃ fs : List Value, True ∧ s461 a2 = some (.inr (5, fs)) := kX7_thrown h462
          refine x_callV (As := []) (rest := []) 1761 (k + 2) (j + 12) (mX7_thrown hst a2 s461 none v463 h462) qyX7_thrown wd_959 wd_960 wd_961 hb.2 rfl rfl rfl (by decide) (Nat.le_of_ble_eq_true rfl) ⟨by show (k + 2) + 0 ≤ 601024; omega, by show (j + 12) + 0 ≤ 7293034; omega⟩ dL_law_1758 rfl rfl rfl rfl ?_
          refine x_iload 1763 1 dL_law_1761 rfl rfl ?_
          rcases ite_inv hF with ⟨hc, hF⟩ | ⟨hc, hF⟩
          · refine x_icmp_eq 1768 1766 dL_law_1763 (by decide) rfl (fun _ => ?_) (fun q => absurd hc q)
            refine x_iload 1770 1 dL_law_1768 rfl rfl ?_
            rcases ite_inv hF with ⟨hc, hF⟩ | ⟨hc, hF⟩
            · refine x_if_ne 1785 1773 dL_law_1770 (by decide) rfl (fun q => absurd hc q) (fun _ => ?_)
              refine x_aload_n 1774 5 dL_law_1773 rfl rfl ?_
              refine x_iconst 1775 (0 : Int32) dL_law_1774 rfl (by decide) ?_
              obtain ⟨v464, h465, hF⟩ := b1_inv hF
              refine x_aJ 1776 h465 dL_law_1775 rfl ?_
              refine x_iload 1778 0 dL_law_1776 rfl rfl ?_
              refine x_i2l 1779 dL_law_1778 rfl ?_
              refine x_lcmp 1780 dL_law_1779 rfl ?_
              rcases ite_inv hF with ⟨hc, hF⟩ | ⟨hc, hF⟩
              · refine x_if_eq 1785 1783 dL_law_1780 (by decide) rfl (fun _ => ?_) (fun q => absurd hc q)
                refine x_goto 1788 dL_law_1785 (by decide) ?_
                refine x_iinc 1791 4 6 (y4 + (8 : Int32)) [(4, .int (y4 + (8 : Int32))), (6, .int v460), (5, .int v455), (0, .ref a0), (1, .ref a1), (2, .ref a2), (3, .ref a3)] dL_law_1788 rfl rfl rfl (by decide) rfl ?_
                refine x_goto 23 dL_law_1791 (by decide) ?_
                refine x_sub [(0, .ref a0), (1, .ref a1), (2, .ref a2), (3, .ref a3), (4, .int (y4 + (8 : Int32)))] [3, 4, 5, 6, 0] rfl ?_
                exact ih (k + 2) (j + 12) _ _ _ (by omega) (by omega) hF
              · refine x_if_eq 1785 1783 dL_law_1780 (by decide) rfl (fun q => absurd q hc) (fun _ => ?_)
                refine x_iconst 1784 (0 : Int32) dL_law_1783 rfl (by decide) ?_
                cases hF
                exact x_zret rfl rfl (hrf _ _) (by omega) (by omega) dL_law_1784
            · refine x_if_ne 1785 1773 dL_law_1770 (by decide) rfl (fun _ => ?_) (fun q => absurd q hc)
              refine x_goto 1788 dL_law_1785 (by decide) ?_
              refine x_iinc 1791 4 6 (y4 + (8 : Int32)) [(4, .int (y4 + (8 : Int32))), (6, .int v460), (5, .int v455), (0, .ref a0), (1, .ref a1), (2, .ref a2), (3, .ref a3)] dL_law_1788 rfl rfl rfl (by decide) rfl ?_
              refine x_goto 23 dL_law_1791 (by decide) ?_
              refine x_sub [(0, .ref a0), (1, .ref a1), (2, .ref a2), (3, .ref a3), (4, .int (y4 + (8 : Int32)))] [3, 4, 5, 6, 0] rfl ?_
              exact ih (k + 2) (j + 12) _ _ _ (by omega) (by omega) hF
          · refine x_icmp_eq 1768 1766 dL_law_1763 (by decide) rfl (fun q => absurd q hc) (fun _ => ?_)
            refine x_iconst 1767 (0 : Int32) dL_law_1766 rfl (by decide) ?_
            cases hF
            exact x_zret rfl rfl (hrf _ _) (by omega) (by omega) dL_law_1767
        · exact x_tableIn (1692) 1732 dL_law_40 (by rw [h466]; decide) (by rw [h466]; decide) (by rw [h466]; decide) (by decide) hK
      have hK : qX l G RL "law" cL_law 7 (some .boolean) [] rmL_law 601024 7293034 (rf o) k j σ none 1788 [(0, .ref a0), (1, .ref a1), (2, .ref a2), (3, .ref a3), (4, .int y4)] [] := by
        refine x_iinc 1791 4 4 (y4 + (8 : Int32)) [(4, .int (y4 + (8 : Int32))), (0, .ref a0), (1, .ref a1), (2, .ref a2), (3, .ref a3)] dL_law_1788 rfl rfl rfl (by decide) rfl ?_
        refine x_goto 23 dL_law_1791 (by decide) ?_
        refine x_sub [(0, .ref a0), (1, .ref a1), (2, .ref a2), (3, .ref a3), (4, .int (y4 + (8 : Int32)))] [1, 2, 3, 4, 0] rfl ?_
        exact ih k j _ _ _ (by omega) (by omega) hF
      have h29z := i32_ne (z := 0) h29 (by decide)
      have h36z := i32_ne (z := 1) h36 (by decide)
      have h43z := i32_ne (z := 2) h43 (by decide)
      have h54z := i32_ne (z := 3) h54 (by decide)
      have h69z := i32_ne (z := 4) h69 (by decide)
      have h88z := i32_ne (z := 5) h88 (by decide)
      have h107z := i32_ne (z := 6) h107 (by decide)
      have h126z := i32_ne (z := 7) h126 (by decide)
      have h145z := i32_ne (z := 8) h145 (by decide)
      have h168z := i32_ne (z := 9) h168 (by decide)
      have h183z := i32_ne (z := 10) h183 (by decide)
      have h222z := i32_ne (z := 11) h222 (by decide)
      have h237z := i32_ne (z := 12) h237 (by decide)
      have h256z := i32_ne (z := 13) h256 (by decide)
      have h263z := i32_ne (z := 14) h263 (by decide)
      have h282z := i32_ne (z := 15) h282 (by decide)
      have h301z := i32_ne (z := 16) h301 (by decide)
      have h312z := i32_ne (z := 17) h312 (by decide)
      have h331z := i32_ne (z := 18) h331 (by decide)
      have h346z := i32_ne (z := 19) h346 (by decide)
      have h365z := i32_ne (z := 20) h365 (by decide)
      have h384z := i32_ne (z := 21) h384 (by decide)
      have h390z := i32_ne (z := 22) h390 (by decide)
      have h413z := i32_ne (z := 23) h413 (by decide)
      have h436z := i32_ne (z := 24) h436 (by decide)
      have h451z := i32_ne (z := 25) h451 (by decide)
      have h466z := i32_ne (z := 26) h466 (by decide)
      exact x_tableOut 1788 dL_law_40 (by omega) (by decide) hK
set_option maxHeartbeats 4000000 in
set_option maxRecDepth 100000 in
theorem mL_law {l : Launch} {G : qG} (hst : l.stackTraces = false) (p0 : Nat) (σ : qH) (n0 : Nat) (ro : Int32) (so : qH) (hF : FL_law (G.2.2.2.1) p0 σ n0 = some (ro, so)) : qX l G RL "law" cL_law 7 (some .boolean) [] rmL_law 601024 7293034 (.inl (some (.int ro), so, none)) 0 0 σ (some n0) 0 [(0, .ref p0)] [] := by
  unfold FL_law at hF
  obtain ⟨s1, h2, hF⟩ := b1_inv hF
  refine x_newE 3 n0 (n0 + 1) 1 7 inX6 tyX6 tyX6_ok wd_43 wd_44 wd_26 rfl dfX6 (by decide) (by decide) dL_law_0 rfl rfl rfl rfl rfl h2 ?_
  refine x_dup 4 rfl dL_law_3 rfl ?_
  obtain ⟨s3, h4, hF⟩ := b1_inv hF
  refine x_callI (As := []) (rest := [.ref n0]) (n' := (some (n0 + 136))) 7 136 4368 (mX6_init hst n0 s1 (n0 + 1) s3 h4) qyX6_init rfl wd_45 wd_46 rfl rfl (by decide) (Nat.le_of_ble_eq_true rfl) (by decide) dL_law_4 rfl rfl rfl ?_
  refine x_astore_n 8 1 [(1, .ref n0), (0, .ref p0)] dL_law_7 rfl rfl (by decide) rfl ?_
  obtain ⟨s5, h6, hF⟩ := b1_inv hF
  refine x_newE 11 (n0 + 136) (n0 + 137) 137 4379 inX7 tyX7 tyX7_ok wd_916 wd_917 wd_32 rfl dfX7 (by decide) (by decide) dL_law_8 rfl rfl rfl rfl rfl h6 ?_
  refine x_dup 12 rfl dL_law_11 rfl ?_
  obtain ⟨s7, h8, hF⟩ := b1_inv hF
  refine x_callI (As := []) (rest := [.ref (n0 + 136)]) (n' := (some (n0 + 143))) 15 143 7057 (mX7_init hst (n0 + 136) s5 (n0 + 137) s7 h8) qyX7_init rfl wd_918 wd_919 rfl rfl (by decide) (Nat.le_of_ble_eq_true rfl) (by decide) dL_law_12 rfl rfl rfl ?_
  refine x_astore_n 16 2 [(2, .ref (n0 + 136)), (1, .ref n0), (0, .ref p0)] dL_law_15 rfl rfl (by decide) rfl ?_
  refine x_iconst 17 (1 : Int32) dL_law_16 rfl (by decide) ?_
  obtain ⟨s9, h10, hF⟩ := b1_inv hF
  refine x_newJE 19 (n0 + 143) (n0 + 144) 144 7058 wd_1218 (by decide) (by decide) (by decide) (by decide) (by decide) dL_law_17 rfl rfl rfl rfl rfl h10 ?_
  refine x_astore_n 20 3 [(3, .ref (n0 + 143)), (2, .ref (n0 + 136)), (1, .ref n0), (0, .ref p0)] dL_law_19 rfl rfl (by decide) rfl ?_
  refine x_iconst 21 (0 : Int32) dL_law_20 rfl (by decide) ?_
  refine x_istore 23 4 [(4, .int (0 : Int32)), (3, .ref (n0 + 143)), (2, .ref (n0 + 136)), (1, .ref n0), (0, .ref p0)] dL_law_21 rfl (by decide) rfl ?_
  refine x_sub [(0, .ref p0), (1, .ref n0), (2, .ref (n0 + 136)), (3, .ref (n0 + 143)), (4, .int (0 : Int32))] [4, 3, 2, 1, 0] rfl ?_
  refine x_anyn ?_
  exact mL_law_L23 hst p0 n0 (n0 + 136) (n0 + 143) (fun v9 : Int32 × qH => .inl (some (.int v9.1), v9.2, none)) (fun _ _ => rfl) qfuel 144 7058 (0 : Int32) s9 _ (Nat.le_of_ble_eq_true rfl) (Nat.le_of_ble_eq_true rfl) hF
