abbrev rmL_law : Room := room_1
set_option maxHeartbeats 8000000 in
set_option maxRecDepth 100000 in
theorem mL_law_L34 {l : Launch} {G : qG} (hst : l.stackTraces = false) (a0 : Nat) (a1 : Nat) (a2 : Nat) (a3 : Int32) (r : qR) (KK JJ : Nat) (gK : KK ≤ 600064) (gL : JJ ≤ 7301640) : ∀ (q k j : Nat) (y4 : Int32) (y5 : Int32) (σ : qH) (o4 : Int32) (so : qH), k + 7190 * q ≤ KK → j + 43140 * q ≤ JJ → FL_law_L34 (G.2.2.2.1) a0 a1 a2 a3 q y4 y5 σ = some (o4, so) → qX l G RL "law" cL_law 8 (some .boolean) [] rmL_law 600064 7301640 r KK JJ so none 184 [(4, .int o4)] [] → qX l G RL "law" cL_law 8 (some .boolean) [] rmL_law 600064 7301640 r k j σ none 34 [(0, .ref a0), (1, .ref a1), (2, .ref a2), (3, .int a3), (4, .int y4), (5, .int y5)] [] := by
  intro q
  induction q with
  | zero => intro k j y4 y5 σ o4 so gk gj hF; rw [FL_law_L34] at hF; cases hF
  | succ q ih =>
    intro k j y4 y5 σ o4 so gk gj hF hJ
    rw [FL_law_L34] at hF
    refine x_iload 36 5 dL_law_34 rfl rfl ?_
    refine x_iload_n 37 3 dL_law_36 rfl rfl ?_
    rcases ite_inv hF with ⟨hc, hF⟩ | ⟨hc, hF⟩
    · refine x_icmp_ge 184 40 dL_law_37 (by decide) rfl (fun _ => ?_) (fun q => absurd hc q)
      obtain ⟨e1, e2⟩ := so2 hF
      subst e1
      subst e2
      refine x_wide KK JJ (by omega) (by omega) ?_
      refine x_sub [(4, .int y4)] [4] rfl ?_
      exact hJ
    · refine x_icmp_ge 184 40 dL_law_37 (by decide) rfl (fun q => absurd q hc) (fun _ => ?_)
      refine x_iload 42 4 dL_law_40 rfl rfl ?_
      rcases ite_inv hF with ⟨hc, hF⟩ | ⟨hc, hF⟩
      · refine x_if_eq 184 45 dL_law_42 (by decide) rfl (fun _ => ?_) (fun q => absurd hc q)
        obtain ⟨e1, e2⟩ := so2 hF
        subst e1
        subst e2
        refine x_wide KK JJ (by omega) (by omega) ?_
        refine x_sub [(4, .int y4)] [4] rfl ?_
        exact hJ
      · refine x_if_eq 184 45 dL_law_42 (by decide) rfl (fun q => absurd q hc) (fun _ => ?_)
        refine x_aload_n 46 0 dL_law_45 rfl rfl ?_
        refine x_iconst 47 (1 : Int32) dL_law_46 rfl (by decide) ?_
        refine x_iload 49 5 dL_law_47 rfl rfl ?_
        refine x_iadd 50 dL_law_49 rfl ?_
        obtain ⟨v12, h11, hF⟩ := b1_inv hF
        refine x_callS (As := [.ref a0, .int ((1 : Int32) + y5)]) (rest := []) 53 k j (mL_cell hst a0 ((1 : Int32) + y5) σ none v12 h11) qyL_cell wd_172 wd_173 rfl rfl (by decide) (Nat.le_of_ble_eq_true rfl) ⟨by show k + 0 ≤ 600064; omega, by show j + 0 ≤ 7301640; omega⟩ dL_law_50 rfl rfl rfl rfl ?_
        refine x_istore 55 6 [(6, .int v12), (0, .ref a0), (1, .ref a1), (2, .ref a2), (3, .int a3), (4, .int y4), (5, .int y5)] dL_law_53 rfl (by decide) rfl ?_
        refine x_aload_n 56 2 dL_law_55 rfl rfl ?_
        refine x_iload 58 0 dL_law_56 rfl rfl ?_
        obtain ⟨v14, s15, h13, hF⟩ := b2_inv hF
        refine x_callS (As := [.ref a1, .int v12]) (rest := []) 61 (k + 6) (j + 36) (mL_act hst a1 v12 σ none v14 s15 h13) qyL_act wd_908 wd_909 rfl rfl (by decide) (Nat.le_of_ble_eq_true rfl) ⟨by show k + 6 ≤ 600064; omega, by show j + 36 ≤ 7301640; omega⟩ dL_law_58 rfl rfl rfl rfl ?_
        refine x_istore 63 7 [(7, .int v14), (6, .int v12), (0, .ref a0), (1, .ref a1), (2, .ref a2), (3, .int a3), (4, .int y4), (5, .int y5)] dL_law_61 rfl (by decide) rfl ?_
        refine x_aload_n 64 4 dL_law_63 rfl rfl ?_
        refine x_iload 66 1 dL_law_64 rfl rfl ?_
        refine x_ldc 68 (100000 : Int32) wd_927 dL_law_66 rfl ?_
        refine x_irem 69 (by decide) dL_law_68 rfl ?_
        obtain ⟨v17, s18, h16, hF⟩ := b2_inv hF
        refine x_callS (As := [.ref a2, .int (irm v12 (100000 : Int32))]) (rest := []) 72 (k + 131) (j + 786) (mL_refuses hst a2 (irm v12 (100000 : Int32)) s15 none v17 s18 h16) qyL_refuses wd_177 wd_178 rfl rfl (by decide) (Nat.le_of_ble_eq_true rfl) ⟨by show (k + 6) + 125 ≤ 600064; omega, by show (j + 36) + 750 ≤ 7301640; omega⟩ dL_law_69 rfl rfl rfl rfl ?_
        obtain ⟨x19, s20, h51, hF⟩ := b2_inv hF
        have hJ : qX l G RL "law" cL_law 8 (some .boolean) [] rmL_law 600064 7301640 r (k + 7190) (j + 43140) s20 none 176 [(0, .ref a0), (1, .ref a1), (2, .ref a2), (3, .int a3), (5, .int y5)] [.int x19] := by
          refine x_istore 178 4 [(4, .int x19), (0, .ref a0), (1, .ref a1), (2, .ref a2), (3, .int a3), (5, .int y5)] dL_law_176 rfl (by decide) rfl ?_
          refine x_iinc 181 5 5 (y5 + (1 : Int32)) [(5, .int (y5 + (1 : Int32))), (4, .int x19), (0, .ref a0), (1, .ref a1), (2, .ref a2), (3, .int a3)] dL_law_178 rfl rfl rfl (by decide) rfl ?_
          refine x_goto 34 dL_law_181 (by decide) ?_
          refine x_sub [(0, .ref a0), (1, .ref a1), (2, .ref a2), (3, .int a3), (4, .int x19), (5, .int (y5 + (1 : Int32)))] [2, 3, 4, 5, 1, 0] rfl ?_
          exact ih (k + 7190) (j + 43140) _ _ _ _ _ (by omega) (by omega) hF hJ
        have hF := h51
        rcases ite_inv hF with ⟨hc, hF⟩ | ⟨hc, hF⟩
        · refine x_if_eq 175 75 dL_law_72 (by decide) rfl (fun _ => ?_) (fun q => absurd hc q)
          refine x_iconst 176 (0 : Int32) dL_law_175 rfl (by decide) ?_
          obtain ⟨e1, e2⟩ := so2 hF
          subst e1
          subst e2
          refine x_wide (k + 7190) (j + 43140) (by omega) (by omega) ?_
          refine x_sub [(0, .ref a0), (1, .ref a1), (2, .ref a2), (3, .int a3), (5, .int y5)] [2, 3, 4, 5, 7] rfl ?_
          exact hJ
        · refine x_if_eq 175 75 dL_law_72 (by decide) rfl (fun q => absurd q hc) (fun _ => ?_)
          refine x_aload_n 76 4 dL_law_75 rfl rfl ?_
          refine x_iload 78 1 dL_law_76 rfl rfl ?_
          obtain ⟨v22, s23, h21, hF⟩ := b2_inv hF
          refine x_callS (As := [.ref a2, .int v12]) (rest := []) 81 (k + 137) (j + 822) (mL_act hst a2 v12 s18 none v22 s23 h21) qyL_act wd_908 wd_909 rfl rfl (by decide) (Nat.le_of_ble_eq_true rfl) ⟨by show (k + 131) + 6 ≤ 600064; omega, by show (j + 786) + 36 ≤ 7301640; omega⟩ dL_law_78 rfl rfl rfl rfl ?_
          refine x_iload 83 0 dL_law_81 rfl rfl ?_
          rcases ite_inv hF with ⟨hc, hF⟩ | ⟨hc, hF⟩
          · refine x_icmp_ne 175 86 dL_law_83 (by decide) rfl (fun q => absurd hc q) (fun _ => ?_)
            refine x_aload_n 87 4 dL_law_86 rfl rfl ?_
            refine x_iload 89 1 dL_law_87 rfl rfl ?_
            refine x_sipush 92 (1000 : Int32) dL_law_89 rfl (by decide) ?_
            refine x_irem 93 (by decide) dL_law_92 rfl ?_
            obtain ⟨v25, s26, h24, hF⟩ := b2_inv hF
            refine x_callS (As := [.ref a2, .int (irm v12 (1000 : Int32))]) (rest := []) 96 (k + 262) (j + 1572) (mL_refuses hst a2 (irm v12 (1000 : Int32)) s23 none v25 s26 h24) qyL_refuses wd_177 wd_178 rfl rfl (by decide) (Nat.le_of_ble_eq_true rfl) ⟨by show (k + 137) + 125 ≤ 600064; omega, by show (j + 822) + 750 ≤ 7301640; omega⟩ dL_law_93 rfl rfl rfl rfl ?_
            rcases ite_inv hF with ⟨hc, hF⟩ | ⟨hc, hF⟩
            · refine x_if_eq 175 99 dL_law_96 (by decide) rfl (fun _ => ?_) (fun q => absurd hc q)
              refine x_iconst 176 (0 : Int32) dL_law_175 rfl (by decide) ?_
              obtain ⟨e1, e2⟩ := so2 hF
              subst e1
              subst e2
              refine x_wide (k + 7190) (j + 43140) (by omega) (by omega) ?_
              refine x_sub [(0, .ref a0), (1, .ref a1), (2, .ref a2), (3, .int a3), (5, .int y5)] [2, 3, 4, 5, 7] rfl ?_
              exact hJ
            · refine x_if_eq 175 99 dL_law_96 (by decide) rfl (fun q => absurd q hc) (fun _ => ?_)
              refine x_aload_n 100 3 dL_law_99 rfl rfl ?_
              refine x_aload_n 101 4 dL_law_100 rfl rfl ?_
              refine x_iload 103 1 dL_law_101 rfl rfl ?_
              refine x_sipush 106 (5000 : Int32) dL_law_103 rfl (by decide) ?_
              refine x_irem 107 (by decide) dL_law_106 rfl ?_
              obtain ⟨v28, s29, h27, hF⟩ := b2_inv hF
              refine x_callS (As := [.ref a1, .ref a2, .int (irm v12 (5000 : Int32))]) (rest := []) 110 (k + 664) (j + 3984) (mL_alike hst a1 a2 (irm v12 (5000 : Int32)) s26 none v28 s29 h27) qyL_alike wd_915 wd_916 rfl rfl (by decide) (Nat.le_of_ble_eq_true rfl) ⟨by show (k + 262) + 402 ≤ 600064; omega, by show (j + 1572) + 2412 ≤ 7301640; omega⟩ dL_law_107 rfl rfl rfl rfl ?_
              rcases ite_inv hF with ⟨hc, hF⟩ | ⟨hc, hF⟩
              · refine x_if_eq 175 113 dL_law_110 (by decide) rfl (fun _ => ?_) (fun q => absurd hc q)
                refine x_iconst 176 (0 : Int32) dL_law_175 rfl (by decide) ?_
                obtain ⟨e1, e2⟩ := so2 hF
                subst e1
                subst e2
                refine x_wide (k + 7190) (j + 43140) (by omega) (by omega) ?_
                refine x_sub [(0, .ref a0), (1, .ref a1), (2, .ref a2), (3, .int a3), (5, .int y5)] [2, 3, 4, 5, 7] rfl ?_
                exact hJ
              · refine x_if_eq 175 113 dL_law_110 (by decide) rfl (fun q => absurd q hc) (fun _ => ?_)
                refine x_iload 115 7 dL_law_113 rfl rfl ?_
                refine x_iconst 116 (2 : Int32) dL_law_115 rfl (by decide) ?_
                refine x_irem 117 (by decide) dL_law_116 rfl ?_
                rcases bc_inv hF with ⟨s30, h50, hF⟩ | ⟨s31, h50, hF⟩
                · have hJ : qX l G RL "law" cL_law 8 (some .boolean) [] rmL_law 600064 7301640 r (k + 6806) (j + 40836) s30 none 145 [(0, .ref a0), (1, .ref a1), (2, .ref a2), (3, .int a3), (5, .int y5), (6, .int v12)] [] := by
                    refine x_aload_n 146 1 dL_law_145 rfl rfl ?_
                    refine x_aload_n 147 2 dL_law_146 rfl rfl ?_
                    refine x_iload 149 5 dL_law_147 rfl rfl ?_
                    refine x_bipush 151 (7 : Int32) dL_law_149 rfl (by decide) ?_
                    refine x_idiv 152 (by decide) dL_law_151 rfl ?_
                    obtain ⟨v33, s34, h32, hF⟩ := b2_inv hF
                    refine x_callS (As := [.ref a1, .ref a2, .int (v12 / (7 : Int32))]) (rest := []) 155 (k + 6982) (j + 41892) (mL_surveys hst a1 a2 (v12 / (7 : Int32)) s30 none v33 s34 h32) qyL_surveys wd_918 wd_919 rfl rfl (by decide) (Nat.le_of_ble_eq_true rfl) ⟨by show (k + 6806) + 176 ≤ 600064; omega, by show (j + 40836) + 1056 ≤ 7301640; omega⟩ dL_law_152 rfl rfl rfl rfl ?_
                    rcases ite_inv hF with ⟨hc, hF⟩ | ⟨hc, hF⟩
                    · refine x_if_eq 175 158 dL_law_155 (by decide) rfl (fun _ => ?_) (fun q => absurd hc q)
                      refine x_iconst 176 (0 : Int32) dL_law_175 rfl (by decide) ?_
                      obtain ⟨e1, e2⟩ := so2 hF
                      subst e1
                      subst e2
                      refine x_wide (k + 7190) (j + 43140) (by omega) (by omega) ?_
                      refine x_sub [(0, .ref a0), (1, .ref a1), (2, .ref a2), (3, .int a3), (5, .int y5)] [0, 1, 2, 3, 4] rfl ?_
                      exact hJ
                    · refine x_if_eq 175 158 dL_law_155 (by decide) rfl (fun q => absurd q hc) (fun _ => ?_)
                      refine x_aload_n 159 1 dL_law_158 rfl rfl ?_
                      refine x_aload_n 160 2 dL_law_159 rfl rfl ?_
                      refine x_iload 162 5 dL_law_160 rfl rfl ?_
                      refine x_bipush 164 (11 : Int32) dL_law_162 rfl (by decide) ?_
                      refine x_idiv 165 (by decide) dL_law_164 rfl ?_
                      obtain ⟨v36, s37, h35, hF⟩ := b2_inv hF
                      refine x_callS (As := [.ref a1, .ref a2, .int (v12 / (11 : Int32))]) (rest := []) 168 (k + 7190) (j + 43140) (mL_drops hst a1 a2 (v12 / (11 : Int32)) s34 none v36 s37 h35) qyL_drops wd_924 wd_925 rfl rfl (by decide) (Nat.le_of_ble_eq_true rfl) ⟨by show (k + 6982) + 208 ≤ 600064; omega, by show (j + 41892) + 1248 ≤ 7301640; omega⟩ dL_law_165 rfl rfl rfl rfl ?_
                      rcases ite_inv hF with ⟨hc, hF⟩ | ⟨hc, hF⟩
                      · refine x_if_eq 175 171 dL_law_168 (by decide) rfl (fun _ => ?_) (fun q => absurd hc q)
                        refine x_iconst 176 (0 : Int32) dL_law_175 rfl (by decide) ?_
                        obtain ⟨e1, e2⟩ := so2 hF
                        subst e1
                        subst e2
                        refine x_sub [(0, .ref a0), (1, .ref a1), (2, .ref a2), (3, .int a3), (5, .int y5)] [0, 1, 2, 3, 4] rfl ?_
                        exact hJ
                      · refine x_if_eq 175 171 dL_law_168 (by decide) rfl (fun q => absurd q hc) (fun _ => ?_)
                        refine x_iconst 172 (1 : Int32) dL_law_171 rfl (by decide) ?_
                        refine x_goto 176 dL_law_172 (by decide) ?_
                        obtain ⟨e1, e2⟩ := so2 hF
                        subst e1
                        subst e2
                        refine x_sub [(0, .ref a0), (1, .ref a1), (2, .ref a2), (3, .int a3), (5, .int y5)] [0, 1, 2, 3, 4] rfl ?_
                        exact hJ
                  have hF := h50
                  rcases ite_inv hF with ⟨hc, hF⟩ | ⟨hc, hF⟩
                  · refine x_if_ne 134 120 dL_law_117 (by decide) rfl (fun q => absurd hc q) (fun _ => ?_)
                    refine x_aload_n 121 3 dL_law_120 rfl rfl ?_
                    refine x_iload 123 1 dL_law_121 rfl rfl ?_
                    refine x_iconst 124 (3 : Int32) dL_law_123 rfl (by decide) ?_
                    refine x_idiv 125 (by decide) dL_law_124 rfl ?_
                    obtain ⟨v39, s40, h38, hF⟩ := b2_inv hF
                    refine x_callS (As := [.ref a1, .int (v12 / (3 : Int32))]) (rest := []) 128 (k + 6806) (j + 40836) (mL_holds hst a1 (v12 / (3 : Int32)) s29 none v39 s40 h38) qyL_holds wd_893 wd_894 rfl rfl (by decide) (Nat.le_of_ble_eq_true rfl) ⟨by show (k + 664) + 6142 ≤ 600064; omega, by show (j + 3984) + 36852 ≤ 7301640; omega⟩ dL_law_125 rfl rfl rfl rfl ?_
                    rcases ite_inv hF with ⟨hc, hF⟩ | ⟨hc, hF⟩
                    · refine x_if_eq 175 131 dL_law_128 (by decide) rfl (fun _ => ?_) (fun q => absurd hc q)
                      cases hF
                    · refine x_if_eq 175 131 dL_law_128 (by decide) rfl (fun q => absurd q hc) (fun _ => ?_)
                      refine x_goto 145 dL_law_131 (by decide) ?_
                      have e1 := Sum.inl.inj (Option.some.inj hF)
                      subst e1
                      refine x_sub [(0, .ref a0), (1, .ref a1), (2, .ref a2), (3, .int a3), (5, .int y5), (6, .int v12)] [2, 3, 4, 5, 7, 1] rfl ?_
                      exact hJ
                  · refine x_if_ne 134 120 dL_law_117 (by decide) rfl (fun _ => ?_) (fun q => absurd q hc)
                    refine x_aload_n 135 4 dL_law_134 rfl rfl ?_
                    refine x_iload 137 1 dL_law_135 rfl rfl ?_
                    refine x_iconst 138 (3 : Int32) dL_law_137 rfl (by decide) ?_
                    refine x_idiv 139 (by decide) dL_law_138 rfl ?_
                    obtain ⟨v42, s43, h41, hF⟩ := b2_inv hF
                    refine x_callS (As := [.ref a2, .int (v12 / (3 : Int32))]) (rest := []) 142 (k + 6806) (j + 40836) (mL_holds hst a2 (v12 / (3 : Int32)) s29 none v42 s43 h41) qyL_holds wd_893 wd_894 rfl rfl (by decide) (Nat.le_of_ble_eq_true rfl) ⟨by show (k + 664) + 6142 ≤ 600064; omega, by show (j + 3984) + 36852 ≤ 7301640; omega⟩ dL_law_139 rfl rfl rfl rfl ?_
                    rcases ite_inv hF with ⟨hc, hF⟩ | ⟨hc, hF⟩
                    · refine x_if_eq 175 145 dL_law_142 (by decide) rfl (fun _ => ?_) (fun q => absurd hc q)
                      cases hF
                    · refine x_if_eq 175 145 dL_law_142 (by decide) rfl (fun q => absurd q hc) (fun _ => ?_)
                      have e1 := Sum.inl.inj (Option.some.inj hF)
                      subst e1
                      refine x_sub [(0, .ref a0), (1, .ref a1), (2, .ref a2), (3, .int a3), (5, .int y5), (6, .int v12)] [2, 3, 4, 5, 7, 1] rfl ?_
                      exact hJ
                · have hJ : qX l G RL "law" cL_law 8 (some .boolean) [] rmL_law 600064 7301640 r (k + 6806) (j + 40836) s31 none 175 [(0, .ref a0), (1, .ref a1), (2, .ref a2), (3, .int a3), (5, .int y5)] [] := by
                    refine x_iconst 176 (0 : Int32) dL_law_175 rfl (by decide) ?_
                    obtain ⟨e1, e2⟩ := so2 hF
                    subst e1
                    subst e2
                    refine x_wide (k + 7190) (j + 43140) (by omega) (by omega) ?_
                    exact hJ
                  have hF := h50
                  rcases ite_inv hF with ⟨hc, hF⟩ | ⟨hc, hF⟩
                  · refine x_if_ne 134 120 dL_law_117 (by decide) rfl (fun q => absurd hc q) (fun _ => ?_)
                    refine x_aload_n 121 3 dL_law_120 rfl rfl ?_
                    refine x_iload 123 1 dL_law_121 rfl rfl ?_
                    refine x_iconst 124 (3 : Int32) dL_law_123 rfl (by decide) ?_
                    refine x_idiv 125 (by decide) dL_law_124 rfl ?_
                    obtain ⟨v45, s46, h44, hF⟩ := b2_inv hF
                    refine x_callS (As := [.ref a1, .int (v12 / (3 : Int32))]) (rest := []) 128 (k + 6806) (j + 40836) (mL_holds hst a1 (v12 / (3 : Int32)) s29 none v45 s46 h44) qyL_holds wd_893 wd_894 rfl rfl (by decide) (Nat.le_of_ble_eq_true rfl) ⟨by show (k + 664) + 6142 ≤ 600064; omega, by show (j + 3984) + 36852 ≤ 7301640; omega⟩ dL_law_125 rfl rfl rfl rfl ?_
                    rcases ite_inv hF with ⟨hc, hF⟩ | ⟨hc, hF⟩
                    · refine x_if_eq 175 131 dL_law_128 (by decide) rfl (fun _ => ?_) (fun q => absurd hc q)
                      have e1 := Sum.inr.inj (Option.some.inj hF)
                      subst e1
                      refine x_sub [(0, .ref a0), (1, .ref a1), (2, .ref a2), (3, .int a3), (5, .int y5)] [2, 3, 4, 5, 7] rfl ?_
                      exact hJ
                    · refine x_if_eq 175 131 dL_law_128 (by decide) rfl (fun q => absurd q hc) (fun _ => ?_)
                      refine x_goto 145 dL_law_131 (by decide) ?_
                      cases hF
                  · refine x_if_ne 134 120 dL_law_117 (by decide) rfl (fun _ => ?_) (fun q => absurd q hc)
                    refine x_aload_n 135 4 dL_law_134 rfl rfl ?_
                    refine x_iload 137 1 dL_law_135 rfl rfl ?_
                    refine x_iconst 138 (3 : Int32) dL_law_137 rfl (by decide) ?_
                    refine x_idiv 139 (by decide) dL_law_138 rfl ?_
                    obtain ⟨v48, s49, h47, hF⟩ := b2_inv hF
                    refine x_callS (As := [.ref a2, .int (v12 / (3 : Int32))]) (rest := []) 142 (k + 6806) (j + 40836) (mL_holds hst a2 (v12 / (3 : Int32)) s29 none v48 s49 h47) qyL_holds wd_893 wd_894 rfl rfl (by decide) (Nat.le_of_ble_eq_true rfl) ⟨by show (k + 664) + 6142 ≤ 600064; omega, by show (j + 3984) + 36852 ≤ 7301640; omega⟩ dL_law_139 rfl rfl rfl rfl ?_
                    rcases ite_inv hF with ⟨hc, hF⟩ | ⟨hc, hF⟩
                    · refine x_if_eq 175 145 dL_law_142 (by decide) rfl (fun _ => ?_) (fun q => absurd hc q)
                      have e1 := Sum.inr.inj (Option.some.inj hF)
                      subst e1
                      refine x_sub [(0, .ref a0), (1, .ref a1), (2, .ref a2), (3, .int a3), (5, .int y5)] [2, 3, 4, 5, 7] rfl ?_
                      exact hJ
                    · refine x_if_eq 175 145 dL_law_142 (by decide) rfl (fun q => absurd q hc) (fun _ => ?_)
                      cases hF
          · refine x_icmp_ne 175 86 dL_law_83 (by decide) rfl (fun _ => ?_) (fun q => absurd q hc)
            refine x_iconst 176 (0 : Int32) dL_law_175 rfl (by decide) ?_
            obtain ⟨e1, e2⟩ := so2 hF
            subst e1
            subst e2
            refine x_wide (k + 7190) (j + 43140) (by omega) (by omega) ?_
            refine x_sub [(0, .ref a0), (1, .ref a1), (2, .ref a2), (3, .int a3), (5, .int y5)] [2, 3, 4, 5, 7] rfl ?_
            exact hJ
set_option maxHeartbeats 4000000 in
set_option maxRecDepth 100000 in
theorem mL_law {l : Launch} {G : qG} (hst : l.stackTraces = false) (p0 : Nat) (σ : qH) (n0 : Nat) (ro : Int32) (so : qH) (hF : FL_law (G.2.2.2.1) p0 σ n0 = some (ro, so)) : qX l G RL "law" cL_law 8 (some .boolean) [] rmL_law 600064 7301640 (.inl (some (.int ro), so, none)) 0 0 σ (some n0) 0 [(0, .ref p0)] [] := by
  unfold FL_law at hF
  obtain ⟨s1, h2, hF⟩ := b1_inv hF
  refine x_newE 3 n0 (n0 + 1) 1 7 inX6 tyX6 tyX6_ok wd_33 wd_34 wd_17 rfl dfX6 (by decide) (by decide) dL_law_0 rfl rfl rfl rfl rfl h2 ?_
  refine x_dup 4 rfl dL_law_3 rfl ?_
  obtain ⟨s3, h4, hF⟩ := b1_inv hF
  refine x_callI (As := []) (rest := [.ref n0]) (n' := (some (n0 + 136))) 7 136 4368 (mX6_init hst n0 s1 (n0 + 1) s3 h4) qyX6_init rfl wd_35 wd_36 rfl rfl (by decide) (Nat.le_of_ble_eq_true rfl) (by decide) dL_law_4 rfl rfl rfl ?_
  refine x_astore_n 8 1 [(1, .ref n0), (0, .ref p0)] dL_law_7 rfl rfl (by decide) rfl ?_
  obtain ⟨s5, h6, hF⟩ := b1_inv hF
  refine x_newE 11 (n0 + 136) (n0 + 137) 137 4375 inX6 tyX6 tyX6_ok wd_33 wd_34 wd_17 rfl dfX6 (by decide) (by decide) dL_law_8 rfl rfl rfl rfl rfl h6 ?_
  refine x_dup 12 rfl dL_law_11 rfl ?_
  obtain ⟨s7, h8, hF⟩ := b1_inv hF
  refine x_callI (As := []) (rest := [.ref (n0 + 136)]) (n' := (some (n0 + 272))) 15 272 8736 (mX6_init hst (n0 + 136) s5 (n0 + 137) s7 h8) qyX6_init rfl wd_35 wd_36 rfl rfl (by decide) (Nat.le_of_ble_eq_true rfl) (by decide) dL_law_12 rfl rfl rfl ?_
  refine x_astore_n 16 2 [(2, .ref (n0 + 136)), (1, .ref n0), (0, .ref p0)] dL_law_15 rfl rfl (by decide) rfl ?_
  refine x_bipush 18 (14 : Int32) dL_law_16 rfl (by decide) ?_
  refine x_aload_n 19 2 dL_law_18 rfl rfl ?_
  refine x_iconst 20 (0 : Int32) dL_law_19 rfl (by decide) ?_
  obtain ⟨v10, h9, hF⟩ := b1_inv hF
  refine x_callS (As := [.ref p0, .int (0 : Int32)]) (rest := [.int (14 : Int32)]) 23 272 8736 (mL_cell hst p0 (0 : Int32) s7 (some (n0 + 272)) v10 h9) qyL_cell wd_172 wd_173 rfl rfl (by decide) (Nat.le_of_ble_eq_true rfl) ⟨Nat.le_of_ble_eq_true rfl, Nat.le_of_ble_eq_true rfl⟩ dL_law_20 rfl rfl rfl rfl ?_
  refine x_bipush 25 (21 : Int32) dL_law_23 rfl (by decide) ?_
  refine x_irem 26 (by decide) dL_law_25 rfl ?_
  refine x_iadd 27 dL_law_26 rfl ?_
  refine x_istore_n 28 3 [(3, .int ((14 : Int32) + (irm v10 (21 : Int32)))), (2, .ref (n0 + 136)), (1, .ref n0), (0, .ref p0)] dL_law_27 rfl rfl (by decide) rfl ?_
  refine x_iconst 29 (1 : Int32) dL_law_28 rfl (by decide) ?_
  refine x_istore 31 4 [(4, .int (1 : Int32)), (3, .int ((14 : Int32) + (irm v10 (21 : Int32)))), (2, .ref (n0 + 136)), (1, .ref n0), (0, .ref p0)] dL_law_29 rfl (by decide) rfl ?_
  refine x_iconst 32 (0 : Int32) dL_law_31 rfl (by decide) ?_
  refine x_istore 34 5 [(5, .int (0 : Int32)), (4, .int (1 : Int32)), (3, .int ((14 : Int32) + (irm v10 (21 : Int32)))), (2, .ref (n0 + 136)), (1, .ref n0), (0, .ref p0)] dL_law_32 rfl (by decide) rfl ?_
  obtain ⟨x52, s53, h54, hF⟩ := b2_inv hF
  have hJ : qX l G RL "law" cL_law 8 (some .boolean) [] rmL_law 600064 7301640 (.inl (some (.int ro), so, none)) 259112 1561776 s53 none 184 [(4, .int x52)] [] := by
    refine x_iload 186 0 dL_law_184 rfl rfl ?_
    obtain ⟨hz, hF⟩ := ite_none hF
    cases hF
    exact x_zret rfl (by rcases hz with h | h <;> rw [h] <;> rfl) rfl (Nat.le_of_ble_eq_true rfl) (Nat.le_of_ble_eq_true rfl) dL_law_186
  refine x_sub [(0, .ref p0), (1, .ref n0), (2, .ref (n0 + 136)), (3, .int ((14 : Int32) + (irm v10 (21 : Int32)))), (4, .int (1 : Int32)), (5, .int (0 : Int32))] [5, 4, 3, 2, 1, 0] rfl ?_
  refine x_anyn ?_
  exact mL_law_L34 hst p0 n0 (n0 + 136) ((14 : Int32) + (irm v10 (21 : Int32))) _ 259112 1561776 (Nat.le_of_ble_eq_true rfl) (Nat.le_of_ble_eq_true rfl) 36 272 8736 (1 : Int32) (0 : Int32) s7 x52 s53 (Nat.le_of_ble_eq_true rfl) (Nat.le_of_ble_eq_true rfl) h54 hJ
