def rmL_refuses : Room := { frames := 10, cells := 125, slots := 750, locals := 207 }
theorem qyL_refuses : qY yL_refuses cL_refuses 8 (some .boolean) 2 := ⟨wd_179, wd_16, by decide +kernel, by decide +kernel, by decide +kernel⟩
set_option maxHeartbeats 4000000 in
set_option maxRecDepth 100000 in
theorem mL_refuses {l : Launch} {G : qG} (hst : l.stackTraces = false) (p0 : Nat) (p1 : Int32) (σ : qH) (n : Option Nat) (ro : Int32) (so : qH) (hF : FL_refuses (G.2.2.2.1) p0 p1 σ = some (ro, so)) : qM l G yL_refuses cL_refuses 8 (some .boolean) rmL_refuses [.ref p0, .int p1] σ n (.inl (some (.int ro), so, none)) := by
  refine q_body (own := RL) (nm := "refuses") (ls := [(0, .ref p0), (1, .int p1)]) hst (by decide +kernel) rfl rfl (Nat.le_of_ble_eq_true rfl) rfl rfl rfl ?_
  unfold FL_refuses at hF
  refine x_anyn ?_
  refine x_aload_n 1 0 dL_refuses_0 rfl rfl ?_
  refine x_iconst 2 (2 : Int32) dL_refuses_1 rfl (by decide) ?_
  refine x_iconst 3 (0 : Int32) dL_refuses_2 rfl (by decide) ?_
  refine x_iconst 4 (0 : Int32) dL_refuses_3 rfl (by decide) ?_
  refine x_iconst 5 (0 : Int32) dL_refuses_4 rfl (by decide) ?_
  obtain ⟨v2, s3, h1, hF⟩ := b2_inv hF
  refine x_callS (As := [.ref p0, .int (2 : Int32), .int (0 : Int32), .int (0 : Int32), .int (0 : Int32)]) (rest := []) 8 2 12 (mL_call hst p0 (2 : Int32) (0 : Int32) (0 : Int32) (0 : Int32) σ none v2 s3 h1) qyL_call wd_180 wd_181 rfl rfl (by decide) (Nat.le_of_ble_eq_true rfl) ⟨Nat.le_of_ble_eq_true rfl, Nat.le_of_ble_eq_true rfl⟩ dL_refuses_5 rfl rfl rfl rfl ?_
  refine x_istore_n 9 2 [(2, .int v2), (0, .ref p0), (1, .int p1)] dL_refuses_8 rfl rfl (by decide) rfl ?_
  refine x_iload_n 10 2 dL_refuses_9 rfl rfl ?_
  refine x_iconst 11 (2 : Int32) dL_refuses_10 rfl (by decide) ?_
  refine x_irem 12 (by decide) dL_refuses_11 rfl ?_
  obtain ⟨x4, h200, hF⟩ := b1_inv hF
  have hJ : qX l G RL "refuses" cL_refuses 8 (some .boolean) [] rmL_refuses 125 750 (.inl (some (.int ro), so, none)) 2 12 s3 none 30 [(0, .ref p0), (1, .int p1), (2, .int v2)] [.int x4] := by
    refine x_istore_n 31 3 [(3, .int x4), (0, .ref p0), (1, .int p1), (2, .int v2)] dL_refuses_30 rfl rfl (by decide) rfl ?_
    refine x_iload_n 32 2 dL_refuses_31 rfl rfl ?_
    refine x_iconst 33 (2 : Int32) dL_refuses_32 rfl (by decide) ?_
    refine x_irem 34 (by decide) dL_refuses_33 rfl ?_
    obtain ⟨x5, h199, hF⟩ := b1_inv hF
    have hJ : qX l G RL "refuses" cL_refuses 8 (some .boolean) [] rmL_refuses 125 750 (.inl (some (.int ro), so, none)) 2 12 s3 none 52 [(0, .ref p0), (1, .int p1), (2, .int v2), (3, .int x4)] [.int x5] := by
      refine x_istore 54 4 [(4, .int x5), (0, .ref p0), (1, .int p1), (2, .int v2), (3, .int x4)] dL_refuses_52 rfl (by decide) rfl ?_
      refine x_iload_n 55 2 dL_refuses_54 rfl rfl ?_
      refine x_iconst 56 (2 : Int32) dL_refuses_55 rfl (by decide) ?_
      refine x_irem 57 (by decide) dL_refuses_56 rfl ?_
      obtain ⟨x6, h198, hF⟩ := b1_inv hF
      have hJ : qX l G RL "refuses" cL_refuses 8 (some .boolean) [] rmL_refuses 125 750 (.inl (some (.int ro), so, none)) 2 12 s3 none 76 [(0, .ref p0), (1, .int p1), (2, .int v2), (3, .int x4), (4, .int x5)] [.int x6] := by
        refine x_istore 78 5 [(5, .int x6), (0, .ref p0), (1, .int p1), (2, .int v2), (3, .int x4), (4, .int x5)] dL_refuses_76 rfl (by decide) rfl ?_
        refine x_iload_n 79 2 dL_refuses_78 rfl rfl ?_
        refine x_iconst 80 (2 : Int32) dL_refuses_79 rfl (by decide) ?_
        refine x_irem 81 (by decide) dL_refuses_80 rfl ?_
        obtain ⟨x7, h197, hF⟩ := b1_inv hF
        have hJ : qX l G RL "refuses" cL_refuses 8 (some .boolean) [] rmL_refuses 125 750 (.inl (some (.int ro), so, none)) 2 12 s3 none 101 [(0, .ref p0), (1, .int p1), (2, .int v2), (3, .int x4), (4, .int x5), (5, .int x6)] [.int x7] := by
          refine x_istore 103 6 [(6, .int x7), (0, .ref p0), (1, .int p1), (2, .int v2), (3, .int x4), (4, .int x5), (5, .int x6)] dL_refuses_101 rfl (by decide) rfl ?_
          refine x_aload_n 104 1 dL_refuses_103 rfl rfl ?_
          refine x_iconst 105 (0 : Int32) dL_refuses_104 rfl (by decide) ?_
          refine x_iload_n 106 2 dL_refuses_105 rfl rfl ?_
          refine x_iconst 107 (2 : Int32) dL_refuses_106 rfl (by decide) ?_
          refine x_irem 108 (by decide) dL_refuses_107 rfl ?_
          obtain ⟨x8, h196, hF⟩ := b1_inv hF
          have hJ : qX l G RL "refuses" cL_refuses 8 (some .boolean) [] rmL_refuses 125 750 (.inl (some (.int ro), so, none)) 2 12 s3 none 128 [(0, .ref p0), (1, .int p1), (2, .int v2), (3, .int x4), (4, .int x5), (5, .int x6), (6, .int x7)] [.int x8, .int (0 : Int32), .ref p0] := by
            refine x_iconst 129 (0 : Int32) dL_refuses_128 rfl (by decide) ?_
            refine x_iconst 130 (0 : Int32) dL_refuses_129 rfl (by decide) ?_
            obtain ⟨v10, s11, h9, hF⟩ := b2_inv hF
            refine x_callS (As := [.ref p0, .int (0 : Int32), .int x8, .int (0 : Int32), .int (0 : Int32)]) (rest := []) 133 4 24 (mL_call hst p0 (0 : Int32) x8 (0 : Int32) (0 : Int32) s3 none v10 s11 h9) qyL_call wd_180 wd_181 rfl rfl (by decide) (Nat.le_of_ble_eq_true rfl) ⟨Nat.le_of_ble_eq_true rfl, Nat.le_of_ble_eq_true rfl⟩ dL_refuses_130 rfl rfl rfl rfl ?_
            refine x_ldc 135 (-9999002 : Int32) wd_287 dL_refuses_133 rfl ?_
            obtain ⟨x12, s13, h195, hF⟩ := b2_inv hF
            have hJ : qX l G RL "refuses" cL_refuses 8 (some .boolean) [] rmL_refuses 125 750 (.inl (some (.int ro), so, none)) 82 492 s13 none 731 [(0, .ref p0), (1, .int p1), (2, .int v2), (3, .int x4), (4, .int x5), (5, .int x6), (6, .int x7)] [.int x12] := by
              refine x_istore 733 7 [(7, .int x12), (0, .ref p0), (1, .int p1), (2, .int v2), (3, .int x4), (4, .int x5), (5, .int x6), (6, .int x7)] dL_refuses_731 rfl (by decide) rfl ?_
              refine x_iload 735 0 dL_refuses_733 rfl rfl ?_
              obtain ⟨x114, s115, h194, hF⟩ := b2_inv hF
              have hJ : qX l G RL "refuses" cL_refuses 8 (some .boolean) [] rmL_refuses 125 750 (.inl (some (.int ro), so, none)) 119 714 s115 none 1083 [(0, .ref p0), (1, .int p1), (2, .int v2)] [.int x114] := by
                refine x_istore 1085 7 [(7, .int x114), (0, .ref p0), (1, .int p1), (2, .int v2)] dL_refuses_1083 rfl (by decide) rfl ?_
                refine x_iload 1087 0 dL_refuses_1085 rfl rfl ?_
                obtain ⟨x179, s180, h193, hF⟩ := b2_inv hF
                have hJ : qX l G RL "refuses" cL_refuses 8 (some .boolean) [] rmL_refuses 125 750 (.inl (some (.int ro), so, none)) 125 750 s180 none 1140 [] [.int x179] := by
                  obtain ⟨hz, hF⟩ := ite_none hF
                  cases hF
                  exact x_zret rfl (by rcases hz with h | h <;> rw [h] <;> rfl) rfl (Nat.le_of_ble_eq_true rfl) (Nat.le_of_ble_eq_true rfl) dL_refuses_1140
                have hF := h193
                rcases ite_inv hF with ⟨hc, hF⟩ | ⟨hc, hF⟩
                · refine x_if_eq 1139 1090 dL_refuses_1087 (by decide) rfl (fun _ => ?_) (fun q => absurd hc q)
                  refine x_iconst 1140 (0 : Int32) dL_refuses_1139 rfl (by decide) ?_
                  obtain ⟨e1, e2⟩ := so2 hF
                  subst e1
                  subst e2
                  refine x_wide 125 750 (Nat.le_of_ble_eq_true rfl) (Nat.le_of_ble_eq_true rfl) ?_
                  refine x_sub [] [] rfl ?_
                  exact hJ
                · refine x_if_eq 1139 1090 dL_refuses_1087 (by decide) rfl (fun q => absurd q hc) (fun _ => ?_)
                  refine x_iload_n 1091 3 dL_refuses_1090 rfl rfl ?_
                  refine x_bipush 1093 (16 : Int32) dL_refuses_1091 rfl (by decide) ?_
                  rcases bc_inv hF with ⟨s181, h192, hF⟩ | ⟨s182, h192, hF⟩
                  · have hJ : qX l G RL "refuses" cL_refuses 8 (some .boolean) [] rmL_refuses 125 750 (.inl (some (.int ro), so, none)) 123 738 s181 none 1112 [(0, .ref p0), (1, .int p1), (2, .int v2)] [] := by
                      refine x_iload_n 1113 2 dL_refuses_1112 rfl rfl ?_
                      rcases ite_inv hF with ⟨hc, hF⟩ | ⟨hc, hF⟩
                      · refine x_if_eq 1135 1116 dL_refuses_1113 (by decide) rfl (fun _ => ?_) (fun q => absurd hc q)
                        refine x_iconst 1136 (1 : Int32) dL_refuses_1135 rfl (by decide) ?_
                        refine x_goto 1140 dL_refuses_1136 (by decide) ?_
                        obtain ⟨e1, e2⟩ := so2 hF
                        subst e1
                        subst e2
                        refine x_wide 125 750 (Nat.le_of_ble_eq_true rfl) (Nat.le_of_ble_eq_true rfl) ?_
                        refine x_sub [] [] rfl ?_
                        exact hJ
                      · refine x_if_eq 1135 1116 dL_refuses_1113 (by decide) rfl (fun q => absurd q hc) (fun _ => ?_)
                        refine x_aload_n 1117 0 dL_refuses_1116 rfl rfl ?_
                        refine x_bipush 1119 (16 : Int32) dL_refuses_1117 rfl (by decide) ?_
                        refine x_iconst 1120 (0 : Int32) dL_refuses_1119 rfl (by decide) ?_
                        refine x_iconst 1121 (3 : Int32) dL_refuses_1120 rfl (by decide) ?_
                        refine x_iload_n 1122 1 dL_refuses_1121 rfl rfl ?_
                        refine x_bipush 1124 (9 : Int32) dL_refuses_1122 rfl (by decide) ?_
                        refine x_irem 1125 (by decide) dL_refuses_1124 rfl ?_
                        refine x_iadd 1126 dL_refuses_1125 rfl ?_
                        refine x_iconst 1127 (0 : Int32) dL_refuses_1126 rfl (by decide) ?_
                        obtain ⟨v184, s185, h183, hF⟩ := b2_inv hF
                        refine x_callS (As := [.ref p0, .int (16 : Int32), .int (0 : Int32), .int ((3 : Int32) + (irm p1 (9 : Int32))), .int (0 : Int32)]) (rest := []) 1130 125 750 (mL_call hst p0 (16 : Int32) (0 : Int32) ((3 : Int32) + (irm p1 (9 : Int32))) (0 : Int32) s181 none v184 s185 h183) qyL_call wd_180 wd_181 rfl rfl (by decide) (Nat.le_of_ble_eq_true rfl) ⟨Nat.le_of_ble_eq_true rfl, Nat.le_of_ble_eq_true rfl⟩ dL_refuses_1127 rfl rfl rfl rfl ?_
                        refine x_ldc 1132 (-9999002 : Int32) wd_287 dL_refuses_1130 rfl ?_
                        rcases ite_inv hF with ⟨hc, hF⟩ | ⟨hc, hF⟩
                        · refine x_icmp_ne 1139 1135 dL_refuses_1132 (by decide) rfl (fun q => absurd hc q) (fun _ => ?_)
                          refine x_iconst 1136 (1 : Int32) dL_refuses_1135 rfl (by decide) ?_
                          refine x_goto 1140 dL_refuses_1136 (by decide) ?_
                          obtain ⟨e1, e2⟩ := so2 hF
                          subst e1
                          subst e2
                          refine x_sub [] [] rfl ?_
                          exact hJ
                        · refine x_icmp_ne 1139 1135 dL_refuses_1132 (by decide) rfl (fun _ => ?_) (fun q => absurd q hc)
                          refine x_iconst 1140 (0 : Int32) dL_refuses_1139 rfl (by decide) ?_
                          obtain ⟨e1, e2⟩ := so2 hF
                          subst e1
                          subst e2
                          refine x_sub [] [] rfl ?_
                          exact hJ
                    have hF := h192
                    rcases ite_inv hF with ⟨hc, hF⟩ | ⟨hc, hF⟩
                    · refine x_icmp_lt 1112 1096 dL_refuses_1093 (by decide) rfl (fun _ => ?_) (fun q => absurd hc q)
                      have e1 := Sum.inl.inj (Option.some.inj hF)
                      subst e1
                      refine x_wide 123 738 (Nat.le_of_ble_eq_true rfl) (Nat.le_of_ble_eq_true rfl) ?_
                      refine x_sub [(0, .ref p0), (1, .int p1), (2, .int v2)] [1, 2, 3] rfl ?_
                      exact hJ
                    · refine x_icmp_lt 1112 1096 dL_refuses_1093 (by decide) rfl (fun q => absurd q hc) (fun _ => ?_)
                      refine x_aload_n 1097 1 dL_refuses_1096 rfl rfl ?_
                      refine x_iconst 1098 (0 : Int32) dL_refuses_1097 rfl (by decide) ?_
                      refine x_iconst 1099 (0 : Int32) dL_refuses_1098 rfl (by decide) ?_
                      refine x_iconst 1100 (2 : Int32) dL_refuses_1099 rfl (by decide) ?_
                      refine x_iconst 1101 (5 : Int32) dL_refuses_1100 rfl (by decide) ?_
                      refine x_iconst 1102 (5 : Int32) dL_refuses_1101 rfl (by decide) ?_
                      refine x_iconst 1103 (0 : Int32) dL_refuses_1102 rfl (by decide) ?_
                      refine x_iconst 1104 (0 : Int32) dL_refuses_1103 rfl (by decide) ?_
                      obtain ⟨v187, s188, h186, hF⟩ := b2_inv hF
                      refine x_callSW (As := [.ref p0, .int (0 : Int32), .int (0 : Int32), .int (2 : Int32), .int (5 : Int32), .int (5 : Int32), .int (0 : Int32), .int (0 : Int32)]) (rest := []) 1107 123 738 (mL_told hst p0 (0 : Int32) (0 : Int32) (2 : Int32) (5 : Int32) (5 : Int32) (0 : Int32) (0 : Int32) s115 none v187 s188 h186) qyL_told wd_816 wd_817 rfl rfl (by decide) (Nat.le_of_ble_eq_true rfl) ⟨Nat.le_of_ble_eq_true rfl, Nat.le_of_ble_eq_true rfl⟩ dL_refuses_1104 rfl rfl rfl rfl ?_
                      refine x_ldc 1109 (-9999003 : Int32) wd_288 dL_refuses_1107 rfl ?_
                      rcases ite_inv hF with ⟨hc, hF⟩ | ⟨hc, hF⟩
                      · refine x_icmp_ne 1139 1112 dL_refuses_1109 (by decide) rfl (fun q => absurd hc q) (fun _ => ?_)
                        have e1 := Sum.inl.inj (Option.some.inj hF)
                        subst e1
                        refine x_sub [(0, .ref p0), (1, .int p1), (2, .int v2)] [1, 2, 3] rfl ?_
                        exact hJ
                      · refine x_icmp_ne 1139 1112 dL_refuses_1109 (by decide) rfl (fun _ => ?_) (fun q => absurd q hc)
                        cases hF
                  · have hJ : qX l G RL "refuses" cL_refuses 8 (some .boolean) [] rmL_refuses 125 750 (.inl (some (.int ro), so, none)) 123 738 s182 none 1139 [] [] := by
                      refine x_iconst 1140 (0 : Int32) dL_refuses_1139 rfl (by decide) ?_
                      obtain ⟨e1, e2⟩ := so2 hF
                      subst e1
                      subst e2
                      refine x_wide 125 750 (Nat.le_of_ble_eq_true rfl) (Nat.le_of_ble_eq_true rfl) ?_
                      exact hJ
                    have hF := h192
                    rcases ite_inv hF with ⟨hc, hF⟩ | ⟨hc, hF⟩
                    · refine x_icmp_lt 1112 1096 dL_refuses_1093 (by decide) rfl (fun _ => ?_) (fun q => absurd hc q)
                      cases hF
                    · refine x_icmp_lt 1112 1096 dL_refuses_1093 (by decide) rfl (fun q => absurd q hc) (fun _ => ?_)
                      refine x_aload_n 1097 1 dL_refuses_1096 rfl rfl ?_
                      refine x_iconst 1098 (0 : Int32) dL_refuses_1097 rfl (by decide) ?_
                      refine x_iconst 1099 (0 : Int32) dL_refuses_1098 rfl (by decide) ?_
                      refine x_iconst 1100 (2 : Int32) dL_refuses_1099 rfl (by decide) ?_
                      refine x_iconst 1101 (5 : Int32) dL_refuses_1100 rfl (by decide) ?_
                      refine x_iconst 1102 (5 : Int32) dL_refuses_1101 rfl (by decide) ?_
                      refine x_iconst 1103 (0 : Int32) dL_refuses_1102 rfl (by decide) ?_
                      refine x_iconst 1104 (0 : Int32) dL_refuses_1103 rfl (by decide) ?_
                      obtain ⟨v190, s191, h189, hF⟩ := b2_inv hF
                      refine x_callSW (As := [.ref p0, .int (0 : Int32), .int (0 : Int32), .int (2 : Int32), .int (5 : Int32), .int (5 : Int32), .int (0 : Int32), .int (0 : Int32)]) (rest := []) 1107 123 738 (mL_told hst p0 (0 : Int32) (0 : Int32) (2 : Int32) (5 : Int32) (5 : Int32) (0 : Int32) (0 : Int32) s115 none v190 s191 h189) qyL_told wd_816 wd_817 rfl rfl (by decide) (Nat.le_of_ble_eq_true rfl) ⟨Nat.le_of_ble_eq_true rfl, Nat.le_of_ble_eq_true rfl⟩ dL_refuses_1104 rfl rfl rfl rfl ?_
                      refine x_ldc 1109 (-9999003 : Int32) wd_288 dL_refuses_1107 rfl ?_
                      rcases ite_inv hF with ⟨hc, hF⟩ | ⟨hc, hF⟩
                      · refine x_icmp_ne 1139 1112 dL_refuses_1109 (by decide) rfl (fun q => absurd hc q) (fun _ => ?_)
                        cases hF
                      · refine x_icmp_ne 1139 1112 dL_refuses_1109 (by decide) rfl (fun _ => ?_) (fun q => absurd q hc)
                        have e1 := Sum.inr.inj (Option.some.inj hF)
                        subst e1
                        refine x_sub [] [] rfl ?_
                        exact hJ
              have hF := h194
              rcases ite_inv hF with ⟨hc, hF⟩ | ⟨hc, hF⟩
              · refine x_if_eq 1082 738 dL_refuses_735 (by decide) rfl (fun _ => ?_) (fun q => absurd hc q)
                refine x_iconst 1083 (0 : Int32) dL_refuses_1082 rfl (by decide) ?_
                obtain ⟨e1, e2⟩ := so2 hF
                subst e1
                subst e2
                refine x_wide 119 714 (Nat.le_of_ble_eq_true rfl) (Nat.le_of_ble_eq_true rfl) ?_
                refine x_sub [(0, .ref p0), (1, .int p1), (2, .int v2)] [1, 2, 3] rfl ?_
                exact hJ
              · refine x_if_eq 1082 738 dL_refuses_735 (by decide) rfl (fun q => absurd q hc) (fun _ => ?_)
                refine x_aload_n 739 1 dL_refuses_738 rfl rfl ?_
                refine x_bipush 741 (9 : Int32) dL_refuses_739 rfl (by decide) ?_
                refine x_iload_n 742 4 dL_refuses_741 rfl rfl ?_
                refine x_iconst 743 (0 : Int32) dL_refuses_742 rfl (by decide) ?_
                refine x_iconst 744 (0 : Int32) dL_refuses_743 rfl (by decide) ?_
                obtain ⟨v117, s118, h116, hF⟩ := b2_inv hF
                refine x_callS (As := [.ref p0, .int (9 : Int32), .int x4, .int (0 : Int32), .int (0 : Int32)]) (rest := []) 747 84 504 (mL_call hst p0 (9 : Int32) x4 (0 : Int32) (0 : Int32) s13 none v117 s118 h116) qyL_call wd_180 wd_181 rfl rfl (by decide) (Nat.le_of_ble_eq_true rfl) ⟨Nat.le_of_ble_eq_true rfl, Nat.le_of_ble_eq_true rfl⟩ dL_refuses_744 rfl rfl rfl rfl ?_
                refine x_ldc 749 (-9999001 : Int32) wd_565 dL_refuses_747 rfl ?_
                rcases ite_inv hF with ⟨hc, hF⟩ | ⟨hc, hF⟩
                · refine x_icmp_ne 1082 752 dL_refuses_749 (by decide) rfl (fun q => absurd hc q) (fun _ => ?_)
                  refine x_aload_n 753 1 dL_refuses_752 rfl rfl ?_
                  refine x_bipush 755 (10 : Int32) dL_refuses_753 rfl (by decide) ?_
                  refine x_iload 757 6 dL_refuses_755 rfl rfl ?_
                  refine x_bipush 759 (99 : Int32) dL_refuses_757 rfl (by decide) ?_
                  refine x_iconst 760 (0 : Int32) dL_refuses_759 rfl (by decide) ?_
                  obtain ⟨v120, s121, h119, hF⟩ := b2_inv hF
                  refine x_callS (As := [.ref p0, .int (10 : Int32), .int x6, .int (99 : Int32), .int (0 : Int32)]) (rest := []) 763 86 516 (mL_call hst p0 (10 : Int32) x6 (99 : Int32) (0 : Int32) s118 none v120 s121 h119) qyL_call wd_180 wd_181 rfl rfl (by decide) (Nat.le_of_ble_eq_true rfl) ⟨Nat.le_of_ble_eq_true rfl, Nat.le_of_ble_eq_true rfl⟩ dL_refuses_760 rfl rfl rfl rfl ?_
                  refine x_ldc 765 (-9999001 : Int32) wd_565 dL_refuses_763 rfl ?_
                  rcases ite_inv hF with ⟨hc, hF⟩ | ⟨hc, hF⟩
                  · refine x_icmp_ne 1082 768 dL_refuses_765 (by decide) rfl (fun q => absurd hc q) (fun _ => ?_)
                    refine x_aload_n 769 1 dL_refuses_768 rfl rfl ?_
                    refine x_bipush 771 (10 : Int32) dL_refuses_769 rfl (by decide) ?_
                    refine x_iconst 772 (0 : Int32) dL_refuses_771 rfl (by decide) ?_
                    refine x_iload_n 773 2 dL_refuses_772 rfl rfl ?_
                    refine x_iconst 774 (2 : Int32) dL_refuses_773 rfl (by decide) ?_
                    refine x_irem 775 (by decide) dL_refuses_774 rfl ?_
                    obtain ⟨x122, h178, hF⟩ := b1_inv hF
                    have hJ : qX l G RL "refuses" cL_refuses 8 (some .boolean) [] rmL_refuses 125 750 (.inl (some (.int ro), so, none)) 86 516 s121 none 789 [(0, .ref p0), (1, .int p1), (2, .int v2), (3, .int x4), (4, .int x5), (5, .int x6), (6, .int x7)] [.int x122, .int (0 : Int32), .int (10 : Int32), .ref p0] := by
                      refine x_iconst 790 (0 : Int32) dL_refuses_789 rfl (by decide) ?_
                      obtain ⟨v124, s125, h123, hF⟩ := b2_inv hF
                      refine x_callS (As := [.ref p0, .int (10 : Int32), .int (0 : Int32), .int x122, .int (0 : Int32)]) (rest := []) 793 88 528 (mL_call hst p0 (10 : Int32) (0 : Int32) x122 (0 : Int32) s121 none v124 s125 h123) qyL_call wd_180 wd_181 rfl rfl (by decide) (Nat.le_of_ble_eq_true rfl) ⟨Nat.le_of_ble_eq_true rfl, Nat.le_of_ble_eq_true rfl⟩ dL_refuses_790 rfl rfl rfl rfl ?_
                      refine x_ldc 795 (-9999002 : Int32) wd_287 dL_refuses_793 rfl ?_
                      rcases ite_inv hF with ⟨hc, hF⟩ | ⟨hc, hF⟩
                      · refine x_icmp_ne 1082 798 dL_refuses_795 (by decide) rfl (fun q => absurd hc q) (fun _ => ?_)
                        refine x_aload_n 799 0 dL_refuses_798 rfl rfl ?_
                        refine x_bipush 801 (11 : Int32) dL_refuses_799 rfl (by decide) ?_
                        refine x_iload 803 4 dL_refuses_801 rfl rfl ?_
                        refine x_iconst 804 (0 : Int32) dL_refuses_803 rfl (by decide) ?_
                        refine x_iconst 805 (0 : Int32) dL_refuses_804 rfl (by decide) ?_
                        obtain ⟨v127, s128, h126, hF⟩ := b2_inv hF
                        refine x_callS (As := [.ref p0, .int (11 : Int32), .int x5, .int (0 : Int32), .int (0 : Int32)]) (rest := []) 808 90 540 (mL_call hst p0 (11 : Int32) x5 (0 : Int32) (0 : Int32) s125 none v127 s128 h126) qyL_call wd_180 wd_181 rfl rfl (by decide) (Nat.le_of_ble_eq_true rfl) ⟨Nat.le_of_ble_eq_true rfl, Nat.le_of_ble_eq_true rfl⟩ dL_refuses_805 rfl rfl rfl rfl ?_
                        refine x_ldc 810 (-9999001 : Int32) wd_565 dL_refuses_808 rfl ?_
                        rcases ite_inv hF with ⟨hc, hF⟩ | ⟨hc, hF⟩
                        · refine x_icmp_ne 1082 813 dL_refuses_810 (by decide) rfl (fun q => absurd hc q) (fun _ => ?_)
                          refine x_aload_n 814 0 dL_refuses_813 rfl rfl ?_
                          refine x_bipush 816 (11 : Int32) dL_refuses_814 rfl (by decide) ?_
                          refine x_iconst 817 (0 : Int32) dL_refuses_816 rfl (by decide) ?_
                          refine x_iload 819 6 dL_refuses_817 rfl rfl ?_
                          refine x_iconst 820 (0 : Int32) dL_refuses_819 rfl (by decide) ?_
                          obtain ⟨v130, s131, h129, hF⟩ := b2_inv hF
                          refine x_callS (As := [.ref p0, .int (11 : Int32), .int (0 : Int32), .int x7, .int (0 : Int32)]) (rest := []) 823 92 552 (mL_call hst p0 (11 : Int32) (0 : Int32) x7 (0 : Int32) s128 none v130 s131 h129) qyL_call wd_180 wd_181 rfl rfl (by decide) (Nat.le_of_ble_eq_true rfl) ⟨Nat.le_of_ble_eq_true rfl, Nat.le_of_ble_eq_true rfl⟩ dL_refuses_820 rfl rfl rfl rfl ?_
                          refine x_ldc 825 (-9999002 : Int32) wd_287 dL_refuses_823 rfl ?_
                          rcases ite_inv hF with ⟨hc, hF⟩ | ⟨hc, hF⟩
                          · refine x_icmp_ne 1082 828 dL_refuses_825 (by decide) rfl (fun q => absurd hc q) (fun _ => ?_)
                            refine x_aload_n 829 0 dL_refuses_828 rfl rfl ?_
                            refine x_bipush 831 (12 : Int32) dL_refuses_829 rfl (by decide) ?_
                            refine x_iconst 832 (0 : Int32) dL_refuses_831 rfl (by decide) ?_
                            refine x_iload_n 833 1 dL_refuses_832 rfl rfl ?_
                            refine x_iconst 834 (2 : Int32) dL_refuses_833 rfl (by decide) ?_
                            refine x_irem 835 (by decide) dL_refuses_834 rfl ?_
                            obtain ⟨x132, h177, hF⟩ := b1_inv hF
                            have hJ : qX l G RL "refuses" cL_refuses 8 (some .boolean) [] rmL_refuses 125 750 (.inl (some (.int ro), so, none)) 92 552 s131 none 849 [(0, .ref p0), (1, .int p1), (2, .int v2), (3, .int x4), (4, .int x5), (5, .int x6)] [.int x132, .int (0 : Int32), .int (12 : Int32), .ref p0] := by
                              refine x_iconst 850 (0 : Int32) dL_refuses_849 rfl (by decide) ?_
                              obtain ⟨v134, s135, h133, hF⟩ := b2_inv hF
                              refine x_callS (As := [.ref p0, .int (12 : Int32), .int (0 : Int32), .int x132, .int (0 : Int32)]) (rest := []) 853 94 564 (mL_call hst p0 (12 : Int32) (0 : Int32) x132 (0 : Int32) s131 none v134 s135 h133) qyL_call wd_180 wd_181 rfl rfl (by decide) (Nat.le_of_ble_eq_true rfl) ⟨Nat.le_of_ble_eq_true rfl, Nat.le_of_ble_eq_true rfl⟩ dL_refuses_850 rfl rfl rfl rfl ?_
                              refine x_ldc 855 (-9999002 : Int32) wd_287 dL_refuses_853 rfl ?_
                              rcases ite_inv hF with ⟨hc, hF⟩ | ⟨hc, hF⟩
                              · refine x_icmp_ne 1082 858 dL_refuses_855 (by decide) rfl (fun q => absurd hc q) (fun _ => ?_)
                                refine x_aload_n 859 0 dL_refuses_858 rfl rfl ?_
                                refine x_bipush 861 (12 : Int32) dL_refuses_859 rfl (by decide) ?_
                                refine x_iconst 862 (1 : Int32) dL_refuses_861 rfl (by decide) ?_
                                refine x_iload_n 863 1 dL_refuses_862 rfl rfl ?_
                                refine x_iconst 864 (2 : Int32) dL_refuses_863 rfl (by decide) ?_
                                refine x_irem 865 (by decide) dL_refuses_864 rfl ?_
                                obtain ⟨x136, h176, hF⟩ := b1_inv hF
                                have hJ : qX l G RL "refuses" cL_refuses 8 (some .boolean) [] rmL_refuses 125 750 (.inl (some (.int ro), so, none)) 94 564 s135 none 879 [(0, .ref p0), (1, .int p1), (2, .int v2), (3, .int x4), (4, .int x5), (5, .int x6)] [.int x136, .int (1 : Int32), .int (12 : Int32), .ref p0] := by
                                  refine x_iconst 880 (0 : Int32) dL_refuses_879 rfl (by decide) ?_
                                  obtain ⟨v138, s139, h137, hF⟩ := b2_inv hF
                                  refine x_callS (As := [.ref p0, .int (12 : Int32), .int (1 : Int32), .int x136, .int (0 : Int32)]) (rest := []) 883 96 576 (mL_call hst p0 (12 : Int32) (1 : Int32) x136 (0 : Int32) s135 none v138 s139 h137) qyL_call wd_180 wd_181 rfl rfl (by decide) (Nat.le_of_ble_eq_true rfl) ⟨Nat.le_of_ble_eq_true rfl, Nat.le_of_ble_eq_true rfl⟩ dL_refuses_880 rfl rfl rfl rfl ?_
                                  refine x_ldc 885 (-9999002 : Int32) wd_287 dL_refuses_883 rfl ?_
                                  rcases ite_inv hF with ⟨hc, hF⟩ | ⟨hc, hF⟩
                                  · refine x_icmp_ne 1082 888 dL_refuses_885 (by decide) rfl (fun q => absurd hc q) (fun _ => ?_)
                                    refine x_aload_n 889 0 dL_refuses_888 rfl rfl ?_
                                    refine x_bipush 891 (12 : Int32) dL_refuses_889 rfl (by decide) ?_
                                    refine x_iconst 892 (2 : Int32) dL_refuses_891 rfl (by decide) ?_
                                    refine x_iload_n 893 1 dL_refuses_892 rfl rfl ?_
                                    refine x_bipush 895 (9 : Int32) dL_refuses_893 rfl (by decide) ?_
                                    refine x_irem 896 (by decide) dL_refuses_895 rfl ?_
                                    refine x_iadd 897 dL_refuses_896 rfl ?_
                                    refine x_iconst 898 (1 : Int32) dL_refuses_897 rfl (by decide) ?_
                                    refine x_iconst 899 (0 : Int32) dL_refuses_898 rfl (by decide) ?_
                                    obtain ⟨v141, s142, h140, hF⟩ := b2_inv hF
                                    refine x_callS (As := [.ref p0, .int (12 : Int32), .int ((2 : Int32) + (irm p1 (9 : Int32))), .int (1 : Int32), .int (0 : Int32)]) (rest := []) 902 98 588 (mL_call hst p0 (12 : Int32) ((2 : Int32) + (irm p1 (9 : Int32))) (1 : Int32) (0 : Int32) s139 none v141 s142 h140) qyL_call wd_180 wd_181 rfl rfl (by decide) (Nat.le_of_ble_eq_true rfl) ⟨Nat.le_of_ble_eq_true rfl, Nat.le_of_ble_eq_true rfl⟩ dL_refuses_899 rfl rfl rfl rfl ?_
                                    refine x_ldc 904 (-9999002 : Int32) wd_287 dL_refuses_902 rfl ?_
                                    rcases ite_inv hF with ⟨hc, hF⟩ | ⟨hc, hF⟩
                                    · refine x_icmp_ne 1082 907 dL_refuses_904 (by decide) rfl (fun q => absurd hc q) (fun _ => ?_)
                                      refine x_aload_n 908 0 dL_refuses_907 rfl rfl ?_
                                      refine x_bipush 910 (14 : Int32) dL_refuses_908 rfl (by decide) ?_
                                      refine x_iload_n 911 3 dL_refuses_910 rfl rfl ?_
                                      refine x_iconst 912 (0 : Int32) dL_refuses_911 rfl (by decide) ?_
                                      refine x_iconst 913 (0 : Int32) dL_refuses_912 rfl (by decide) ?_
                                      obtain ⟨v144, s145, h143, hF⟩ := b2_inv hF
                                      refine x_callS (As := [.ref p0, .int (14 : Int32), .int x4, .int (0 : Int32), .int (0 : Int32)]) (rest := []) 916 100 600 (mL_call hst p0 (14 : Int32) x4 (0 : Int32) (0 : Int32) s142 none v144 s145 h143) qyL_call wd_180 wd_181 rfl rfl (by decide) (Nat.le_of_ble_eq_true rfl) ⟨Nat.le_of_ble_eq_true rfl, Nat.le_of_ble_eq_true rfl⟩ dL_refuses_913 rfl rfl rfl rfl ?_
                                      refine x_ldc 918 (-9999001 : Int32) wd_565 dL_refuses_916 rfl ?_
                                      rcases ite_inv hF with ⟨hc, hF⟩ | ⟨hc, hF⟩
                                      · refine x_icmp_ne 1082 921 dL_refuses_918 (by decide) rfl (fun q => absurd hc q) (fun _ => ?_)
                                        refine x_aload_n 922 0 dL_refuses_921 rfl rfl ?_
                                        refine x_bipush 924 (14 : Int32) dL_refuses_922 rfl (by decide) ?_
                                        refine x_iconst 925 (0 : Int32) dL_refuses_924 rfl (by decide) ?_
                                        refine x_iload_n 926 3 dL_refuses_925 rfl rfl ?_
                                        refine x_iconst 927 (0 : Int32) dL_refuses_926 rfl (by decide) ?_
                                        obtain ⟨v147, s148, h146, hF⟩ := b2_inv hF
                                        refine x_callS (As := [.ref p0, .int (14 : Int32), .int (0 : Int32), .int x4, .int (0 : Int32)]) (rest := []) 930 102 612 (mL_call hst p0 (14 : Int32) (0 : Int32) x4 (0 : Int32) s145 none v147 s148 h146) qyL_call wd_180 wd_181 rfl rfl (by decide) (Nat.le_of_ble_eq_true rfl) ⟨Nat.le_of_ble_eq_true rfl, Nat.le_of_ble_eq_true rfl⟩ dL_refuses_927 rfl rfl rfl rfl ?_
                                        refine x_ldc 932 (-9999001 : Int32) wd_565 dL_refuses_930 rfl ?_
                                        rcases ite_inv hF with ⟨hc, hF⟩ | ⟨hc, hF⟩
                                        · refine x_icmp_ne 1082 935 dL_refuses_932 (by decide) rfl (fun q => absurd hc q) (fun _ => ?_)
                                          refine x_aload_n 936 0 dL_refuses_935 rfl rfl ?_
                                          refine x_bipush 938 (15 : Int32) dL_refuses_936 rfl (by decide) ?_
                                          refine x_iload 940 4 dL_refuses_938 rfl rfl ?_
                                          refine x_iconst 941 (0 : Int32) dL_refuses_940 rfl (by decide) ?_
                                          refine x_iconst 942 (0 : Int32) dL_refuses_941 rfl (by decide) ?_
                                          obtain ⟨v150, s151, h149, hF⟩ := b2_inv hF
                                          refine x_callS (As := [.ref p0, .int (15 : Int32), .int x5, .int (0 : Int32), .int (0 : Int32)]) (rest := []) 945 104 624 (mL_call hst p0 (15 : Int32) x5 (0 : Int32) (0 : Int32) s148 none v150 s151 h149) qyL_call wd_180 wd_181 rfl rfl (by decide) (Nat.le_of_ble_eq_true rfl) ⟨Nat.le_of_ble_eq_true rfl, Nat.le_of_ble_eq_true rfl⟩ dL_refuses_942 rfl rfl rfl rfl ?_
                                          refine x_ldc 947 (-9999001 : Int32) wd_565 dL_refuses_945 rfl ?_
                                          rcases ite_inv hF with ⟨hc, hF⟩ | ⟨hc, hF⟩
                                          · refine x_icmp_ne 1082 950 dL_refuses_947 (by decide) rfl (fun q => absurd hc q) (fun _ => ?_)
                                            refine x_aload_n 951 0 dL_refuses_950 rfl rfl ?_
                                            refine x_bipush 953 (16 : Int32) dL_refuses_951 rfl (by decide) ?_
                                            refine x_iload_n 954 3 dL_refuses_953 rfl rfl ?_
                                            refine x_bipush 956 (9 : Int32) dL_refuses_954 rfl (by decide) ?_
                                            refine x_iconst 957 (0 : Int32) dL_refuses_956 rfl (by decide) ?_
                                            obtain ⟨v153, s154, h152, hF⟩ := b2_inv hF
                                            refine x_callS (As := [.ref p0, .int (16 : Int32), .int x4, .int (9 : Int32), .int (0 : Int32)]) (rest := []) 960 106 636 (mL_call hst p0 (16 : Int32) x4 (9 : Int32) (0 : Int32) s151 none v153 s154 h152) qyL_call wd_180 wd_181 rfl rfl (by decide) (Nat.le_of_ble_eq_true rfl) ⟨Nat.le_of_ble_eq_true rfl, Nat.le_of_ble_eq_true rfl⟩ dL_refuses_957 rfl rfl rfl rfl ?_
                                            refine x_ldc 962 (-9999001 : Int32) wd_565 dL_refuses_960 rfl ?_
                                            rcases ite_inv hF with ⟨hc, hF⟩ | ⟨hc, hF⟩
                                            · refine x_icmp_ne 1082 965 dL_refuses_962 (by decide) rfl (fun q => absurd hc q) (fun _ => ?_)
                                              refine x_aload_n 966 0 dL_refuses_965 rfl rfl ?_
                                              refine x_bipush 968 (17 : Int32) dL_refuses_966 rfl (by decide) ?_
                                              refine x_iload 970 5 dL_refuses_968 rfl rfl ?_
                                              refine x_iconst 971 (0 : Int32) dL_refuses_970 rfl (by decide) ?_
                                              refine x_iconst 972 (0 : Int32) dL_refuses_971 rfl (by decide) ?_
                                              obtain ⟨v156, s157, h155, hF⟩ := b2_inv hF
                                              refine x_callS (As := [.ref p0, .int (17 : Int32), .int x6, .int (0 : Int32), .int (0 : Int32)]) (rest := []) 975 108 648 (mL_call hst p0 (17 : Int32) x6 (0 : Int32) (0 : Int32) s154 none v156 s157 h155) qyL_call wd_180 wd_181 rfl rfl (by decide) (Nat.le_of_ble_eq_true rfl) ⟨Nat.le_of_ble_eq_true rfl, Nat.le_of_ble_eq_true rfl⟩ dL_refuses_972 rfl rfl rfl rfl ?_
                                              refine x_ldc 977 (-9999001 : Int32) wd_565 dL_refuses_975 rfl ?_
                                              rcases ite_inv hF with ⟨hc, hF⟩ | ⟨hc, hF⟩
                                              · refine x_icmp_ne 1082 980 dL_refuses_977 (by decide) rfl (fun q => absurd hc q) (fun _ => ?_)
                                                refine x_aload_n 981 0 dL_refuses_980 rfl rfl ?_
                                                refine x_bipush 983 (17 : Int32) dL_refuses_981 rfl (by decide) ?_
                                                refine x_iconst 984 (0 : Int32) dL_refuses_983 rfl (by decide) ?_
                                                refine x_iload 986 4 dL_refuses_984 rfl rfl ?_
                                                refine x_iconst 987 (0 : Int32) dL_refuses_986 rfl (by decide) ?_
                                                obtain ⟨v159, s160, h158, hF⟩ := b2_inv hF
                                                refine x_callS (As := [.ref p0, .int (17 : Int32), .int (0 : Int32), .int x5, .int (0 : Int32)]) (rest := []) 990 110 660 (mL_call hst p0 (17 : Int32) (0 : Int32) x5 (0 : Int32) s157 none v159 s160 h158) qyL_call wd_180 wd_181 rfl rfl (by decide) (Nat.le_of_ble_eq_true rfl) ⟨Nat.le_of_ble_eq_true rfl, Nat.le_of_ble_eq_true rfl⟩ dL_refuses_987 rfl rfl rfl rfl ?_
                                                refine x_ldc 992 (-9999001 : Int32) wd_565 dL_refuses_990 rfl ?_
                                                rcases ite_inv hF with ⟨hc, hF⟩ | ⟨hc, hF⟩
                                                · refine x_icmp_ne 1082 995 dL_refuses_992 (by decide) rfl (fun q => absurd hc q) (fun _ => ?_)
                                                  refine x_aload_n 996 0 dL_refuses_995 rfl rfl ?_
                                                  refine x_bipush 998 (18 : Int32) dL_refuses_996 rfl (by decide) ?_
                                                  refine x_iconst 999 (2 : Int32) dL_refuses_998 rfl (by decide) ?_
                                                  refine x_iload_n 1000 1 dL_refuses_999 rfl rfl ?_
                                                  refine x_bipush 1002 (50 : Int32) dL_refuses_1000 rfl (by decide) ?_
                                                  refine x_irem 1003 (by decide) dL_refuses_1002 rfl ?_
                                                  refine x_iadd 1004 dL_refuses_1003 rfl ?_
                                                  refine x_iconst 1005 (0 : Int32) dL_refuses_1004 rfl (by decide) ?_
                                                  refine x_iconst 1006 (0 : Int32) dL_refuses_1005 rfl (by decide) ?_
                                                  obtain ⟨v162, s163, h161, hF⟩ := b2_inv hF
                                                  refine x_callS (As := [.ref p0, .int (18 : Int32), .int ((2 : Int32) + (irm p1 (50 : Int32))), .int (0 : Int32), .int (0 : Int32)]) (rest := []) 1009 112 672 (mL_call hst p0 (18 : Int32) ((2 : Int32) + (irm p1 (50 : Int32))) (0 : Int32) (0 : Int32) s160 none v162 s163 h161) qyL_call wd_180 wd_181 rfl rfl (by decide) (Nat.le_of_ble_eq_true rfl) ⟨Nat.le_of_ble_eq_true rfl, Nat.le_of_ble_eq_true rfl⟩ dL_refuses_1006 rfl rfl rfl rfl ?_
                                                  refine x_ldc 1011 (-9999001 : Int32) wd_565 dL_refuses_1009 rfl ?_
                                                  rcases ite_inv hF with ⟨hc, hF⟩ | ⟨hc, hF⟩
                                                  · refine x_icmp_ne 1082 1014 dL_refuses_1011 (by decide) rfl (fun q => absurd hc q) (fun _ => ?_)
                                                    refine x_aload_n 1015 0 dL_refuses_1014 rfl rfl ?_
                                                    refine x_bipush 1017 (19 : Int32) dL_refuses_1015 rfl (by decide) ?_
                                                    refine x_iconst 1018 (-1 : Int32) dL_refuses_1017 rfl (by decide) ?_
                                                    refine x_iload_n 1019 1 dL_refuses_1018 rfl rfl ?_
                                                    refine x_bipush 1021 (9 : Int32) dL_refuses_1019 rfl (by decide) ?_
                                                    refine x_irem 1022 (by decide) dL_refuses_1021 rfl ?_
                                                    refine x_isub 1023 dL_refuses_1022 rfl ?_
                                                    refine x_iconst 1024 (0 : Int32) dL_refuses_1023 rfl (by decide) ?_
                                                    refine x_iconst 1025 (0 : Int32) dL_refuses_1024 rfl (by decide) ?_
                                                    obtain ⟨v165, s166, h164, hF⟩ := b2_inv hF
                                                    refine x_callS (As := [.ref p0, .int (19 : Int32), .int ((-1 : Int32) - (irm p1 (9 : Int32))), .int (0 : Int32), .int (0 : Int32)]) (rest := []) 1028 114 684 (mL_call hst p0 (19 : Int32) ((-1 : Int32) - (irm p1 (9 : Int32))) (0 : Int32) (0 : Int32) s163 none v165 s166 h164) qyL_call wd_180 wd_181 rfl rfl (by decide) (Nat.le_of_ble_eq_true rfl) ⟨Nat.le_of_ble_eq_true rfl, Nat.le_of_ble_eq_true rfl⟩ dL_refuses_1025 rfl rfl rfl rfl ?_
                                                    refine x_ldc 1030 (-9999001 : Int32) wd_565 dL_refuses_1028 rfl ?_
                                                    rcases ite_inv hF with ⟨hc, hF⟩ | ⟨hc, hF⟩
                                                    · refine x_icmp_ne 1082 1033 dL_refuses_1030 (by decide) rfl (fun q => absurd hc q) (fun _ => ?_)
                                                      refine x_aload_n 1034 0 dL_refuses_1033 rfl rfl ?_
                                                      refine x_iconst 1035 (0 : Int32) dL_refuses_1034 rfl (by decide) ?_
                                                      refine x_lconst 1036 (0 : Int64) dL_refuses_1035 rfl (by decide) ?_
                                                      obtain ⟨v168, s169, h167, hF⟩ := b2_inv hF
                                                      refine x_callSW (As := [.ref p0, .int (0 : Int32), .long (0 : Int64)]) (rest := []) 1039 116 696 (mL_doScript hst p0 (0 : Int32) (0 : Int64) s166 none v168 s169 h167) qyL_doScript wd_827 wd_828 rfl rfl (by decide) (Nat.le_of_ble_eq_true rfl) ⟨Nat.le_of_ble_eq_true rfl, Nat.le_of_ble_eq_true rfl⟩ dL_refuses_1036 rfl rfl rfl rfl ?_
                                                      refine x_ldc 1041 (-9999002 : Int32) wd_287 dL_refuses_1039 rfl ?_
                                                      rcases ite_inv hF with ⟨hc, hF⟩ | ⟨hc, hF⟩
                                                      · refine x_icmp_ne 1082 1044 dL_refuses_1041 (by decide) rfl (fun q => absurd hc q) (fun _ => ?_)
                                                        refine x_aload_n 1045 0 dL_refuses_1044 rfl rfl ?_
                                                        refine x_iconst 1046 (1 : Int32) dL_refuses_1045 rfl (by decide) ?_
                                                        refine x_ldc2 1049 (1000000 : Int64) wd_869 dL_refuses_1046 rfl ?_
                                                        refine x_iload_n 1050 1 dL_refuses_1049 rfl rfl ?_
                                                        refine x_i2l 1051 dL_refuses_1050 rfl ?_
                                                        refine x_ladd 1052 dL_refuses_1051 rfl ?_
                                                        obtain ⟨v171, s172, h170, hF⟩ := b2_inv hF
                                                        refine x_callSW (As := [.ref p0, .int (1 : Int32), .long ((1000000 : Int64) + (p1).toInt64)]) (rest := []) 1055 118 708 (mL_doScript hst p0 (1 : Int32) ((1000000 : Int64) + (p1).toInt64) s169 none v171 s172 h170) qyL_doScript wd_827 wd_828 rfl rfl (by decide) (Nat.le_of_ble_eq_true rfl) ⟨Nat.le_of_ble_eq_true rfl, Nat.le_of_ble_eq_true rfl⟩ dL_refuses_1052 rfl rfl rfl rfl ?_
                                                        refine x_ldc 1057 (-9999002 : Int32) wd_287 dL_refuses_1055 rfl ?_
                                                        rcases ite_inv hF with ⟨hc, hF⟩ | ⟨hc, hF⟩
                                                        · refine x_icmp_ne 1082 1060 dL_refuses_1057 (by decide) rfl (fun q => absurd hc q) (fun _ => ?_)
                                                          refine x_aload_n 1061 0 dL_refuses_1060 rfl rfl ?_
                                                          refine x_iload_n 1062 1 dL_refuses_1061 rfl rfl ?_
                                                          refine x_i2l 1063 dL_refuses_1062 rfl ?_
                                                          refine x_bipush 1065 (61 : Int32) dL_refuses_1063 rfl (by decide) ?_
                                                          refine x_iload_n 1066 1 dL_refuses_1065 rfl rfl ?_
                                                          refine x_bipush 1068 (9 : Int32) dL_refuses_1066 rfl (by decide) ?_
                                                          refine x_irem 1069 (by decide) dL_refuses_1068 rfl ?_
                                                          refine x_iadd 1070 dL_refuses_1069 rfl ?_
                                                          obtain ⟨v174, s175, h173, hF⟩ := b2_inv hF
                                                          refine x_callSW (As := [.ref p0, .long (p1).toInt64, .int ((61 : Int32) + (irm p1 (9 : Int32)))]) (rest := []) 1073 119 714 (mL_doSimulate hst p0 (p1).toInt64 ((61 : Int32) + (irm p1 (9 : Int32))) s172 none v174 s175 h173) qyL_doSimulate wd_870 wd_871 rfl rfl (by decide) (Nat.le_of_ble_eq_true rfl) ⟨Nat.le_of_ble_eq_true rfl, Nat.le_of_ble_eq_true rfl⟩ dL_refuses_1070 rfl rfl rfl rfl ?_
                                                          refine x_ldc 1075 (-9999002 : Int32) wd_287 dL_refuses_1073 rfl ?_
                                                          rcases ite_inv hF with ⟨hc, hF⟩ | ⟨hc, hF⟩
                                                          · refine x_icmp_ne 1082 1078 dL_refuses_1075 (by decide) rfl (fun q => absurd hc q) (fun _ => ?_)
                                                            refine x_iconst 1079 (1 : Int32) dL_refuses_1078 rfl (by decide) ?_
                                                            refine x_goto 1083 dL_refuses_1079 (by decide) ?_
                                                            obtain ⟨e1, e2⟩ := so2 hF
                                                            subst e1
                                                            subst e2
                                                            refine x_sub [(0, .ref p0), (1, .int p1), (2, .int v2)] [0, 1, 2] rfl ?_
                                                            exact hJ
                                                          · refine x_icmp_ne 1082 1078 dL_refuses_1075 (by decide) rfl (fun _ => ?_) (fun q => absurd q hc)
                                                            refine x_iconst 1083 (0 : Int32) dL_refuses_1082 rfl (by decide) ?_
                                                            obtain ⟨e1, e2⟩ := so2 hF
                                                            subst e1
                                                            subst e2
                                                            refine x_sub [(0, .ref p0), (1, .int p1), (2, .int v2)] [0, 1, 2] rfl ?_
                                                            exact hJ
                                                        · refine x_icmp_ne 1082 1060 dL_refuses_1057 (by decide) rfl (fun _ => ?_) (fun q => absurd q hc)
                                                          refine x_iconst 1083 (0 : Int32) dL_refuses_1082 rfl (by decide) ?_
                                                          obtain ⟨e1, e2⟩ := so2 hF
                                                          subst e1
                                                          subst e2
                                                          refine x_wide 119 714 (Nat.le_of_ble_eq_true rfl) (Nat.le_of_ble_eq_true rfl) ?_
                                                          refine x_sub [(0, .ref p0), (1, .int p1), (2, .int v2)] [0, 1, 2] rfl ?_
                                                          exact hJ
                                                      · refine x_icmp_ne 1082 1044 dL_refuses_1041 (by decide) rfl (fun _ => ?_) (fun q => absurd q hc)
                                                        refine x_iconst 1083 (0 : Int32) dL_refuses_1082 rfl (by decide) ?_
                                                        obtain ⟨e1, e2⟩ := so2 hF
                                                        subst e1
                                                        subst e2
                                                        refine x_wide 119 714 (Nat.le_of_ble_eq_true rfl) (Nat.le_of_ble_eq_true rfl) ?_
                                                        refine x_sub [(0, .ref p0), (1, .int p1), (2, .int v2)] [0, 1, 2] rfl ?_
                                                        exact hJ
                                                    · refine x_icmp_ne 1082 1033 dL_refuses_1030 (by decide) rfl (fun _ => ?_) (fun q => absurd q hc)
                                                      refine x_iconst 1083 (0 : Int32) dL_refuses_1082 rfl (by decide) ?_
                                                      obtain ⟨e1, e2⟩ := so2 hF
                                                      subst e1
                                                      subst e2
                                                      refine x_wide 119 714 (Nat.le_of_ble_eq_true rfl) (Nat.le_of_ble_eq_true rfl) ?_
                                                      refine x_sub [(0, .ref p0), (1, .int p1), (2, .int v2)] [0, 1, 2] rfl ?_
                                                      exact hJ
                                                  · refine x_icmp_ne 1082 1014 dL_refuses_1011 (by decide) rfl (fun _ => ?_) (fun q => absurd q hc)
                                                    refine x_iconst 1083 (0 : Int32) dL_refuses_1082 rfl (by decide) ?_
                                                    obtain ⟨e1, e2⟩ := so2 hF
                                                    subst e1
                                                    subst e2
                                                    refine x_wide 119 714 (Nat.le_of_ble_eq_true rfl) (Nat.le_of_ble_eq_true rfl) ?_
                                                    refine x_sub [(0, .ref p0), (1, .int p1), (2, .int v2)] [0, 1, 2] rfl ?_
                                                    exact hJ
                                                · refine x_icmp_ne 1082 995 dL_refuses_992 (by decide) rfl (fun _ => ?_) (fun q => absurd q hc)
                                                  refine x_iconst 1083 (0 : Int32) dL_refuses_1082 rfl (by decide) ?_
                                                  obtain ⟨e1, e2⟩ := so2 hF
                                                  subst e1
                                                  subst e2
                                                  refine x_wide 119 714 (Nat.le_of_ble_eq_true rfl) (Nat.le_of_ble_eq_true rfl) ?_
                                                  refine x_sub [(0, .ref p0), (1, .int p1), (2, .int v2)] [0, 1, 2] rfl ?_
                                                  exact hJ
                                              · refine x_icmp_ne 1082 980 dL_refuses_977 (by decide) rfl (fun _ => ?_) (fun q => absurd q hc)
                                                refine x_iconst 1083 (0 : Int32) dL_refuses_1082 rfl (by decide) ?_
                                                obtain ⟨e1, e2⟩ := so2 hF
                                                subst e1
                                                subst e2
                                                refine x_wide 119 714 (Nat.le_of_ble_eq_true rfl) (Nat.le_of_ble_eq_true rfl) ?_
                                                refine x_sub [(0, .ref p0), (1, .int p1), (2, .int v2)] [0, 1, 2] rfl ?_
                                                exact hJ
                                            · refine x_icmp_ne 1082 965 dL_refuses_962 (by decide) rfl (fun _ => ?_) (fun q => absurd q hc)
                                              refine x_iconst 1083 (0 : Int32) dL_refuses_1082 rfl (by decide) ?_
                                              obtain ⟨e1, e2⟩ := so2 hF
                                              subst e1
                                              subst e2
                                              refine x_wide 119 714 (Nat.le_of_ble_eq_true rfl) (Nat.le_of_ble_eq_true rfl) ?_
                                              refine x_sub [(0, .ref p0), (1, .int p1), (2, .int v2)] [0, 1, 2] rfl ?_
                                              exact hJ
                                          · refine x_icmp_ne 1082 950 dL_refuses_947 (by decide) rfl (fun _ => ?_) (fun q => absurd q hc)
                                            refine x_iconst 1083 (0 : Int32) dL_refuses_1082 rfl (by decide) ?_
                                            obtain ⟨e1, e2⟩ := so2 hF
                                            subst e1
                                            subst e2
                                            refine x_wide 119 714 (Nat.le_of_ble_eq_true rfl) (Nat.le_of_ble_eq_true rfl) ?_
                                            refine x_sub [(0, .ref p0), (1, .int p1), (2, .int v2)] [0, 1, 2] rfl ?_
                                            exact hJ
                                        · refine x_icmp_ne 1082 935 dL_refuses_932 (by decide) rfl (fun _ => ?_) (fun q => absurd q hc)
                                          refine x_iconst 1083 (0 : Int32) dL_refuses_1082 rfl (by decide) ?_
                                          obtain ⟨e1, e2⟩ := so2 hF
                                          subst e1
                                          subst e2
                                          refine x_wide 119 714 (Nat.le_of_ble_eq_true rfl) (Nat.le_of_ble_eq_true rfl) ?_
                                          refine x_sub [(0, .ref p0), (1, .int p1), (2, .int v2)] [0, 1, 2] rfl ?_
                                          exact hJ
                                      · refine x_icmp_ne 1082 921 dL_refuses_918 (by decide) rfl (fun _ => ?_) (fun q => absurd q hc)
                                        refine x_iconst 1083 (0 : Int32) dL_refuses_1082 rfl (by decide) ?_
                                        obtain ⟨e1, e2⟩ := so2 hF
                                        subst e1
                                        subst e2
                                        refine x_wide 119 714 (Nat.le_of_ble_eq_true rfl) (Nat.le_of_ble_eq_true rfl) ?_
                                        refine x_sub [(0, .ref p0), (1, .int p1), (2, .int v2)] [0, 1, 2] rfl ?_
                                        exact hJ
                                    · refine x_icmp_ne 1082 907 dL_refuses_904 (by decide) rfl (fun _ => ?_) (fun q => absurd q hc)
                                      refine x_iconst 1083 (0 : Int32) dL_refuses_1082 rfl (by decide) ?_
                                      obtain ⟨e1, e2⟩ := so2 hF
                                      subst e1
                                      subst e2
                                      refine x_wide 119 714 (Nat.le_of_ble_eq_true rfl) (Nat.le_of_ble_eq_true rfl) ?_
                                      refine x_sub [(0, .ref p0), (1, .int p1), (2, .int v2)] [0, 1, 2] rfl ?_
                                      exact hJ
                                  · refine x_icmp_ne 1082 888 dL_refuses_885 (by decide) rfl (fun _ => ?_) (fun q => absurd q hc)
                                    refine x_iconst 1083 (0 : Int32) dL_refuses_1082 rfl (by decide) ?_
                                    obtain ⟨e1, e2⟩ := so2 hF
                                    subst e1
                                    subst e2
                                    refine x_wide 119 714 (Nat.le_of_ble_eq_true rfl) (Nat.le_of_ble_eq_true rfl) ?_
                                    refine x_sub [(0, .ref p0), (1, .int p1), (2, .int v2)] [0, 1, 2] rfl ?_
                                    exact hJ
                                have hF := h176
                                rcases ite_inv hF with ⟨hc, hF⟩ | ⟨hc, hF⟩
                                · refine x_if_ne 872 868 dL_refuses_865 (by decide) rfl (fun q => absurd hc q) (fun _ => ?_)
                                  refine x_iconst 869 (-1 : Int32) dL_refuses_868 rfl (by decide) ?_
                                  refine x_goto 879 dL_refuses_869 (by decide) ?_
                                  have e1 := Option.some.inj hF
                                  subst e1
                                  exact hJ
                                · refine x_if_ne 872 868 dL_refuses_865 (by decide) rfl (fun _ => ?_) (fun q => absurd q hc)
                                  refine x_bipush 874 (51 : Int32) dL_refuses_872 rfl (by decide) ?_
                                  refine x_iload_n 875 1 dL_refuses_874 rfl rfl ?_
                                  refine x_bipush 877 (9 : Int32) dL_refuses_875 rfl (by decide) ?_
                                  refine x_irem 878 (by decide) dL_refuses_877 rfl ?_
                                  refine x_iadd 879 dL_refuses_878 rfl ?_
                                  have e1 := Option.some.inj hF
                                  subst e1
                                  exact hJ
                              · refine x_icmp_ne 1082 858 dL_refuses_855 (by decide) rfl (fun _ => ?_) (fun q => absurd q hc)
                                refine x_iconst 1083 (0 : Int32) dL_refuses_1082 rfl (by decide) ?_
                                obtain ⟨e1, e2⟩ := so2 hF
                                subst e1
                                subst e2
                                refine x_wide 119 714 (Nat.le_of_ble_eq_true rfl) (Nat.le_of_ble_eq_true rfl) ?_
                                refine x_sub [(0, .ref p0), (1, .int p1), (2, .int v2)] [0, 1, 2] rfl ?_
                                exact hJ
                            have hF := h177
                            rcases ite_inv hF with ⟨hc, hF⟩ | ⟨hc, hF⟩
                            · refine x_if_ne 842 838 dL_refuses_835 (by decide) rfl (fun q => absurd hc q) (fun _ => ?_)
                              refine x_iconst 839 (-1 : Int32) dL_refuses_838 rfl (by decide) ?_
                              refine x_goto 849 dL_refuses_839 (by decide) ?_
                              have e1 := Option.some.inj hF
                              subst e1
                              refine x_sub [(0, .ref p0), (1, .int p1), (2, .int v2), (3, .int x4), (4, .int x5), (5, .int x6)] [0, 1, 2, 3, 4, 5] rfl ?_
                              exact hJ
                            · refine x_if_ne 842 838 dL_refuses_835 (by decide) rfl (fun _ => ?_) (fun q => absurd q hc)
                              refine x_bipush 844 (6 : Int32) dL_refuses_842 rfl (by decide) ?_
                              refine x_iload_n 845 1 dL_refuses_844 rfl rfl ?_
                              refine x_bipush 847 (9 : Int32) dL_refuses_845 rfl (by decide) ?_
                              refine x_irem 848 (by decide) dL_refuses_847 rfl ?_
                              refine x_iadd 849 dL_refuses_848 rfl ?_
                              have e1 := Option.some.inj hF
                              subst e1
                              refine x_sub [(0, .ref p0), (1, .int p1), (2, .int v2), (3, .int x4), (4, .int x5), (5, .int x6)] [0, 1, 2, 3, 4, 5] rfl ?_
                              exact hJ
                          · refine x_icmp_ne 1082 828 dL_refuses_825 (by decide) rfl (fun _ => ?_) (fun q => absurd q hc)
                            refine x_iconst 1083 (0 : Int32) dL_refuses_1082 rfl (by decide) ?_
                            obtain ⟨e1, e2⟩ := so2 hF
                            subst e1
                            subst e2
                            refine x_wide 119 714 (Nat.le_of_ble_eq_true rfl) (Nat.le_of_ble_eq_true rfl) ?_
                            refine x_sub [(0, .ref p0), (1, .int p1), (2, .int v2)] [0, 1, 2] rfl ?_
                            exact hJ
                        · refine x_icmp_ne 1082 813 dL_refuses_810 (by decide) rfl (fun _ => ?_) (fun q => absurd q hc)
                          refine x_iconst 1083 (0 : Int32) dL_refuses_1082 rfl (by decide) ?_
                          obtain ⟨e1, e2⟩ := so2 hF
                          subst e1
                          subst e2
                          refine x_wide 119 714 (Nat.le_of_ble_eq_true rfl) (Nat.le_of_ble_eq_true rfl) ?_
                          refine x_sub [(0, .ref p0), (1, .int p1), (2, .int v2)] [0, 1, 2] rfl ?_
                          exact hJ
                      · refine x_icmp_ne 1082 798 dL_refuses_795 (by decide) rfl (fun _ => ?_) (fun q => absurd q hc)
                        refine x_iconst 1083 (0 : Int32) dL_refuses_1082 rfl (by decide) ?_
                        obtain ⟨e1, e2⟩ := so2 hF
                        subst e1
                        subst e2
                        refine x_wide 119 714 (Nat.le_of_ble_eq_true rfl) (Nat.le_of_ble_eq_true rfl) ?_
                        refine x_sub [(0, .ref p0), (1, .int p1), (2, .int v2)] [0, 1, 2] rfl ?_
                        exact hJ
                    have hF := h178
                    rcases ite_inv hF with ⟨hc, hF⟩ | ⟨hc, hF⟩
                    · refine x_if_ne 782 778 dL_refuses_775 (by decide) rfl (fun q => absurd hc q) (fun _ => ?_)
                      refine x_iconst 779 (-1 : Int32) dL_refuses_778 rfl (by decide) ?_
                      refine x_goto 789 dL_refuses_779 (by decide) ?_
                      have e1 := Option.some.inj hF
                      subst e1
                      refine x_sub [(0, .ref p0), (1, .int p1), (2, .int v2), (3, .int x4), (4, .int x5), (5, .int x6), (6, .int x7)] [1, 2, 3, 4, 5, 6, 7] rfl ?_
                      exact hJ
                    · refine x_if_ne 782 778 dL_refuses_775 (by decide) rfl (fun _ => ?_) (fun q => absurd q hc)
                      refine x_bipush 784 (10 : Int32) dL_refuses_782 rfl (by decide) ?_
                      refine x_iload_n 785 2 dL_refuses_784 rfl rfl ?_
                      refine x_bipush 787 (9 : Int32) dL_refuses_785 rfl (by decide) ?_
                      refine x_irem 788 (by decide) dL_refuses_787 rfl ?_
                      refine x_iadd 789 dL_refuses_788 rfl ?_
                      have e1 := Option.some.inj hF
                      subst e1
                      refine x_sub [(0, .ref p0), (1, .int p1), (2, .int v2), (3, .int x4), (4, .int x5), (5, .int x6), (6, .int x7)] [1, 2, 3, 4, 5, 6, 7] rfl ?_
                      exact hJ
                  · refine x_icmp_ne 1082 768 dL_refuses_765 (by decide) rfl (fun _ => ?_) (fun q => absurd q hc)
                    refine x_iconst 1083 (0 : Int32) dL_refuses_1082 rfl (by decide) ?_
                    obtain ⟨e1, e2⟩ := so2 hF
                    subst e1
                    subst e2
                    refine x_wide 119 714 (Nat.le_of_ble_eq_true rfl) (Nat.le_of_ble_eq_true rfl) ?_
                    refine x_sub [(0, .ref p0), (1, .int p1), (2, .int v2)] [1, 2, 3] rfl ?_
                    exact hJ
                · refine x_icmp_ne 1082 752 dL_refuses_749 (by decide) rfl (fun _ => ?_) (fun q => absurd q hc)
                  refine x_iconst 1083 (0 : Int32) dL_refuses_1082 rfl (by decide) ?_
                  obtain ⟨e1, e2⟩ := so2 hF
                  subst e1
                  subst e2
                  refine x_wide 119 714 (Nat.le_of_ble_eq_true rfl) (Nat.le_of_ble_eq_true rfl) ?_
                  refine x_sub [(0, .ref p0), (1, .int p1), (2, .int v2)] [1, 2, 3] rfl ?_
                  exact hJ
            have hF := h195
            rcases ite_inv hF with ⟨hc, hF⟩ | ⟨hc, hF⟩
            · refine x_icmp_ne 730 138 dL_refuses_135 (by decide) rfl (fun q => absurd hc q) (fun _ => ?_)
              refine x_aload_n 139 0 dL_refuses_138 rfl rfl ?_
              refine x_iconst 140 (2 : Int32) dL_refuses_139 rfl (by decide) ?_
              refine x_bipush 142 (10 : Int32) dL_refuses_140 rfl (by decide) ?_
              refine x_iload_n 143 1 dL_refuses_142 rfl rfl ?_
              refine x_bipush 145 (50 : Int32) dL_refuses_143 rfl (by decide) ?_
              refine x_irem 146 (by decide) dL_refuses_145 rfl ?_
              refine x_iadd 147 dL_refuses_146 rfl ?_
              refine x_iconst 148 (0 : Int32) dL_refuses_147 rfl (by decide) ?_
              refine x_iconst 149 (0 : Int32) dL_refuses_148 rfl (by decide) ?_
              obtain ⟨v15, s16, h14, hF⟩ := b2_inv hF
              refine x_callS (As := [.ref p0, .int (2 : Int32), .int ((10 : Int32) + (irm p1 (50 : Int32))), .int (0 : Int32), .int (0 : Int32)]) (rest := []) 152 6 36 (mL_call hst p0 (2 : Int32) ((10 : Int32) + (irm p1 (50 : Int32))) (0 : Int32) (0 : Int32) s11 none v15 s16 h14) qyL_call wd_180 wd_181 rfl rfl (by decide) (Nat.le_of_ble_eq_true rfl) ⟨Nat.le_of_ble_eq_true rfl, Nat.le_of_ble_eq_true rfl⟩ dL_refuses_149 rfl rfl rfl rfl ?_
              refine x_ldc 154 (-9999002 : Int32) wd_287 dL_refuses_152 rfl ?_
              rcases ite_inv hF with ⟨hc, hF⟩ | ⟨hc, hF⟩
              · refine x_icmp_ne 730 157 dL_refuses_154 (by decide) rfl (fun q => absurd hc q) (fun _ => ?_)
                refine x_aload_n 158 0 dL_refuses_157 rfl rfl ?_
                refine x_iconst 159 (3 : Int32) dL_refuses_158 rfl (by decide) ?_
                refine x_iload_n 160 3 dL_refuses_159 rfl rfl ?_
                refine x_bipush 162 (99 : Int32) dL_refuses_160 rfl (by decide) ?_
                refine x_iconst 163 (0 : Int32) dL_refuses_162 rfl (by decide) ?_
                obtain ⟨v18, s19, h17, hF⟩ := b2_inv hF
                refine x_callS (As := [.ref p0, .int (3 : Int32), .int x4, .int (99 : Int32), .int (0 : Int32)]) (rest := []) 166 8 48 (mL_call hst p0 (3 : Int32) x4 (99 : Int32) (0 : Int32) s16 none v18 s19 h17) qyL_call wd_180 wd_181 rfl rfl (by decide) (Nat.le_of_ble_eq_true rfl) ⟨Nat.le_of_ble_eq_true rfl, Nat.le_of_ble_eq_true rfl⟩ dL_refuses_163 rfl rfl rfl rfl ?_
                refine x_ldc 168 (-9999001 : Int32) wd_565 dL_refuses_166 rfl ?_
                rcases ite_inv hF with ⟨hc, hF⟩ | ⟨hc, hF⟩
                · refine x_icmp_ne 730 171 dL_refuses_168 (by decide) rfl (fun q => absurd hc q) (fun _ => ?_)
                  refine x_iload_n 172 2 dL_refuses_171 rfl rfl ?_
                  rcases bc_inv hF with ⟨s20, h113, hF⟩ | ⟨s21, h113, hF⟩
                  · have hJ : qX l G RL "refuses" cL_refuses 8 (some .boolean) [] rmL_refuses 125 750 (.inl (some (.int ro), so, none)) 10 60 s20 none 194 [(0, .ref p0), (1, .int p1), (2, .int v2), (3, .int x4), (4, .int x5), (5, .int x6), (6, .int x7)] [] := by
                      refine x_aload_n 195 0 dL_refuses_194 rfl rfl ?_
                      refine x_iconst 196 (4 : Int32) dL_refuses_195 rfl (by decide) ?_
                      refine x_iload 198 5 dL_refuses_196 rfl rfl ?_
                      refine x_bipush 200 (9 : Int32) dL_refuses_198 rfl (by decide) ?_
                      refine x_iconst 201 (0 : Int32) dL_refuses_200 rfl (by decide) ?_
                      obtain ⟨v23, s24, h22, hF⟩ := b2_inv hF
                      refine x_callS (As := [.ref p0, .int (4 : Int32), .int x6, .int (9 : Int32), .int (0 : Int32)]) (rest := []) 204 12 72 (mL_call hst p0 (4 : Int32) x6 (9 : Int32) (0 : Int32) s20 none v23 s24 h22) qyL_call wd_180 wd_181 rfl rfl (by decide) (Nat.le_of_ble_eq_true rfl) ⟨Nat.le_of_ble_eq_true rfl, Nat.le_of_ble_eq_true rfl⟩ dL_refuses_201 rfl rfl rfl rfl ?_
                      refine x_ldc 206 (-9999001 : Int32) wd_565 dL_refuses_204 rfl ?_
                      rcases ite_inv hF with ⟨hc, hF⟩ | ⟨hc, hF⟩
                      · refine x_icmp_ne 730 209 dL_refuses_206 (by decide) rfl (fun q => absurd hc q) (fun _ => ?_)
                        refine x_aload_n 210 0 dL_refuses_209 rfl rfl ?_
                        refine x_iconst 211 (4 : Int32) dL_refuses_210 rfl (by decide) ?_
                        refine x_iconst 212 (0 : Int32) dL_refuses_211 rfl (by decide) ?_
                        refine x_iconst 213 (5 : Int32) dL_refuses_212 rfl (by decide) ?_
                        refine x_iload_n 214 1 dL_refuses_213 rfl rfl ?_
                        refine x_bipush 216 (9 : Int32) dL_refuses_214 rfl (by decide) ?_
                        refine x_irem 217 (by decide) dL_refuses_216 rfl ?_
                        refine x_iadd 218 dL_refuses_217 rfl ?_
                        refine x_iconst 219 (0 : Int32) dL_refuses_218 rfl (by decide) ?_
                        obtain ⟨v26, s27, h25, hF⟩ := b2_inv hF
                        refine x_callS (As := [.ref p0, .int (4 : Int32), .int (0 : Int32), .int ((5 : Int32) + (irm p1 (9 : Int32))), .int (0 : Int32)]) (rest := []) 222 14 84 (mL_call hst p0 (4 : Int32) (0 : Int32) ((5 : Int32) + (irm p1 (9 : Int32))) (0 : Int32) s24 none v26 s27 h25) qyL_call wd_180 wd_181 rfl rfl (by decide) (Nat.le_of_ble_eq_true rfl) ⟨Nat.le_of_ble_eq_true rfl, Nat.le_of_ble_eq_true rfl⟩ dL_refuses_219 rfl rfl rfl rfl ?_
                        refine x_ldc 224 (-9999002 : Int32) wd_287 dL_refuses_222 rfl ?_
                        rcases ite_inv hF with ⟨hc, hF⟩ | ⟨hc, hF⟩
                        · refine x_icmp_ne 730 227 dL_refuses_224 (by decide) rfl (fun q => absurd hc q) (fun _ => ?_)
                          refine x_aload_n 228 0 dL_refuses_227 rfl rfl ?_
                          refine x_iconst 229 (5 : Int32) dL_refuses_228 rfl (by decide) ?_
                          refine x_iload 231 4 dL_refuses_229 rfl rfl ?_
                          refine x_bipush 233 (9 : Int32) dL_refuses_231 rfl (by decide) ?_
                          refine x_iconst 234 (0 : Int32) dL_refuses_233 rfl (by decide) ?_
                          obtain ⟨v29, s30, h28, hF⟩ := b2_inv hF
                          refine x_callS (As := [.ref p0, .int (5 : Int32), .int x5, .int (9 : Int32), .int (0 : Int32)]) (rest := []) 237 16 96 (mL_call hst p0 (5 : Int32) x5 (9 : Int32) (0 : Int32) s27 none v29 s30 h28) qyL_call wd_180 wd_181 rfl rfl (by decide) (Nat.le_of_ble_eq_true rfl) ⟨Nat.le_of_ble_eq_true rfl, Nat.le_of_ble_eq_true rfl⟩ dL_refuses_234 rfl rfl rfl rfl ?_
                          refine x_ldc 239 (-9999001 : Int32) wd_565 dL_refuses_237 rfl ?_
                          rcases ite_inv hF with ⟨hc, hF⟩ | ⟨hc, hF⟩
                          · refine x_icmp_ne 730 242 dL_refuses_239 (by decide) rfl (fun q => absurd hc q) (fun _ => ?_)
                            refine x_aload_n 243 0 dL_refuses_242 rfl rfl ?_
                            refine x_iconst 244 (5 : Int32) dL_refuses_243 rfl (by decide) ?_
                            refine x_iconst 245 (0 : Int32) dL_refuses_244 rfl (by decide) ?_
                            refine x_iconst 246 (3 : Int32) dL_refuses_245 rfl (by decide) ?_
                            refine x_iload_n 247 1 dL_refuses_246 rfl rfl ?_
                            refine x_bipush 249 (9 : Int32) dL_refuses_247 rfl (by decide) ?_
                            refine x_irem 250 (by decide) dL_refuses_249 rfl ?_
                            refine x_iadd 251 dL_refuses_250 rfl ?_
                            refine x_iconst 252 (0 : Int32) dL_refuses_251 rfl (by decide) ?_
                            obtain ⟨v32, s33, h31, hF⟩ := b2_inv hF
                            refine x_callS (As := [.ref p0, .int (5 : Int32), .int (0 : Int32), .int ((3 : Int32) + (irm p1 (9 : Int32))), .int (0 : Int32)]) (rest := []) 255 18 108 (mL_call hst p0 (5 : Int32) (0 : Int32) ((3 : Int32) + (irm p1 (9 : Int32))) (0 : Int32) s30 none v32 s33 h31) qyL_call wd_180 wd_181 rfl rfl (by decide) (Nat.le_of_ble_eq_true rfl) ⟨Nat.le_of_ble_eq_true rfl, Nat.le_of_ble_eq_true rfl⟩ dL_refuses_252 rfl rfl rfl rfl ?_
                            refine x_ldc 257 (-9999002 : Int32) wd_287 dL_refuses_255 rfl ?_
                            rcases ite_inv hF with ⟨hc, hF⟩ | ⟨hc, hF⟩
                            · refine x_icmp_ne 730 260 dL_refuses_257 (by decide) rfl (fun q => absurd hc q) (fun _ => ?_)
                              refine x_aload_n 261 0 dL_refuses_260 rfl rfl ?_
                              refine x_bipush 263 (6 : Int32) dL_refuses_261 rfl (by decide) ?_
                              refine x_iload 265 4 dL_refuses_263 rfl rfl ?_
                              refine x_iconst 266 (0 : Int32) dL_refuses_265 rfl (by decide) ?_
                              refine x_iconst 267 (0 : Int32) dL_refuses_266 rfl (by decide) ?_
                              obtain ⟨v35, s36, h34, hF⟩ := b2_inv hF
                              refine x_callS (As := [.ref p0, .int (6 : Int32), .int x5, .int (0 : Int32), .int (0 : Int32)]) (rest := []) 270 20 120 (mL_call hst p0 (6 : Int32) x5 (0 : Int32) (0 : Int32) s33 none v35 s36 h34) qyL_call wd_180 wd_181 rfl rfl (by decide) (Nat.le_of_ble_eq_true rfl) ⟨Nat.le_of_ble_eq_true rfl, Nat.le_of_ble_eq_true rfl⟩ dL_refuses_267 rfl rfl rfl rfl ?_
                              refine x_ldc 272 (-9999001 : Int32) wd_565 dL_refuses_270 rfl ?_
                              rcases ite_inv hF with ⟨hc, hF⟩ | ⟨hc, hF⟩
                              · refine x_icmp_ne 730 275 dL_refuses_272 (by decide) rfl (fun q => absurd hc q) (fun _ => ?_)
                                refine x_aload_n 276 0 dL_refuses_275 rfl rfl ?_
                                refine x_bipush 278 (6 : Int32) dL_refuses_276 rfl (by decide) ?_
                                refine x_iconst 279 (0 : Int32) dL_refuses_278 rfl (by decide) ?_
                                refine x_iload 281 6 dL_refuses_279 rfl rfl ?_
                                refine x_iconst 282 (0 : Int32) dL_refuses_281 rfl (by decide) ?_
                                obtain ⟨v38, s39, h37, hF⟩ := b2_inv hF
                                refine x_callS (As := [.ref p0, .int (6 : Int32), .int (0 : Int32), .int x7, .int (0 : Int32)]) (rest := []) 285 22 132 (mL_call hst p0 (6 : Int32) (0 : Int32) x7 (0 : Int32) s36 none v38 s39 h37) qyL_call wd_180 wd_181 rfl rfl (by decide) (Nat.le_of_ble_eq_true rfl) ⟨Nat.le_of_ble_eq_true rfl, Nat.le_of_ble_eq_true rfl⟩ dL_refuses_282 rfl rfl rfl rfl ?_
                                refine x_ldc 287 (-9999002 : Int32) wd_287 dL_refuses_285 rfl ?_
                                rcases ite_inv hF with ⟨hc, hF⟩ | ⟨hc, hF⟩
                                · refine x_icmp_ne 730 290 dL_refuses_287 (by decide) rfl (fun q => absurd hc q) (fun _ => ?_)
                                  refine x_aload_n 291 0 dL_refuses_290 rfl rfl ?_
                                  refine x_bipush 293 (7 : Int32) dL_refuses_291 rfl (by decide) ?_
                                  refine x_iload 295 4 dL_refuses_293 rfl rfl ?_
                                  refine x_bipush 297 (9 : Int32) dL_refuses_295 rfl (by decide) ?_
                                  refine x_bipush 299 (9 : Int32) dL_refuses_297 rfl (by decide) ?_
                                  obtain ⟨v41, s42, h40, hF⟩ := b2_inv hF
                                  refine x_callS (As := [.ref p0, .int (7 : Int32), .int x5, .int (9 : Int32), .int (9 : Int32)]) (rest := []) 302 24 144 (mL_call hst p0 (7 : Int32) x5 (9 : Int32) (9 : Int32) s39 none v41 s42 h40) qyL_call wd_180 wd_181 rfl rfl (by decide) (Nat.le_of_ble_eq_true rfl) ⟨Nat.le_of_ble_eq_true rfl, Nat.le_of_ble_eq_true rfl⟩ dL_refuses_299 rfl rfl rfl rfl ?_
                                  refine x_ldc 304 (-9999001 : Int32) wd_565 dL_refuses_302 rfl ?_
                                  rcases ite_inv hF with ⟨hc, hF⟩ | ⟨hc, hF⟩
                                  · refine x_icmp_ne 730 307 dL_refuses_304 (by decide) rfl (fun q => absurd hc q) (fun _ => ?_)
                                    refine x_aload_n 308 0 dL_refuses_307 rfl rfl ?_
                                    refine x_bipush 310 (7 : Int32) dL_refuses_308 rfl (by decide) ?_
                                    refine x_iconst 311 (0 : Int32) dL_refuses_310 rfl (by decide) ?_
                                    refine x_iconst 312 (3 : Int32) dL_refuses_311 rfl (by decide) ?_
                                    refine x_iload_n 313 1 dL_refuses_312 rfl rfl ?_
                                    refine x_bipush 315 (9 : Int32) dL_refuses_313 rfl (by decide) ?_
                                    refine x_irem 316 (by decide) dL_refuses_315 rfl ?_
                                    refine x_iadd 317 dL_refuses_316 rfl ?_
                                    refine x_iconst 318 (0 : Int32) dL_refuses_317 rfl (by decide) ?_
                                    obtain ⟨v44, s45, h43, hF⟩ := b2_inv hF
                                    refine x_callS (As := [.ref p0, .int (7 : Int32), .int (0 : Int32), .int ((3 : Int32) + (irm p1 (9 : Int32))), .int (0 : Int32)]) (rest := []) 321 26 156 (mL_call hst p0 (7 : Int32) (0 : Int32) ((3 : Int32) + (irm p1 (9 : Int32))) (0 : Int32) s42 none v44 s45 h43) qyL_call wd_180 wd_181 rfl rfl (by decide) (Nat.le_of_ble_eq_true rfl) ⟨Nat.le_of_ble_eq_true rfl, Nat.le_of_ble_eq_true rfl⟩ dL_refuses_318 rfl rfl rfl rfl ?_
                                    refine x_ldc 323 (-9999002 : Int32) wd_287 dL_refuses_321 rfl ?_
                                    rcases ite_inv hF with ⟨hc, hF⟩ | ⟨hc, hF⟩
                                    · refine x_icmp_ne 730 326 dL_refuses_323 (by decide) rfl (fun q => absurd hc q) (fun _ => ?_)
                                      refine x_aload_n 327 0 dL_refuses_326 rfl rfl ?_
                                      refine x_bipush 329 (7 : Int32) dL_refuses_327 rfl (by decide) ?_
                                      refine x_iconst 330 (0 : Int32) dL_refuses_329 rfl (by decide) ?_
                                      refine x_iconst 331 (0 : Int32) dL_refuses_330 rfl (by decide) ?_
                                      refine x_iconst 332 (2 : Int32) dL_refuses_331 rfl (by decide) ?_
                                      refine x_iload_n 333 1 dL_refuses_332 rfl rfl ?_
                                      refine x_bipush 335 (9 : Int32) dL_refuses_333 rfl (by decide) ?_
                                      refine x_irem 336 (by decide) dL_refuses_335 rfl ?_
                                      refine x_iadd 337 dL_refuses_336 rfl ?_
                                      obtain ⟨v47, s48, h46, hF⟩ := b2_inv hF
                                      refine x_callS (As := [.ref p0, .int (7 : Int32), .int (0 : Int32), .int (0 : Int32), .int ((2 : Int32) + (irm p1 (9 : Int32)))]) (rest := []) 340 28 168 (mL_call hst p0 (7 : Int32) (0 : Int32) (0 : Int32) ((2 : Int32) + (irm p1 (9 : Int32))) s45 none v47 s48 h46) qyL_call wd_180 wd_181 rfl rfl (by decide) (Nat.le_of_ble_eq_true rfl) ⟨Nat.le_of_ble_eq_true rfl, Nat.le_of_ble_eq_true rfl⟩ dL_refuses_337 rfl rfl rfl rfl ?_
                                      refine x_ldc 342 (-9999002 : Int32) wd_287 dL_refuses_340 rfl ?_
                                      rcases ite_inv hF with ⟨hc, hF⟩ | ⟨hc, hF⟩
                                      · refine x_icmp_ne 730 345 dL_refuses_342 (by decide) rfl (fun q => absurd hc q) (fun _ => ?_)
                                        refine x_aload_n 346 0 dL_refuses_345 rfl rfl ?_
                                        refine x_bipush 348 (8 : Int32) dL_refuses_346 rfl (by decide) ?_
                                        refine x_iconst 349 (2 : Int32) dL_refuses_348 rfl (by decide) ?_
                                        refine x_iload_n 350 1 dL_refuses_349 rfl rfl ?_
                                        refine x_bipush 352 (9 : Int32) dL_refuses_350 rfl (by decide) ?_
                                        refine x_irem 353 (by decide) dL_refuses_352 rfl ?_
                                        refine x_iadd 354 dL_refuses_353 rfl ?_
                                        refine x_iconst 355 (0 : Int32) dL_refuses_354 rfl (by decide) ?_
                                        refine x_iconst 356 (0 : Int32) dL_refuses_355 rfl (by decide) ?_
                                        obtain ⟨v50, s51, h49, hF⟩ := b2_inv hF
                                        refine x_callS (As := [.ref p0, .int (8 : Int32), .int ((2 : Int32) + (irm p1 (9 : Int32))), .int (0 : Int32), .int (0 : Int32)]) (rest := []) 359 30 180 (mL_call hst p0 (8 : Int32) ((2 : Int32) + (irm p1 (9 : Int32))) (0 : Int32) (0 : Int32) s48 none v50 s51 h49) qyL_call wd_180 wd_181 rfl rfl (by decide) (Nat.le_of_ble_eq_true rfl) ⟨Nat.le_of_ble_eq_true rfl, Nat.le_of_ble_eq_true rfl⟩ dL_refuses_356 rfl rfl rfl rfl ?_
                                        refine x_ldc 361 (-9999002 : Int32) wd_287 dL_refuses_359 rfl ?_
                                        rcases ite_inv hF with ⟨hc, hF⟩ | ⟨hc, hF⟩
                                        · refine x_icmp_ne 730 364 dL_refuses_361 (by decide) rfl (fun q => absurd hc q) (fun _ => ?_)
                                          refine x_aload_n 365 0 dL_refuses_364 rfl rfl ?_
                                          refine x_iload 367 4 dL_refuses_365 rfl rfl ?_
                                          refine x_iconst 368 (0 : Int32) dL_refuses_367 rfl (by decide) ?_
                                          refine x_bipush 370 (9 : Int32) dL_refuses_368 rfl (by decide) ?_
                                          refine x_iconst 371 (0 : Int32) dL_refuses_370 rfl (by decide) ?_
                                          refine x_iconst 372 (0 : Int32) dL_refuses_371 rfl (by decide) ?_
                                          refine x_iconst 373 (0 : Int32) dL_refuses_372 rfl (by decide) ?_
                                          refine x_iconst 374 (0 : Int32) dL_refuses_373 rfl (by decide) ?_
                                          obtain ⟨v53, s54, h52, hF⟩ := b2_inv hF
                                          refine x_callSW (As := [.ref p0, .int x5, .int (0 : Int32), .int (9 : Int32), .int (0 : Int32), .int (0 : Int32), .int (0 : Int32), .int (0 : Int32)]) (rest := []) 377 34 204 (mL_told hst p0 x5 (0 : Int32) (9 : Int32) (0 : Int32) (0 : Int32) (0 : Int32) (0 : Int32) s51 none v53 s54 h52) qyL_told wd_816 wd_817 rfl rfl (by decide) (Nat.le_of_ble_eq_true rfl) ⟨Nat.le_of_ble_eq_true rfl, Nat.le_of_ble_eq_true rfl⟩ dL_refuses_374 rfl rfl rfl rfl ?_
                                          refine x_ldc 379 (-9999001 : Int32) wd_565 dL_refuses_377 rfl ?_
                                          rcases ite_inv hF with ⟨hc, hF⟩ | ⟨hc, hF⟩
                                          · refine x_icmp_ne 730 382 dL_refuses_379 (by decide) rfl (fun q => absurd hc q) (fun _ => ?_)
                                            refine x_aload_n 383 0 dL_refuses_382 rfl rfl ?_
                                            refine x_iconst 384 (0 : Int32) dL_refuses_383 rfl (by decide) ?_
                                            refine x_iload 386 5 dL_refuses_384 rfl rfl ?_
                                            refine x_bipush 388 (9 : Int32) dL_refuses_386 rfl (by decide) ?_
                                            refine x_iconst 389 (0 : Int32) dL_refuses_388 rfl (by decide) ?_
                                            refine x_iconst 390 (0 : Int32) dL_refuses_389 rfl (by decide) ?_
                                            refine x_iconst 391 (0 : Int32) dL_refuses_390 rfl (by decide) ?_
                                            refine x_iconst 392 (0 : Int32) dL_refuses_391 rfl (by decide) ?_
                                            obtain ⟨v56, s57, h55, hF⟩ := b2_inv hF
                                            refine x_callSW (As := [.ref p0, .int (0 : Int32), .int x6, .int (9 : Int32), .int (0 : Int32), .int (0 : Int32), .int (0 : Int32), .int (0 : Int32)]) (rest := []) 395 38 228 (mL_told hst p0 (0 : Int32) x6 (9 : Int32) (0 : Int32) (0 : Int32) (0 : Int32) (0 : Int32) s54 none v56 s57 h55) qyL_told wd_816 wd_817 rfl rfl (by decide) (Nat.le_of_ble_eq_true rfl) ⟨Nat.le_of_ble_eq_true rfl, Nat.le_of_ble_eq_true rfl⟩ dL_refuses_392 rfl rfl rfl rfl ?_
                                            refine x_ldc 397 (-9999001 : Int32) wd_565 dL_refuses_395 rfl ?_
                                            rcases ite_inv hF with ⟨hc, hF⟩ | ⟨hc, hF⟩
                                            · refine x_icmp_ne 730 400 dL_refuses_397 (by decide) rfl (fun q => absurd hc q) (fun _ => ?_)
                                              refine x_aload_n 401 0 dL_refuses_400 rfl rfl ?_
                                              refine x_iconst 402 (0 : Int32) dL_refuses_401 rfl (by decide) ?_
                                              refine x_iconst 403 (0 : Int32) dL_refuses_402 rfl (by decide) ?_
                                              refine x_iload_n 404 1 dL_refuses_403 rfl rfl ?_
                                              refine x_iconst 405 (2 : Int32) dL_refuses_404 rfl (by decide) ?_
                                              refine x_irem 406 (by decide) dL_refuses_405 rfl ?_
                                              obtain ⟨x58, h106, hF⟩ := b1_inv hF
                                              have hJ : qX l G RL "refuses" cL_refuses 8 (some .boolean) [] rmL_refuses 125 750 (.inl (some (.int ro), so, none)) 38 228 s57 none 419 [(0, .ref p0), (1, .int p1), (2, .int v2), (3, .int x4), (4, .int x5), (5, .int x6), (6, .int x7)] [.int x58, .int (0 : Int32), .int (0 : Int32), .ref p0] := by
                                                refine x_iconst 420 (5 : Int32) dL_refuses_419 rfl (by decide) ?_
                                                refine x_iconst 421 (5 : Int32) dL_refuses_420 rfl (by decide) ?_
                                                refine x_iconst 422 (5 : Int32) dL_refuses_421 rfl (by decide) ?_
                                                refine x_iconst 423 (0 : Int32) dL_refuses_422 rfl (by decide) ?_
                                                obtain ⟨v60, s61, h59, hF⟩ := b2_inv hF
                                                refine x_callSW (As := [.ref p0, .int (0 : Int32), .int (0 : Int32), .int x58, .int (5 : Int32), .int (5 : Int32), .int (5 : Int32), .int (0 : Int32)]) (rest := []) 426 42 252 (mL_told hst p0 (0 : Int32) (0 : Int32) x58 (5 : Int32) (5 : Int32) (5 : Int32) (0 : Int32) s57 none v60 s61 h59) qyL_told wd_816 wd_817 rfl rfl (by decide) (Nat.le_of_ble_eq_true rfl) ⟨Nat.le_of_ble_eq_true rfl, Nat.le_of_ble_eq_true rfl⟩ dL_refuses_423 rfl rfl rfl rfl ?_
                                                refine x_ldc 428 (-9999002 : Int32) wd_287 dL_refuses_426 rfl ?_
                                                rcases ite_inv hF with ⟨hc, hF⟩ | ⟨hc, hF⟩
                                                · refine x_icmp_ne 730 431 dL_refuses_428 (by decide) rfl (fun q => absurd hc q) (fun _ => ?_)
                                                  refine x_aload_n 432 0 dL_refuses_431 rfl rfl ?_
                                                  refine x_iconst 433 (0 : Int32) dL_refuses_432 rfl (by decide) ?_
                                                  refine x_iconst 434 (0 : Int32) dL_refuses_433 rfl (by decide) ?_
                                                  refine x_iconst 435 (0 : Int32) dL_refuses_434 rfl (by decide) ?_
                                                  refine x_iload_n 436 1 dL_refuses_435 rfl rfl ?_
                                                  refine x_iconst 437 (2 : Int32) dL_refuses_436 rfl (by decide) ?_
                                                  refine x_irem 438 (by decide) dL_refuses_437 rfl ?_
                                                  obtain ⟨x62, h105, hF⟩ := b1_inv hF
                                                  have hJ : qX l G RL "refuses" cL_refuses 8 (some .boolean) [] rmL_refuses 125 750 (.inl (some (.int ro), so, none)) 42 252 s61 none 452 [(0, .ref p0), (1, .int p1), (2, .int v2), (3, .int x4), (4, .int x5), (5, .int x6), (6, .int x7)] [.int x62, .int (0 : Int32), .int (0 : Int32), .int (0 : Int32), .ref p0] := by
                                                    refine x_iconst 453 (5 : Int32) dL_refuses_452 rfl (by decide) ?_
                                                    refine x_iconst 454 (5 : Int32) dL_refuses_453 rfl (by decide) ?_
                                                    refine x_iconst 455 (0 : Int32) dL_refuses_454 rfl (by decide) ?_
                                                    obtain ⟨v64, s65, h63, hF⟩ := b2_inv hF
                                                    refine x_callSW (As := [.ref p0, .int (0 : Int32), .int (0 : Int32), .int (0 : Int32), .int x62, .int (5 : Int32), .int (5 : Int32), .int (0 : Int32)]) (rest := []) 458 46 276 (mL_told hst p0 (0 : Int32) (0 : Int32) (0 : Int32) x62 (5 : Int32) (5 : Int32) (0 : Int32) s61 none v64 s65 h63) qyL_told wd_816 wd_817 rfl rfl (by decide) (Nat.le_of_ble_eq_true rfl) ⟨Nat.le_of_ble_eq_true rfl, Nat.le_of_ble_eq_true rfl⟩ dL_refuses_455 rfl rfl rfl rfl ?_
                                                    refine x_ldc 460 (-9999002 : Int32) wd_287 dL_refuses_458 rfl ?_
                                                    rcases ite_inv hF with ⟨hc, hF⟩ | ⟨hc, hF⟩
                                                    · refine x_icmp_ne 730 463 dL_refuses_460 (by decide) rfl (fun q => absurd hc q) (fun _ => ?_)
                                                      refine x_aload_n 464 0 dL_refuses_463 rfl rfl ?_
                                                      refine x_iconst 465 (0 : Int32) dL_refuses_464 rfl (by decide) ?_
                                                      refine x_iconst 466 (0 : Int32) dL_refuses_465 rfl (by decide) ?_
                                                      refine x_iconst 467 (0 : Int32) dL_refuses_466 rfl (by decide) ?_
                                                      refine x_iconst 468 (5 : Int32) dL_refuses_467 rfl (by decide) ?_
                                                      refine x_iload_n 469 1 dL_refuses_468 rfl rfl ?_
                                                      refine x_iconst 470 (2 : Int32) dL_refuses_469 rfl (by decide) ?_
                                                      refine x_irem 471 (by decide) dL_refuses_470 rfl ?_
                                                      obtain ⟨x66, h104, hF⟩ := b1_inv hF
                                                      have hJ : qX l G RL "refuses" cL_refuses 8 (some .boolean) [] rmL_refuses 125 750 (.inl (some (.int ro), so, none)) 46 276 s65 none 485 [(0, .ref p0), (1, .int p1), (2, .int v2), (3, .int x4), (4, .int x5), (5, .int x6), (6, .int x7)] [.int x66, .int (5 : Int32), .int (0 : Int32), .int (0 : Int32), .int (0 : Int32), .ref p0] := by
                                                        refine x_iconst 486 (5 : Int32) dL_refuses_485 rfl (by decide) ?_
                                                        refine x_iconst 487 (0 : Int32) dL_refuses_486 rfl (by decide) ?_
                                                        obtain ⟨v68, s69, h67, hF⟩ := b2_inv hF
                                                        refine x_callSW (As := [.ref p0, .int (0 : Int32), .int (0 : Int32), .int (0 : Int32), .int (5 : Int32), .int x66, .int (5 : Int32), .int (0 : Int32)]) (rest := []) 490 50 300 (mL_told hst p0 (0 : Int32) (0 : Int32) (0 : Int32) (5 : Int32) x66 (5 : Int32) (0 : Int32) s65 none v68 s69 h67) qyL_told wd_816 wd_817 rfl rfl (by decide) (Nat.le_of_ble_eq_true rfl) ⟨Nat.le_of_ble_eq_true rfl, Nat.le_of_ble_eq_true rfl⟩ dL_refuses_487 rfl rfl rfl rfl ?_
                                                        refine x_ldc 492 (-9999002 : Int32) wd_287 dL_refuses_490 rfl ?_
                                                        rcases ite_inv hF with ⟨hc, hF⟩ | ⟨hc, hF⟩
                                                        · refine x_icmp_ne 730 495 dL_refuses_492 (by decide) rfl (fun q => absurd hc q) (fun _ => ?_)
                                                          refine x_aload_n 496 0 dL_refuses_495 rfl rfl ?_
                                                          refine x_iconst 497 (0 : Int32) dL_refuses_496 rfl (by decide) ?_
                                                          refine x_iconst 498 (0 : Int32) dL_refuses_497 rfl (by decide) ?_
                                                          refine x_iconst 499 (1 : Int32) dL_refuses_498 rfl (by decide) ?_
                                                          refine x_iload_n 500 1 dL_refuses_499 rfl rfl ?_
                                                          refine x_iconst 501 (2 : Int32) dL_refuses_500 rfl (by decide) ?_
                                                          refine x_irem 502 (by decide) dL_refuses_501 rfl ?_
                                                          obtain ⟨x70, h103, hF⟩ := b1_inv hF
                                                          have hJ : qX l G RL "refuses" cL_refuses 8 (some .boolean) [] rmL_refuses 125 750 (.inl (some (.int ro), so, none)) 50 300 s69 none 516 [(0, .ref p0), (1, .int p1), (2, .int v2), (3, .int x4), (4, .int x5), (5, .int x6), (6, .int x7)] [.int x70, .int (1 : Int32), .int (0 : Int32), .int (0 : Int32), .ref p0] := by
                                                            refine x_iconst 517 (5 : Int32) dL_refuses_516 rfl (by decide) ?_
                                                            refine x_iconst 518 (5 : Int32) dL_refuses_517 rfl (by decide) ?_
                                                            refine x_iconst 519 (0 : Int32) dL_refuses_518 rfl (by decide) ?_
                                                            obtain ⟨v72, s73, h71, hF⟩ := b2_inv hF
                                                            refine x_callSW (As := [.ref p0, .int (0 : Int32), .int (0 : Int32), .int (1 : Int32), .int x70, .int (5 : Int32), .int (5 : Int32), .int (0 : Int32)]) (rest := []) 522 54 324 (mL_told hst p0 (0 : Int32) (0 : Int32) (1 : Int32) x70 (5 : Int32) (5 : Int32) (0 : Int32) s69 none v72 s73 h71) qyL_told wd_816 wd_817 rfl rfl (by decide) (Nat.le_of_ble_eq_true rfl) ⟨Nat.le_of_ble_eq_true rfl, Nat.le_of_ble_eq_true rfl⟩ dL_refuses_519 rfl rfl rfl rfl ?_
                                                            refine x_ldc 524 (-9999002 : Int32) wd_287 dL_refuses_522 rfl ?_
                                                            rcases ite_inv hF with ⟨hc, hF⟩ | ⟨hc, hF⟩
                                                            · refine x_icmp_ne 730 527 dL_refuses_524 (by decide) rfl (fun q => absurd hc q) (fun _ => ?_)
                                                              refine x_aload_n 528 0 dL_refuses_527 rfl rfl ?_
                                                              refine x_iconst 529 (0 : Int32) dL_refuses_528 rfl (by decide) ?_
                                                              refine x_iconst 530 (0 : Int32) dL_refuses_529 rfl (by decide) ?_
                                                              refine x_iconst 531 (1 : Int32) dL_refuses_530 rfl (by decide) ?_
                                                              refine x_iconst 532 (5 : Int32) dL_refuses_531 rfl (by decide) ?_
                                                              refine x_iload_n 533 1 dL_refuses_532 rfl rfl ?_
                                                              refine x_iconst 534 (2 : Int32) dL_refuses_533 rfl (by decide) ?_
                                                              refine x_irem 535 (by decide) dL_refuses_534 rfl ?_
                                                              obtain ⟨x74, h102, hF⟩ := b1_inv hF
                                                              have hJ : qX l G RL "refuses" cL_refuses 8 (some .boolean) [] rmL_refuses 125 750 (.inl (some (.int ro), so, none)) 54 324 s73 none 549 [(0, .ref p0), (1, .int p1), (2, .int v2), (3, .int x4), (4, .int x5), (5, .int x6), (6, .int x7)] [.int x74, .int (5 : Int32), .int (1 : Int32), .int (0 : Int32), .int (0 : Int32), .ref p0] := by
                                                                refine x_iconst 550 (5 : Int32) dL_refuses_549 rfl (by decide) ?_
                                                                refine x_iconst 551 (0 : Int32) dL_refuses_550 rfl (by decide) ?_
                                                                obtain ⟨v76, s77, h75, hF⟩ := b2_inv hF
                                                                refine x_callSW (As := [.ref p0, .int (0 : Int32), .int (0 : Int32), .int (1 : Int32), .int (5 : Int32), .int x74, .int (5 : Int32), .int (0 : Int32)]) (rest := []) 554 58 348 (mL_told hst p0 (0 : Int32) (0 : Int32) (1 : Int32) (5 : Int32) x74 (5 : Int32) (0 : Int32) s73 none v76 s77 h75) qyL_told wd_816 wd_817 rfl rfl (by decide) (Nat.le_of_ble_eq_true rfl) ⟨Nat.le_of_ble_eq_true rfl, Nat.le_of_ble_eq_true rfl⟩ dL_refuses_551 rfl rfl rfl rfl ?_
                                                                refine x_ldc 556 (-9999002 : Int32) wd_287 dL_refuses_554 rfl ?_
                                                                rcases ite_inv hF with ⟨hc, hF⟩ | ⟨hc, hF⟩
                                                                · refine x_icmp_ne 730 559 dL_refuses_556 (by decide) rfl (fun q => absurd hc q) (fun _ => ?_)
                                                                  refine x_aload_n 560 0 dL_refuses_559 rfl rfl ?_
                                                                  refine x_iconst 561 (0 : Int32) dL_refuses_560 rfl (by decide) ?_
                                                                  refine x_iconst 562 (0 : Int32) dL_refuses_561 rfl (by decide) ?_
                                                                  refine x_iload_n 563 1 dL_refuses_562 rfl rfl ?_
                                                                  refine x_iconst 564 (2 : Int32) dL_refuses_563 rfl (by decide) ?_
                                                                  refine x_irem 565 (by decide) dL_refuses_564 rfl ?_
                                                                  refine x_iconst 566 (5 : Int32) dL_refuses_565 rfl (by decide) ?_
                                                                  refine x_iconst 567 (5 : Int32) dL_refuses_566 rfl (by decide) ?_
                                                                  refine x_iload_n 568 1 dL_refuses_567 rfl rfl ?_
                                                                  refine x_iconst 569 (4 : Int32) dL_refuses_568 rfl (by decide) ?_
                                                                  refine x_irem 570 (by decide) dL_refuses_569 rfl ?_
                                                                  refine x_iconst 571 (2 : Int32) dL_refuses_570 rfl (by decide) ?_
                                                                  obtain ⟨x78, h101, hF⟩ := b1_inv hF
                                                                  have hJ : qX l G RL "refuses" cL_refuses 8 (some .boolean) [] rmL_refuses 125 750 (.inl (some (.int ro), so, none)) 58 348 s77 none 586 [(0, .ref p0), (1, .int p1), (2, .int v2), (3, .int x4), (4, .int x5), (5, .int x6), (6, .int x7)] [.int x78, .int (5 : Int32), .int (5 : Int32), .int (irm p1 (2 : Int32)), .int (0 : Int32), .int (0 : Int32), .ref p0] := by
                                                                    refine x_iconst 587 (0 : Int32) dL_refuses_586 rfl (by decide) ?_
                                                                    obtain ⟨v80, s81, h79, hF⟩ := b2_inv hF
                                                                    refine x_callSW (As := [.ref p0, .int (0 : Int32), .int (0 : Int32), .int (irm p1 (2 : Int32)), .int (5 : Int32), .int (5 : Int32), .int x78, .int (0 : Int32)]) (rest := []) 590 62 372 (mL_told hst p0 (0 : Int32) (0 : Int32) (irm p1 (2 : Int32)) (5 : Int32) (5 : Int32) x78 (0 : Int32) s77 none v80 s81 h79) qyL_told wd_816 wd_817 rfl rfl (by decide) (Nat.le_of_ble_eq_true rfl) ⟨Nat.le_of_ble_eq_true rfl, Nat.le_of_ble_eq_true rfl⟩ dL_refuses_587 rfl rfl rfl rfl ?_
                                                                    refine x_ldc 592 (-9999002 : Int32) wd_287 dL_refuses_590 rfl ?_
                                                                    rcases ite_inv hF with ⟨hc, hF⟩ | ⟨hc, hF⟩
                                                                    · refine x_icmp_ne 730 595 dL_refuses_592 (by decide) rfl (fun q => absurd hc q) (fun _ => ?_)
                                                                      refine x_aload_n 596 0 dL_refuses_595 rfl rfl ?_
                                                                      refine x_iconst 597 (0 : Int32) dL_refuses_596 rfl (by decide) ?_
                                                                      refine x_iconst 598 (0 : Int32) dL_refuses_597 rfl (by decide) ?_
                                                                      refine x_iload_n 599 1 dL_refuses_598 rfl rfl ?_
                                                                      refine x_iconst 600 (2 : Int32) dL_refuses_599 rfl (by decide) ?_
                                                                      refine x_irem 601 (by decide) dL_refuses_600 rfl ?_
                                                                      refine x_iconst 602 (5 : Int32) dL_refuses_601 rfl (by decide) ?_
                                                                      refine x_iconst 603 (5 : Int32) dL_refuses_602 rfl (by decide) ?_
                                                                      refine x_iconst 604 (5 : Int32) dL_refuses_603 rfl (by decide) ?_
                                                                      refine x_iload_n 605 1 dL_refuses_604 rfl rfl ?_
                                                                      refine x_iconst 606 (4 : Int32) dL_refuses_605 rfl (by decide) ?_
                                                                      refine x_irem 607 (by decide) dL_refuses_606 rfl ?_
                                                                      refine x_iconst 608 (2 : Int32) dL_refuses_607 rfl (by decide) ?_
                                                                      obtain ⟨x82, h100, hF⟩ := b1_inv hF
                                                                      have hJ : qX l G RL "refuses" cL_refuses 8 (some .boolean) [] rmL_refuses 125 750 (.inl (some (.int ro), so, none)) 62 372 s81 none 622 [(0, .ref p0), (1, .int p1), (2, .int v2), (3, .int x4), (4, .int x5), (5, .int x6), (6, .int x7)] [.int x82, .int (5 : Int32), .int (5 : Int32), .int (5 : Int32), .int (irm p1 (2 : Int32)), .int (0 : Int32), .int (0 : Int32), .ref p0] := by
                                                                        obtain ⟨v84, s85, h83, hF⟩ := b2_inv hF
                                                                        refine x_callSW (As := [.ref p0, .int (0 : Int32), .int (0 : Int32), .int (irm p1 (2 : Int32)), .int (5 : Int32), .int (5 : Int32), .int (5 : Int32), .int x82]) (rest := []) 625 66 396 (mL_told hst p0 (0 : Int32) (0 : Int32) (irm p1 (2 : Int32)) (5 : Int32) (5 : Int32) (5 : Int32) x82 s81 none v84 s85 h83) qyL_told wd_816 wd_817 rfl rfl (by decide) (Nat.le_of_ble_eq_true rfl) ⟨Nat.le_of_ble_eq_true rfl, Nat.le_of_ble_eq_true rfl⟩ dL_refuses_622 rfl rfl rfl rfl ?_
                                                                        refine x_ldc 627 (-9999002 : Int32) wd_287 dL_refuses_625 rfl ?_
                                                                        rcases ite_inv hF with ⟨hc, hF⟩ | ⟨hc, hF⟩
                                                                        · refine x_icmp_ne 730 630 dL_refuses_627 (by decide) rfl (fun q => absurd hc q) (fun _ => ?_)
                                                                          refine x_aload_n 631 0 dL_refuses_630 rfl rfl ?_
                                                                          refine x_iconst 632 (0 : Int32) dL_refuses_631 rfl (by decide) ?_
                                                                          refine x_iconst 633 (0 : Int32) dL_refuses_632 rfl (by decide) ?_
                                                                          refine x_iconst 634 (2 : Int32) dL_refuses_633 rfl (by decide) ?_
                                                                          refine x_bipush 636 (7 : Int32) dL_refuses_634 rfl (by decide) ?_
                                                                          refine x_iload_n 637 1 dL_refuses_636 rfl rfl ?_
                                                                          refine x_iconst 638 (2 : Int32) dL_refuses_637 rfl (by decide) ?_
                                                                          refine x_irem 639 (by decide) dL_refuses_638 rfl ?_
                                                                          obtain ⟨x86, h99, hF⟩ := b1_inv hF
                                                                          have hJ : qX l G RL "refuses" cL_refuses 8 (some .boolean) [] rmL_refuses 125 750 (.inl (some (.int ro), so, none)) 66 396 s85 none 655 [(0, .ref p0), (1, .int p1), (2, .int v2), (3, .int x4), (4, .int x5), (5, .int x6), (6, .int x7)] [.int x86, .int (7 : Int32), .int (2 : Int32), .int (0 : Int32), .int (0 : Int32), .ref p0] := by
                                                                            refine x_iconst 656 (0 : Int32) dL_refuses_655 rfl (by decide) ?_
                                                                            refine x_iconst 657 (0 : Int32) dL_refuses_656 rfl (by decide) ?_
                                                                            obtain ⟨v88, s89, h87, hF⟩ := b2_inv hF
                                                                            refine x_callSW (As := [.ref p0, .int (0 : Int32), .int (0 : Int32), .int (2 : Int32), .int (7 : Int32), .int x86, .int (0 : Int32), .int (0 : Int32)]) (rest := []) 660 70 420 (mL_told hst p0 (0 : Int32) (0 : Int32) (2 : Int32) (7 : Int32) x86 (0 : Int32) (0 : Int32) s85 none v88 s89 h87) qyL_told wd_816 wd_817 rfl rfl (by decide) (Nat.le_of_ble_eq_true rfl) ⟨Nat.le_of_ble_eq_true rfl, Nat.le_of_ble_eq_true rfl⟩ dL_refuses_657 rfl rfl rfl rfl ?_
                                                                            refine x_ldc 662 (-9999002 : Int32) wd_287 dL_refuses_660 rfl ?_
                                                                            rcases ite_inv hF with ⟨hc, hF⟩ | ⟨hc, hF⟩
                                                                            · refine x_icmp_ne 730 665 dL_refuses_662 (by decide) rfl (fun q => absurd hc q) (fun _ => ?_)
                                                                              refine x_aload_n 666 0 dL_refuses_665 rfl rfl ?_
                                                                              refine x_iconst 667 (0 : Int32) dL_refuses_666 rfl (by decide) ?_
                                                                              refine x_iconst 668 (0 : Int32) dL_refuses_667 rfl (by decide) ?_
                                                                              refine x_iconst 669 (2 : Int32) dL_refuses_668 rfl (by decide) ?_
                                                                              refine x_iconst 670 (0 : Int32) dL_refuses_669 rfl (by decide) ?_
                                                                              refine x_bipush 672 (7 : Int32) dL_refuses_670 rfl (by decide) ?_
                                                                              refine x_iconst 673 (0 : Int32) dL_refuses_672 rfl (by decide) ?_
                                                                              refine x_iconst 674 (0 : Int32) dL_refuses_673 rfl (by decide) ?_
                                                                              obtain ⟨v91, s92, h90, hF⟩ := b2_inv hF
                                                                              refine x_callSW (As := [.ref p0, .int (0 : Int32), .int (0 : Int32), .int (2 : Int32), .int (0 : Int32), .int (7 : Int32), .int (0 : Int32), .int (0 : Int32)]) (rest := []) 677 74 444 (mL_told hst p0 (0 : Int32) (0 : Int32) (2 : Int32) (0 : Int32) (7 : Int32) (0 : Int32) (0 : Int32) s89 none v91 s92 h90) qyL_told wd_816 wd_817 rfl rfl (by decide) (Nat.le_of_ble_eq_true rfl) ⟨Nat.le_of_ble_eq_true rfl, Nat.le_of_ble_eq_true rfl⟩ dL_refuses_674 rfl rfl rfl rfl ?_
                                                                              refine x_ldc 679 (-9999002 : Int32) wd_287 dL_refuses_677 rfl ?_
                                                                              rcases ite_inv hF with ⟨hc, hF⟩ | ⟨hc, hF⟩
                                                                              · refine x_icmp_ne 730 682 dL_refuses_679 (by decide) rfl (fun q => absurd hc q) (fun _ => ?_)
                                                                                refine x_aload_n 683 0 dL_refuses_682 rfl rfl ?_
                                                                                refine x_iconst 684 (0 : Int32) dL_refuses_683 rfl (by decide) ?_
                                                                                refine x_iconst 685 (0 : Int32) dL_refuses_684 rfl (by decide) ?_
                                                                                refine x_iconst 686 (2 : Int32) dL_refuses_685 rfl (by decide) ?_
                                                                                refine x_iconst 687 (5 : Int32) dL_refuses_686 rfl (by decide) ?_
                                                                                refine x_bipush 689 (7 : Int32) dL_refuses_687 rfl (by decide) ?_
                                                                                refine x_iconst 690 (1 : Int32) dL_refuses_689 rfl (by decide) ?_
                                                                                refine x_iload_n 691 1 dL_refuses_690 rfl rfl ?_
                                                                                refine x_bipush 693 (9 : Int32) dL_refuses_691 rfl (by decide) ?_
                                                                                refine x_irem 694 (by decide) dL_refuses_693 rfl ?_
                                                                                refine x_iadd 695 dL_refuses_694 rfl ?_
                                                                                refine x_iconst 696 (0 : Int32) dL_refuses_695 rfl (by decide) ?_
                                                                                obtain ⟨v94, s95, h93, hF⟩ := b2_inv hF
                                                                                refine x_callSW (As := [.ref p0, .int (0 : Int32), .int (0 : Int32), .int (2 : Int32), .int (5 : Int32), .int (7 : Int32), .int ((1 : Int32) + (irm p1 (9 : Int32))), .int (0 : Int32)]) (rest := []) 699 78 468 (mL_told hst p0 (0 : Int32) (0 : Int32) (2 : Int32) (5 : Int32) (7 : Int32) ((1 : Int32) + (irm p1 (9 : Int32))) (0 : Int32) s92 none v94 s95 h93) qyL_told wd_816 wd_817 rfl rfl (by decide) (Nat.le_of_ble_eq_true rfl) ⟨Nat.le_of_ble_eq_true rfl, Nat.le_of_ble_eq_true rfl⟩ dL_refuses_696 rfl rfl rfl rfl ?_
                                                                                refine x_ldc 701 (-9999002 : Int32) wd_287 dL_refuses_699 rfl ?_
                                                                                rcases ite_inv hF with ⟨hc, hF⟩ | ⟨hc, hF⟩
                                                                                · refine x_icmp_ne 730 704 dL_refuses_701 (by decide) rfl (fun q => absurd hc q) (fun _ => ?_)
                                                                                  refine x_aload_n 705 0 dL_refuses_704 rfl rfl ?_
                                                                                  refine x_iconst 706 (0 : Int32) dL_refuses_705 rfl (by decide) ?_
                                                                                  refine x_iconst 707 (0 : Int32) dL_refuses_706 rfl (by decide) ?_
                                                                                  refine x_iconst 708 (2 : Int32) dL_refuses_707 rfl (by decide) ?_
                                                                                  refine x_iconst 709 (5 : Int32) dL_refuses_708 rfl (by decide) ?_
                                                                                  refine x_bipush 711 (7 : Int32) dL_refuses_709 rfl (by decide) ?_
                                                                                  refine x_iconst 712 (0 : Int32) dL_refuses_711 rfl (by decide) ?_
                                                                                  refine x_iconst 713 (1 : Int32) dL_refuses_712 rfl (by decide) ?_
                                                                                  refine x_iload_n 714 1 dL_refuses_713 rfl rfl ?_
                                                                                  refine x_bipush 716 (9 : Int32) dL_refuses_714 rfl (by decide) ?_
                                                                                  refine x_irem 717 (by decide) dL_refuses_716 rfl ?_
                                                                                  refine x_iadd 718 dL_refuses_717 rfl ?_
                                                                                  obtain ⟨v97, s98, h96, hF⟩ := b2_inv hF
                                                                                  refine x_callSW (As := [.ref p0, .int (0 : Int32), .int (0 : Int32), .int (2 : Int32), .int (5 : Int32), .int (7 : Int32), .int (0 : Int32), .int ((1 : Int32) + (irm p1 (9 : Int32)))]) (rest := []) 721 82 492 (mL_told hst p0 (0 : Int32) (0 : Int32) (2 : Int32) (5 : Int32) (7 : Int32) (0 : Int32) ((1 : Int32) + (irm p1 (9 : Int32))) s95 none v97 s98 h96) qyL_told wd_816 wd_817 rfl rfl (by decide) (Nat.le_of_ble_eq_true rfl) ⟨Nat.le_of_ble_eq_true rfl, Nat.le_of_ble_eq_true rfl⟩ dL_refuses_718 rfl rfl rfl rfl ?_
                                                                                  refine x_ldc 723 (-9999002 : Int32) wd_287 dL_refuses_721 rfl ?_
                                                                                  rcases ite_inv hF with ⟨hc, hF⟩ | ⟨hc, hF⟩
                                                                                  · refine x_icmp_ne 730 726 dL_refuses_723 (by decide) rfl (fun q => absurd hc q) (fun _ => ?_)
                                                                                    refine x_iconst 727 (1 : Int32) dL_refuses_726 rfl (by decide) ?_
                                                                                    refine x_goto 731 dL_refuses_727 (by decide) ?_
                                                                                    obtain ⟨e1, e2⟩ := so2 hF
                                                                                    subst e1
                                                                                    subst e2
                                                                                    exact hJ
                                                                                  · refine x_icmp_ne 730 726 dL_refuses_723 (by decide) rfl (fun _ => ?_) (fun q => absurd q hc)
                                                                                    refine x_iconst 731 (0 : Int32) dL_refuses_730 rfl (by decide) ?_
                                                                                    obtain ⟨e1, e2⟩ := so2 hF
                                                                                    subst e1
                                                                                    subst e2
                                                                                    exact hJ
                                                                                · refine x_icmp_ne 730 704 dL_refuses_701 (by decide) rfl (fun _ => ?_) (fun q => absurd q hc)
                                                                                  refine x_iconst 731 (0 : Int32) dL_refuses_730 rfl (by decide) ?_
                                                                                  obtain ⟨e1, e2⟩ := so2 hF
                                                                                  subst e1
                                                                                  subst e2
                                                                                  refine x_wide 82 492 (Nat.le_of_ble_eq_true rfl) (Nat.le_of_ble_eq_true rfl) ?_
                                                                                  exact hJ
                                                                              · refine x_icmp_ne 730 682 dL_refuses_679 (by decide) rfl (fun _ => ?_) (fun q => absurd q hc)
                                                                                refine x_iconst 731 (0 : Int32) dL_refuses_730 rfl (by decide) ?_
                                                                                obtain ⟨e1, e2⟩ := so2 hF
                                                                                subst e1
                                                                                subst e2
                                                                                refine x_wide 82 492 (Nat.le_of_ble_eq_true rfl) (Nat.le_of_ble_eq_true rfl) ?_
                                                                                exact hJ
                                                                            · refine x_icmp_ne 730 665 dL_refuses_662 (by decide) rfl (fun _ => ?_) (fun q => absurd q hc)
                                                                              refine x_iconst 731 (0 : Int32) dL_refuses_730 rfl (by decide) ?_
                                                                              obtain ⟨e1, e2⟩ := so2 hF
                                                                              subst e1
                                                                              subst e2
                                                                              refine x_wide 82 492 (Nat.le_of_ble_eq_true rfl) (Nat.le_of_ble_eq_true rfl) ?_
                                                                              exact hJ
                                                                          have hF := h99
                                                                          rcases ite_inv hF with ⟨hc, hF⟩ | ⟨hc, hF⟩
                                                                          · refine x_if_ne 647 642 dL_refuses_639 (by decide) rfl (fun q => absurd hc q) (fun _ => ?_)
                                                                            refine x_bipush 644 (6 : Int32) dL_refuses_642 rfl (by decide) ?_
                                                                            refine x_goto 655 dL_refuses_644 (by decide) ?_
                                                                            have e1 := Option.some.inj hF
                                                                            subst e1
                                                                            exact hJ
                                                                          · refine x_if_ne 647 642 dL_refuses_639 (by decide) rfl (fun _ => ?_) (fun q => absurd q hc)
                                                                            refine x_sipush 650 (1000 : Int32) dL_refuses_647 rfl (by decide) ?_
                                                                            refine x_iload_n 651 1 dL_refuses_650 rfl rfl ?_
                                                                            refine x_bipush 653 (9 : Int32) dL_refuses_651 rfl (by decide) ?_
                                                                            refine x_irem 654 (by decide) dL_refuses_653 rfl ?_
                                                                            refine x_iadd 655 dL_refuses_654 rfl ?_
                                                                            have e1 := Option.some.inj hF
                                                                            subst e1
                                                                            exact hJ
                                                                        · refine x_icmp_ne 730 630 dL_refuses_627 (by decide) rfl (fun _ => ?_) (fun q => absurd q hc)
                                                                          refine x_iconst 731 (0 : Int32) dL_refuses_730 rfl (by decide) ?_
                                                                          obtain ⟨e1, e2⟩ := so2 hF
                                                                          subst e1
                                                                          subst e2
                                                                          refine x_wide 82 492 (Nat.le_of_ble_eq_true rfl) (Nat.le_of_ble_eq_true rfl) ?_
                                                                          exact hJ
                                                                      have hF := h100
                                                                      rcases ite_inv hF with ⟨hc, hF⟩ | ⟨hc, hF⟩
                                                                      · refine x_icmp_ge 615 611 dL_refuses_608 (by decide) rfl (fun _ => ?_) (fun q => absurd hc q)
                                                                        refine x_bipush 617 (21 : Int32) dL_refuses_615 rfl (by decide) ?_
                                                                        refine x_iload_n 618 1 dL_refuses_617 rfl rfl ?_
                                                                        refine x_bipush 620 (9 : Int32) dL_refuses_618 rfl (by decide) ?_
                                                                        refine x_irem 621 (by decide) dL_refuses_620 rfl ?_
                                                                        refine x_iadd 622 dL_refuses_621 rfl ?_
                                                                        have e1 := Option.some.inj hF
                                                                        subst e1
                                                                        exact hJ
                                                                      · refine x_icmp_ge 615 611 dL_refuses_608 (by decide) rfl (fun q => absurd q hc) (fun _ => ?_)
                                                                        refine x_iconst 612 (-1 : Int32) dL_refuses_611 rfl (by decide) ?_
                                                                        refine x_goto 622 dL_refuses_612 (by decide) ?_
                                                                        have e1 := Option.some.inj hF
                                                                        subst e1
                                                                        exact hJ
                                                                    · refine x_icmp_ne 730 595 dL_refuses_592 (by decide) rfl (fun _ => ?_) (fun q => absurd q hc)
                                                                      refine x_iconst 731 (0 : Int32) dL_refuses_730 rfl (by decide) ?_
                                                                      obtain ⟨e1, e2⟩ := so2 hF
                                                                      subst e1
                                                                      subst e2
                                                                      refine x_wide 82 492 (Nat.le_of_ble_eq_true rfl) (Nat.le_of_ble_eq_true rfl) ?_
                                                                      exact hJ
                                                                  have hF := h101
                                                                  rcases ite_inv hF with ⟨hc, hF⟩ | ⟨hc, hF⟩
                                                                  · refine x_icmp_ge 578 574 dL_refuses_571 (by decide) rfl (fun _ => ?_) (fun q => absurd hc q)
                                                                    refine x_sipush 581 (401 : Int32) dL_refuses_578 rfl (by decide) ?_
                                                                    refine x_iload_n 582 1 dL_refuses_581 rfl rfl ?_
                                                                    refine x_bipush 584 (9 : Int32) dL_refuses_582 rfl (by decide) ?_
                                                                    refine x_irem 585 (by decide) dL_refuses_584 rfl ?_
                                                                    refine x_iadd 586 dL_refuses_585 rfl ?_
                                                                    have e1 := Option.some.inj hF
                                                                    subst e1
                                                                    exact hJ
                                                                  · refine x_icmp_ge 578 574 dL_refuses_571 (by decide) rfl (fun q => absurd q hc) (fun _ => ?_)
                                                                    refine x_iconst 575 (0 : Int32) dL_refuses_574 rfl (by decide) ?_
                                                                    refine x_goto 586 dL_refuses_575 (by decide) ?_
                                                                    have e1 := Option.some.inj hF
                                                                    subst e1
                                                                    exact hJ
                                                                · refine x_icmp_ne 730 559 dL_refuses_556 (by decide) rfl (fun _ => ?_) (fun q => absurd q hc)
                                                                  refine x_iconst 731 (0 : Int32) dL_refuses_730 rfl (by decide) ?_
                                                                  obtain ⟨e1, e2⟩ := so2 hF
                                                                  subst e1
                                                                  subst e2
                                                                  refine x_wide 82 492 (Nat.le_of_ble_eq_true rfl) (Nat.le_of_ble_eq_true rfl) ?_
                                                                  exact hJ
                                                              have hF := h102
                                                              rcases ite_inv hF with ⟨hc, hF⟩ | ⟨hc, hF⟩
                                                              · refine x_if_ne 542 538 dL_refuses_535 (by decide) rfl (fun q => absurd hc q) (fun _ => ?_)
                                                                refine x_iconst 539 (0 : Int32) dL_refuses_538 rfl (by decide) ?_
                                                                refine x_goto 549 dL_refuses_539 (by decide) ?_
                                                                have e1 := Option.some.inj hF
                                                                subst e1
                                                                exact hJ
                                                              · refine x_if_ne 542 538 dL_refuses_535 (by decide) rfl (fun _ => ?_) (fun q => absurd q hc)
                                                                refine x_bipush 544 (61 : Int32) dL_refuses_542 rfl (by decide) ?_
                                                                refine x_iload_n 545 1 dL_refuses_544 rfl rfl ?_
                                                                refine x_bipush 547 (9 : Int32) dL_refuses_545 rfl (by decide) ?_
                                                                refine x_irem 548 (by decide) dL_refuses_547 rfl ?_
                                                                refine x_iadd 549 dL_refuses_548 rfl ?_
                                                                have e1 := Option.some.inj hF
                                                                subst e1
                                                                exact hJ
                                                            · refine x_icmp_ne 730 527 dL_refuses_524 (by decide) rfl (fun _ => ?_) (fun q => absurd q hc)
                                                              refine x_iconst 731 (0 : Int32) dL_refuses_730 rfl (by decide) ?_
                                                              obtain ⟨e1, e2⟩ := so2 hF
                                                              subst e1
                                                              subst e2
                                                              refine x_wide 82 492 (Nat.le_of_ble_eq_true rfl) (Nat.le_of_ble_eq_true rfl) ?_
                                                              exact hJ
                                                          have hF := h103
                                                          rcases ite_inv hF with ⟨hc, hF⟩ | ⟨hc, hF⟩
                                                          · refine x_if_ne 509 505 dL_refuses_502 (by decide) rfl (fun q => absurd hc q) (fun _ => ?_)
                                                            refine x_iconst 506 (0 : Int32) dL_refuses_505 rfl (by decide) ?_
                                                            refine x_goto 516 dL_refuses_506 (by decide) ?_
                                                            have e1 := Option.some.inj hF
                                                            subst e1
                                                            exact hJ
                                                          · refine x_if_ne 509 505 dL_refuses_502 (by decide) rfl (fun _ => ?_) (fun q => absurd q hc)
                                                            refine x_bipush 511 (10 : Int32) dL_refuses_509 rfl (by decide) ?_
                                                            refine x_iload_n 512 1 dL_refuses_511 rfl rfl ?_
                                                            refine x_bipush 514 (9 : Int32) dL_refuses_512 rfl (by decide) ?_
                                                            refine x_irem 515 (by decide) dL_refuses_514 rfl ?_
                                                            refine x_iadd 516 dL_refuses_515 rfl ?_
                                                            have e1 := Option.some.inj hF
                                                            subst e1
                                                            exact hJ
                                                        · refine x_icmp_ne 730 495 dL_refuses_492 (by decide) rfl (fun _ => ?_) (fun q => absurd q hc)
                                                          refine x_iconst 731 (0 : Int32) dL_refuses_730 rfl (by decide) ?_
                                                          obtain ⟨e1, e2⟩ := so2 hF
                                                          subst e1
                                                          subst e2
                                                          refine x_wide 82 492 (Nat.le_of_ble_eq_true rfl) (Nat.le_of_ble_eq_true rfl) ?_
                                                          exact hJ
                                                      have hF := h104
                                                      rcases ite_inv hF with ⟨hc, hF⟩ | ⟨hc, hF⟩
                                                      · refine x_if_ne 478 474 dL_refuses_471 (by decide) rfl (fun q => absurd hc q) (fun _ => ?_)
                                                        refine x_iconst 475 (0 : Int32) dL_refuses_474 rfl (by decide) ?_
                                                        refine x_goto 485 dL_refuses_475 (by decide) ?_
                                                        have e1 := Option.some.inj hF
                                                        subst e1
                                                        exact hJ
                                                      · refine x_if_ne 478 474 dL_refuses_471 (by decide) rfl (fun _ => ?_) (fun q => absurd q hc)
                                                        refine x_bipush 480 (41 : Int32) dL_refuses_478 rfl (by decide) ?_
                                                        refine x_iload_n 481 1 dL_refuses_480 rfl rfl ?_
                                                        refine x_bipush 483 (9 : Int32) dL_refuses_481 rfl (by decide) ?_
                                                        refine x_irem 484 (by decide) dL_refuses_483 rfl ?_
                                                        refine x_iadd 485 dL_refuses_484 rfl ?_
                                                        have e1 := Option.some.inj hF
                                                        subst e1
                                                        exact hJ
                                                    · refine x_icmp_ne 730 463 dL_refuses_460 (by decide) rfl (fun _ => ?_) (fun q => absurd q hc)
                                                      refine x_iconst 731 (0 : Int32) dL_refuses_730 rfl (by decide) ?_
                                                      obtain ⟨e1, e2⟩ := so2 hF
                                                      subst e1
                                                      subst e2
                                                      refine x_wide 82 492 (Nat.le_of_ble_eq_true rfl) (Nat.le_of_ble_eq_true rfl) ?_
                                                      exact hJ
                                                  have hF := h105
                                                  rcases ite_inv hF with ⟨hc, hF⟩ | ⟨hc, hF⟩
                                                  · refine x_if_ne 445 441 dL_refuses_438 (by decide) rfl (fun q => absurd hc q) (fun _ => ?_)
                                                    refine x_iconst 442 (0 : Int32) dL_refuses_441 rfl (by decide) ?_
                                                    refine x_goto 452 dL_refuses_442 (by decide) ?_
                                                    have e1 := Option.some.inj hF
                                                    subst e1
                                                    exact hJ
                                                  · refine x_if_ne 445 441 dL_refuses_438 (by decide) rfl (fun _ => ?_) (fun q => absurd q hc)
                                                    refine x_bipush 447 (21 : Int32) dL_refuses_445 rfl (by decide) ?_
                                                    refine x_iload_n 448 1 dL_refuses_447 rfl rfl ?_
                                                    refine x_bipush 450 (9 : Int32) dL_refuses_448 rfl (by decide) ?_
                                                    refine x_irem 451 (by decide) dL_refuses_450 rfl ?_
                                                    refine x_iadd 452 dL_refuses_451 rfl ?_
                                                    have e1 := Option.some.inj hF
                                                    subst e1
                                                    exact hJ
                                                · refine x_icmp_ne 730 431 dL_refuses_428 (by decide) rfl (fun _ => ?_) (fun q => absurd q hc)
                                                  refine x_iconst 731 (0 : Int32) dL_refuses_730 rfl (by decide) ?_
                                                  obtain ⟨e1, e2⟩ := so2 hF
                                                  subst e1
                                                  subst e2
                                                  refine x_wide 82 492 (Nat.le_of_ble_eq_true rfl) (Nat.le_of_ble_eq_true rfl) ?_
                                                  exact hJ
                                              have hF := h106
                                              rcases ite_inv hF with ⟨hc, hF⟩ | ⟨hc, hF⟩
                                              · refine x_if_ne 413 409 dL_refuses_406 (by decide) rfl (fun q => absurd hc q) (fun _ => ?_)
                                                refine x_iconst 410 (-1 : Int32) dL_refuses_409 rfl (by decide) ?_
                                                refine x_goto 419 dL_refuses_410 (by decide) ?_
                                                have e1 := Option.some.inj hF
                                                subst e1
                                                exact hJ
                                              · refine x_if_ne 413 409 dL_refuses_406 (by decide) rfl (fun _ => ?_) (fun q => absurd q hc)
                                                refine x_iconst 414 (3 : Int32) dL_refuses_413 rfl (by decide) ?_
                                                refine x_iload_n 415 1 dL_refuses_414 rfl rfl ?_
                                                refine x_bipush 417 (9 : Int32) dL_refuses_415 rfl (by decide) ?_
                                                refine x_irem 418 (by decide) dL_refuses_417 rfl ?_
                                                refine x_iadd 419 dL_refuses_418 rfl ?_
                                                have e1 := Option.some.inj hF
                                                subst e1
                                                exact hJ
                                            · refine x_icmp_ne 730 400 dL_refuses_397 (by decide) rfl (fun _ => ?_) (fun q => absurd q hc)
                                              refine x_iconst 731 (0 : Int32) dL_refuses_730 rfl (by decide) ?_
                                              obtain ⟨e1, e2⟩ := so2 hF
                                              subst e1
                                              subst e2
                                              refine x_wide 82 492 (Nat.le_of_ble_eq_true rfl) (Nat.le_of_ble_eq_true rfl) ?_
                                              exact hJ
                                          · refine x_icmp_ne 730 382 dL_refuses_379 (by decide) rfl (fun _ => ?_) (fun q => absurd q hc)
                                            refine x_iconst 731 (0 : Int32) dL_refuses_730 rfl (by decide) ?_
                                            obtain ⟨e1, e2⟩ := so2 hF
                                            subst e1
                                            subst e2
                                            refine x_wide 82 492 (Nat.le_of_ble_eq_true rfl) (Nat.le_of_ble_eq_true rfl) ?_
                                            exact hJ
                                        · refine x_icmp_ne 730 364 dL_refuses_361 (by decide) rfl (fun _ => ?_) (fun q => absurd q hc)
                                          refine x_iconst 731 (0 : Int32) dL_refuses_730 rfl (by decide) ?_
                                          obtain ⟨e1, e2⟩ := so2 hF
                                          subst e1
                                          subst e2
                                          refine x_wide 82 492 (Nat.le_of_ble_eq_true rfl) (Nat.le_of_ble_eq_true rfl) ?_
                                          exact hJ
                                      · refine x_icmp_ne 730 345 dL_refuses_342 (by decide) rfl (fun _ => ?_) (fun q => absurd q hc)
                                        refine x_iconst 731 (0 : Int32) dL_refuses_730 rfl (by decide) ?_
                                        obtain ⟨e1, e2⟩ := so2 hF
                                        subst e1
                                        subst e2
                                        refine x_wide 82 492 (Nat.le_of_ble_eq_true rfl) (Nat.le_of_ble_eq_true rfl) ?_
                                        exact hJ
                                    · refine x_icmp_ne 730 326 dL_refuses_323 (by decide) rfl (fun _ => ?_) (fun q => absurd q hc)
                                      refine x_iconst 731 (0 : Int32) dL_refuses_730 rfl (by decide) ?_
                                      obtain ⟨e1, e2⟩ := so2 hF
                                      subst e1
                                      subst e2
                                      refine x_wide 82 492 (Nat.le_of_ble_eq_true rfl) (Nat.le_of_ble_eq_true rfl) ?_
                                      exact hJ
                                  · refine x_icmp_ne 730 307 dL_refuses_304 (by decide) rfl (fun _ => ?_) (fun q => absurd q hc)
                                    refine x_iconst 731 (0 : Int32) dL_refuses_730 rfl (by decide) ?_
                                    obtain ⟨e1, e2⟩ := so2 hF
                                    subst e1
                                    subst e2
                                    refine x_wide 82 492 (Nat.le_of_ble_eq_true rfl) (Nat.le_of_ble_eq_true rfl) ?_
                                    exact hJ
                                · refine x_icmp_ne 730 290 dL_refuses_287 (by decide) rfl (fun _ => ?_) (fun q => absurd q hc)
                                  refine x_iconst 731 (0 : Int32) dL_refuses_730 rfl (by decide) ?_
                                  obtain ⟨e1, e2⟩ := so2 hF
                                  subst e1
                                  subst e2
                                  refine x_wide 82 492 (Nat.le_of_ble_eq_true rfl) (Nat.le_of_ble_eq_true rfl) ?_
                                  exact hJ
                              · refine x_icmp_ne 730 275 dL_refuses_272 (by decide) rfl (fun _ => ?_) (fun q => absurd q hc)
                                refine x_iconst 731 (0 : Int32) dL_refuses_730 rfl (by decide) ?_
                                obtain ⟨e1, e2⟩ := so2 hF
                                subst e1
                                subst e2
                                refine x_wide 82 492 (Nat.le_of_ble_eq_true rfl) (Nat.le_of_ble_eq_true rfl) ?_
                                exact hJ
                            · refine x_icmp_ne 730 260 dL_refuses_257 (by decide) rfl (fun _ => ?_) (fun q => absurd q hc)
                              refine x_iconst 731 (0 : Int32) dL_refuses_730 rfl (by decide) ?_
                              obtain ⟨e1, e2⟩ := so2 hF
                              subst e1
                              subst e2
                              refine x_wide 82 492 (Nat.le_of_ble_eq_true rfl) (Nat.le_of_ble_eq_true rfl) ?_
                              exact hJ
                          · refine x_icmp_ne 730 242 dL_refuses_239 (by decide) rfl (fun _ => ?_) (fun q => absurd q hc)
                            refine x_iconst 731 (0 : Int32) dL_refuses_730 rfl (by decide) ?_
                            obtain ⟨e1, e2⟩ := so2 hF
                            subst e1
                            subst e2
                            refine x_wide 82 492 (Nat.le_of_ble_eq_true rfl) (Nat.le_of_ble_eq_true rfl) ?_
                            exact hJ
                        · refine x_icmp_ne 730 227 dL_refuses_224 (by decide) rfl (fun _ => ?_) (fun q => absurd q hc)
                          refine x_iconst 731 (0 : Int32) dL_refuses_730 rfl (by decide) ?_
                          obtain ⟨e1, e2⟩ := so2 hF
                          subst e1
                          subst e2
                          refine x_wide 82 492 (Nat.le_of_ble_eq_true rfl) (Nat.le_of_ble_eq_true rfl) ?_
                          exact hJ
                      · refine x_icmp_ne 730 209 dL_refuses_206 (by decide) rfl (fun _ => ?_) (fun q => absurd q hc)
                        refine x_iconst 731 (0 : Int32) dL_refuses_730 rfl (by decide) ?_
                        obtain ⟨e1, e2⟩ := so2 hF
                        subst e1
                        subst e2
                        refine x_wide 82 492 (Nat.le_of_ble_eq_true rfl) (Nat.le_of_ble_eq_true rfl) ?_
                        exact hJ
                    have hF := h113
                    rcases ite_inv hF with ⟨hc, hF⟩ | ⟨hc, hF⟩
                    · refine x_if_eq 194 175 dL_refuses_172 (by decide) rfl (fun _ => ?_) (fun q => absurd hc q)
                      have e1 := Sum.inl.inj (Option.some.inj hF)
                      subst e1
                      refine x_wide 10 60 (Nat.le_of_ble_eq_true rfl) (Nat.le_of_ble_eq_true rfl) ?_
                      exact hJ
                    · refine x_if_eq 194 175 dL_refuses_172 (by decide) rfl (fun q => absurd q hc) (fun _ => ?_)
                      refine x_aload_n 176 0 dL_refuses_175 rfl rfl ?_
                      refine x_iconst 177 (3 : Int32) dL_refuses_176 rfl (by decide) ?_
                      refine x_iconst 178 (0 : Int32) dL_refuses_177 rfl (by decide) ?_
                      refine x_bipush 180 (11 : Int32) dL_refuses_178 rfl (by decide) ?_
                      refine x_iload_n 181 1 dL_refuses_180 rfl rfl ?_
                      refine x_bipush 183 (9 : Int32) dL_refuses_181 rfl (by decide) ?_
                      refine x_irem 184 (by decide) dL_refuses_183 rfl ?_
                      refine x_iadd 185 dL_refuses_184 rfl ?_
                      refine x_iconst 186 (0 : Int32) dL_refuses_185 rfl (by decide) ?_
                      obtain ⟨v108, s109, h107, hF⟩ := b2_inv hF
                      refine x_callS (As := [.ref p0, .int (3 : Int32), .int (0 : Int32), .int ((11 : Int32) + (irm p1 (9 : Int32))), .int (0 : Int32)]) (rest := []) 189 10 60 (mL_call hst p0 (3 : Int32) (0 : Int32) ((11 : Int32) + (irm p1 (9 : Int32))) (0 : Int32) s19 none v108 s109 h107) qyL_call wd_180 wd_181 rfl rfl (by decide) (Nat.le_of_ble_eq_true rfl) ⟨Nat.le_of_ble_eq_true rfl, Nat.le_of_ble_eq_true rfl⟩ dL_refuses_186 rfl rfl rfl rfl ?_
                      refine x_ldc 191 (-9999002 : Int32) wd_287 dL_refuses_189 rfl ?_
                      rcases ite_inv hF with ⟨hc, hF⟩ | ⟨hc, hF⟩
                      · refine x_icmp_ne 730 194 dL_refuses_191 (by decide) rfl (fun q => absurd hc q) (fun _ => ?_)
                        have e1 := Sum.inl.inj (Option.some.inj hF)
                        subst e1
                        exact hJ
                      · refine x_icmp_ne 730 194 dL_refuses_191 (by decide) rfl (fun _ => ?_) (fun q => absurd q hc)
                        cases hF
                  · have hJ : qX l G RL "refuses" cL_refuses 8 (some .boolean) [] rmL_refuses 125 750 (.inl (some (.int ro), so, none)) 10 60 s21 none 730 [(0, .ref p0), (1, .int p1), (2, .int v2), (3, .int x4), (4, .int x5), (5, .int x6), (6, .int x7)] [] := by
                      refine x_iconst 731 (0 : Int32) dL_refuses_730 rfl (by decide) ?_
                      obtain ⟨e1, e2⟩ := so2 hF
                      subst e1
                      subst e2
                      refine x_wide 82 492 (Nat.le_of_ble_eq_true rfl) (Nat.le_of_ble_eq_true rfl) ?_
                      exact hJ
                    have hF := h113
                    rcases ite_inv hF with ⟨hc, hF⟩ | ⟨hc, hF⟩
                    · refine x_if_eq 194 175 dL_refuses_172 (by decide) rfl (fun _ => ?_) (fun q => absurd hc q)
                      cases hF
                    · refine x_if_eq 194 175 dL_refuses_172 (by decide) rfl (fun q => absurd q hc) (fun _ => ?_)
                      refine x_aload_n 176 0 dL_refuses_175 rfl rfl ?_
                      refine x_iconst 177 (3 : Int32) dL_refuses_176 rfl (by decide) ?_
                      refine x_iconst 178 (0 : Int32) dL_refuses_177 rfl (by decide) ?_
                      refine x_bipush 180 (11 : Int32) dL_refuses_178 rfl (by decide) ?_
                      refine x_iload_n 181 1 dL_refuses_180 rfl rfl ?_
                      refine x_bipush 183 (9 : Int32) dL_refuses_181 rfl (by decide) ?_
                      refine x_irem 184 (by decide) dL_refuses_183 rfl ?_
                      refine x_iadd 185 dL_refuses_184 rfl ?_
                      refine x_iconst 186 (0 : Int32) dL_refuses_185 rfl (by decide) ?_
                      obtain ⟨v111, s112, h110, hF⟩ := b2_inv hF
                      refine x_callS (As := [.ref p0, .int (3 : Int32), .int (0 : Int32), .int ((11 : Int32) + (irm p1 (9 : Int32))), .int (0 : Int32)]) (rest := []) 189 10 60 (mL_call hst p0 (3 : Int32) (0 : Int32) ((11 : Int32) + (irm p1 (9 : Int32))) (0 : Int32) s19 none v111 s112 h110) qyL_call wd_180 wd_181 rfl rfl (by decide) (Nat.le_of_ble_eq_true rfl) ⟨Nat.le_of_ble_eq_true rfl, Nat.le_of_ble_eq_true rfl⟩ dL_refuses_186 rfl rfl rfl rfl ?_
                      refine x_ldc 191 (-9999002 : Int32) wd_287 dL_refuses_189 rfl ?_
                      rcases ite_inv hF with ⟨hc, hF⟩ | ⟨hc, hF⟩
                      · refine x_icmp_ne 730 194 dL_refuses_191 (by decide) rfl (fun q => absurd hc q) (fun _ => ?_)
                        cases hF
                      · refine x_icmp_ne 730 194 dL_refuses_191 (by decide) rfl (fun _ => ?_) (fun q => absurd q hc)
                        have e1 := Sum.inr.inj (Option.some.inj hF)
                        subst e1
                        exact hJ
                · refine x_icmp_ne 730 171 dL_refuses_168 (by decide) rfl (fun _ => ?_) (fun q => absurd q hc)
                  refine x_iconst 731 (0 : Int32) dL_refuses_730 rfl (by decide) ?_
                  obtain ⟨e1, e2⟩ := so2 hF
                  subst e1
                  subst e2
                  refine x_wide 82 492 (Nat.le_of_ble_eq_true rfl) (Nat.le_of_ble_eq_true rfl) ?_
                  exact hJ
              · refine x_icmp_ne 730 157 dL_refuses_154 (by decide) rfl (fun _ => ?_) (fun q => absurd q hc)
                refine x_iconst 731 (0 : Int32) dL_refuses_730 rfl (by decide) ?_
                obtain ⟨e1, e2⟩ := so2 hF
                subst e1
                subst e2
                refine x_wide 82 492 (Nat.le_of_ble_eq_true rfl) (Nat.le_of_ble_eq_true rfl) ?_
                exact hJ
            · refine x_icmp_ne 730 138 dL_refuses_135 (by decide) rfl (fun _ => ?_) (fun q => absurd q hc)
              refine x_iconst 731 (0 : Int32) dL_refuses_730 rfl (by decide) ?_
              obtain ⟨e1, e2⟩ := so2 hF
              subst e1
              subst e2
              refine x_wide 82 492 (Nat.le_of_ble_eq_true rfl) (Nat.le_of_ble_eq_true rfl) ?_
              exact hJ
          have hF := h196
          rcases ite_inv hF with ⟨hc, hF⟩ | ⟨hc, hF⟩
          · refine x_if_ne 120 111 dL_refuses_108 (by decide) rfl (fun q => absurd hc q) (fun _ => ?_)
            refine x_iconst 112 (-1 : Int32) dL_refuses_111 rfl (by decide) ?_
            refine x_iload_n 113 2 dL_refuses_112 rfl rfl ?_
            refine x_bipush 115 (9 : Int32) dL_refuses_113 rfl (by decide) ?_
            refine x_irem 116 (by decide) dL_refuses_115 rfl ?_
            refine x_isub 117 dL_refuses_116 rfl ?_
            refine x_goto 128 dL_refuses_117 (by decide) ?_
            have e1 := Option.some.inj hF
            subst e1
            refine x_sub [(0, .ref p0), (1, .int p1), (2, .int v2), (3, .int x4), (4, .int x5), (5, .int x6), (6, .int x7)] [1, 2, 3, 4, 5, 6, 0] rfl ?_
            exact hJ
          · refine x_if_ne 120 111 dL_refuses_108 (by decide) rfl (fun _ => ?_) (fun q => absurd q hc)
            refine x_sipush 123 (256 : Int32) dL_refuses_120 rfl (by decide) ?_
            refine x_iload_n 124 2 dL_refuses_123 rfl rfl ?_
            refine x_bipush 126 (9 : Int32) dL_refuses_124 rfl (by decide) ?_
            refine x_irem 127 (by decide) dL_refuses_126 rfl ?_
            refine x_iadd 128 dL_refuses_127 rfl ?_
            have e1 := Option.some.inj hF
            subst e1
            refine x_sub [(0, .ref p0), (1, .int p1), (2, .int v2), (3, .int x4), (4, .int x5), (5, .int x6), (6, .int x7)] [1, 2, 3, 4, 5, 6, 0] rfl ?_
            exact hJ
        have hF := h197
        rcases ite_inv hF with ⟨hc, hF⟩ | ⟨hc, hF⟩
        · refine x_if_ne 93 84 dL_refuses_81 (by decide) rfl (fun q => absurd hc q) (fun _ => ?_)
          refine x_iconst 85 (0 : Int32) dL_refuses_84 rfl (by decide) ?_
          refine x_iload_n 86 2 dL_refuses_85 rfl rfl ?_
          refine x_bipush 88 (99 : Int32) dL_refuses_86 rfl (by decide) ?_
          refine x_irem 89 (by decide) dL_refuses_88 rfl ?_
          refine x_isub 90 dL_refuses_89 rfl ?_
          refine x_goto 101 dL_refuses_90 (by decide) ?_
          have e1 := Option.some.inj hF
          subst e1
          refine x_sub [(0, .ref p0), (1, .int p1), (2, .int v2), (3, .int x4), (4, .int x5), (5, .int x6)] [1, 2, 3, 4, 5, 0] rfl ?_
          exact hJ
        · refine x_if_ne 93 84 dL_refuses_81 (by decide) rfl (fun _ => ?_) (fun q => absurd q hc)
          refine x_sipush 96 (1000 : Int32) dL_refuses_93 rfl (by decide) ?_
          refine x_iload_n 97 2 dL_refuses_96 rfl rfl ?_
          refine x_bipush 99 (99 : Int32) dL_refuses_97 rfl (by decide) ?_
          refine x_irem 100 (by decide) dL_refuses_99 rfl ?_
          refine x_iadd 101 dL_refuses_100 rfl ?_
          have e1 := Option.some.inj hF
          subst e1
          refine x_sub [(0, .ref p0), (1, .int p1), (2, .int v2), (3, .int x4), (4, .int x5), (5, .int x6)] [1, 2, 3, 4, 5, 0] rfl ?_
          exact hJ
      have hF := h198
      rcases ite_inv hF with ⟨hc, hF⟩ | ⟨hc, hF⟩
      · refine x_if_ne 69 60 dL_refuses_57 (by decide) rfl (fun q => absurd hc q) (fun _ => ?_)
        refine x_iconst 61 (-1 : Int32) dL_refuses_60 rfl (by decide) ?_
        refine x_iload_n 62 2 dL_refuses_61 rfl rfl ?_
        refine x_bipush 64 (99 : Int32) dL_refuses_62 rfl (by decide) ?_
        refine x_irem 65 (by decide) dL_refuses_64 rfl ?_
        refine x_isub 66 dL_refuses_65 rfl ?_
        refine x_goto 76 dL_refuses_66 (by decide) ?_
        have e1 := Option.some.inj hF
        subst e1
        refine x_sub [(0, .ref p0), (1, .int p1), (2, .int v2), (3, .int x4), (4, .int x5)] [1, 2, 3, 4, 0] rfl ?_
        exact hJ
      · refine x_if_ne 69 60 dL_refuses_57 (by decide) rfl (fun _ => ?_) (fun q => absurd q hc)
        refine x_bipush 71 (6 : Int32) dL_refuses_69 rfl (by decide) ?_
        refine x_iload_n 72 2 dL_refuses_71 rfl rfl ?_
        refine x_bipush 74 (99 : Int32) dL_refuses_72 rfl (by decide) ?_
        refine x_irem 75 (by decide) dL_refuses_74 rfl ?_
        refine x_iadd 76 dL_refuses_75 rfl ?_
        have e1 := Option.some.inj hF
        subst e1
        refine x_sub [(0, .ref p0), (1, .int p1), (2, .int v2), (3, .int x4), (4, .int x5)] [1, 2, 3, 4, 0] rfl ?_
        exact hJ
    have hF := h199
    rcases ite_inv hF with ⟨hc, hF⟩ | ⟨hc, hF⟩
    · refine x_if_ne 46 37 dL_refuses_34 (by decide) rfl (fun q => absurd hc q) (fun _ => ?_)
      refine x_iconst 38 (-1 : Int32) dL_refuses_37 rfl (by decide) ?_
      refine x_iload_n 39 2 dL_refuses_38 rfl rfl ?_
      refine x_bipush 41 (99 : Int32) dL_refuses_39 rfl (by decide) ?_
      refine x_irem 42 (by decide) dL_refuses_41 rfl ?_
      refine x_isub 43 dL_refuses_42 rfl ?_
      refine x_goto 52 dL_refuses_43 (by decide) ?_
      have e1 := Option.some.inj hF
      subst e1
      refine x_sub [(0, .ref p0), (1, .int p1), (2, .int v2), (3, .int x4)] [1, 2, 3, 0] rfl ?_
      exact hJ
    · refine x_if_ne 46 37 dL_refuses_34 (by decide) rfl (fun _ => ?_) (fun q => absurd q hc)
      refine x_iconst 47 (3 : Int32) dL_refuses_46 rfl (by decide) ?_
      refine x_iload_n 48 2 dL_refuses_47 rfl rfl ?_
      refine x_bipush 50 (99 : Int32) dL_refuses_48 rfl (by decide) ?_
      refine x_irem 51 (by decide) dL_refuses_50 rfl ?_
      refine x_iadd 52 dL_refuses_51 rfl ?_
      have e1 := Option.some.inj hF
      subst e1
      refine x_sub [(0, .ref p0), (1, .int p1), (2, .int v2), (3, .int x4)] [1, 2, 3, 0] rfl ?_
      exact hJ
  have hF := h200
  rcases ite_inv hF with ⟨hc, hF⟩ | ⟨hc, hF⟩
  · refine x_if_ne 24 15 dL_refuses_12 (by decide) rfl (fun q => absurd hc q) (fun _ => ?_)
    refine x_iconst 16 (-1 : Int32) dL_refuses_15 rfl (by decide) ?_
    refine x_iload_n 17 2 dL_refuses_16 rfl rfl ?_
    refine x_bipush 19 (99 : Int32) dL_refuses_17 rfl (by decide) ?_
    refine x_irem 20 (by decide) dL_refuses_19 rfl ?_
    refine x_isub 21 dL_refuses_20 rfl ?_
    refine x_goto 30 dL_refuses_21 (by decide) ?_
    have e1 := Option.some.inj hF
    subst e1
    refine x_sub [(0, .ref p0), (1, .int p1), (2, .int v2)] [1, 2, 0] rfl ?_
    exact hJ
  · refine x_if_ne 24 15 dL_refuses_12 (by decide) rfl (fun _ => ?_) (fun q => absurd q hc)
    refine x_iload_n 25 0 dL_refuses_24 rfl rfl ?_
    refine x_iload_n 26 2 dL_refuses_25 rfl rfl ?_
    refine x_bipush 28 (99 : Int32) dL_refuses_26 rfl (by decide) ?_
    refine x_irem 29 (by decide) dL_refuses_28 rfl ?_
    refine x_iadd 30 dL_refuses_29 rfl ?_
    have e1 := Option.some.inj hF
    subst e1
    refine x_sub [(0, .ref p0), (1, .int p1), (2, .int v2)] [1, 2, 0] rfl ?_
    exact hJ
