def rmL_alike : Room := { frames := 10, cells := 402, slots := 2412, locals := 207 }
theorem qyL_alike : qY yL_alike cL_alike 5 (some .boolean) 3 := ⟨wd_917, wd_16, by decide +kernel, by decide +kernel, by decide +kernel⟩
set_option maxHeartbeats 8000000 in
set_option maxRecDepth 100000 in
theorem mL_alike_L47 {l : Launch} {G : qG} (hst : l.stackTraces = false) (a0 : Nat) (a1 : Nat) (a2 : Int32) (r : qR) (KK JJ : Nat) (gK : KK ≤ 402) (gL : JJ ≤ 2412) : ∀ (q k j : Nat) (y3 : Int32) (y4 : Int32) (σ : qH) (o3 : Int32) (so : qH), k + 20 * q ≤ KK → j + 120 * q ≤ JJ → FL_alike_L47 (G.2.2.2.1) a0 a1 a2 q y3 y4 σ = some (o3, so) → qX l G RL "alike" cL_alike 5 (some .boolean) [] rmL_alike 402 2412 r KK JJ so none 197 [(3, .int o3)] [] → qX l G RL "alike" cL_alike 5 (some .boolean) [] rmL_alike 402 2412 r k j σ none 47 [(0, .ref a0), (1, .ref a1), (2, .int a2), (3, .int y3), (4, .int y4)] [] := by
  intro q
  induction q with
  | zero => intro k j y3 y4 σ o3 so gk gj hF; rw [FL_alike_L47] at hF; cases hF
  | succ q ih =>
    intro k j y3 y4 σ o3 so gk gj hF hJ
    rw [FL_alike_L47] at hF
    refine x_iload 49 4 dL_alike_47 rfl rfl ?_
    refine x_bipush 51 (16 : Int32) dL_alike_49 rfl (by decide) ?_
    rcases ite_inv hF with ⟨hc, hF⟩ | ⟨hc, hF⟩
    · refine x_icmp_ge 197 54 dL_alike_51 (by decide) rfl (fun _ => ?_) (fun q => absurd hc q)
      obtain ⟨e1, e2⟩ := so2 hF
      subst e1
      subst e2
      refine x_wide KK JJ (by omega) (by omega) ?_
      refine x_sub [(3, .int y3)] [3] rfl ?_
      exact hJ
    · refine x_icmp_ge 197 54 dL_alike_51 (by decide) rfl (fun q => absurd q hc) (fun _ => ?_)
      refine x_iload_n 55 3 dL_alike_54 rfl rfl ?_
      rcases ite_inv hF with ⟨hc, hF⟩ | ⟨hc, hF⟩
      · refine x_if_eq 197 58 dL_alike_55 (by decide) rfl (fun _ => ?_) (fun q => absurd hc q)
        obtain ⟨e1, e2⟩ := so2 hF
        subst e1
        subst e2
        refine x_wide KK JJ (by omega) (by omega) ?_
        refine x_sub [(3, .int y3)] [3] rfl ?_
        exact hJ
      · refine x_if_eq 197 58 dL_alike_55 (by decide) rfl (fun q => absurd q hc) (fun _ => ?_)
        refine x_aload_n 59 0 dL_alike_58 rfl rfl ?_
        refine x_iconst 60 (2 : Int32) dL_alike_59 rfl (by decide) ?_
        refine x_iload 62 4 dL_alike_60 rfl rfl ?_
        refine x_iconst 63 (0 : Int32) dL_alike_62 rfl (by decide) ?_
        refine x_iconst 64 (0 : Int32) dL_alike_63 rfl (by decide) ?_
        obtain ⟨v13, s14, h12, hF⟩ := b2_inv hF
        refine x_callS (As := [.ref a0, .int (2 : Int32), .int y4, .int (0 : Int32), .int (0 : Int32)]) (rest := []) 67 (k + 2) (j + 12) (mL_call hst a0 (2 : Int32) y4 (0 : Int32) (0 : Int32) σ none v13 s14 h12) qyL_call wd_180 wd_181 rfl rfl (by decide) (Nat.le_of_ble_eq_true rfl) ⟨by show k + 2 ≤ 402; omega, by show j + 12 ≤ 2412; omega⟩ dL_alike_64 rfl rfl rfl rfl ?_
        refine x_aload_n 68 1 dL_alike_67 rfl rfl ?_
        refine x_iconst 69 (2 : Int32) dL_alike_68 rfl (by decide) ?_
        refine x_iload 71 4 dL_alike_69 rfl rfl ?_
        refine x_iconst 72 (0 : Int32) dL_alike_71 rfl (by decide) ?_
        refine x_iconst 73 (0 : Int32) dL_alike_72 rfl (by decide) ?_
        obtain ⟨v16, s17, h15, hF⟩ := b2_inv hF
        refine x_callS (As := [.ref a1, .int (2 : Int32), .int y4, .int (0 : Int32), .int (0 : Int32)]) (rest := [.int v13]) 76 (k + 4) (j + 24) (mL_call hst a1 (2 : Int32) y4 (0 : Int32) (0 : Int32) s14 none v16 s17 h15) qyL_call wd_180 wd_181 rfl rfl (by decide) (Nat.le_of_ble_eq_true rfl) ⟨by show (k + 2) + 2 ≤ 402; omega, by show (j + 12) + 12 ≤ 2412; omega⟩ dL_alike_73 rfl rfl rfl rfl ?_
        obtain ⟨x18, s19, h44, hF⟩ := b2_inv hF
        have hJ : qX l G RL "alike" cL_alike 5 (some .boolean) [] rmL_alike 402 2412 r (k + 20) (j + 120) s19 none 190 [(0, .ref a0), (1, .ref a1), (2, .int a2), (4, .int y4)] [.int x18] := by
          refine x_istore_n 191 3 [(3, .int x18), (0, .ref a0), (1, .ref a1), (2, .int a2), (4, .int y4)] dL_alike_190 rfl rfl (by decide) rfl ?_
          refine x_iinc 194 4 4 (y4 + (1 : Int32)) [(4, .int (y4 + (1 : Int32))), (3, .int x18), (0, .ref a0), (1, .ref a1), (2, .int a2)] dL_alike_191 rfl rfl rfl (by decide) rfl ?_
          refine x_goto 47 dL_alike_194 (by decide) ?_
          refine x_sub [(0, .ref a0), (1, .ref a1), (2, .int a2), (3, .int x18), (4, .int (y4 + (1 : Int32)))] [2, 3, 4, 1, 0] rfl ?_
          exact ih (k + 20) (j + 120) _ _ _ _ _ (by omega) (by omega) hF hJ
        have hF := h44
        rcases ite_inv hF with ⟨hc, hF⟩ | ⟨hc, hF⟩
        · refine x_icmp_ne 189 79 dL_alike_76 (by decide) rfl (fun q => absurd hc q) (fun _ => ?_)
          refine x_aload_n 80 0 dL_alike_79 rfl rfl ?_
          refine x_iconst 81 (3 : Int32) dL_alike_80 rfl (by decide) ?_
          refine x_iload 83 4 dL_alike_81 rfl rfl ?_
          refine x_iload_n 84 2 dL_alike_83 rfl rfl ?_
          refine x_bipush 86 (11 : Int32) dL_alike_84 rfl (by decide) ?_
          refine x_irem 87 (by decide) dL_alike_86 rfl ?_
          refine x_iconst 88 (0 : Int32) dL_alike_87 rfl (by decide) ?_
          obtain ⟨v21, s22, h20, hF⟩ := b2_inv hF
          refine x_callS (As := [.ref a0, .int (3 : Int32), .int y4, .int (irm a2 (11 : Int32)), .int (0 : Int32)]) (rest := []) 91 (k + 6) (j + 36) (mL_call hst a0 (3 : Int32) y4 (irm a2 (11 : Int32)) (0 : Int32) s17 none v21 s22 h20) qyL_call wd_180 wd_181 rfl rfl (by decide) (Nat.le_of_ble_eq_true rfl) ⟨by show (k + 4) + 2 ≤ 402; omega, by show (j + 24) + 12 ≤ 2412; omega⟩ dL_alike_88 rfl rfl rfl rfl ?_
          refine x_aload_n 92 1 dL_alike_91 rfl rfl ?_
          refine x_iconst 93 (3 : Int32) dL_alike_92 rfl (by decide) ?_
          refine x_iload 95 4 dL_alike_93 rfl rfl ?_
          refine x_iload_n 96 2 dL_alike_95 rfl rfl ?_
          refine x_bipush 98 (11 : Int32) dL_alike_96 rfl (by decide) ?_
          refine x_irem 99 (by decide) dL_alike_98 rfl ?_
          refine x_iconst 100 (0 : Int32) dL_alike_99 rfl (by decide) ?_
          obtain ⟨v24, s25, h23, hF⟩ := b2_inv hF
          refine x_callS (As := [.ref a1, .int (3 : Int32), .int y4, .int (irm a2 (11 : Int32)), .int (0 : Int32)]) (rest := [.int v21]) 103 (k + 8) (j + 48) (mL_call hst a1 (3 : Int32) y4 (irm a2 (11 : Int32)) (0 : Int32) s22 none v24 s25 h23) qyL_call wd_180 wd_181 rfl rfl (by decide) (Nat.le_of_ble_eq_true rfl) ⟨by show (k + 6) + 2 ≤ 402; omega, by show (j + 36) + 12 ≤ 2412; omega⟩ dL_alike_100 rfl rfl rfl rfl ?_
          rcases ite_inv hF with ⟨hc, hF⟩ | ⟨hc, hF⟩
          · refine x_icmp_ne 189 106 dL_alike_103 (by decide) rfl (fun q => absurd hc q) (fun _ => ?_)
            refine x_aload_n 107 0 dL_alike_106 rfl rfl ?_
            refine x_iconst 108 (4 : Int32) dL_alike_107 rfl (by decide) ?_
            refine x_iload 110 4 dL_alike_108 rfl rfl ?_
            refine x_iload_n 111 2 dL_alike_110 rfl rfl ?_
            refine x_iconst 112 (5 : Int32) dL_alike_111 rfl (by decide) ?_
            refine x_irem 113 (by decide) dL_alike_112 rfl ?_
            refine x_iconst 114 (0 : Int32) dL_alike_113 rfl (by decide) ?_
            obtain ⟨v27, s28, h26, hF⟩ := b2_inv hF
            refine x_callS (As := [.ref a0, .int (4 : Int32), .int y4, .int (irm a2 (5 : Int32)), .int (0 : Int32)]) (rest := []) 117 (k + 10) (j + 60) (mL_call hst a0 (4 : Int32) y4 (irm a2 (5 : Int32)) (0 : Int32) s25 none v27 s28 h26) qyL_call wd_180 wd_181 rfl rfl (by decide) (Nat.le_of_ble_eq_true rfl) ⟨by show (k + 8) + 2 ≤ 402; omega, by show (j + 48) + 12 ≤ 2412; omega⟩ dL_alike_114 rfl rfl rfl rfl ?_
            refine x_aload_n 118 1 dL_alike_117 rfl rfl ?_
            refine x_iconst 119 (4 : Int32) dL_alike_118 rfl (by decide) ?_
            refine x_iload 121 4 dL_alike_119 rfl rfl ?_
            refine x_iload_n 122 2 dL_alike_121 rfl rfl ?_
            refine x_iconst 123 (5 : Int32) dL_alike_122 rfl (by decide) ?_
            refine x_irem 124 (by decide) dL_alike_123 rfl ?_
            refine x_iconst 125 (0 : Int32) dL_alike_124 rfl (by decide) ?_
            obtain ⟨v30, s31, h29, hF⟩ := b2_inv hF
            refine x_callS (As := [.ref a1, .int (4 : Int32), .int y4, .int (irm a2 (5 : Int32)), .int (0 : Int32)]) (rest := [.int v27]) 128 (k + 12) (j + 72) (mL_call hst a1 (4 : Int32) y4 (irm a2 (5 : Int32)) (0 : Int32) s28 none v30 s31 h29) qyL_call wd_180 wd_181 rfl rfl (by decide) (Nat.le_of_ble_eq_true rfl) ⟨by show (k + 10) + 2 ≤ 402; omega, by show (j + 60) + 12 ≤ 2412; omega⟩ dL_alike_125 rfl rfl rfl rfl ?_
            rcases ite_inv hF with ⟨hc, hF⟩ | ⟨hc, hF⟩
            · refine x_icmp_ne 189 131 dL_alike_128 (by decide) rfl (fun q => absurd hc q) (fun _ => ?_)
              refine x_aload_n 132 0 dL_alike_131 rfl rfl ?_
              refine x_iconst 133 (5 : Int32) dL_alike_132 rfl (by decide) ?_
              refine x_iload 135 4 dL_alike_133 rfl rfl ?_
              refine x_iload_n 136 2 dL_alike_135 rfl rfl ?_
              refine x_iconst 137 (3 : Int32) dL_alike_136 rfl (by decide) ?_
              refine x_irem 138 (by decide) dL_alike_137 rfl ?_
              refine x_iconst 139 (0 : Int32) dL_alike_138 rfl (by decide) ?_
              obtain ⟨v33, s34, h32, hF⟩ := b2_inv hF
              refine x_callS (As := [.ref a0, .int (5 : Int32), .int y4, .int (irm a2 (3 : Int32)), .int (0 : Int32)]) (rest := []) 142 (k + 14) (j + 84) (mL_call hst a0 (5 : Int32) y4 (irm a2 (3 : Int32)) (0 : Int32) s31 none v33 s34 h32) qyL_call wd_180 wd_181 rfl rfl (by decide) (Nat.le_of_ble_eq_true rfl) ⟨by show (k + 12) + 2 ≤ 402; omega, by show (j + 72) + 12 ≤ 2412; omega⟩ dL_alike_139 rfl rfl rfl rfl ?_
              refine x_aload_n 143 1 dL_alike_142 rfl rfl ?_
              refine x_iconst 144 (5 : Int32) dL_alike_143 rfl (by decide) ?_
              refine x_iload 146 4 dL_alike_144 rfl rfl ?_
              refine x_iload_n 147 2 dL_alike_146 rfl rfl ?_
              refine x_iconst 148 (3 : Int32) dL_alike_147 rfl (by decide) ?_
              refine x_irem 149 (by decide) dL_alike_148 rfl ?_
              refine x_iconst 150 (0 : Int32) dL_alike_149 rfl (by decide) ?_
              obtain ⟨v36, s37, h35, hF⟩ := b2_inv hF
              refine x_callS (As := [.ref a1, .int (5 : Int32), .int y4, .int (irm a2 (3 : Int32)), .int (0 : Int32)]) (rest := [.int v33]) 153 (k + 16) (j + 96) (mL_call hst a1 (5 : Int32) y4 (irm a2 (3 : Int32)) (0 : Int32) s34 none v36 s37 h35) qyL_call wd_180 wd_181 rfl rfl (by decide) (Nat.le_of_ble_eq_true rfl) ⟨by show (k + 14) + 2 ≤ 402; omega, by show (j + 84) + 12 ≤ 2412; omega⟩ dL_alike_150 rfl rfl rfl rfl ?_
              rcases ite_inv hF with ⟨hc, hF⟩ | ⟨hc, hF⟩
              · refine x_icmp_ne 189 156 dL_alike_153 (by decide) rfl (fun q => absurd hc q) (fun _ => ?_)
                refine x_aload_n 157 0 dL_alike_156 rfl rfl ?_
                refine x_bipush 159 (17 : Int32) dL_alike_157 rfl (by decide) ?_
                refine x_iload_n 160 2 dL_alike_159 rfl rfl ?_
                refine x_bipush 162 (6 : Int32) dL_alike_160 rfl (by decide) ?_
                refine x_irem 163 (by decide) dL_alike_162 rfl ?_
                refine x_iload 165 4 dL_alike_163 rfl rfl ?_
                refine x_iconst 166 (0 : Int32) dL_alike_165 rfl (by decide) ?_
                obtain ⟨v39, s40, h38, hF⟩ := b2_inv hF
                refine x_callS (As := [.ref a0, .int (17 : Int32), .int (irm a2 (6 : Int32)), .int y4, .int (0 : Int32)]) (rest := []) 169 (k + 18) (j + 108) (mL_call hst a0 (17 : Int32) (irm a2 (6 : Int32)) y4 (0 : Int32) s37 none v39 s40 h38) qyL_call wd_180 wd_181 rfl rfl (by decide) (Nat.le_of_ble_eq_true rfl) ⟨by show (k + 16) + 2 ≤ 402; omega, by show (j + 96) + 12 ≤ 2412; omega⟩ dL_alike_166 rfl rfl rfl rfl ?_
                refine x_aload_n 170 1 dL_alike_169 rfl rfl ?_
                refine x_bipush 172 (17 : Int32) dL_alike_170 rfl (by decide) ?_
                refine x_iload_n 173 2 dL_alike_172 rfl rfl ?_
                refine x_bipush 175 (6 : Int32) dL_alike_173 rfl (by decide) ?_
                refine x_irem 176 (by decide) dL_alike_175 rfl ?_
                refine x_iload 178 4 dL_alike_176 rfl rfl ?_
                refine x_iconst 179 (0 : Int32) dL_alike_178 rfl (by decide) ?_
                obtain ⟨v42, s43, h41, hF⟩ := b2_inv hF
                refine x_callS (As := [.ref a1, .int (17 : Int32), .int (irm a2 (6 : Int32)), .int y4, .int (0 : Int32)]) (rest := [.int v39]) 182 (k + 20) (j + 120) (mL_call hst a1 (17 : Int32) (irm a2 (6 : Int32)) y4 (0 : Int32) s40 none v42 s43 h41) qyL_call wd_180 wd_181 rfl rfl (by decide) (Nat.le_of_ble_eq_true rfl) ⟨by show (k + 18) + 2 ≤ 402; omega, by show (j + 108) + 12 ≤ 2412; omega⟩ dL_alike_179 rfl rfl rfl rfl ?_
                rcases ite_inv hF with ⟨hc, hF⟩ | ⟨hc, hF⟩
                · refine x_icmp_ne 189 185 dL_alike_182 (by decide) rfl (fun q => absurd hc q) (fun _ => ?_)
                  refine x_iconst 186 (1 : Int32) dL_alike_185 rfl (by decide) ?_
                  refine x_goto 190 dL_alike_186 (by decide) ?_
                  obtain ⟨e1, e2⟩ := so2 hF
                  subst e1
                  subst e2
                  refine x_sub [(0, .ref a0), (1, .ref a1), (2, .int a2), (4, .int y4)] [0, 1, 2, 4] rfl ?_
                  exact hJ
                · refine x_icmp_ne 189 185 dL_alike_182 (by decide) rfl (fun _ => ?_) (fun q => absurd q hc)
                  refine x_iconst 190 (0 : Int32) dL_alike_189 rfl (by decide) ?_
                  obtain ⟨e1, e2⟩ := so2 hF
                  subst e1
                  subst e2
                  refine x_sub [(0, .ref a0), (1, .ref a1), (2, .int a2), (4, .int y4)] [0, 1, 2, 4] rfl ?_
                  exact hJ
              · refine x_icmp_ne 189 156 dL_alike_153 (by decide) rfl (fun _ => ?_) (fun q => absurd q hc)
                refine x_iconst 190 (0 : Int32) dL_alike_189 rfl (by decide) ?_
                obtain ⟨e1, e2⟩ := so2 hF
                subst e1
                subst e2
                refine x_wide (k + 20) (j + 120) (by omega) (by omega) ?_
                refine x_sub [(0, .ref a0), (1, .ref a1), (2, .int a2), (4, .int y4)] [0, 1, 2, 4] rfl ?_
                exact hJ
            · refine x_icmp_ne 189 131 dL_alike_128 (by decide) rfl (fun _ => ?_) (fun q => absurd q hc)
              refine x_iconst 190 (0 : Int32) dL_alike_189 rfl (by decide) ?_
              obtain ⟨e1, e2⟩ := so2 hF
              subst e1
              subst e2
              refine x_wide (k + 20) (j + 120) (by omega) (by omega) ?_
              refine x_sub [(0, .ref a0), (1, .ref a1), (2, .int a2), (4, .int y4)] [0, 1, 2, 4] rfl ?_
              exact hJ
          · refine x_icmp_ne 189 106 dL_alike_103 (by decide) rfl (fun _ => ?_) (fun q => absurd q hc)
            refine x_iconst 190 (0 : Int32) dL_alike_189 rfl (by decide) ?_
            obtain ⟨e1, e2⟩ := so2 hF
            subst e1
            subst e2
            refine x_wide (k + 20) (j + 120) (by omega) (by omega) ?_
            refine x_sub [(0, .ref a0), (1, .ref a1), (2, .int a2), (4, .int y4)] [0, 1, 2, 4] rfl ?_
            exact hJ
        · refine x_icmp_ne 189 79 dL_alike_76 (by decide) rfl (fun _ => ?_) (fun q => absurd q hc)
          refine x_iconst 190 (0 : Int32) dL_alike_189 rfl (by decide) ?_
          obtain ⟨e1, e2⟩ := so2 hF
          subst e1
          subst e2
          refine x_wide (k + 20) (j + 120) (by omega) (by omega) ?_
          refine x_sub [(0, .ref a0), (1, .ref a1), (2, .int a2), (4, .int y4)] [0, 1, 2, 4] rfl ?_
          exact hJ
set_option maxHeartbeats 4000000 in
set_option maxRecDepth 100000 in
theorem mL_alike {l : Launch} {G : qG} (hst : l.stackTraces = false) (p0 : Nat) (p1 : Nat) (p2 : Int32) (σ : qH) (n : Option Nat) (ro : Int32) (so : qH) (hF : FL_alike (G.2.2.2.1) p0 p1 p2 σ = some (ro, so)) : qM l G yL_alike cL_alike 5 (some .boolean) rmL_alike [.ref p0, .ref p1, .int p2] σ n (.inl (some (.int ro), so, none)) := by
  refine q_body (own := RL) (nm := "alike") (ls := [(0, .ref p0), (1, .ref p1), (2, .int p2)]) hst (by decide +kernel) rfl rfl (Nat.le_of_ble_eq_true rfl) rfl rfl rfl ?_
  unfold FL_alike at hF
  refine x_anyn ?_
  refine x_aload_n 1 0 dL_alike_0 rfl rfl ?_
  refine x_iload_n 2 2 dL_alike_1 rfl rfl ?_
  refine x_i2l 3 dL_alike_2 rfl ?_
  refine x_iconst 4 (1 : Int32) dL_alike_3 rfl (by decide) ?_
  refine x_iload_n 5 2 dL_alike_4 rfl rfl ?_
  refine x_bipush 7 (60 : Int32) dL_alike_5 rfl (by decide) ?_
  refine x_irem 8 (by decide) dL_alike_7 rfl ?_
  refine x_iadd 9 dL_alike_8 rfl ?_
  obtain ⟨v2, s3, h1, hF⟩ := b2_inv hF
  refine x_callSW (As := [.ref p0, .long (p2).toInt64, .int ((1 : Int32) + (irm p2 (60 : Int32)))]) (rest := []) 12 1 6 (mL_doSimulate hst p0 (p2).toInt64 ((1 : Int32) + (irm p2 (60 : Int32))) σ none v2 s3 h1) qyL_doSimulate wd_870 wd_871 rfl rfl (by decide) (Nat.le_of_ble_eq_true rfl) ⟨Nat.le_of_ble_eq_true rfl, Nat.le_of_ble_eq_true rfl⟩ dL_alike_9 rfl rfl rfl rfl ?_
  refine x_aload_n 13 1 dL_alike_12 rfl rfl ?_
  refine x_iload_n 14 2 dL_alike_13 rfl rfl ?_
  refine x_i2l 15 dL_alike_14 rfl ?_
  refine x_iconst 16 (1 : Int32) dL_alike_15 rfl (by decide) ?_
  refine x_iload_n 17 2 dL_alike_16 rfl rfl ?_
  refine x_bipush 19 (60 : Int32) dL_alike_17 rfl (by decide) ?_
  refine x_irem 20 (by decide) dL_alike_19 rfl ?_
  refine x_iadd 21 dL_alike_20 rfl ?_
  obtain ⟨v5, s6, h4, hF⟩ := b2_inv hF
  refine x_callSW (As := [.ref p1, .long (p2).toInt64, .int ((1 : Int32) + (irm p2 (60 : Int32)))]) (rest := [.int v2]) 24 2 12 (mL_doSimulate hst p1 (p2).toInt64 ((1 : Int32) + (irm p2 (60 : Int32))) s3 none v5 s6 h4) qyL_doSimulate wd_870 wd_871 rfl rfl (by decide) (Nat.le_of_ble_eq_true rfl) ⟨Nat.le_of_ble_eq_true rfl, Nat.le_of_ble_eq_true rfl⟩ dL_alike_21 rfl rfl rfl rfl ?_
  obtain ⟨x7, h48, hF⟩ := b1_inv hF
  have hJ : qX l G RL "alike" cL_alike 5 (some .boolean) [] rmL_alike 402 2412 (.inl (some (.int ro), so, none)) 2 12 s6 none 43 [(0, .ref p0), (1, .ref p1), (2, .int p2)] [.int x7] := by
    refine x_istore_n 44 3 [(3, .int x7), (0, .ref p0), (1, .ref p1), (2, .int p2)] dL_alike_43 rfl rfl (by decide) rfl ?_
    refine x_iconst 45 (0 : Int32) dL_alike_44 rfl (by decide) ?_
    refine x_istore 47 4 [(4, .int (0 : Int32)), (3, .int x7), (0, .ref p0), (1, .ref p1), (2, .int p2)] dL_alike_45 rfl (by decide) rfl ?_
    obtain ⟨x45, s46, h47, hF⟩ := b2_inv hF
    have hJ : qX l G RL "alike" cL_alike 5 (some .boolean) [] rmL_alike 402 2412 (.inl (some (.int ro), so, none)) 402 2412 s46 none 197 [(3, .int x45)] [] := by
      refine x_iload_n 198 0 dL_alike_197 rfl rfl ?_
      obtain ⟨hz, hF⟩ := ite_none hF
      cases hF
      exact x_zret rfl (by rcases hz with h | h <;> rw [h] <;> rfl) rfl (Nat.le_of_ble_eq_true rfl) (Nat.le_of_ble_eq_true rfl) dL_alike_198
    refine x_sub [(0, .ref p0), (1, .ref p1), (2, .int p2), (3, .int x7), (4, .int (0 : Int32))] [2, 3, 4, 1, 0] rfl ?_
    exact mL_alike_L47 hst p0 p1 p2 _ 402 2412 (Nat.le_of_ble_eq_true rfl) (Nat.le_of_ble_eq_true rfl) 20 2 12 x7 (0 : Int32) s6 x45 s46 (Nat.le_of_ble_eq_true rfl) (Nat.le_of_ble_eq_true rfl) h47 hJ
  have hF := h48
  rcases ite_inv hF with ⟨hc, hF⟩ | ⟨hc, hF⟩
  · refine x_icmp_ne 42 27 dL_alike_24 (by decide) rfl (fun q => absurd hc q) (fun _ => ?_)
    refine x_aload_n 28 0 dL_alike_27 rfl rfl ?_
    obtain ⟨v9, h8, hF⟩ := b1_inv hF
    obtain ⟨fs, hb⟩ : ∃ fs : List Value, True ∧ s6 p0 = some (.inr (4, fs)) := kX6_truest h8
    refine x_callV (As := []) (rest := []) 31 2 12 (mX6_truest hst p0 s6 none v9 h8) qyX6_truest wd_896 wd_897 wd_898 hb.2 rfl rfl rfl (by decide) (Nat.le_of_ble_eq_true rfl) ⟨Nat.le_of_ble_eq_true rfl, Nat.le_of_ble_eq_true rfl⟩ dL_alike_28 rfl rfl rfl rfl ?_
    refine x_aload_n 32 1 dL_alike_31 rfl rfl ?_
    obtain ⟨v11, h10, hF⟩ := b1_inv hF
    obtain ⟨fs, hb⟩ : ∃ fs : List Value, True ∧ s6 p1 = some (.inr (4, fs)) := kX6_truest h10
    refine x_callV (As := []) (rest := [.int v9]) 35 2 12 (mX6_truest hst p1 s6 none v11 h10) qyX6_truest wd_896 wd_897 wd_898 hb.2 rfl rfl rfl (by decide) (Nat.le_of_ble_eq_true rfl) ⟨Nat.le_of_ble_eq_true rfl, Nat.le_of_ble_eq_true rfl⟩ dL_alike_32 rfl rfl rfl rfl ?_
    rcases ite_inv hF with ⟨hc, hF⟩ | ⟨hc, hF⟩
    · refine x_icmp_ne 42 38 dL_alike_35 (by decide) rfl (fun q => absurd hc q) (fun _ => ?_)
      refine x_iconst 39 (1 : Int32) dL_alike_38 rfl (by decide) ?_
      refine x_goto 43 dL_alike_39 (by decide) ?_
      have e1 := Option.some.inj hF
      subst e1
      exact hJ
    · refine x_icmp_ne 42 38 dL_alike_35 (by decide) rfl (fun _ => ?_) (fun q => absurd q hc)
      refine x_iconst 43 (0 : Int32) dL_alike_42 rfl (by decide) ?_
      have e1 := Option.some.inj hF
      subst e1
      exact hJ
  · refine x_icmp_ne 42 27 dL_alike_24 (by decide) rfl (fun _ => ?_) (fun q => absurd q hc)
    refine x_iconst 43 (0 : Int32) dL_alike_42 rfl (by decide) ?_
    have e1 := Option.some.inj hF
    subst e1
    exact hJ
def rmL_holds : Room := { frames := 10, cells := 6142, slots := 36852, locals := 207 }
theorem qyL_holds : qY yL_holds cL_holds 17 (some .boolean) 2 := ⟨wd_895, wd_16, by decide +kernel, by decide +kernel, by decide +kernel⟩
set_option maxHeartbeats 8000000 in
set_option maxRecDepth 100000 in
theorem mL_holds_L79 {l : Launch} {G : qG} (hst : l.stackTraces = false) (a0 : Nat) (a1 : Int32) (a2 : Int32) (a3 : Int32) (a4 : Int32) (a5 : Int32) (a6 : Int32) (a7 : Int32) (a9 : Int32) (a11 : Int32) (r : qR) (KK JJ : Nat) (gK : KK ≤ 6142) (gL : JJ ≤ 36852) : ∀ (q k j : Nat) (y8 : Int32) (y10 : Int32) (y12 : Int32) (σ : qH) (o8 : Int32) (o10 : Int32) (so : qH), k + 12 * q ≤ KK → j + 72 * q ≤ JJ → FL_holds_L79 (G.2.2.2.1) a0 a1 a2 a3 a4 a5 a6 a7 a9 a11 q y8 y10 y12 σ = some (o8, o10, so) → qX l G RL "holds" cL_holds 17 (some .boolean) [] rmL_holds 6142 36852 r KK JJ so none 232 [(0, .ref a0), (1, .int a1), (2, .int a2), (3, .int a3), (4, .int a4), (5, .int a5), (6, .int a6), (7, .int a7), (8, .int o8), (9, .int a9), (10, .int o10), (11, .int a11)] [] → qX l G RL "holds" cL_holds 17 (some .boolean) [] rmL_holds 6142 36852 r k j σ none 79 [(0, .ref a0), (1, .int a1), (2, .int a2), (3, .int a3), (4, .int a4), (5, .int a5), (6, .int a6), (7, .int a7), (8, .int y8), (9, .int a9), (10, .int y10), (11, .int a11), (12, .int y12)] [] := by
  intro q
  induction q with
  | zero => intro k j y8 y10 y12 σ o8 o10 so gk gj hF; rw [FL_holds_L79] at hF; cases hF
  | succ q ih =>
    intro k j y8 y10 y12 σ o8 o10 so gk gj hF hJ
    rw [FL_holds_L79] at hF
    refine x_iload 81 12 dL_holds_79 rfl rfl ?_
    refine x_iload_n 82 2 dL_holds_81 rfl rfl ?_
    rcases ite_inv hF with ⟨hc, hF⟩ | ⟨hc, hF⟩
    · refine x_icmp_ge 232 85 dL_holds_82 (by decide) rfl (fun _ => ?_) (fun q => absurd hc q)
      obtain ⟨e1, e2, e3⟩ := so3 hF
      subst e1
      subst e2
      subst e3
      refine x_wide KK JJ (by omega) (by omega) ?_
      refine x_sub [(0, .ref a0), (1, .int a1), (2, .int a2), (3, .int a3), (4, .int a4), (5, .int a5), (6, .int a6), (7, .int a7), (8, .int y8), (9, .int a9), (10, .int y10), (11, .int a11)] [0, 1, 2, 3, 4, 5, 6, 7, 8, 9, 10, 11] rfl ?_
      exact hJ
    · refine x_icmp_ge 232 85 dL_holds_82 (by decide) rfl (fun q => absurd q hc) (fun _ => ?_)
      refine x_iload 87 8 dL_holds_85 rfl rfl ?_
      rcases ite_inv hF with ⟨hc, hF⟩ | ⟨hc, hF⟩
      · refine x_if_eq 232 90 dL_holds_87 (by decide) rfl (fun _ => ?_) (fun q => absurd hc q)
        obtain ⟨e1, e2, e3⟩ := so3 hF
        subst e1
        subst e2
        subst e3
        refine x_wide KK JJ (by omega) (by omega) ?_
        refine x_sub [(0, .ref a0), (1, .int a1), (2, .int a2), (3, .int a3), (4, .int a4), (5, .int a5), (6, .int a6), (7, .int a7), (8, .int y8), (9, .int a9), (10, .int y10), (11, .int a11)] [0, 1, 2, 3, 4, 5, 6, 7, 8, 9, 10, 11] rfl ?_
        exact hJ
      · refine x_if_eq 232 90 dL_holds_87 (by decide) rfl (fun q => absurd q hc) (fun _ => ?_)
        refine x_aload_n 91 0 dL_holds_90 rfl rfl ?_
        refine x_bipush 93 (14 : Int32) dL_holds_91 rfl (by decide) ?_
        refine x_iload 95 9 dL_holds_93 rfl rfl ?_
        refine x_iload 97 12 dL_holds_95 rfl rfl ?_
        refine x_iconst 98 (0 : Int32) dL_holds_97 rfl (by decide) ?_
        obtain ⟨v13, s14, h12, hF⟩ := b2_inv hF
        refine x_callS (As := [.ref a0, .int (14 : Int32), .int a9, .int y12, .int (0 : Int32)]) (rest := []) 101 (k + 2) (j + 12) (mL_call hst a0 (14 : Int32) a9 y12 (0 : Int32) σ none v13 s14 h12) qyL_call wd_180 wd_181 rfl rfl (by decide) (Nat.le_of_ble_eq_true rfl) ⟨by show k + 2 ≤ 6142; omega, by show j + 12 ≤ 36852; omega⟩ dL_holds_98 rfl rfl rfl rfl ?_
        refine x_istore 103 13 [(13, .int v13), (0, .ref a0), (1, .int a1), (2, .int a2), (3, .int a3), (4, .int a4), (5, .int a5), (6, .int a6), (7, .int a7), (8, .int y8), (9, .int a9), (10, .int y10), (11, .int a11), (12, .int y12)] dL_holds_101 rfl (by decide) rfl ?_
        refine x_aload_n 104 1 dL_holds_103 rfl rfl ?_
        refine x_iconst 105 (3 : Int32) dL_holds_104 rfl (by decide) ?_
        refine x_iload 107 10 dL_holds_105 rfl rfl ?_
        refine x_iconst 108 (0 : Int32) dL_holds_107 rfl (by decide) ?_
        refine x_iconst 109 (0 : Int32) dL_holds_108 rfl (by decide) ?_
        obtain ⟨v16, s17, h15, hF⟩ := b2_inv hF
        refine x_callS (As := [.ref a0, .int (3 : Int32), .int a9, .int (0 : Int32), .int (0 : Int32)]) (rest := []) 112 (k + 4) (j + 24) (mL_call hst a0 (3 : Int32) a9 (0 : Int32) (0 : Int32) s14 none v16 s17 h15) qyL_call wd_180 wd_181 rfl rfl (by decide) (Nat.le_of_ble_eq_true rfl) ⟨by show (k + 2) + 2 ≤ 6142; omega, by show (j + 12) + 12 ≤ 36852; omega⟩ dL_holds_109 rfl rfl rfl rfl ?_
        refine x_aload_n 113 1 dL_holds_112 rfl rfl ?_
        refine x_iconst 114 (3 : Int32) dL_holds_113 rfl (by decide) ?_
        refine x_iload 116 13 dL_holds_114 rfl rfl ?_
        refine x_iconst 117 (0 : Int32) dL_holds_116 rfl (by decide) ?_
        refine x_iconst 118 (0 : Int32) dL_holds_117 rfl (by decide) ?_
        obtain ⟨v19, s20, h18, hF⟩ := b2_inv hF
        refine x_callS (As := [.ref a0, .int (3 : Int32), .int y12, .int (0 : Int32), .int (0 : Int32)]) (rest := [.int v16]) 121 (k + 6) (j + 36) (mL_call hst a0 (3 : Int32) y12 (0 : Int32) (0 : Int32) s17 none v19 s20 h18) qyL_call wd_180 wd_181 rfl rfl (by decide) (Nat.le_of_ble_eq_true rfl) ⟨by show (k + 4) + 2 ≤ 6142; omega, by show (j + 24) + 12 ≤ 36852; omega⟩ dL_holds_118 rfl rfl rfl rfl ?_
        obtain ⟨x21, h40, hF⟩ := b1_inv hF
        have hJ : qX l G RL "holds" cL_holds 17 (some .boolean) [] rmL_holds 6142 36852 r (k + 6) (j + 36) s20 none 129 [(0, .ref a0), (1, .int a1), (2, .int a2), (3, .int a3), (4, .int a4), (5, .int a5), (6, .int a6), (7, .int a7), (9, .int a9), (10, .int y10), (11, .int a11), (12, .int y12), (13, .int v13)] [.int x21] := by
          refine x_istore 131 14 [(14, .int x21), (0, .ref a0), (1, .int a1), (2, .int a2), (3, .int a3), (4, .int a4), (5, .int a5), (6, .int a6), (7, .int a7), (9, .int a9), (10, .int y10), (11, .int a11), (12, .int y12), (13, .int v13)] dL_holds_129 rfl (by decide) rfl ?_
          refine x_iload 133 10 dL_holds_131 rfl rfl ?_
          refine x_iload 135 13 dL_holds_133 rfl rfl ?_
          obtain ⟨x22, s23, h39, hF⟩ := b2_inv hF
          have hJ : qX l G RL "holds" cL_holds 17 (some .boolean) [] rmL_holds 6142 36852 r (k + 10) (j + 60) s23 none 164 [(0, .ref a0), (1, .int a1), (2, .int a2), (3, .int a3), (4, .int a4), (5, .int a5), (6, .int a6), (7, .int a7), (9, .int a9), (11, .int a11), (12, .int y12), (13, .int v13), (14, .int x21)] [.int x22, .int y10] := by
            refine x_iadd 165 dL_holds_164 rfl ?_
            refine x_istore 167 10 [(10, .int (y10 + x22)), (0, .ref a0), (1, .int a1), (2, .int a2), (3, .int a3), (4, .int a4), (5, .int a5), (6, .int a6), (7, .int a7), (9, .int a9), (11, .int a11), (12, .int y12), (13, .int v13), (14, .int x21)] dL_holds_165 rfl (by decide) rfl ?_
            refine x_iload 169 12 dL_holds_167 rfl rfl ?_
            refine x_aload_n 170 1 dL_holds_169 rfl rfl ?_
            refine x_bipush 172 (14 : Int32) dL_holds_170 rfl (by decide) ?_
            refine x_iload 174 11 dL_holds_172 rfl rfl ?_
            refine x_iload 176 9 dL_holds_174 rfl rfl ?_
            refine x_iconst 177 (0 : Int32) dL_holds_176 rfl (by decide) ?_
            obtain ⟨v31, s32, h30, hF⟩ := b2_inv hF
            refine x_callS (As := [.ref a0, .int (14 : Int32), .int y12, .int a9, .int (0 : Int32)]) (rest := [.int v13]) 180 (k + 12) (j + 72) (mL_call hst a0 (14 : Int32) y12 a9 (0 : Int32) s23 none v31 s32 h30) qyL_call wd_180 wd_181 rfl rfl (by decide) (Nat.le_of_ble_eq_true rfl) ⟨by show (k + 10) + 2 ≤ 6142; omega, by show (j + 60) + 12 ≤ 36852; omega⟩ dL_holds_177 rfl rfl rfl rfl ?_
            obtain ⟨x33, h38, hF⟩ := b1_inv hF
            have hJ : qX l G RL "holds" cL_holds 17 (some .boolean) [] rmL_holds 6142 36852 r (k + 12) (j + 72) s32 none 224 [(0, .ref a0), (1, .int a1), (2, .int a2), (3, .int a3), (4, .int a4), (5, .int a5), (6, .int a6), (7, .int a7), (9, .int a9), (10, .int (y10 + x22)), (11, .int a11), (12, .int y12)] [.int x33] := by
              refine x_istore 226 8 [(8, .int x33), (0, .ref a0), (1, .int a1), (2, .int a2), (3, .int a3), (4, .int a4), (5, .int a5), (6, .int a6), (7, .int a7), (9, .int a9), (10, .int (y10 + x22)), (11, .int a11), (12, .int y12)] dL_holds_224 rfl (by decide) rfl ?_
              refine x_iinc 229 12 12 (y12 + (1 : Int32)) [(12, .int (y12 + (1 : Int32))), (8, .int x33), (0, .ref a0), (1, .int a1), (2, .int a2), (3, .int a3), (4, .int a4), (5, .int a5), (6, .int a6), (7, .int a7), (9, .int a9), (10, .int (y10 + x22)), (11, .int a11)] dL_holds_226 rfl rfl rfl (by decide) rfl ?_
              refine x_goto 79 dL_holds_229 (by decide) ?_
              refine x_sub [(0, .ref a0), (1, .int a1), (2, .int a2), (3, .int a3), (4, .int a4), (5, .int a5), (6, .int a6), (7, .int a7), (8, .int x33), (9, .int a9), (10, .int (y10 + x22)), (11, .int a11), (12, .int (y12 + (1 : Int32)))] [2, 3, 4, 5, 6, 7, 8, 9, 1, 10, 11, 12, 0] rfl ?_
              exact ih (k + 12) (j + 72) _ _ _ _ _ _ _ (by omega) (by omega) hF hJ
            have hF := h38
            rcases ite_inv hF with ⟨hc, hF⟩ | ⟨hc, hF⟩
            · refine x_icmp_ne 223 183 dL_holds_180 (by decide) rfl (fun q => absurd hc q) (fun _ => ?_)
              refine x_iload 185 12 dL_holds_183 rfl rfl ?_
              refine x_iconst 186 (-1 : Int32) dL_holds_185 rfl (by decide) ?_
              obtain ⟨x34, h37, hF⟩ := b1_inv hF
              have hJ : qX l G RL "holds" cL_holds 17 (some .boolean) [] rmL_holds 6142 36852 r (k + 12) (j + 72) s32 none 194 [(0, .ref a0), (1, .int a1), (2, .int a2), (3, .int a3), (4, .int a4), (5, .int a5), (6, .int a6), (7, .int a7), (9, .int a9), (10, .int (y10 + x22)), (11, .int a11), (12, .int y12), (13, .int v13), (14, .int x21)] [.int x34] := by
                refine x_iload 196 13 dL_holds_194 rfl rfl ?_
                obtain ⟨x35, h36, hF⟩ := b1_inv hF
                have hJ : qX l G RL "holds" cL_holds 17 (some .boolean) [] rmL_holds 6142 36852 r (k + 12) (j + 72) s32 none 204 [(0, .ref a0), (1, .int a1), (2, .int a2), (3, .int a3), (4, .int a4), (5, .int a5), (6, .int a6), (7, .int a7), (9, .int a9), (10, .int (y10 + x22)), (11, .int a11), (12, .int y12), (13, .int v13)] [.int x35, .int x34] := by
                  rcases ite_inv hF with ⟨hc, hF⟩ | ⟨hc, hF⟩
                  · refine x_icmp_ne 223 207 dL_holds_204 (by decide) rfl (fun q => absurd hc q) (fun _ => ?_)
                    refine x_iload 209 8 dL_holds_207 rfl rfl ?_
                    refine x_iload 211 11 dL_holds_209 rfl rfl ?_
                    rcases ite_inv hF with ⟨hc, hF⟩ | ⟨hc, hF⟩
                    · refine x_icmp_ne 219 214 dL_holds_211 (by decide) rfl (fun q => absurd hc q) (fun _ => ?_)
                      refine x_iload 216 12 dL_holds_214 rfl rfl ?_
                      rcases ite_inv hF with ⟨hc, hF⟩ | ⟨hc, hF⟩
                      · refine x_if_ne 223 219 dL_holds_216 (by decide) rfl (fun q => absurd hc q) (fun _ => ?_)
                        refine x_iconst 220 (1 : Int32) dL_holds_219 rfl (by decide) ?_
                        refine x_goto 224 dL_holds_220 (by decide) ?_
                        have e1 := Option.some.inj hF
                        subst e1
                        refine x_sub [(0, .ref a0), (1, .int a1), (2, .int a2), (3, .int a3), (4, .int a4), (5, .int a5), (6, .int a6), (7, .int a7), (9, .int a9), (10, .int (y10 + x22)), (11, .int a11), (12, .int y12)] [0, 1, 2, 3, 4, 5, 6, 7, 8, 9, 10, 11] rfl ?_
                        exact hJ
                      · refine x_if_ne 223 219 dL_holds_216 (by decide) rfl (fun _ => ?_) (fun q => absurd q hc)
                        refine x_iconst 224 (0 : Int32) dL_holds_223 rfl (by decide) ?_
                        have e1 := Option.some.inj hF
                        subst e1
                        refine x_sub [(0, .ref a0), (1, .int a1), (2, .int a2), (3, .int a3), (4, .int a4), (5, .int a5), (6, .int a6), (7, .int a7), (9, .int a9), (10, .int (y10 + x22)), (11, .int a11), (12, .int y12)] [0, 1, 2, 3, 4, 5, 6, 7, 8, 9, 10, 11] rfl ?_
                        exact hJ
                    · refine x_icmp_ne 219 214 dL_holds_211 (by decide) rfl (fun _ => ?_) (fun q => absurd q hc)
                      refine x_iconst 220 (1 : Int32) dL_holds_219 rfl (by decide) ?_
                      refine x_goto 224 dL_holds_220 (by decide) ?_
                      have e1 := Option.some.inj hF
                      subst e1
                      refine x_sub [(0, .ref a0), (1, .int a1), (2, .int a2), (3, .int a3), (4, .int a4), (5, .int a5), (6, .int a6), (7, .int a7), (9, .int a9), (10, .int (y10 + x22)), (11, .int a11), (12, .int y12)] [0, 1, 2, 3, 4, 5, 6, 7, 8, 9, 10, 11] rfl ?_
                      exact hJ
                  · refine x_icmp_ne 223 207 dL_holds_204 (by decide) rfl (fun _ => ?_) (fun q => absurd q hc)
                    refine x_iconst 224 (0 : Int32) dL_holds_223 rfl (by decide) ?_
                    have e1 := Option.some.inj hF
                    subst e1
                    refine x_sub [(0, .ref a0), (1, .int a1), (2, .int a2), (3, .int a3), (4, .int a4), (5, .int a5), (6, .int a6), (7, .int a7), (9, .int a9), (10, .int (y10 + x22)), (11, .int a11), (12, .int y12)] [0, 1, 2, 3, 4, 5, 6, 7, 8, 9, 10, 11] rfl ?_
                    exact hJ
                have hF := h36
                rcases ite_inv hF with ⟨hc, hF⟩ | ⟨hc, hF⟩
                · refine x_if_ne 203 199 dL_holds_196 (by decide) rfl (fun q => absurd hc q) (fun _ => ?_)
                  refine x_iconst 200 (1 : Int32) dL_holds_199 rfl (by decide) ?_
                  refine x_goto 204 dL_holds_200 (by decide) ?_
                  have e1 := Option.some.inj hF
                  subst e1
                  refine x_sub [(0, .ref a0), (1, .int a1), (2, .int a2), (3, .int a3), (4, .int a4), (5, .int a5), (6, .int a6), (7, .int a7), (9, .int a9), (10, .int (y10 + x22)), (11, .int a11), (12, .int y12), (13, .int v13)] [0, 1, 2, 3, 4, 5, 6, 7, 8, 9, 10, 11, 12] rfl ?_
                  exact hJ
                · refine x_if_ne 203 199 dL_holds_196 (by decide) rfl (fun _ => ?_) (fun q => absurd q hc)
                  refine x_iconst 204 (0 : Int32) dL_holds_203 rfl (by decide) ?_
                  have e1 := Option.some.inj hF
                  subst e1
                  refine x_sub [(0, .ref a0), (1, .int a1), (2, .int a2), (3, .int a3), (4, .int a4), (5, .int a5), (6, .int a6), (7, .int a7), (9, .int a9), (10, .int (y10 + x22)), (11, .int a11), (12, .int y12), (13, .int v13)] [0, 1, 2, 3, 4, 5, 6, 7, 8, 9, 10, 11, 12] rfl ?_
                  exact hJ
              have hF := h37
              rcases ite_inv hF with ⟨hc, hF⟩ | ⟨hc, hF⟩
              · refine x_icmp_ne 193 189 dL_holds_186 (by decide) rfl (fun q => absurd hc q) (fun _ => ?_)
                refine x_iconst 190 (1 : Int32) dL_holds_189 rfl (by decide) ?_
                refine x_goto 194 dL_holds_190 (by decide) ?_
                have e1 := Option.some.inj hF
                subst e1
                refine x_sub [(0, .ref a0), (1, .int a1), (2, .int a2), (3, .int a3), (4, .int a4), (5, .int a5), (6, .int a6), (7, .int a7), (9, .int a9), (10, .int (y10 + x22)), (11, .int a11), (12, .int y12), (13, .int v13), (14, .int x21)] [1, 2, 3, 4, 5, 6, 7, 8, 9, 0, 10, 11, 12, 13] rfl ?_
                exact hJ
              · refine x_icmp_ne 193 189 dL_holds_186 (by decide) rfl (fun _ => ?_) (fun q => absurd q hc)
                refine x_iconst 194 (0 : Int32) dL_holds_193 rfl (by decide) ?_
                have e1 := Option.some.inj hF
                subst e1
                refine x_sub [(0, .ref a0), (1, .int a1), (2, .int a2), (3, .int a3), (4, .int a4), (5, .int a5), (6, .int a6), (7, .int a7), (9, .int a9), (10, .int (y10 + x22)), (11, .int a11), (12, .int y12), (13, .int v13), (14, .int x21)] [1, 2, 3, 4, 5, 6, 7, 8, 9, 0, 10, 11, 12, 13] rfl ?_
                exact hJ
            · refine x_icmp_ne 223 183 dL_holds_180 (by decide) rfl (fun _ => ?_) (fun q => absurd q hc)
              refine x_iconst 224 (0 : Int32) dL_holds_223 rfl (by decide) ?_
              have e1 := Option.some.inj hF
              subst e1
              refine x_sub [(0, .ref a0), (1, .int a1), (2, .int a2), (3, .int a3), (4, .int a4), (5, .int a5), (6, .int a6), (7, .int a7), (9, .int a9), (10, .int (y10 + x22)), (11, .int a11), (12, .int y12)] [1, 2, 3, 4, 5, 6, 7, 8, 9, 0, 10, 11] rfl ?_
              exact hJ
          have hF := h39
          rcases ite_inv hF with ⟨hc, hF⟩ | ⟨hc, hF⟩
          · refine x_if_le 163 138 dL_holds_135 (by decide) rfl (fun _ => ?_) (fun q => absurd hc q)
            refine x_iconst 164 (0 : Int32) dL_holds_163 rfl (by decide) ?_
            obtain ⟨e1, e2⟩ := so2 hF
            subst e1
            subst e2
            refine x_wide (k + 10) (j + 60) (by omega) (by omega) ?_
            refine x_sub [(0, .ref a0), (1, .int a1), (2, .int a2), (3, .int a3), (4, .int a4), (5, .int a5), (6, .int a6), (7, .int a7), (9, .int a9), (11, .int a11), (12, .int y12), (13, .int v13), (14, .int x21)] [1, 2, 3, 4, 5, 6, 7, 8, 9, 11, 12, 13, 0] rfl ?_
            exact hJ
          · refine x_if_le 163 138 dL_holds_135 (by decide) rfl (fun q => absurd q hc) (fun _ => ?_)
            refine x_aload_n 139 1 dL_holds_138 rfl rfl ?_
            refine x_iconst 140 (3 : Int32) dL_holds_139 rfl (by decide) ?_
            refine x_iload 142 9 dL_holds_140 rfl rfl ?_
            refine x_iconst 143 (1 : Int32) dL_holds_142 rfl (by decide) ?_
            refine x_iconst 144 (0 : Int32) dL_holds_143 rfl (by decide) ?_
            obtain ⟨v25, s26, h24, hF⟩ := b2_inv hF
            refine x_callS (As := [.ref a0, .int (3 : Int32), .int a9, .int (1 : Int32), .int (0 : Int32)]) (rest := [.int y10]) 147 (k + 8) (j + 48) (mL_call hst a0 (3 : Int32) a9 (1 : Int32) (0 : Int32) s20 none v25 s26 h24) qyL_call wd_180 wd_181 rfl rfl (by decide) (Nat.le_of_ble_eq_true rfl) ⟨by show (k + 6) + 2 ≤ 6142; omega, by show (j + 36) + 12 ≤ 36852; omega⟩ dL_holds_144 rfl rfl rfl rfl ?_
            refine x_aload_n 148 1 dL_holds_147 rfl rfl ?_
            refine x_iconst 149 (3 : Int32) dL_holds_148 rfl (by decide) ?_
            refine x_iload 151 12 dL_holds_149 rfl rfl ?_
            refine x_iconst 152 (1 : Int32) dL_holds_151 rfl (by decide) ?_
            refine x_iconst 153 (0 : Int32) dL_holds_152 rfl (by decide) ?_
            obtain ⟨v28, s29, h27, hF⟩ := b2_inv hF
            refine x_callS (As := [.ref a0, .int (3 : Int32), .int y12, .int (1 : Int32), .int (0 : Int32)]) (rest := [.int v25, .int y10]) 156 (k + 10) (j + 60) (mL_call hst a0 (3 : Int32) y12 (1 : Int32) (0 : Int32) s26 none v28 s29 h27) qyL_call wd_180 wd_181 rfl rfl (by decide) (Nat.le_of_ble_eq_true rfl) ⟨by show (k + 8) + 2 ≤ 6142; omega, by show (j + 48) + 12 ≤ 36852; omega⟩ dL_holds_153 rfl rfl rfl rfl ?_
            rcases ite_inv hF with ⟨hc, hF⟩ | ⟨hc, hF⟩
            · refine x_icmp_eq 163 159 dL_holds_156 (by decide) rfl (fun _ => ?_) (fun q => absurd hc q)
              refine x_iconst 164 (0 : Int32) dL_holds_163 rfl (by decide) ?_
              obtain ⟨e1, e2⟩ := so2 hF
              subst e1
              subst e2
              refine x_sub [(0, .ref a0), (1, .int a1), (2, .int a2), (3, .int a3), (4, .int a4), (5, .int a5), (6, .int a6), (7, .int a7), (9, .int a9), (11, .int a11), (12, .int y12), (13, .int v13), (14, .int x21)] [1, 2, 3, 4, 5, 6, 7, 8, 9, 11, 12, 13, 0] rfl ?_
              exact hJ
            · refine x_icmp_eq 163 159 dL_holds_156 (by decide) rfl (fun q => absurd q hc) (fun _ => ?_)
              refine x_iconst 160 (1 : Int32) dL_holds_159 rfl (by decide) ?_
              refine x_goto 164 dL_holds_160 (by decide) ?_
              obtain ⟨e1, e2⟩ := so2 hF
              subst e1
              subst e2
              refine x_sub [(0, .ref a0), (1, .int a1), (2, .int a2), (3, .int a3), (4, .int a4), (5, .int a5), (6, .int a6), (7, .int a7), (9, .int a9), (11, .int a11), (12, .int y12), (13, .int v13), (14, .int x21)] [1, 2, 3, 4, 5, 6, 7, 8, 9, 11, 12, 13, 0] rfl ?_
              exact hJ
        have hF := h40
        rcases ite_inv hF with ⟨hc, hF⟩ | ⟨hc, hF⟩
        · refine x_icmp_ne 128 124 dL_holds_121 (by decide) rfl (fun q => absurd hc q) (fun _ => ?_)
          refine x_iconst 125 (1 : Int32) dL_holds_124 rfl (by decide) ?_
          refine x_goto 129 dL_holds_125 (by decide) ?_
          have e1 := Option.some.inj hF
          subst e1
          refine x_sub [(0, .ref a0), (1, .int a1), (2, .int a2), (3, .int a3), (4, .int a4), (5, .int a5), (6, .int a6), (7, .int a7), (9, .int a9), (10, .int y10), (11, .int a11), (12, .int y12), (13, .int v13)] [1, 2, 3, 4, 5, 6, 7, 8, 10, 11, 12, 13, 0] rfl ?_
          exact hJ
        · refine x_icmp_ne 128 124 dL_holds_121 (by decide) rfl (fun _ => ?_) (fun q => absurd q hc)
          refine x_iconst 129 (0 : Int32) dL_holds_128 rfl (by decide) ?_
          have e1 := Option.some.inj hF
          subst e1
          refine x_sub [(0, .ref a0), (1, .int a1), (2, .int a2), (3, .int a3), (4, .int a4), (5, .int a5), (6, .int a6), (7, .int a7), (9, .int a9), (10, .int y10), (11, .int a11), (12, .int y12), (13, .int v13)] [1, 2, 3, 4, 5, 6, 7, 8, 10, 11, 12, 13, 0] rfl ?_
          exact hJ
set_option maxHeartbeats 8000000 in
set_option maxRecDepth 100000 in
theorem mL_holds_L51 {l : Launch} {G : qG} (hst : l.stackTraces = false) (a0 : Nat) (a1 : Int32) (a2 : Int32) (a4 : Int32) (a5 : Int32) (a6 : Int32) (a7 : Int32) (r : qR) (KK JJ : Nat) (gK : KK ≤ 6142) (gL : JJ ≤ 36852) : ∀ (q k j : Nat) (y3 : Int32) (y8 : Int32) (y9 : Int32) (σ : qH) (o3 : Int32) (o8 : Int32) (so : qH), k + 260 * q ≤ KK → j + 1560 * q ≤ JJ → FL_holds_L51 (G.2.2.2.1) a0 a1 a2 a4 a5 a6 a7 q y3 y8 y9 σ = some (o3, o8, so) → qX l G RL "holds" cL_holds 17 (some .boolean) [] rmL_holds 6142 36852 r KK JJ so none 372 [(0, .ref a0), (1, .int a1), (2, .int a2), (3, .int o3), (4, .int a4), (5, .int a5), (6, .int a6), (7, .int a7), (8, .int o8)] [] → qX l G RL "holds" cL_holds 17 (some .boolean) [] rmL_holds 6142 36852 r k j σ none 51 [(0, .ref a0), (1, .int a1), (2, .int a2), (3, .int y3), (4, .int a4), (5, .int a5), (6, .int a6), (7, .int a7), (8, .int y8), (9, .int y9)] [] := by
  intro q
  induction q with
  | zero => intro k j y3 y8 y9 σ o3 o8 so gk gj hF; rw [FL_holds_L51] at hF; cases hF
  | succ q ih =>
    intro k j y3 y8 y9 σ o3 o8 so gk gj hF hJ
    rw [FL_holds_L51] at hF
    refine x_iload 53 9 dL_holds_51 rfl rfl ?_
    refine x_iload_n 54 2 dL_holds_53 rfl rfl ?_
    rcases ite_inv hF with ⟨hc, hF⟩ | ⟨hc, hF⟩
    · refine x_icmp_ge 372 57 dL_holds_54 (by decide) rfl (fun _ => ?_) (fun q => absurd hc q)
      obtain ⟨e1, e2, e3⟩ := so3 hF
      subst e1
      subst e2
      subst e3
      refine x_wide KK JJ (by omega) (by omega) ?_
      refine x_sub [(0, .ref a0), (1, .int a1), (2, .int a2), (3, .int y3), (4, .int a4), (5, .int a5), (6, .int a6), (7, .int a7), (8, .int y8)] [0, 1, 2, 3, 4, 5, 6, 7, 8] rfl ?_
      exact hJ
    · refine x_icmp_ge 372 57 dL_holds_54 (by decide) rfl (fun q => absurd q hc) (fun _ => ?_)
      refine x_iload 59 8 dL_holds_57 rfl rfl ?_
      rcases ite_inv hF with ⟨hc, hF⟩ | ⟨hc, hF⟩
      · refine x_if_eq 372 62 dL_holds_59 (by decide) rfl (fun _ => ?_) (fun q => absurd hc q)
        obtain ⟨e1, e2, e3⟩ := so3 hF
        subst e1
        subst e2
        subst e3
        refine x_wide KK JJ (by omega) (by omega) ?_
        refine x_sub [(0, .ref a0), (1, .int a1), (2, .int a2), (3, .int y3), (4, .int a4), (5, .int a5), (6, .int a6), (7, .int a7), (8, .int y8)] [0, 1, 2, 3, 4, 5, 6, 7, 8] rfl ?_
        exact hJ
      · refine x_if_eq 372 62 dL_holds_59 (by decide) rfl (fun q => absurd q hc) (fun _ => ?_)
        refine x_iconst 63 (0 : Int32) dL_holds_62 rfl (by decide) ?_
        refine x_istore 65 10 [(10, .int (0 : Int32)), (0, .ref a0), (1, .int a1), (2, .int a2), (3, .int y3), (4, .int a4), (5, .int a5), (6, .int a6), (7, .int a7), (8, .int y8), (9, .int y9)] dL_holds_63 rfl (by decide) rfl ?_
        refine x_aload_n 66 1 dL_holds_65 rfl rfl ?_
        refine x_iconst 67 (3 : Int32) dL_holds_66 rfl (by decide) ?_
        refine x_iload 69 10 dL_holds_67 rfl rfl ?_
        refine x_iconst 70 (2 : Int32) dL_holds_69 rfl (by decide) ?_
        refine x_iconst 71 (0 : Int32) dL_holds_70 rfl (by decide) ?_
        obtain ⟨v10, s11, h9, hF⟩ := b2_inv hF
        refine x_callS (As := [.ref a0, .int (3 : Int32), .int y9, .int (2 : Int32), .int (0 : Int32)]) (rest := []) 74 (k + 2) (j + 12) (mL_call hst a0 (3 : Int32) y9 (2 : Int32) (0 : Int32) σ none v10 s11 h9) qyL_call wd_180 wd_181 rfl rfl (by decide) (Nat.le_of_ble_eq_true rfl) ⟨by show k + 2 ≤ 6142; omega, by show j + 12 ≤ 36852; omega⟩ dL_holds_71 rfl rfl rfl rfl ?_
        refine x_istore 76 11 [(11, .int v10), (10, .int (0 : Int32)), (0, .ref a0), (1, .int a1), (2, .int a2), (3, .int y3), (4, .int a4), (5, .int a5), (6, .int a6), (7, .int a7), (8, .int y8), (9, .int y9)] dL_holds_74 rfl (by decide) rfl ?_
        refine x_iconst 77 (0 : Int32) dL_holds_76 rfl (by decide) ?_
        refine x_istore 79 12 [(12, .int (0 : Int32)), (11, .int v10), (10, .int (0 : Int32)), (0, .ref a0), (1, .int a1), (2, .int a2), (3, .int y3), (4, .int a4), (5, .int a5), (6, .int a6), (7, .int a7), (8, .int y8), (9, .int y9)] dL_holds_77 rfl (by decide) rfl ?_
        obtain ⟨x41, x42, s43, h77, hF⟩ := b3_inv hF
        have hJ : qX l G RL "holds" cL_holds 17 (some .boolean) [] rmL_holds 6142 36852 r (k + 242) (j + 1452) s43 none 232 [(0, .ref a0), (1, .int a1), (2, .int a2), (3, .int y3), (4, .int a4), (5, .int a5), (6, .int a6), (7, .int a7), (8, .int x41), (9, .int y9), (10, .int x42), (11, .int v10)] [] := by
          refine x_iload_n 233 3 dL_holds_232 rfl rfl ?_
          refine x_iload 235 10 dL_holds_233 rfl rfl ?_
          refine x_iadd 236 dL_holds_235 rfl ?_
          refine x_istore_n 237 3 [(3, .int (y3 + x42)), (0, .ref a0), (1, .int a1), (2, .int a2), (4, .int a4), (5, .int a5), (6, .int a6), (7, .int a7), (8, .int x41), (9, .int y9), (10, .int x42), (11, .int v10)] dL_holds_236 rfl rfl (by decide) rfl ?_
          refine x_iload 239 8 dL_holds_237 rfl rfl ?_
          obtain ⟨x44, s45, h76, hF⟩ := b2_inv hF
          have hJ : qX l G RL "holds" cL_holds 17 (some .boolean) [] rmL_holds 6142 36852 r (k + 260) (j + 1560) s45 none 364 [(0, .ref a0), (1, .int a1), (2, .int a2), (3, .int (y3 + x42)), (4, .int a4), (5, .int a5), (6, .int a6), (7, .int a7), (9, .int y9)] [.int x44] := by
            refine x_istore 366 8 [(8, .int x44), (0, .ref a0), (1, .int a1), (2, .int a2), (3, .int (y3 + x42)), (4, .int a4), (5, .int a5), (6, .int a6), (7, .int a7), (9, .int y9)] dL_holds_364 rfl (by decide) rfl ?_
            refine x_iinc 369 9 9 (y9 + (1 : Int32)) [(9, .int (y9 + (1 : Int32))), (8, .int x44), (0, .ref a0), (1, .int a1), (2, .int a2), (3, .int (y3 + x42)), (4, .int a4), (5, .int a5), (6, .int a6), (7, .int a7)] dL_holds_366 rfl rfl rfl (by decide) rfl ?_
            refine x_goto 51 dL_holds_369 (by decide) ?_
            refine x_sub [(0, .ref a0), (1, .int a1), (2, .int a2), (3, .int (y3 + x42)), (4, .int a4), (5, .int a5), (6, .int a6), (7, .int a7), (8, .int x44), (9, .int (y9 + (1 : Int32)))] [2, 3, 4, 5, 6, 7, 8, 9, 1, 0] rfl ?_
            exact ih (k + 260) (j + 1560) _ _ _ _ _ _ _ (by omega) (by omega) hF hJ
          have hF := h76
          rcases ite_inv hF with ⟨hc, hF⟩ | ⟨hc, hF⟩
          · refine x_if_eq 363 242 dL_holds_239 (by decide) rfl (fun _ => ?_) (fun q => absurd hc q)
            refine x_iconst 364 (0 : Int32) dL_holds_363 rfl (by decide) ?_
            obtain ⟨e1, e2⟩ := so2 hF
            subst e1
            subst e2
            refine x_wide (k + 260) (j + 1560) (by omega) (by omega) ?_
            refine x_sub [(0, .ref a0), (1, .int a1), (2, .int a2), (3, .int (y3 + x42)), (4, .int a4), (5, .int a5), (6, .int a6), (7, .int a7), (9, .int y9)] [1, 2, 3, 0, 4, 5, 6, 7, 9] rfl ?_
            exact hJ
          · refine x_if_eq 363 242 dL_holds_239 (by decide) rfl (fun q => absurd q hc) (fun _ => ?_)
            refine x_iload 244 10 dL_holds_242 rfl rfl ?_
            refine x_aload_n 245 1 dL_holds_244 rfl rfl ?_
            refine x_iconst 246 (3 : Int32) dL_holds_245 rfl (by decide) ?_
            refine x_iload 248 9 dL_holds_246 rfl rfl ?_
            refine x_bipush 250 (10 : Int32) dL_holds_248 rfl (by decide) ?_
            refine x_iconst 251 (0 : Int32) dL_holds_250 rfl (by decide) ?_
            obtain ⟨v47, s48, h46, hF⟩ := b2_inv hF
            refine x_callS (As := [.ref a0, .int (3 : Int32), .int y9, .int (10 : Int32), .int (0 : Int32)]) (rest := [.int x42]) 254 (k + 244) (j + 1464) (mL_call hst a0 (3 : Int32) y9 (10 : Int32) (0 : Int32) s43 none v47 s48 h46) qyL_call wd_180 wd_181 rfl rfl (by decide) (Nat.le_of_ble_eq_true rfl) ⟨by show (k + 242) + 2 ≤ 6142; omega, by show (j + 1452) + 12 ≤ 36852; omega⟩ dL_holds_251 rfl rfl rfl rfl ?_
            rcases ite_inv hF with ⟨hc, hF⟩ | ⟨hc, hF⟩
            · refine x_icmp_ne 363 257 dL_holds_254 (by decide) rfl (fun q => absurd hc q) (fun _ => ?_)
              refine x_aload_n 258 1 dL_holds_257 rfl rfl ?_
              refine x_iconst 259 (3 : Int32) dL_holds_258 rfl (by decide) ?_
              refine x_iload 261 9 dL_holds_259 rfl rfl ?_
              refine x_bipush 263 (7 : Int32) dL_holds_261 rfl (by decide) ?_
              refine x_iconst 264 (0 : Int32) dL_holds_263 rfl (by decide) ?_
              obtain ⟨v50, s51, h49, hF⟩ := b2_inv hF
              refine x_callS (As := [.ref a0, .int (3 : Int32), .int y9, .int (7 : Int32), .int (0 : Int32)]) (rest := []) 267 (k + 246) (j + 1476) (mL_call hst a0 (3 : Int32) y9 (7 : Int32) (0 : Int32) s48 none v50 s51 h49) qyL_call wd_180 wd_181 rfl rfl (by decide) (Nat.le_of_ble_eq_true rfl) ⟨by show (k + 244) + 2 ≤ 6142; omega, by show (j + 1464) + 12 ≤ 36852; omega⟩ dL_holds_264 rfl rfl rfl rfl ?_
              refine x_iconst 268 (1 : Int32) dL_holds_267 rfl (by decide) ?_
              rcases ite_inv hF with ⟨hc, hF⟩ | ⟨hc, hF⟩
              · refine x_icmp_lt 363 271 dL_holds_268 (by decide) rfl (fun _ => ?_) (fun q => absurd hc q)
                refine x_iconst 364 (0 : Int32) dL_holds_363 rfl (by decide) ?_
                obtain ⟨e1, e2⟩ := so2 hF
                subst e1
                subst e2
                refine x_wide (k + 260) (j + 1560) (by omega) (by omega) ?_
                refine x_sub [(0, .ref a0), (1, .int a1), (2, .int a2), (3, .int (y3 + x42)), (4, .int a4), (5, .int a5), (6, .int a6), (7, .int a7), (9, .int y9)] [1, 2, 3, 0, 4, 5, 6, 7, 9] rfl ?_
                exact hJ
              · refine x_icmp_lt 363 271 dL_holds_268 (by decide) rfl (fun q => absurd q hc) (fun _ => ?_)
                refine x_aload_n 272 1 dL_holds_271 rfl rfl ?_
                refine x_iconst 273 (3 : Int32) dL_holds_272 rfl (by decide) ?_
                refine x_iload 275 9 dL_holds_273 rfl rfl ?_
                refine x_bipush 277 (7 : Int32) dL_holds_275 rfl (by decide) ?_
                refine x_iconst 278 (0 : Int32) dL_holds_277 rfl (by decide) ?_
                obtain ⟨v53, s54, h52, hF⟩ := b2_inv hF
                refine x_callS (As := [.ref a0, .int (3 : Int32), .int y9, .int (7 : Int32), .int (0 : Int32)]) (rest := []) 281 (k + 248) (j + 1488) (mL_call hst a0 (3 : Int32) y9 (7 : Int32) (0 : Int32) s51 none v53 s54 h52) qyL_call wd_180 wd_181 rfl rfl (by decide) (Nat.le_of_ble_eq_true rfl) ⟨by show (k + 246) + 2 ≤ 6142; omega, by show (j + 1476) + 12 ≤ 36852; omega⟩ dL_holds_278 rfl rfl rfl rfl ?_
                refine x_aload_n 282 1 dL_holds_281 rfl rfl ?_
                refine x_iconst 283 (3 : Int32) dL_holds_282 rfl (by decide) ?_
                refine x_iload 285 9 dL_holds_283 rfl rfl ?_
                refine x_bipush 287 (8 : Int32) dL_holds_285 rfl (by decide) ?_
                refine x_iconst 288 (0 : Int32) dL_holds_287 rfl (by decide) ?_
                obtain ⟨v56, s57, h55, hF⟩ := b2_inv hF
                refine x_callS (As := [.ref a0, .int (3 : Int32), .int y9, .int (8 : Int32), .int (0 : Int32)]) (rest := [.int v53]) 291 (k + 250) (j + 1500) (mL_call hst a0 (3 : Int32) y9 (8 : Int32) (0 : Int32) s54 none v56 s57 h55) qyL_call wd_180 wd_181 rfl rfl (by decide) (Nat.le_of_ble_eq_true rfl) ⟨by show (k + 248) + 2 ≤ 6142; omega, by show (j + 1488) + 12 ≤ 36852; omega⟩ dL_holds_288 rfl rfl rfl rfl ?_
                rcases ite_inv hF with ⟨hc, hF⟩ | ⟨hc, hF⟩
                · refine x_icmp_gt 363 294 dL_holds_291 (by decide) rfl (fun _ => ?_) (fun q => absurd hc q)
                  refine x_iconst 364 (0 : Int32) dL_holds_363 rfl (by decide) ?_
                  obtain ⟨e1, e2⟩ := so2 hF
                  subst e1
                  subst e2
                  refine x_wide (k + 260) (j + 1560) (by omega) (by omega) ?_
                  refine x_sub [(0, .ref a0), (1, .int a1), (2, .int a2), (3, .int (y3 + x42)), (4, .int a4), (5, .int a5), (6, .int a6), (7, .int a7), (9, .int y9)] [1, 2, 3, 0, 4, 5, 6, 7, 9] rfl ?_
                  exact hJ
                · refine x_icmp_gt 363 294 dL_holds_291 (by decide) rfl (fun q => absurd q hc) (fun _ => ?_)
                  refine x_aload_n 295 1 dL_holds_294 rfl rfl ?_
                  refine x_iconst 296 (3 : Int32) dL_holds_295 rfl (by decide) ?_
                  refine x_iload 298 9 dL_holds_296 rfl rfl ?_
                  refine x_bipush 300 (8 : Int32) dL_holds_298 rfl (by decide) ?_
                  refine x_iconst 301 (0 : Int32) dL_holds_300 rfl (by decide) ?_
                  obtain ⟨v59, s60, h58, hF⟩ := b2_inv hF
                  refine x_callS (As := [.ref a0, .int (3 : Int32), .int y9, .int (8 : Int32), .int (0 : Int32)]) (rest := []) 304 (k + 252) (j + 1512) (mL_call hst a0 (3 : Int32) y9 (8 : Int32) (0 : Int32) s57 none v59 s60 h58) qyL_call wd_180 wd_181 rfl rfl (by decide) (Nat.le_of_ble_eq_true rfl) ⟨by show (k + 250) + 2 ≤ 6142; omega, by show (j + 1500) + 12 ≤ 36852; omega⟩ dL_holds_301 rfl rfl rfl rfl ?_
                  refine x_sipush 307 (999 : Int32) dL_holds_304 rfl (by decide) ?_
                  rcases ite_inv hF with ⟨hc, hF⟩ | ⟨hc, hF⟩
                  · refine x_icmp_gt 363 310 dL_holds_307 (by decide) rfl (fun _ => ?_) (fun q => absurd hc q)
                    refine x_iconst 364 (0 : Int32) dL_holds_363 rfl (by decide) ?_
                    obtain ⟨e1, e2⟩ := so2 hF
                    subst e1
                    subst e2
                    refine x_wide (k + 260) (j + 1560) (by omega) (by omega) ?_
                    refine x_sub [(0, .ref a0), (1, .int a1), (2, .int a2), (3, .int (y3 + x42)), (4, .int a4), (5, .int a5), (6, .int a6), (7, .int a7), (9, .int y9)] [1, 2, 3, 0, 4, 5, 6, 7, 9] rfl ?_
                    exact hJ
                  · refine x_icmp_gt 363 310 dL_holds_307 (by decide) rfl (fun q => absurd q hc) (fun _ => ?_)
                    refine x_aload_n 311 1 dL_holds_310 rfl rfl ?_
                    refine x_iconst 312 (3 : Int32) dL_holds_311 rfl (by decide) ?_
                    refine x_iload 314 9 dL_holds_312 rfl rfl ?_
                    refine x_bipush 316 (9 : Int32) dL_holds_314 rfl (by decide) ?_
                    refine x_iconst 317 (0 : Int32) dL_holds_316 rfl (by decide) ?_
                    obtain ⟨v62, s63, h61, hF⟩ := b2_inv hF
                    refine x_callS (As := [.ref a0, .int (3 : Int32), .int y9, .int (9 : Int32), .int (0 : Int32)]) (rest := []) 320 (k + 254) (j + 1524) (mL_call hst a0 (3 : Int32) y9 (9 : Int32) (0 : Int32) s60 none v62 s63 h61) qyL_call wd_180 wd_181 rfl rfl (by decide) (Nat.le_of_ble_eq_true rfl) ⟨by show (k + 252) + 2 ≤ 6142; omega, by show (j + 1512) + 12 ≤ 36852; omega⟩ dL_holds_317 rfl rfl rfl rfl ?_
                    refine x_aload_n 321 1 dL_holds_320 rfl rfl ?_
                    refine x_iconst 322 (4 : Int32) dL_holds_321 rfl (by decide) ?_
                    refine x_aload_n 323 1 dL_holds_322 rfl rfl ?_
                    refine x_iconst 324 (3 : Int32) dL_holds_323 rfl (by decide) ?_
                    refine x_iload 326 9 dL_holds_324 rfl rfl ?_
                    refine x_iconst 327 (1 : Int32) dL_holds_326 rfl (by decide) ?_
                    refine x_iconst 328 (0 : Int32) dL_holds_327 rfl (by decide) ?_
                    obtain ⟨v65, s66, h64, hF⟩ := b2_inv hF
                    refine x_callS (As := [.ref a0, .int (3 : Int32), .int y9, .int (1 : Int32), .int (0 : Int32)]) (rest := [.int (4 : Int32), .ref a0, .int v62]) 331 (k + 256) (j + 1536) (mL_call hst a0 (3 : Int32) y9 (1 : Int32) (0 : Int32) s63 none v65 s66 h64) qyL_call wd_180 wd_181 rfl rfl (by decide) (Nat.le_of_ble_eq_true rfl) ⟨by show (k + 254) + 2 ≤ 6142; omega, by show (j + 1524) + 12 ≤ 36852; omega⟩ dL_holds_328 rfl rfl rfl rfl ?_
                    refine x_iconst 332 (0 : Int32) dL_holds_331 rfl (by decide) ?_
                    refine x_iconst 333 (0 : Int32) dL_holds_332 rfl (by decide) ?_
                    obtain ⟨v68, s69, h67, hF⟩ := b2_inv hF
                    refine x_callS (As := [.ref a0, .int (4 : Int32), .int v65, .int (0 : Int32), .int (0 : Int32)]) (rest := [.int v62]) 336 (k + 258) (j + 1548) (mL_call hst a0 (4 : Int32) v65 (0 : Int32) (0 : Int32) s66 none v68 s69 h67) qyL_call wd_180 wd_181 rfl rfl (by decide) (Nat.le_of_ble_eq_true rfl) ⟨by show (k + 256) + 2 ≤ 6142; omega, by show (j + 1536) + 12 ≤ 36852; omega⟩ dL_holds_333 rfl rfl rfl rfl ?_
                    refine x_iload 338 11 dL_holds_336 rfl rfl ?_
                    refine x_iconst 339 (2 : Int32) dL_holds_338 rfl (by decide) ?_
                    obtain ⟨x70, s71, h75, hF⟩ := b2_inv hF
                    have hJ : qX l G RL "holds" cL_holds 17 (some .boolean) [] rmL_holds 6142 36852 r (k + 260) (j + 1560) s71 none 355 [(0, .ref a0), (1, .int a1), (2, .int a2), (3, .int (y3 + x42)), (4, .int a4), (5, .int a5), (6, .int a6), (7, .int a7), (9, .int y9)] [.int x70, .int v68, .int v62] := by
                      refine x_iadd 356 dL_holds_355 rfl ?_
                      rcases ite_inv hF with ⟨hc, hF⟩ | ⟨hc, hF⟩
                      · refine x_icmp_ne 363 359 dL_holds_356 (by decide) rfl (fun q => absurd hc q) (fun _ => ?_)
                        refine x_iconst 360 (1 : Int32) dL_holds_359 rfl (by decide) ?_
                        refine x_goto 364 dL_holds_360 (by decide) ?_
                        obtain ⟨e1, e2⟩ := so2 hF
                        subst e1
                        subst e2
                        exact hJ
                      · refine x_icmp_ne 363 359 dL_holds_356 (by decide) rfl (fun _ => ?_) (fun q => absurd q hc)
                        refine x_iconst 364 (0 : Int32) dL_holds_363 rfl (by decide) ?_
                        obtain ⟨e1, e2⟩ := so2 hF
                        subst e1
                        subst e2
                        exact hJ
                    have hF := h75
                    rcases ite_inv hF with ⟨hc, hF⟩ | ⟨hc, hF⟩
                    · refine x_icmp_ge 354 342 dL_holds_339 (by decide) rfl (fun _ => ?_) (fun q => absurd hc q)
                      refine x_iconst 355 (0 : Int32) dL_holds_354 rfl (by decide) ?_
                      obtain ⟨e1, e2⟩ := so2 hF
                      subst e1
                      subst e2
                      refine x_wide (k + 260) (j + 1560) (by omega) (by omega) ?_
                      refine x_sub [(0, .ref a0), (1, .int a1), (2, .int a2), (3, .int (y3 + x42)), (4, .int a4), (5, .int a5), (6, .int a6), (7, .int a7), (9, .int y9)] [1, 2, 3, 0, 4, 5, 6, 7, 9] rfl ?_
                      exact hJ
                    · refine x_icmp_ge 354 342 dL_holds_339 (by decide) rfl (fun q => absurd q hc) (fun _ => ?_)
                      refine x_aload_n 343 1 dL_holds_342 rfl rfl ?_
                      refine x_bipush 345 (8 : Int32) dL_holds_343 rfl (by decide) ?_
                      refine x_iconst 346 (0 : Int32) dL_holds_345 rfl (by decide) ?_
                      refine x_iconst 347 (0 : Int32) dL_holds_346 rfl (by decide) ?_
                      refine x_iconst 348 (0 : Int32) dL_holds_347 rfl (by decide) ?_
                      obtain ⟨v73, s74, h72, hF⟩ := b2_inv hF
                      refine x_callS (As := [.ref a0, .int (8 : Int32), .int (0 : Int32), .int (0 : Int32), .int (0 : Int32)]) (rest := [.int v68, .int v62]) 351 (k + 260) (j + 1560) (mL_call hst a0 (8 : Int32) (0 : Int32) (0 : Int32) (0 : Int32) s69 none v73 s74 h72) qyL_call wd_180 wd_181 rfl rfl (by decide) (Nat.le_of_ble_eq_true rfl) ⟨by show (k + 258) + 2 ≤ 6142; omega, by show (j + 1548) + 12 ≤ 36852; omega⟩ dL_holds_348 rfl rfl rfl rfl ?_
                      refine x_goto 355 dL_holds_351 (by decide) ?_
                      obtain ⟨e1, e2⟩ := so2 hF
                      subst e1
                      subst e2
                      refine x_sub [(0, .ref a0), (1, .int a1), (2, .int a2), (3, .int (y3 + x42)), (4, .int a4), (5, .int a5), (6, .int a6), (7, .int a7), (9, .int y9)] [1, 2, 3, 0, 4, 5, 6, 7, 9] rfl ?_
                      exact hJ
            · refine x_icmp_ne 363 257 dL_holds_254 (by decide) rfl (fun _ => ?_) (fun q => absurd q hc)
              refine x_iconst 364 (0 : Int32) dL_holds_363 rfl (by decide) ?_
              obtain ⟨e1, e2⟩ := so2 hF
              subst e1
              subst e2
              refine x_wide (k + 260) (j + 1560) (by omega) (by omega) ?_
              refine x_sub [(0, .ref a0), (1, .int a1), (2, .int a2), (3, .int (y3 + x42)), (4, .int a4), (5, .int a5), (6, .int a6), (7, .int a7), (9, .int y9)] [1, 2, 3, 0, 4, 5, 6, 7, 9] rfl ?_
              exact hJ
        refine x_sub [(0, .ref a0), (1, .int a1), (2, .int a2), (3, .int y3), (4, .int a4), (5, .int a5), (6, .int a6), (7, .int a7), (8, .int y8), (9, .int y9), (10, .int (0 : Int32)), (11, .int v10), (12, .int (0 : Int32))] [3, 4, 5, 6, 7, 8, 9, 10, 11, 12, 2, 1, 0] rfl ?_
        exact mL_holds_L79 hst a0 a1 a2 y3 a4 a5 a6 a7 y9 v10 _ (k + 242) (j + 1452) (by omega) (by omega) 20 (k + 2) (j + 12) y8 (0 : Int32) (0 : Int32) s11 x41 x42 s43 (by omega) (by omega) h77 hJ
set_option maxHeartbeats 8000000 in
set_option maxRecDepth 100000 in
theorem mL_holds_L378 {l : Launch} {G : qG} (hst : l.stackTraces = false) (a0 : Nat) (a1 : Int32) (a2 : Int32) (a3 : Int32) (r : qR) (KK JJ : Nat) (gK : KK ≤ 6142) (gL : JJ ≤ 36852) : ∀ (q k j : Nat) (y4 : Int32) (y5 : Int32) (y6 : Int32) (y7 : Int32) (y8 : Int32) (y9 : Int32) (y10 : Int32) (σ : qH) (o4 : Int32) (o5 : Int32) (o6 : Int32) (o7 : Int32) (o8 : Int32) (o9 : Int32) (so : qH), k + 14 * q ≤ KK → j + 84 * q ≤ JJ → FL_holds_L378 (G.2.2.2.1) a0 a1 a2 a3 q y4 y5 y6 y7 y8 y9 y10 σ = some (o4, o5, o6, o7, o8, o9, so) → qX l G RL "holds" cL_holds 17 (some .boolean) [] rmL_holds 6142 36852 r KK JJ so none 499 [(0, .ref a0), (1, .int a1), (2, .int a2), (3, .int a3), (4, .int o4), (5, .int o5), (6, .int o6), (7, .int o7), (8, .int o8), (9, .int o9)] [] → qX l G RL "holds" cL_holds 17 (some .boolean) [] rmL_holds 6142 36852 r k j σ none 378 [(0, .ref a0), (1, .int a1), (2, .int a2), (3, .int a3), (4, .int y4), (5, .int y5), (6, .int y6), (7, .int y7), (8, .int y8), (9, .int y9), (10, .int y10)] [] := by
  intro q
  induction q with
  | zero => intro k j y4 y5 y6 y7 y8 y9 y10 σ o4 o5 o6 o7 o8 o9 so gk gj hF; rw [FL_holds_L378] at hF; cases hF
  | succ q ih =>
    intro k j y4 y5 y6 y7 y8 y9 y10 σ o4 o5 o6 o7 o8 o9 so gk gj hF hJ
    rw [FL_holds_L378] at hF
    refine x_iload 380 10 dL_holds_378 rfl rfl ?_
    refine x_bipush 382 (6 : Int32) dL_holds_380 rfl (by decide) ?_
    rcases ite_inv hF with ⟨hc, hF⟩ | ⟨hc, hF⟩
    · refine x_icmp_ge 499 385 dL_holds_382 (by decide) rfl (fun _ => ?_) (fun q => absurd hc q)
      obtain ⟨e1, e2, e3, e4, e5, e6, e7⟩ := so7 hF
      subst e1
      subst e2
      subst e3
      subst e4
      subst e5
      subst e6
      subst e7
      refine x_wide KK JJ (by omega) (by omega) ?_
      refine x_sub [(0, .ref a0), (1, .int a1), (2, .int a2), (3, .int a3), (4, .int y4), (5, .int y5), (6, .int y6), (7, .int y7), (8, .int y8), (9, .int y9)] [0, 1, 2, 3, 4, 5, 6, 7, 8, 9] rfl ?_
      exact hJ
    · refine x_icmp_ge 499 385 dL_holds_382 (by decide) rfl (fun q => absurd q hc) (fun _ => ?_)
      refine x_iload 387 8 dL_holds_385 rfl rfl ?_
      rcases ite_inv hF with ⟨hc, hF⟩ | ⟨hc, hF⟩
      · refine x_if_eq 499 390 dL_holds_387 (by decide) rfl (fun _ => ?_) (fun q => absurd hc q)
        obtain ⟨e1, e2, e3, e4, e5, e6, e7⟩ := so7 hF
        subst e1
        subst e2
        subst e3
        subst e4
        subst e5
        subst e6
        subst e7
        refine x_wide KK JJ (by omega) (by omega) ?_
        refine x_sub [(0, .ref a0), (1, .int a1), (2, .int a2), (3, .int a3), (4, .int y4), (5, .int y5), (6, .int y6), (7, .int y7), (8, .int y8), (9, .int y9)] [0, 1, 2, 3, 4, 5, 6, 7, 8, 9] rfl ?_
        exact hJ
      · refine x_if_eq 499 390 dL_holds_387 (by decide) rfl (fun q => absurd q hc) (fun _ => ?_)
        refine x_iload 392 6 dL_holds_390 rfl rfl ?_
        refine x_aload_n 393 0 dL_holds_392 rfl rfl ?_
        refine x_iconst 394 (4 : Int32) dL_holds_393 rfl (by decide) ?_
        refine x_iload 396 10 dL_holds_394 rfl rfl ?_
        refine x_iconst 397 (0 : Int32) dL_holds_396 rfl (by decide) ?_
        refine x_iconst 398 (0 : Int32) dL_holds_397 rfl (by decide) ?_
        obtain ⟨v82, s83, h81, hF⟩ := b2_inv hF
        refine x_callS (As := [.ref a0, .int (4 : Int32), .int y10, .int (0 : Int32), .int (0 : Int32)]) (rest := [.int y6]) 401 (k + 2) (j + 12) (mL_call hst a0 (4 : Int32) y10 (0 : Int32) (0 : Int32) σ none v82 s83 h81) qyL_call wd_180 wd_181 rfl rfl (by decide) (Nat.le_of_ble_eq_true rfl) ⟨by show k + 2 ≤ 6142; omega, by show j + 12 ≤ 36852; omega⟩ dL_holds_398 rfl rfl rfl rfl ?_
        refine x_iadd 402 dL_holds_401 rfl ?_
        refine x_istore 404 6 [(6, .int (y6 + v82)), (0, .ref a0), (1, .int a1), (2, .int a2), (3, .int a3), (4, .int y4), (5, .int y5), (7, .int y7), (8, .int y8), (9, .int y9), (10, .int y10)] dL_holds_402 rfl (by decide) rfl ?_
        refine x_iload 406 7 dL_holds_404 rfl rfl ?_
        refine x_aload_n 407 1 dL_holds_406 rfl rfl ?_
        refine x_iconst 408 (4 : Int32) dL_holds_407 rfl (by decide) ?_
        refine x_iload 410 10 dL_holds_408 rfl rfl ?_
        refine x_iconst 411 (1 : Int32) dL_holds_410 rfl (by decide) ?_
        refine x_iconst 412 (0 : Int32) dL_holds_411 rfl (by decide) ?_
        obtain ⟨v85, s86, h84, hF⟩ := b2_inv hF
        refine x_callS (As := [.ref a0, .int (4 : Int32), .int y10, .int (1 : Int32), .int (0 : Int32)]) (rest := [.int y7]) 415 (k + 4) (j + 24) (mL_call hst a0 (4 : Int32) y10 (1 : Int32) (0 : Int32) s83 none v85 s86 h84) qyL_call wd_180 wd_181 rfl rfl (by decide) (Nat.le_of_ble_eq_true rfl) ⟨by show (k + 2) + 2 ≤ 6142; omega, by show (j + 12) + 12 ≤ 36852; omega⟩ dL_holds_412 rfl rfl rfl rfl ?_
        refine x_iadd 416 dL_holds_415 rfl ?_
        refine x_istore 418 7 [(7, .int (y7 + v85)), (6, .int (y6 + v82)), (0, .ref a0), (1, .int a1), (2, .int a2), (3, .int a3), (4, .int y4), (5, .int y5), (8, .int y8), (9, .int y9), (10, .int y10)] dL_holds_416 rfl (by decide) rfl ?_
        refine x_iload 420 6 dL_holds_418 rfl rfl ?_
        refine x_aload_n 421 2 dL_holds_420 rfl rfl ?_
        refine x_iconst 422 (4 : Int32) dL_holds_421 rfl (by decide) ?_
        refine x_iload 424 10 dL_holds_422 rfl rfl ?_
        refine x_iconst 425 (2 : Int32) dL_holds_424 rfl (by decide) ?_
        refine x_iconst 426 (0 : Int32) dL_holds_425 rfl (by decide) ?_
        obtain ⟨v88, s89, h87, hF⟩ := b2_inv hF
        refine x_callS (As := [.ref a0, .int (4 : Int32), .int y10, .int (2 : Int32), .int (0 : Int32)]) (rest := [.int y4]) 429 (k + 6) (j + 36) (mL_call hst a0 (4 : Int32) y10 (2 : Int32) (0 : Int32) s86 none v88 s89 h87) qyL_call wd_180 wd_181 rfl rfl (by decide) (Nat.le_of_ble_eq_true rfl) ⟨by show (k + 4) + 2 ≤ 6142; omega, by show (j + 24) + 12 ≤ 36852; omega⟩ dL_holds_426 rfl rfl rfl rfl ?_
        refine x_iadd 430 dL_holds_429 rfl ?_
        refine x_istore 432 4 [(4, .int (y4 + v88)), (7, .int (y7 + v85)), (6, .int (y6 + v82)), (0, .ref a0), (1, .int a1), (2, .int a2), (3, .int a3), (5, .int y5), (8, .int y8), (9, .int y9), (10, .int y10)] dL_holds_430 rfl (by decide) rfl ?_
        refine x_iload 434 7 dL_holds_432 rfl rfl ?_
        refine x_aload_n 435 3 dL_holds_434 rfl rfl ?_
        refine x_iconst 436 (4 : Int32) dL_holds_435 rfl (by decide) ?_
        refine x_iload 438 10 dL_holds_436 rfl rfl ?_
        refine x_iconst 439 (3 : Int32) dL_holds_438 rfl (by decide) ?_
        refine x_iconst 440 (0 : Int32) dL_holds_439 rfl (by decide) ?_
        obtain ⟨v91, s92, h90, hF⟩ := b2_inv hF
        refine x_callS (As := [.ref a0, .int (4 : Int32), .int y10, .int (3 : Int32), .int (0 : Int32)]) (rest := [.int y5]) 443 (k + 8) (j + 48) (mL_call hst a0 (4 : Int32) y10 (3 : Int32) (0 : Int32) s89 none v91 s92 h90) qyL_call wd_180 wd_181 rfl rfl (by decide) (Nat.le_of_ble_eq_true rfl) ⟨by show (k + 6) + 2 ≤ 6142; omega, by show (j + 36) + 12 ≤ 36852; omega⟩ dL_holds_440 rfl rfl rfl rfl ?_
        refine x_iadd 444 dL_holds_443 rfl ?_
        refine x_istore 446 5 [(5, .int (y5 + v91)), (4, .int (y4 + v88)), (7, .int (y7 + v85)), (6, .int (y6 + v82)), (0, .ref a0), (1, .int a1), (2, .int a2), (3, .int a3), (8, .int y8), (9, .int y9), (10, .int y10)] dL_holds_444 rfl (by decide) rfl ?_
        refine x_iload 448 9 dL_holds_446 rfl rfl ?_
        refine x_aload_n 449 4 dL_holds_448 rfl rfl ?_
        refine x_iconst 450 (4 : Int32) dL_holds_449 rfl (by decide) ?_
        refine x_iload 452 10 dL_holds_450 rfl rfl ?_
        refine x_iconst 453 (4 : Int32) dL_holds_452 rfl (by decide) ?_
        refine x_iconst 454 (0 : Int32) dL_holds_453 rfl (by decide) ?_
        obtain ⟨v94, s95, h93, hF⟩ := b2_inv hF
        refine x_callS (As := [.ref a0, .int (4 : Int32), .int y10, .int (4 : Int32), .int (0 : Int32)]) (rest := [.int y9]) 457 (k + 10) (j + 60) (mL_call hst a0 (4 : Int32) y10 (4 : Int32) (0 : Int32) s92 none v94 s95 h93) qyL_call wd_180 wd_181 rfl rfl (by decide) (Nat.le_of_ble_eq_true rfl) ⟨by show (k + 8) + 2 ≤ 6142; omega, by show (j + 48) + 12 ≤ 36852; omega⟩ dL_holds_454 rfl rfl rfl rfl ?_
        refine x_iadd 458 dL_holds_457 rfl ?_
        refine x_istore 460 9 [(9, .int (y9 + v94)), (5, .int (y5 + v91)), (4, .int (y4 + v88)), (7, .int (y7 + v85)), (6, .int (y6 + v82)), (0, .ref a0), (1, .int a1), (2, .int a2), (3, .int a3), (8, .int y8), (10, .int y10)] dL_holds_458 rfl (by decide) rfl ?_
        refine x_aload_n 461 5 dL_holds_460 rfl rfl ?_
        refine x_iconst 462 (4 : Int32) dL_holds_461 rfl (by decide) ?_
        refine x_iload 464 10 dL_holds_462 rfl rfl ?_
        refine x_iconst 465 (0 : Int32) dL_holds_464 rfl (by decide) ?_
        refine x_iconst 466 (0 : Int32) dL_holds_465 rfl (by decide) ?_
        obtain ⟨v97, s98, h96, hF⟩ := b2_inv hF
        refine x_callS (As := [.ref a0, .int (4 : Int32), .int y10, .int (0 : Int32), .int (0 : Int32)]) (rest := []) 469 (k + 12) (j + 72) (mL_call hst a0 (4 : Int32) y10 (0 : Int32) (0 : Int32) s95 none v97 s98 h96) qyL_call wd_180 wd_181 rfl rfl (by decide) (Nat.le_of_ble_eq_true rfl) ⟨by show (k + 10) + 2 ≤ 6142; omega, by show (j + 60) + 12 ≤ 36852; omega⟩ dL_holds_466 rfl rfl rfl rfl ?_
        obtain ⟨x99, s100, h104, hF⟩ := b2_inv hF
        have hJ : qX l G RL "holds" cL_holds 17 (some .boolean) [] rmL_holds 6142 36852 r (k + 14) (j + 84) s100 none 491 [(0, .ref a0), (1, .int a1), (2, .int a2), (3, .int a3), (4, .int (y4 + v88)), (5, .int (y5 + v91)), (6, .int (y6 + v82)), (7, .int (y7 + v85)), (9, .int (y9 + v94)), (10, .int y10)] [.int x99] := by
          refine x_istore 493 8 [(8, .int x99), (0, .ref a0), (1, .int a1), (2, .int a2), (3, .int a3), (4, .int (y4 + v88)), (5, .int (y5 + v91)), (6, .int (y6 + v82)), (7, .int (y7 + v85)), (9, .int (y9 + v94)), (10, .int y10)] dL_holds_491 rfl (by decide) rfl ?_
          refine x_iinc 496 10 10 (y10 + (1 : Int32)) [(10, .int (y10 + (1 : Int32))), (8, .int x99), (0, .ref a0), (1, .int a1), (2, .int a2), (3, .int a3), (4, .int (y4 + v88)), (5, .int (y5 + v91)), (6, .int (y6 + v82)), (7, .int (y7 + v85)), (9, .int (y9 + v94))] dL_holds_493 rfl rfl rfl (by decide) rfl ?_
          refine x_goto 378 dL_holds_496 (by decide) ?_
          refine x_sub [(0, .ref a0), (1, .int a1), (2, .int a2), (3, .int a3), (4, .int (y4 + v88)), (5, .int (y5 + v91)), (6, .int (y6 + v82)), (7, .int (y7 + v85)), (8, .int x99), (9, .int (y9 + v94)), (10, .int (y10 + (1 : Int32)))] [2, 3, 4, 5, 6, 7, 8, 9, 1, 10, 0] rfl ?_
          exact ih (k + 14) (j + 84) _ _ _ _ _ _ _ _ _ _ _ _ _ _ _ (by omega) (by omega) hF hJ
        have hF := h104
        rcases ite_inv hF with ⟨hc, hF⟩ | ⟨hc, hF⟩
        · refine x_if_lt 490 472 dL_holds_469 (by decide) rfl (fun _ => ?_) (fun q => absurd hc q)
          refine x_iconst 491 (0 : Int32) dL_holds_490 rfl (by decide) ?_
          obtain ⟨e1, e2⟩ := so2 hF
          subst e1
          subst e2
          refine x_wide (k + 14) (j + 84) (by omega) (by omega) ?_
          refine x_sub [(0, .ref a0), (1, .int a1), (2, .int a2), (3, .int a3), (4, .int (y4 + v88)), (5, .int (y5 + v91)), (6, .int (y6 + v82)), (7, .int (y7 + v85)), (9, .int (y9 + v94)), (10, .int y10)] [5, 6, 7, 8, 2, 1, 4, 3, 0, 10] rfl ?_
          exact hJ
        · refine x_if_lt 490 472 dL_holds_469 (by decide) rfl (fun q => absurd q hc) (fun _ => ?_)
          refine x_aload_n 473 5 dL_holds_472 rfl rfl ?_
          refine x_iconst 474 (4 : Int32) dL_holds_473 rfl (by decide) ?_
          refine x_iload 476 10 dL_holds_474 rfl rfl ?_
          refine x_iconst 477 (0 : Int32) dL_holds_476 rfl (by decide) ?_
          refine x_iconst 478 (0 : Int32) dL_holds_477 rfl (by decide) ?_
          obtain ⟨v102, s103, h101, hF⟩ := b2_inv hF
          refine x_callS (As := [.ref a0, .int (4 : Int32), .int y10, .int (0 : Int32), .int (0 : Int32)]) (rest := []) 481 (k + 14) (j + 84) (mL_call hst a0 (4 : Int32) y10 (0 : Int32) (0 : Int32) s98 none v102 s103 h101) qyL_call wd_180 wd_181 rfl rfl (by decide) (Nat.le_of_ble_eq_true rfl) ⟨by show (k + 12) + 2 ≤ 6142; omega, by show (j + 72) + 12 ≤ 36852; omega⟩ dL_holds_478 rfl rfl rfl rfl ?_
          refine x_bipush 483 (9 : Int32) dL_holds_481 rfl (by decide) ?_
          rcases ite_inv hF with ⟨hc, hF⟩ | ⟨hc, hF⟩
          · refine x_icmp_gt 490 486 dL_holds_483 (by decide) rfl (fun _ => ?_) (fun q => absurd hc q)
            refine x_iconst 491 (0 : Int32) dL_holds_490 rfl (by decide) ?_
            obtain ⟨e1, e2⟩ := so2 hF
            subst e1
            subst e2
            refine x_sub [(0, .ref a0), (1, .int a1), (2, .int a2), (3, .int a3), (4, .int (y4 + v88)), (5, .int (y5 + v91)), (6, .int (y6 + v82)), (7, .int (y7 + v85)), (9, .int (y9 + v94)), (10, .int y10)] [5, 6, 7, 8, 2, 1, 4, 3, 0, 10] rfl ?_
            exact hJ
          · refine x_icmp_gt 490 486 dL_holds_483 (by decide) rfl (fun q => absurd q hc) (fun _ => ?_)
            refine x_iconst 487 (1 : Int32) dL_holds_486 rfl (by decide) ?_
            refine x_goto 491 dL_holds_487 (by decide) ?_
            obtain ⟨e1, e2⟩ := so2 hF
            subst e1
            subst e2
            refine x_sub [(0, .ref a0), (1, .int a1), (2, .int a2), (3, .int a3), (4, .int (y4 + v88)), (5, .int (y5 + v91)), (6, .int (y6 + v82)), (7, .int (y7 + v85)), (9, .int (y9 + v94)), (10, .int y10)] [5, 6, 7, 8, 2, 1, 4, 3, 0, 10] rfl ?_
            exact hJ
set_option maxHeartbeats 8000000 in
set_option maxRecDepth 100000 in
theorem mL_holds_L502 {l : Launch} {G : qG} (hst : l.stackTraces = false) (a0 : Nat) (a1 : Int32) (a2 : Int32) (a3 : Int32) (a4 : Int32) (a5 : Int32) (a6 : Int32) (a7 : Int32) (a9 : Int32) (r : qR) (KK JJ : Nat) (gK : KK ≤ 6142) (gL : JJ ≤ 36852) : ∀ (q k j : Nat) (y8 : Int32) (y10 : Int32) (σ : qH) (o8 : Int32) (so : qH), k + 32 * q ≤ KK → j + 192 * q ≤ JJ → FL_holds_L502 (G.2.2.2.1) a0 a1 a2 a3 a4 a5 a6 a7 a9 q y8 y10 σ = some (o8, so) → qX l G RL "holds" cL_holds 17 (some .boolean) [] rmL_holds 6142 36852 r KK JJ so none 857 [(0, .ref a0), (2, .int a2), (3, .int a3), (4, .int a4), (5, .int a5), (6, .int a6), (7, .int a7), (8, .int o8), (9, .int a9)] [] → qX l G RL "holds" cL_holds 17 (some .boolean) [] rmL_holds 6142 36852 r k j σ none 502 [(0, .ref a0), (1, .int a1), (2, .int a2), (3, .int a3), (4, .int a4), (5, .int a5), (6, .int a6), (7, .int a7), (8, .int y8), (9, .int a9), (10, .int y10)] [] := by
  intro q
  induction q with
  | zero => intro k j y8 y10 σ o8 so gk gj hF; rw [FL_holds_L502] at hF; cases hF
  | succ q ih =>
    intro k j y8 y10 σ o8 so gk gj hF hJ
    rw [FL_holds_L502] at hF
    refine x_iload 504 10 dL_holds_502 rfl rfl ?_
    refine x_iconst 505 (3 : Int32) dL_holds_504 rfl (by decide) ?_
    rcases ite_inv hF with ⟨hc, hF⟩ | ⟨hc, hF⟩
    · refine x_icmp_ge 857 508 dL_holds_505 (by decide) rfl (fun _ => ?_) (fun q => absurd hc q)
      obtain ⟨e1, e2⟩ := so2 hF
      subst e1
      subst e2
      refine x_wide KK JJ (by omega) (by omega) ?_
      refine x_sub [(0, .ref a0), (2, .int a2), (3, .int a3), (4, .int a4), (5, .int a5), (6, .int a6), (7, .int a7), (8, .int y8), (9, .int a9)] [0, 2, 3, 4, 5, 6, 7, 8, 9] rfl ?_
      exact hJ
    · refine x_icmp_ge 857 508 dL_holds_505 (by decide) rfl (fun q => absurd q hc) (fun _ => ?_)
      refine x_iload 510 8 dL_holds_508 rfl rfl ?_
      rcases ite_inv hF with ⟨hc, hF⟩ | ⟨hc, hF⟩
      · refine x_if_eq 857 513 dL_holds_510 (by decide) rfl (fun _ => ?_) (fun q => absurd hc q)
        obtain ⟨e1, e2⟩ := so2 hF
        subst e1
        subst e2
        refine x_wide KK JJ (by omega) (by omega) ?_
        refine x_sub [(0, .ref a0), (2, .int a2), (3, .int a3), (4, .int a4), (5, .int a5), (6, .int a6), (7, .int a7), (8, .int y8), (9, .int a9)] [0, 2, 3, 4, 5, 6, 7, 8, 9] rfl ?_
        exact hJ
      · refine x_if_eq 857 513 dL_holds_510 (by decide) rfl (fun q => absurd q hc) (fun _ => ?_)
        refine x_aload_n 514 0 dL_holds_513 rfl rfl ?_
        refine x_bipush 516 (7 : Int32) dL_holds_514 rfl (by decide) ?_
        refine x_iload 518 10 dL_holds_516 rfl rfl ?_
        refine x_iconst 519 (0 : Int32) dL_holds_518 rfl (by decide) ?_
        refine x_iconst 520 (0 : Int32) dL_holds_519 rfl (by decide) ?_
        obtain ⟨v113, s114, h112, hF⟩ := b2_inv hF
        refine x_callS (As := [.ref a0, .int (7 : Int32), .int y10, .int (0 : Int32), .int (0 : Int32)]) (rest := []) 523 (k + 2) (j + 12) (mL_call hst a0 (7 : Int32) y10 (0 : Int32) (0 : Int32) σ none v113 s114 h112) qyL_call wd_180 wd_181 rfl rfl (by decide) (Nat.le_of_ble_eq_true rfl) ⟨by show k + 2 ≤ 6142; omega, by show j + 12 ≤ 36852; omega⟩ dL_holds_520 rfl rfl rfl rfl ?_
        refine x_istore 525 11 [(11, .int v113), (0, .ref a0), (1, .int a1), (2, .int a2), (3, .int a3), (4, .int a4), (5, .int a5), (6, .int a6), (7, .int a7), (8, .int y8), (9, .int a9), (10, .int y10)] dL_holds_523 rfl (by decide) rfl ?_
        refine x_aload_n 526 1 dL_holds_525 rfl rfl ?_
        refine x_bipush 528 (7 : Int32) dL_holds_526 rfl (by decide) ?_
        refine x_iload 530 11 dL_holds_528 rfl rfl ?_
        refine x_iconst 531 (1 : Int32) dL_holds_530 rfl (by decide) ?_
        refine x_iconst 532 (0 : Int32) dL_holds_531 rfl (by decide) ?_
        obtain ⟨v116, s117, h115, hF⟩ := b2_inv hF
        refine x_callS (As := [.ref a0, .int (7 : Int32), .int y10, .int (1 : Int32), .int (0 : Int32)]) (rest := []) 535 (k + 4) (j + 24) (mL_call hst a0 (7 : Int32) y10 (1 : Int32) (0 : Int32) s114 none v116 s117 h115) qyL_call wd_180 wd_181 rfl rfl (by decide) (Nat.le_of_ble_eq_true rfl) ⟨by show (k + 2) + 2 ≤ 6142; omega, by show (j + 12) + 12 ≤ 36852; omega⟩ dL_holds_532 rfl rfl rfl rfl ?_
        refine x_istore 537 12 [(12, .int v116), (11, .int v113), (0, .ref a0), (1, .int a1), (2, .int a2), (3, .int a3), (4, .int a4), (5, .int a5), (6, .int a6), (7, .int a7), (8, .int y8), (9, .int a9), (10, .int y10)] dL_holds_535 rfl (by decide) rfl ?_
        refine x_aload_n 538 2 dL_holds_537 rfl rfl ?_
        refine x_bipush 540 (7 : Int32) dL_holds_538 rfl (by decide) ?_
        refine x_iload 542 12 dL_holds_540 rfl rfl ?_
        refine x_iconst 543 (2 : Int32) dL_holds_542 rfl (by decide) ?_
        refine x_iconst 544 (0 : Int32) dL_holds_543 rfl (by decide) ?_
        obtain ⟨v119, s120, h118, hF⟩ := b2_inv hF
        refine x_callS (As := [.ref a0, .int (7 : Int32), .int y10, .int (2 : Int32), .int (0 : Int32)]) (rest := []) 547 (k + 6) (j + 36) (mL_call hst a0 (7 : Int32) y10 (2 : Int32) (0 : Int32) s117 none v119 s120 h118) qyL_call wd_180 wd_181 rfl rfl (by decide) (Nat.le_of_ble_eq_true rfl) ⟨by show (k + 4) + 2 ≤ 6142; omega, by show (j + 24) + 12 ≤ 36852; omega⟩ dL_holds_544 rfl rfl rfl rfl ?_
        refine x_istore 549 13 [(13, .int v119), (12, .int v116), (11, .int v113), (0, .ref a0), (1, .int a1), (2, .int a2), (3, .int a3), (4, .int a4), (5, .int a5), (6, .int a6), (7, .int a7), (8, .int y8), (9, .int a9), (10, .int y10)] dL_holds_547 rfl (by decide) rfl ?_
        refine x_iconst 550 (1 : Int32) dL_holds_549 rfl (by decide) ?_
        refine x_iload_n 551 4 dL_holds_550 rfl rfl ?_
        refine x_sipush 554 (999 : Int32) dL_holds_551 rfl (by decide) ?_
        refine x_irem 555 (by decide) dL_holds_554 rfl ?_
        refine x_iadd 556 dL_holds_555 rfl ?_
        refine x_istore 558 14 [(14, .int ((1 : Int32) + (irm a1 (999 : Int32)))), (13, .int v119), (12, .int v116), (11, .int v113), (0, .ref a0), (1, .int a1), (2, .int a2), (3, .int a3), (4, .int a4), (5, .int a5), (6, .int a6), (7, .int a7), (8, .int y8), (9, .int a9), (10, .int y10)] dL_holds_556 rfl (by decide) rfl ?_
        refine x_aload_n 559 4 dL_holds_558 rfl rfl ?_
        refine x_bipush 561 (6 : Int32) dL_holds_559 rfl (by decide) ?_
        refine x_iload 563 14 dL_holds_561 rfl rfl ?_
        refine x_iload 565 0 dL_holds_563 rfl rfl ?_
        refine x_iconst 566 (0 : Int32) dL_holds_565 rfl (by decide) ?_
        obtain ⟨v122, s123, h121, hF⟩ := b2_inv hF
        refine x_callS (As := [.ref a0, .int (6 : Int32), .int y10, .int ((1 : Int32) + (irm a1 (999 : Int32))), .int (0 : Int32)]) (rest := []) 569 (k + 8) (j + 48) (mL_call hst a0 (6 : Int32) y10 ((1 : Int32) + (irm a1 (999 : Int32))) (0 : Int32) s120 none v122 s123 h121) qyL_call wd_180 wd_181 rfl rfl (by decide) (Nat.le_of_ble_eq_true rfl) ⟨by show (k + 6) + 2 ≤ 6142; omega, by show (j + 36) + 12 ≤ 36852; omega⟩ dL_holds_566 rfl rfl rfl rfl ?_
        refine x_istore 571 15 [(15, .int v122), (14, .int ((1 : Int32) + (irm a1 (999 : Int32)))), (13, .int v119), (12, .int v116), (11, .int v113), (0, .ref a0), (1, .int a1), (2, .int a2), (3, .int a3), (4, .int a4), (5, .int a5), (6, .int a6), (7, .int a7), (8, .int y8), (9, .int a9), (10, .int y10)] dL_holds_569 rfl (by decide) rfl ?_
        refine x_aload_n 572 5 dL_holds_571 rfl rfl ?_
        refine x_bipush 574 (15 : Int32) dL_holds_572 rfl (by decide) ?_
        refine x_iload 576 15 dL_holds_574 rfl rfl ?_
        refine x_iconst 577 (0 : Int32) dL_holds_576 rfl (by decide) ?_
        refine x_iconst 578 (0 : Int32) dL_holds_577 rfl (by decide) ?_
        obtain ⟨v125, s126, h124, hF⟩ := b2_inv hF
        refine x_callS (As := [.ref a0, .int (15 : Int32), .int y10, .int (0 : Int32), .int (0 : Int32)]) (rest := []) 581 (k + 10) (j + 60) (mL_call hst a0 (15 : Int32) y10 (0 : Int32) (0 : Int32) s123 none v125 s126 h124) qyL_call wd_180 wd_181 rfl rfl (by decide) (Nat.le_of_ble_eq_true rfl) ⟨by show (k + 8) + 2 ≤ 6142; omega, by show (j + 48) + 12 ≤ 36852; omega⟩ dL_holds_578 rfl rfl rfl rfl ?_
        refine x_istore 583 16 [(16, .int v125), (15, .int v122), (14, .int ((1 : Int32) + (irm a1 (999 : Int32)))), (13, .int v119), (12, .int v116), (11, .int v113), (0, .ref a0), (1, .int a1), (2, .int a2), (3, .int a3), (4, .int a4), (5, .int a5), (6, .int a6), (7, .int a7), (8, .int y8), (9, .int a9), (10, .int y10)] dL_holds_581 rfl (by decide) rfl ?_
        refine x_iload 585 5 dL_holds_583 rfl rfl ?_
        refine x_aload_n 586 6 dL_holds_585 rfl rfl ?_
        refine x_bipush 588 (7 : Int32) dL_holds_586 rfl (by decide) ?_
        refine x_iload 590 16 dL_holds_588 rfl rfl ?_
        refine x_iconst 591 (0 : Int32) dL_holds_590 rfl (by decide) ?_
        refine x_iconst 592 (1 : Int32) dL_holds_591 rfl (by decide) ?_
        obtain ⟨v128, s129, h127, hF⟩ := b2_inv hF
        refine x_callS (As := [.ref a0, .int (7 : Int32), .int y10, .int (0 : Int32), .int (1 : Int32)]) (rest := [.int v113]) 595 (k + 12) (j + 72) (mL_call hst a0 (7 : Int32) y10 (0 : Int32) (1 : Int32) s126 none v128 s129 h127) qyL_call wd_180 wd_181 rfl rfl (by decide) (Nat.le_of_ble_eq_true rfl) ⟨by show (k + 10) + 2 ≤ 6142; omega, by show (j + 60) + 12 ≤ 36852; omega⟩ dL_holds_592 rfl rfl rfl rfl ?_
        obtain ⟨x130, s131, h182, hF⟩ := b2_inv hF
        have hJ : qX l G RL "holds" cL_holds 17 (some .boolean) [] rmL_holds 6142 36852 r (k + 32) (j + 192) s131 none 849 [(0, .ref a0), (1, .int a1), (2, .int a2), (3, .int a3), (4, .int a4), (5, .int a5), (6, .int a6), (7, .int a7), (9, .int a9), (10, .int y10)] [.int x130] := by
          refine x_istore 851 8 [(8, .int x130), (0, .ref a0), (1, .int a1), (2, .int a2), (3, .int a3), (4, .int a4), (5, .int a5), (6, .int a6), (7, .int a7), (9, .int a9), (10, .int y10)] dL_holds_849 rfl (by decide) rfl ?_
          refine x_iinc 854 10 10 (y10 + (1 : Int32)) [(10, .int (y10 + (1 : Int32))), (8, .int x130), (0, .ref a0), (1, .int a1), (2, .int a2), (3, .int a3), (4, .int a4), (5, .int a5), (6, .int a6), (7, .int a7), (9, .int a9)] dL_holds_851 rfl rfl rfl (by decide) rfl ?_
          refine x_goto 502 dL_holds_854 (by decide) ?_
          refine x_sub [(0, .ref a0), (1, .int a1), (2, .int a2), (3, .int a3), (4, .int a4), (5, .int a5), (6, .int a6), (7, .int a7), (8, .int x130), (9, .int a9), (10, .int (y10 + (1 : Int32)))] [2, 3, 4, 5, 6, 7, 8, 9, 1, 10, 0] rfl ?_
          exact ih (k + 32) (j + 192) _ _ _ _ _ (by omega) (by omega) hF hJ
        have hF := h182
        rcases ite_inv hF with ⟨hc, hF⟩ | ⟨hc, hF⟩
        · refine x_icmp_ne 848 598 dL_holds_595 (by decide) rfl (fun q => absurd hc q) (fun _ => ?_)
          refine x_iload 600 4 dL_holds_598 rfl rfl ?_
          refine x_aload_n 601 6 dL_holds_600 rfl rfl ?_
          refine x_bipush 603 (7 : Int32) dL_holds_601 rfl (by decide) ?_
          refine x_iload 605 16 dL_holds_603 rfl rfl ?_
          refine x_iconst 606 (1 : Int32) dL_holds_605 rfl (by decide) ?_
          refine x_iconst 607 (1 : Int32) dL_holds_606 rfl (by decide) ?_
          obtain ⟨v133, s134, h132, hF⟩ := b2_inv hF
          refine x_callS (As := [.ref a0, .int (7 : Int32), .int y10, .int (1 : Int32), .int (1 : Int32)]) (rest := [.int v116]) 610 (k + 14) (j + 84) (mL_call hst a0 (7 : Int32) y10 (1 : Int32) (1 : Int32) s129 none v133 s134 h132) qyL_call wd_180 wd_181 rfl rfl (by decide) (Nat.le_of_ble_eq_true rfl) ⟨by show (k + 12) + 2 ≤ 6142; omega, by show (j + 72) + 12 ≤ 36852; omega⟩ dL_holds_607 rfl rfl rfl rfl ?_
          rcases ite_inv hF with ⟨hc, hF⟩ | ⟨hc, hF⟩
          · refine x_icmp_ne 848 613 dL_holds_610 (by decide) rfl (fun q => absurd hc q) (fun _ => ?_)
            refine x_iload 615 3 dL_holds_613 rfl rfl ?_
            refine x_aload_n 616 6 dL_holds_615 rfl rfl ?_
            refine x_bipush 618 (7 : Int32) dL_holds_616 rfl (by decide) ?_
            refine x_iload 620 16 dL_holds_618 rfl rfl ?_
            refine x_iconst 621 (2 : Int32) dL_holds_620 rfl (by decide) ?_
            refine x_iconst 622 (1 : Int32) dL_holds_621 rfl (by decide) ?_
            obtain ⟨v136, s137, h135, hF⟩ := b2_inv hF
            refine x_callS (As := [.ref a0, .int (7 : Int32), .int y10, .int (2 : Int32), .int (1 : Int32)]) (rest := [.int v119]) 625 (k + 16) (j + 96) (mL_call hst a0 (7 : Int32) y10 (2 : Int32) (1 : Int32) s134 none v136 s137 h135) qyL_call wd_180 wd_181 rfl rfl (by decide) (Nat.le_of_ble_eq_true rfl) ⟨by show (k + 14) + 2 ≤ 6142; omega, by show (j + 84) + 12 ≤ 36852; omega⟩ dL_holds_622 rfl rfl rfl rfl ?_
            rcases ite_inv hF with ⟨hc, hF⟩ | ⟨hc, hF⟩
            · refine x_icmp_ne 848 628 dL_holds_625 (by decide) rfl (fun q => absurd hc q) (fun _ => ?_)
              refine x_iload 630 5 dL_holds_628 rfl rfl ?_
              refine x_iconst 631 (1 : Int32) dL_holds_630 rfl (by decide) ?_
              rcases ite_inv hF with ⟨hc, hF⟩ | ⟨hc, hF⟩
              · refine x_icmp_lt 848 634 dL_holds_631 (by decide) rfl (fun _ => ?_) (fun q => absurd hc q)
                refine x_iconst 849 (0 : Int32) dL_holds_848 rfl (by decide) ?_
                obtain ⟨e1, e2⟩ := so2 hF
                subst e1
                subst e2
                refine x_wide (k + 32) (j + 192) (by omega) (by omega) ?_
                refine x_sub [(0, .ref a0), (1, .int a1), (2, .int a2), (3, .int a3), (4, .int a4), (5, .int a5), (6, .int a6), (7, .int a7), (9, .int a9), (10, .int y10)] [6, 7, 8, 9, 10, 11, 12, 13, 15, 16] rfl ?_
                exact hJ
              · refine x_icmp_lt 848 634 dL_holds_631 (by decide) rfl (fun q => absurd q hc) (fun _ => ?_)
                refine x_iload 636 5 dL_holds_634 rfl rfl ?_
                refine x_iload 638 4 dL_holds_636 rfl rfl ?_
                rcases ite_inv hF with ⟨hc, hF⟩ | ⟨hc, hF⟩
                · refine x_icmp_gt 848 641 dL_holds_638 (by decide) rfl (fun _ => ?_) (fun q => absurd hc q)
                  refine x_iconst 849 (0 : Int32) dL_holds_848 rfl (by decide) ?_
                  obtain ⟨e1, e2⟩ := so2 hF
                  subst e1
                  subst e2
                  refine x_wide (k + 32) (j + 192) (by omega) (by omega) ?_
                  refine x_sub [(0, .ref a0), (1, .int a1), (2, .int a2), (3, .int a3), (4, .int a4), (5, .int a5), (6, .int a6), (7, .int a7), (9, .int a9), (10, .int y10)] [6, 7, 8, 9, 10, 11, 12, 13, 15, 16] rfl ?_
                  exact hJ
                · refine x_icmp_gt 848 641 dL_holds_638 (by decide) rfl (fun q => absurd q hc) (fun _ => ?_)
                  refine x_iload 643 4 dL_holds_641 rfl rfl ?_
                  refine x_sipush 646 (999 : Int32) dL_holds_643 rfl (by decide) ?_
                  rcases ite_inv hF with ⟨hc, hF⟩ | ⟨hc, hF⟩
                  · refine x_icmp_gt 848 649 dL_holds_646 (by decide) rfl (fun _ => ?_) (fun q => absurd hc q)
                    refine x_iconst 849 (0 : Int32) dL_holds_848 rfl (by decide) ?_
                    obtain ⟨e1, e2⟩ := so2 hF
                    subst e1
                    subst e2
                    refine x_wide (k + 32) (j + 192) (by omega) (by omega) ?_
                    refine x_sub [(0, .ref a0), (1, .int a1), (2, .int a2), (3, .int a3), (4, .int a4), (5, .int a5), (6, .int a6), (7, .int a7), (9, .int a9), (10, .int y10)] [6, 7, 8, 9, 10, 11, 12, 13, 15, 16] rfl ?_
                    exact hJ
                  · refine x_icmp_gt 848 649 dL_holds_646 (by decide) rfl (fun q => absurd q hc) (fun _ => ?_)
                    refine x_aload_n 650 6 dL_holds_649 rfl rfl ?_
                    refine x_bipush 652 (6 : Int32) dL_holds_650 rfl (by decide) ?_
                    refine x_iload 654 16 dL_holds_652 rfl rfl ?_
                    refine x_iload 656 5 dL_holds_654 rfl rfl ?_
                    refine x_iconst 657 (0 : Int32) dL_holds_656 rfl (by decide) ?_
                    obtain ⟨v139, s140, h138, hF⟩ := b2_inv hF
                    refine x_callS (As := [.ref a0, .int (6 : Int32), .int y10, .int v113, .int (0 : Int32)]) (rest := []) 660 (k + 18) (j + 108) (mL_call hst a0 (6 : Int32) y10 v113 (0 : Int32) s137 none v139 s140 h138) qyL_call wd_180 wd_181 rfl rfl (by decide) (Nat.le_of_ble_eq_true rfl) ⟨by show (k + 16) + 2 ≤ 6142; omega, by show (j + 96) + 12 ≤ 36852; omega⟩ dL_holds_657 rfl rfl rfl rfl ?_
                    refine x_iload 662 3 dL_holds_660 rfl rfl ?_
                    rcases ite_inv hF with ⟨hc, hF⟩ | ⟨hc, hF⟩
                    · refine x_icmp_ne 848 665 dL_holds_662 (by decide) rfl (fun q => absurd hc q) (fun _ => ?_)
                      refine x_aload_n 666 6 dL_holds_665 rfl rfl ?_
                      refine x_bipush 668 (6 : Int32) dL_holds_666 rfl (by decide) ?_
                      refine x_iload 670 16 dL_holds_668 rfl rfl ?_
                      refine x_iload 672 4 dL_holds_670 rfl rfl ?_
                      refine x_iconst 673 (0 : Int32) dL_holds_672 rfl (by decide) ?_
                      obtain ⟨v142, s143, h141, hF⟩ := b2_inv hF
                      refine x_callS (As := [.ref a0, .int (6 : Int32), .int y10, .int v116, .int (0 : Int32)]) (rest := []) 676 (k + 20) (j + 120) (mL_call hst a0 (6 : Int32) y10 v116 (0 : Int32) s140 none v142 s143 h141) qyL_call wd_180 wd_181 rfl rfl (by decide) (Nat.le_of_ble_eq_true rfl) ⟨by show (k + 18) + 2 ≤ 6142; omega, by show (j + 108) + 12 ≤ 36852; omega⟩ dL_holds_673 rfl rfl rfl rfl ?_
                      refine x_iload 678 3 dL_holds_676 rfl rfl ?_
                      rcases ite_inv hF with ⟨hc, hF⟩ | ⟨hc, hF⟩
                      · refine x_icmp_ne 848 681 dL_holds_678 (by decide) rfl (fun q => absurd hc q) (fun _ => ?_)
                        refine x_iload 683 1 dL_holds_681 rfl rfl ?_
                        refine x_iload 685 3 dL_holds_683 rfl rfl ?_
                        rcases bc_inv hF with ⟨u, h181, hF⟩ | ⟨u, h181, hF⟩
                        · have hJ : qX l G RL "holds" cL_holds 17 (some .boolean) [] rmL_holds 6142 36852 r (k + 20) (j + 120) s143 none 702 [(0, .ref a0), (1, .int a1), (2, .int a2), (3, .int a3), (4, .int a4), (5, .int a5), (6, .int a6), (7, .int a7), (9, .int a9), (10, .int y10), (11, .int v113), (12, .int v116), (13, .int v119), (14, .int ((1 : Int32) + (irm a1 (999 : Int32)))), (15, .int v122), (16, .int v125)] [] := by
                            refine x_iload 704 13 dL_holds_702 rfl rfl ?_
                            refine x_iload 706 10 dL_holds_704 rfl rfl ?_
                            rcases bc_inv hF with ⟨u, h180, hF⟩ | ⟨u, h180, hF⟩
                            · have hJ : qX l G RL "holds" cL_holds 17 (some .boolean) [] rmL_holds 6142 36852 r (k + 20) (j + 120) s143 none 723 [(0, .ref a0), (1, .int a1), (2, .int a2), (3, .int a3), (4, .int a4), (5, .int a5), (6, .int a6), (7, .int a7), (9, .int a9), (10, .int y10), (11, .int v113), (12, .int v116), (13, .int v119), (16, .int v125)] [] := by
                                refine x_iload 725 11 dL_holds_723 rfl rfl ?_
                                refine x_sipush 728 (999 : Int32) dL_holds_725 rfl (by decide) ?_
                                rcases bc_inv hF with ⟨s144, h179, hF⟩ | ⟨s145, h179, hF⟩
                                · have hJ : qX l G RL "holds" cL_holds 17 (some .boolean) [] rmL_holds 6142 36852 r (k + 22) (j + 132) s144 none 749 [(0, .ref a0), (1, .int a1), (2, .int a2), (3, .int a3), (4, .int a4), (5, .int a5), (6, .int a6), (7, .int a7), (9, .int a9), (10, .int y10), (11, .int v113), (12, .int v116), (13, .int v119), (16, .int v125)] [] := by
                                    refine x_iload 751 12 dL_holds_749 rfl rfl ?_
                                    refine x_aload_n 752 0 dL_holds_751 rfl rfl ?_
                                    refine x_iconst 753 (5 : Int32) dL_holds_752 rfl (by decide) ?_
                                    refine x_iload 755 9 dL_holds_753 rfl rfl ?_
                                    refine x_iconst 756 (2 : Int32) dL_holds_755 rfl (by decide) ?_
                                    refine x_iconst 757 (0 : Int32) dL_holds_756 rfl (by decide) ?_
                                    obtain ⟨v147, s148, h146, hF⟩ := b2_inv hF
                                    refine x_callS (As := [.ref a0, .int (5 : Int32), .int y10, .int (2 : Int32), .int (0 : Int32)]) (rest := [.int v119]) 760 (k + 24) (j + 144) (mL_call hst a0 (5 : Int32) y10 (2 : Int32) (0 : Int32) s144 none v147 s148 h146) qyL_call wd_180 wd_181 rfl rfl (by decide) (Nat.le_of_ble_eq_true rfl) ⟨by show (k + 22) + 2 ≤ 6142; omega, by show (j + 132) + 12 ≤ 36852; omega⟩ dL_holds_757 rfl rfl rfl rfl ?_
                                    rcases ite_inv hF with ⟨hc, hF⟩ | ⟨hc, hF⟩
                                    · refine x_icmp_gt 848 763 dL_holds_760 (by decide) rfl (fun _ => ?_) (fun q => absurd hc q)
                                      refine x_iconst 849 (0 : Int32) dL_holds_848 rfl (by decide) ?_
                                      obtain ⟨e1, e2⟩ := so2 hF
                                      subst e1
                                      subst e2
                                      refine x_wide (k + 32) (j + 192) (by omega) (by omega) ?_
                                      refine x_sub [(0, .ref a0), (1, .int a1), (2, .int a2), (3, .int a3), (4, .int a4), (5, .int a5), (6, .int a6), (7, .int a7), (9, .int a9), (10, .int y10)] [0, 1, 2, 3, 4, 5, 6, 7, 8, 9] rfl ?_
                                      exact hJ
                                    · refine x_icmp_gt 848 763 dL_holds_760 (by decide) rfl (fun q => absurd q hc) (fun _ => ?_)
                                      refine x_iload 765 13 dL_holds_763 rfl rfl ?_
                                      refine x_iconst 766 (-1 : Int32) dL_holds_765 rfl (by decide) ?_
                                      rcases bc_inv hF with ⟨s149, h172, hF⟩ | ⟨s150, h172, hF⟩
                                      · have hJ : qX l G RL "holds" cL_holds 17 (some .boolean) [] rmL_holds 6142 36852 r (k + 30) (j + 180) s149 none 813 [(0, .ref a0), (1, .int a1), (2, .int a2), (3, .int a3), (4, .int a4), (5, .int a5), (6, .int a6), (7, .int a7), (9, .int a9), (10, .int y10), (11, .int v113), (12, .int v116), (13, .int v119)] [] := by
                                          refine x_aload_n 814 0 dL_holds_813 rfl rfl ?_
                                          refine x_iconst 815 (5 : Int32) dL_holds_814 rfl (by decide) ?_
                                          refine x_iload 817 9 dL_holds_815 rfl rfl ?_
                                          refine x_iconst 818 (0 : Int32) dL_holds_817 rfl (by decide) ?_
                                          refine x_iconst 819 (0 : Int32) dL_holds_818 rfl (by decide) ?_
                                          obtain ⟨v152, s153, h151, hF⟩ := b2_inv hF
                                          refine x_callS (As := [.ref a0, .int (5 : Int32), .int y10, .int (0 : Int32), .int (0 : Int32)]) (rest := []) 822 (k + 32) (j + 192) (mL_call hst a0 (5 : Int32) y10 (0 : Int32) (0 : Int32) s149 none v152 s153 h151) qyL_call wd_180 wd_181 rfl rfl (by decide) (Nat.le_of_ble_eq_true rfl) ⟨by show (k + 30) + 2 ≤ 6142; omega, by show (j + 180) + 12 ≤ 36852; omega⟩ dL_holds_819 rfl rfl rfl rfl ?_
                                          rcases ite_inv hF with ⟨hc, hF⟩ | ⟨hc, hF⟩
                                          · refine x_if_gt 844 825 dL_holds_822 (by decide) rfl (fun _ => ?_) (fun q => absurd hc q)
                                            refine x_iconst 845 (1 : Int32) dL_holds_844 rfl (by decide) ?_
                                            refine x_goto 849 dL_holds_845 (by decide) ?_
                                            obtain ⟨e1, e2⟩ := so2 hF
                                            subst e1
                                            subst e2
                                            refine x_sub [(0, .ref a0), (1, .int a1), (2, .int a2), (3, .int a3), (4, .int a4), (5, .int a5), (6, .int a6), (7, .int a7), (9, .int a9), (10, .int y10)] [0, 1, 2, 3, 4, 5, 6, 7, 8, 9] rfl ?_
                                            exact hJ
                                          · refine x_if_gt 844 825 dL_holds_822 (by decide) rfl (fun q => absurd q hc) (fun _ => ?_)
                                            refine x_iload 827 10 dL_holds_825 rfl rfl ?_
                                            refine x_iconst 828 (1 : Int32) dL_holds_827 rfl (by decide) ?_
                                            rcases ite_inv hF with ⟨hc, hF⟩ | ⟨hc, hF⟩
                                            · refine x_icmp_ne 848 831 dL_holds_828 (by decide) rfl (fun q => absurd hc q) (fun _ => ?_)
                                              refine x_iload 833 11 dL_holds_831 rfl rfl ?_
                                              refine x_sipush 836 (999 : Int32) dL_holds_833 rfl (by decide) ?_
                                              rcases ite_inv hF with ⟨hc, hF⟩ | ⟨hc, hF⟩
                                              · refine x_icmp_ne 848 839 dL_holds_836 (by decide) rfl (fun q => absurd hc q) (fun _ => ?_)
                                                refine x_iload 841 12 dL_holds_839 rfl rfl ?_
                                                rcases ite_inv hF with ⟨hc, hF⟩ | ⟨hc, hF⟩
                                                · refine x_if_ne 848 844 dL_holds_841 (by decide) rfl (fun q => absurd hc q) (fun _ => ?_)
                                                  refine x_iconst 845 (1 : Int32) dL_holds_844 rfl (by decide) ?_
                                                  refine x_goto 849 dL_holds_845 (by decide) ?_
                                                  obtain ⟨e1, e2⟩ := so2 hF
                                                  subst e1
                                                  subst e2
                                                  refine x_sub [(0, .ref a0), (1, .int a1), (2, .int a2), (3, .int a3), (4, .int a4), (5, .int a5), (6, .int a6), (7, .int a7), (9, .int a9), (10, .int y10)] [0, 1, 2, 3, 4, 5, 6, 7, 8, 9] rfl ?_
                                                  exact hJ
                                                · refine x_if_ne 848 844 dL_holds_841 (by decide) rfl (fun _ => ?_) (fun q => absurd q hc)
                                                  refine x_iconst 849 (0 : Int32) dL_holds_848 rfl (by decide) ?_
                                                  obtain ⟨e1, e2⟩ := so2 hF
                                                  subst e1
                                                  subst e2
                                                  refine x_sub [(0, .ref a0), (1, .int a1), (2, .int a2), (3, .int a3), (4, .int a4), (5, .int a5), (6, .int a6), (7, .int a7), (9, .int a9), (10, .int y10)] [0, 1, 2, 3, 4, 5, 6, 7, 8, 9] rfl ?_
                                                  exact hJ
                                              · refine x_icmp_ne 848 839 dL_holds_836 (by decide) rfl (fun _ => ?_) (fun q => absurd q hc)
                                                refine x_iconst 849 (0 : Int32) dL_holds_848 rfl (by decide) ?_
                                                obtain ⟨e1, e2⟩ := so2 hF
                                                subst e1
                                                subst e2
                                                refine x_sub [(0, .ref a0), (1, .int a1), (2, .int a2), (3, .int a3), (4, .int a4), (5, .int a5), (6, .int a6), (7, .int a7), (9, .int a9), (10, .int y10)] [0, 1, 2, 3, 4, 5, 6, 7, 8, 9] rfl ?_
                                                exact hJ
                                            · refine x_icmp_ne 848 831 dL_holds_828 (by decide) rfl (fun _ => ?_) (fun q => absurd q hc)
                                              refine x_iconst 849 (0 : Int32) dL_holds_848 rfl (by decide) ?_
                                              obtain ⟨e1, e2⟩ := so2 hF
                                              subst e1
                                              subst e2
                                              refine x_sub [(0, .ref a0), (1, .int a1), (2, .int a2), (3, .int a3), (4, .int a4), (5, .int a5), (6, .int a6), (7, .int a7), (9, .int a9), (10, .int y10)] [0, 1, 2, 3, 4, 5, 6, 7, 8, 9] rfl ?_
                                              exact hJ
                                        have hF := h172
                                        rcases ite_inv hF with ⟨hc, hF⟩ | ⟨hc, hF⟩
                                        · refine x_icmp_eq 813 769 dL_holds_766 (by decide) rfl (fun _ => ?_) (fun q => absurd hc q)
                                          have e1 := Sum.inl.inj (Option.some.inj hF)
                                          subst e1
                                          refine x_wide (k + 30) (j + 180) (by omega) (by omega) ?_
                                          refine x_sub [(0, .ref a0), (1, .int a1), (2, .int a2), (3, .int a3), (4, .int a4), (5, .int a5), (6, .int a6), (7, .int a7), (9, .int a9), (10, .int y10), (11, .int v113), (12, .int v116), (13, .int v119)] [0, 1, 2, 3, 4, 5, 6, 7, 8, 9, 10, 11, 12] rfl ?_
                                          exact hJ
                                        · refine x_icmp_eq 813 769 dL_holds_766 (by decide) rfl (fun q => absurd q hc) (fun _ => ?_)
                                          refine x_aload_n 770 0 dL_holds_769 rfl rfl ?_
                                          refine x_iconst 771 (3 : Int32) dL_holds_770 rfl (by decide) ?_
                                          refine x_iload 773 13 dL_holds_771 rfl rfl ?_
                                          refine x_iconst 774 (0 : Int32) dL_holds_773 rfl (by decide) ?_
                                          refine x_iconst 775 (0 : Int32) dL_holds_774 rfl (by decide) ?_
                                          obtain ⟨v155, s156, h154, hF⟩ := b2_inv hF
                                          refine x_callS (As := [.ref a0, .int (3 : Int32), .int v125, .int (0 : Int32), .int (0 : Int32)]) (rest := []) 778 (k + 26) (j + 156) (mL_call hst a0 (3 : Int32) v125 (0 : Int32) (0 : Int32) s148 none v155 s156 h154) qyL_call wd_180 wd_181 rfl rfl (by decide) (Nat.le_of_ble_eq_true rfl) ⟨by show (k + 24) + 2 ≤ 6142; omega, by show (j + 144) + 12 ≤ 36852; omega⟩ dL_holds_775 rfl rfl rfl rfl ?_
                                          refine x_iload 780 9 dL_holds_778 rfl rfl ?_
                                          rcases ite_inv hF with ⟨hc, hF⟩ | ⟨hc, hF⟩
                                          · refine x_icmp_ne 848 783 dL_holds_780 (by decide) rfl (fun q => absurd hc q) (fun _ => ?_)
                                            refine x_aload_n 784 0 dL_holds_783 rfl rfl ?_
                                            refine x_iconst 785 (3 : Int32) dL_holds_784 rfl (by decide) ?_
                                            refine x_iload 787 13 dL_holds_785 rfl rfl ?_
                                            refine x_bipush 789 (7 : Int32) dL_holds_787 rfl (by decide) ?_
                                            refine x_iconst 790 (0 : Int32) dL_holds_789 rfl (by decide) ?_
                                            obtain ⟨v158, s159, h157, hF⟩ := b2_inv hF
                                            refine x_callS (As := [.ref a0, .int (3 : Int32), .int v125, .int (7 : Int32), .int (0 : Int32)]) (rest := []) 793 (k + 28) (j + 168) (mL_call hst a0 (3 : Int32) v125 (7 : Int32) (0 : Int32) s156 none v158 s159 h157) qyL_call wd_180 wd_181 rfl rfl (by decide) (Nat.le_of_ble_eq_true rfl) ⟨by show (k + 26) + 2 ≤ 6142; omega, by show (j + 156) + 12 ≤ 36852; omega⟩ dL_holds_790 rfl rfl rfl rfl ?_
                                            refine x_iload 795 10 dL_holds_793 rfl rfl ?_
                                            rcases ite_inv hF with ⟨hc, hF⟩ | ⟨hc, hF⟩
                                            · refine x_icmp_gt 813 798 dL_holds_795 (by decide) rfl (fun _ => ?_) (fun q => absurd hc q)
                                              have e1 := Sum.inl.inj (Option.some.inj hF)
                                              subst e1
                                              refine x_wide (k + 30) (j + 180) (by omega) (by omega) ?_
                                              refine x_sub [(0, .ref a0), (1, .int a1), (2, .int a2), (3, .int a3), (4, .int a4), (5, .int a5), (6, .int a6), (7, .int a7), (9, .int a9), (10, .int y10), (11, .int v113), (12, .int v116), (13, .int v119)] [0, 1, 2, 3, 4, 5, 6, 7, 8, 9, 10, 11, 12] rfl ?_
                                              exact hJ
                                            · refine x_icmp_gt 813 798 dL_holds_795 (by decide) rfl (fun q => absurd q hc) (fun _ => ?_)
                                              refine x_aload_n 799 0 dL_holds_798 rfl rfl ?_
                                              refine x_iconst 800 (3 : Int32) dL_holds_799 rfl (by decide) ?_
                                              refine x_iload 802 13 dL_holds_800 rfl rfl ?_
                                              refine x_bipush 804 (8 : Int32) dL_holds_802 rfl (by decide) ?_
                                              refine x_iconst 805 (0 : Int32) dL_holds_804 rfl (by decide) ?_
                                              obtain ⟨v161, s162, h160, hF⟩ := b2_inv hF
                                              refine x_callS (As := [.ref a0, .int (3 : Int32), .int v125, .int (8 : Int32), .int (0 : Int32)]) (rest := []) 808 (k + 30) (j + 180) (mL_call hst a0 (3 : Int32) v125 (8 : Int32) (0 : Int32) s159 none v161 s162 h160) qyL_call wd_180 wd_181 rfl rfl (by decide) (Nat.le_of_ble_eq_true rfl) ⟨by show (k + 28) + 2 ≤ 6142; omega, by show (j + 168) + 12 ≤ 36852; omega⟩ dL_holds_805 rfl rfl rfl rfl ?_
                                              refine x_iload 810 10 dL_holds_808 rfl rfl ?_
                                              rcases ite_inv hF with ⟨hc, hF⟩ | ⟨hc, hF⟩
                                              · refine x_icmp_ge 848 813 dL_holds_810 (by decide) rfl (fun _ => ?_) (fun q => absurd hc q)
                                                cases hF
                                              · refine x_icmp_ge 848 813 dL_holds_810 (by decide) rfl (fun q => absurd q hc) (fun _ => ?_)
                                                have e1 := Sum.inl.inj (Option.some.inj hF)
                                                subst e1
                                                refine x_sub [(0, .ref a0), (1, .int a1), (2, .int a2), (3, .int a3), (4, .int a4), (5, .int a5), (6, .int a6), (7, .int a7), (9, .int a9), (10, .int y10), (11, .int v113), (12, .int v116), (13, .int v119)] [0, 1, 2, 3, 4, 5, 6, 7, 8, 9, 10, 11, 12] rfl ?_
                                                exact hJ
                                          · refine x_icmp_ne 848 783 dL_holds_780 (by decide) rfl (fun _ => ?_) (fun q => absurd q hc)
                                            cases hF
                                      · have hJ : qX l G RL "holds" cL_holds 17 (some .boolean) [] rmL_holds 6142 36852 r (k + 30) (j + 180) s150 none 848 [(0, .ref a0), (1, .int a1), (2, .int a2), (3, .int a3), (4, .int a4), (5, .int a5), (6, .int a6), (7, .int a7), (9, .int a9), (10, .int y10)] [] := by
                                          refine x_iconst 849 (0 : Int32) dL_holds_848 rfl (by decide) ?_
                                          obtain ⟨e1, e2⟩ := so2 hF
                                          subst e1
                                          subst e2
                                          refine x_wide (k + 32) (j + 192) (by omega) (by omega) ?_
                                          exact hJ
                                        have hF := h172
                                        rcases ite_inv hF with ⟨hc, hF⟩ | ⟨hc, hF⟩
                                        · refine x_icmp_eq 813 769 dL_holds_766 (by decide) rfl (fun _ => ?_) (fun q => absurd hc q)
                                          cases hF
                                        · refine x_icmp_eq 813 769 dL_holds_766 (by decide) rfl (fun q => absurd q hc) (fun _ => ?_)
                                          refine x_aload_n 770 0 dL_holds_769 rfl rfl ?_
                                          refine x_iconst 771 (3 : Int32) dL_holds_770 rfl (by decide) ?_
                                          refine x_iload 773 13 dL_holds_771 rfl rfl ?_
                                          refine x_iconst 774 (0 : Int32) dL_holds_773 rfl (by decide) ?_
                                          refine x_iconst 775 (0 : Int32) dL_holds_774 rfl (by decide) ?_
                                          obtain ⟨v164, s165, h163, hF⟩ := b2_inv hF
                                          refine x_callS (As := [.ref a0, .int (3 : Int32), .int v125, .int (0 : Int32), .int (0 : Int32)]) (rest := []) 778 (k + 26) (j + 156) (mL_call hst a0 (3 : Int32) v125 (0 : Int32) (0 : Int32) s148 none v164 s165 h163) qyL_call wd_180 wd_181 rfl rfl (by decide) (Nat.le_of_ble_eq_true rfl) ⟨by show (k + 24) + 2 ≤ 6142; omega, by show (j + 144) + 12 ≤ 36852; omega⟩ dL_holds_775 rfl rfl rfl rfl ?_
                                          refine x_iload 780 9 dL_holds_778 rfl rfl ?_
                                          rcases ite_inv hF with ⟨hc, hF⟩ | ⟨hc, hF⟩
                                          · refine x_icmp_ne 848 783 dL_holds_780 (by decide) rfl (fun q => absurd hc q) (fun _ => ?_)
                                            refine x_aload_n 784 0 dL_holds_783 rfl rfl ?_
                                            refine x_iconst 785 (3 : Int32) dL_holds_784 rfl (by decide) ?_
                                            refine x_iload 787 13 dL_holds_785 rfl rfl ?_
                                            refine x_bipush 789 (7 : Int32) dL_holds_787 rfl (by decide) ?_
                                            refine x_iconst 790 (0 : Int32) dL_holds_789 rfl (by decide) ?_
                                            obtain ⟨v167, s168, h166, hF⟩ := b2_inv hF
                                            refine x_callS (As := [.ref a0, .int (3 : Int32), .int v125, .int (7 : Int32), .int (0 : Int32)]) (rest := []) 793 (k + 28) (j + 168) (mL_call hst a0 (3 : Int32) v125 (7 : Int32) (0 : Int32) s165 none v167 s168 h166) qyL_call wd_180 wd_181 rfl rfl (by decide) (Nat.le_of_ble_eq_true rfl) ⟨by show (k + 26) + 2 ≤ 6142; omega, by show (j + 156) + 12 ≤ 36852; omega⟩ dL_holds_790 rfl rfl rfl rfl ?_
                                            refine x_iload 795 10 dL_holds_793 rfl rfl ?_
                                            rcases ite_inv hF with ⟨hc, hF⟩ | ⟨hc, hF⟩
                                            · refine x_icmp_gt 813 798 dL_holds_795 (by decide) rfl (fun _ => ?_) (fun q => absurd hc q)
                                              cases hF
                                            · refine x_icmp_gt 813 798 dL_holds_795 (by decide) rfl (fun q => absurd q hc) (fun _ => ?_)
                                              refine x_aload_n 799 0 dL_holds_798 rfl rfl ?_
                                              refine x_iconst 800 (3 : Int32) dL_holds_799 rfl (by decide) ?_
                                              refine x_iload 802 13 dL_holds_800 rfl rfl ?_
                                              refine x_bipush 804 (8 : Int32) dL_holds_802 rfl (by decide) ?_
                                              refine x_iconst 805 (0 : Int32) dL_holds_804 rfl (by decide) ?_
                                              obtain ⟨v170, s171, h169, hF⟩ := b2_inv hF
                                              refine x_callS (As := [.ref a0, .int (3 : Int32), .int v125, .int (8 : Int32), .int (0 : Int32)]) (rest := []) 808 (k + 30) (j + 180) (mL_call hst a0 (3 : Int32) v125 (8 : Int32) (0 : Int32) s168 none v170 s171 h169) qyL_call wd_180 wd_181 rfl rfl (by decide) (Nat.le_of_ble_eq_true rfl) ⟨by show (k + 28) + 2 ≤ 6142; omega, by show (j + 168) + 12 ≤ 36852; omega⟩ dL_holds_805 rfl rfl rfl rfl ?_
                                              refine x_iload 810 10 dL_holds_808 rfl rfl ?_
                                              rcases ite_inv hF with ⟨hc, hF⟩ | ⟨hc, hF⟩
                                              · refine x_icmp_ge 848 813 dL_holds_810 (by decide) rfl (fun _ => ?_) (fun q => absurd hc q)
                                                have e1 := Sum.inr.inj (Option.some.inj hF)
                                                subst e1
                                                refine x_sub [(0, .ref a0), (1, .int a1), (2, .int a2), (3, .int a3), (4, .int a4), (5, .int a5), (6, .int a6), (7, .int a7), (9, .int a9), (10, .int y10)] [0, 1, 2, 3, 4, 5, 6, 7, 8, 9] rfl ?_
                                                exact hJ
                                              · refine x_icmp_ge 848 813 dL_holds_810 (by decide) rfl (fun q => absurd q hc) (fun _ => ?_)
                                                cases hF
                                          · refine x_icmp_ne 848 783 dL_holds_780 (by decide) rfl (fun _ => ?_) (fun q => absurd q hc)
                                            have e1 := Sum.inr.inj (Option.some.inj hF)
                                            subst e1
                                            refine x_wide (k + 30) (j + 180) (by omega) (by omega) ?_
                                            refine x_sub [(0, .ref a0), (1, .int a1), (2, .int a2), (3, .int a3), (4, .int a4), (5, .int a5), (6, .int a6), (7, .int a7), (9, .int a9), (10, .int y10)] [0, 1, 2, 3, 4, 5, 6, 7, 8, 9] rfl ?_
                                            exact hJ
                                  have hF := h179
                                  rcases ite_inv hF with ⟨hc, hF⟩ | ⟨hc, hF⟩
                                  · refine x_icmp_eq 749 731 dL_holds_728 (by decide) rfl (fun _ => ?_) (fun q => absurd hc q)
                                    have e1 := Sum.inl.inj (Option.some.inj hF)
                                    subst e1
                                    refine x_wide (k + 22) (j + 132) (by omega) (by omega) ?_
                                    exact hJ
                                  · refine x_icmp_eq 749 731 dL_holds_728 (by decide) rfl (fun q => absurd q hc) (fun _ => ?_)
                                    refine x_aload_n 732 0 dL_holds_731 rfl rfl ?_
                                    refine x_bipush 734 (6 : Int32) dL_holds_732 rfl (by decide) ?_
                                    refine x_iload 736 9 dL_holds_734 rfl rfl ?_
                                    refine x_iload 738 11 dL_holds_736 rfl rfl ?_
                                    refine x_iconst 739 (1 : Int32) dL_holds_738 rfl (by decide) ?_
                                    refine x_iadd 740 dL_holds_739 rfl ?_
                                    refine x_iconst 741 (0 : Int32) dL_holds_740 rfl (by decide) ?_
                                    obtain ⟨v174, s175, h173, hF⟩ := b2_inv hF
                                    refine x_callS (As := [.ref a0, .int (6 : Int32), .int y10, .int (v116 + (1 : Int32)), .int (0 : Int32)]) (rest := []) 744 (k + 22) (j + 132) (mL_call hst a0 (6 : Int32) y10 (v116 + (1 : Int32)) (0 : Int32) s143 none v174 s175 h173) qyL_call wd_180 wd_181 rfl rfl (by decide) (Nat.le_of_ble_eq_true rfl) ⟨by show (k + 20) + 2 ≤ 6142; omega, by show (j + 120) + 12 ≤ 36852; omega⟩ dL_holds_741 rfl rfl rfl rfl ?_
                                    refine x_iload 746 12 dL_holds_744 rfl rfl ?_
                                    rcases ite_inv hF with ⟨hc, hF⟩ | ⟨hc, hF⟩
                                    · refine x_icmp_ge 848 749 dL_holds_746 (by decide) rfl (fun _ => ?_) (fun q => absurd hc q)
                                      cases hF
                                    · refine x_icmp_ge 848 749 dL_holds_746 (by decide) rfl (fun q => absurd q hc) (fun _ => ?_)
                                      have e1 := Sum.inl.inj (Option.some.inj hF)
                                      subst e1
                                      exact hJ
                                · have hJ : qX l G RL "holds" cL_holds 17 (some .boolean) [] rmL_holds 6142 36852 r (k + 22) (j + 132) s145 none 848 [(0, .ref a0), (1, .int a1), (2, .int a2), (3, .int a3), (4, .int a4), (5, .int a5), (6, .int a6), (7, .int a7), (9, .int a9), (10, .int y10)] [] := by
                                    refine x_iconst 849 (0 : Int32) dL_holds_848 rfl (by decide) ?_
                                    obtain ⟨e1, e2⟩ := so2 hF
                                    subst e1
                                    subst e2
                                    refine x_wide (k + 32) (j + 192) (by omega) (by omega) ?_
                                    exact hJ
                                  have hF := h179
                                  rcases ite_inv hF with ⟨hc, hF⟩ | ⟨hc, hF⟩
                                  · refine x_icmp_eq 749 731 dL_holds_728 (by decide) rfl (fun _ => ?_) (fun q => absurd hc q)
                                    cases hF
                                  · refine x_icmp_eq 749 731 dL_holds_728 (by decide) rfl (fun q => absurd q hc) (fun _ => ?_)
                                    refine x_aload_n 732 0 dL_holds_731 rfl rfl ?_
                                    refine x_bipush 734 (6 : Int32) dL_holds_732 rfl (by decide) ?_
                                    refine x_iload 736 9 dL_holds_734 rfl rfl ?_
                                    refine x_iload 738 11 dL_holds_736 rfl rfl ?_
                                    refine x_iconst 739 (1 : Int32) dL_holds_738 rfl (by decide) ?_
                                    refine x_iadd 740 dL_holds_739 rfl ?_
                                    refine x_iconst 741 (0 : Int32) dL_holds_740 rfl (by decide) ?_
                                    obtain ⟨v177, s178, h176, hF⟩ := b2_inv hF
                                    refine x_callS (As := [.ref a0, .int (6 : Int32), .int y10, .int (v116 + (1 : Int32)), .int (0 : Int32)]) (rest := []) 744 (k + 22) (j + 132) (mL_call hst a0 (6 : Int32) y10 (v116 + (1 : Int32)) (0 : Int32) s143 none v177 s178 h176) qyL_call wd_180 wd_181 rfl rfl (by decide) (Nat.le_of_ble_eq_true rfl) ⟨by show (k + 20) + 2 ≤ 6142; omega, by show (j + 120) + 12 ≤ 36852; omega⟩ dL_holds_741 rfl rfl rfl rfl ?_
                                    refine x_iload 746 12 dL_holds_744 rfl rfl ?_
                                    rcases ite_inv hF with ⟨hc, hF⟩ | ⟨hc, hF⟩
                                    · refine x_icmp_ge 848 749 dL_holds_746 (by decide) rfl (fun _ => ?_) (fun q => absurd hc q)
                                      have e1 := Sum.inr.inj (Option.some.inj hF)
                                      subst e1
                                      refine x_sub [(0, .ref a0), (1, .int a1), (2, .int a2), (3, .int a3), (4, .int a4), (5, .int a5), (6, .int a6), (7, .int a7), (9, .int a9), (10, .int y10)] [0, 1, 2, 3, 4, 5, 6, 7, 8, 9] rfl ?_
                                      exact hJ
                                    · refine x_icmp_ge 848 749 dL_holds_746 (by decide) rfl (fun q => absurd q hc) (fun _ => ?_)
                                      cases hF
                              have hF := h180
                              rcases ite_inv hF with ⟨hc, hF⟩ | ⟨hc, hF⟩
                              · refine x_icmp_lt 723 709 dL_holds_706 (by decide) rfl (fun _ => ?_) (fun q => absurd hc q)
                                refine x_sub [(0, .ref a0), (1, .int a1), (2, .int a2), (3, .int a3), (4, .int a4), (5, .int a5), (6, .int a6), (7, .int a7), (9, .int a9), (10, .int y10), (11, .int v113), (12, .int v116), (13, .int v119), (16, .int v125)] [0, 1, 2, 3, 4, 5, 6, 7, 8, 9, 10, 11, 12, 15] rfl ?_
                                exact hJ
                              · refine x_icmp_lt 723 709 dL_holds_706 (by decide) rfl (fun q => absurd q hc) (fun _ => ?_)
                                refine x_iload 711 13 dL_holds_709 rfl rfl ?_
                                refine x_iload 713 11 dL_holds_711 rfl rfl ?_
                                rcases ite_inv hF with ⟨hc, hF⟩ | ⟨hc, hF⟩
                                · refine x_icmp_gt 723 716 dL_holds_713 (by decide) rfl (fun _ => ?_) (fun q => absurd hc q)
                                  refine x_sub [(0, .ref a0), (1, .int a1), (2, .int a2), (3, .int a3), (4, .int a4), (5, .int a5), (6, .int a6), (7, .int a7), (9, .int a9), (10, .int y10), (11, .int v113), (12, .int v116), (13, .int v119), (16, .int v125)] [0, 1, 2, 3, 4, 5, 6, 7, 8, 9, 10, 11, 12, 15] rfl ?_
                                  exact hJ
                                · refine x_icmp_gt 723 716 dL_holds_713 (by decide) rfl (fun q => absurd q hc) (fun _ => ?_)
                                  refine x_iload 718 14 dL_holds_716 rfl rfl ?_
                                  refine x_iload 720 12 dL_holds_718 rfl rfl ?_
                                  rcases ite_inv hF with ⟨hc, hF⟩ | ⟨hc, hF⟩
                                  · refine x_icmp_ne 848 723 dL_holds_720 (by decide) rfl (fun q => absurd hc q) (fun _ => ?_)
                                    refine x_sub [(0, .ref a0), (1, .int a1), (2, .int a2), (3, .int a3), (4, .int a4), (5, .int a5), (6, .int a6), (7, .int a7), (9, .int a9), (10, .int y10), (11, .int v113), (12, .int v116), (13, .int v119), (16, .int v125)] [0, 1, 2, 3, 4, 5, 6, 7, 8, 9, 10, 11, 12, 15] rfl ?_
                                    exact hJ
                                  · refine x_icmp_ne 848 723 dL_holds_720 (by decide) rfl (fun _ => ?_) (fun q => absurd q hc)
                                    cases hF
                            · have hJ : qX l G RL "holds" cL_holds 17 (some .boolean) [] rmL_holds 6142 36852 r (k + 20) (j + 120) s143 none 848 [(0, .ref a0), (1, .int a1), (2, .int a2), (3, .int a3), (4, .int a4), (5, .int a5), (6, .int a6), (7, .int a7), (9, .int a9), (10, .int y10)] [] := by
                                refine x_iconst 849 (0 : Int32) dL_holds_848 rfl (by decide) ?_
                                obtain ⟨e1, e2⟩ := so2 hF
                                subst e1
                                subst e2
                                refine x_wide (k + 32) (j + 192) (by omega) (by omega) ?_
                                exact hJ
                              have hF := h180
                              rcases ite_inv hF with ⟨hc, hF⟩ | ⟨hc, hF⟩
                              · refine x_icmp_lt 723 709 dL_holds_706 (by decide) rfl (fun _ => ?_) (fun q => absurd hc q)
                                cases hF
                              · refine x_icmp_lt 723 709 dL_holds_706 (by decide) rfl (fun q => absurd q hc) (fun _ => ?_)
                                refine x_iload 711 13 dL_holds_709 rfl rfl ?_
                                refine x_iload 713 11 dL_holds_711 rfl rfl ?_
                                rcases ite_inv hF with ⟨hc, hF⟩ | ⟨hc, hF⟩
                                · refine x_icmp_gt 723 716 dL_holds_713 (by decide) rfl (fun _ => ?_) (fun q => absurd hc q)
                                  cases hF
                                · refine x_icmp_gt 723 716 dL_holds_713 (by decide) rfl (fun q => absurd q hc) (fun _ => ?_)
                                  refine x_iload 718 14 dL_holds_716 rfl rfl ?_
                                  refine x_iload 720 12 dL_holds_718 rfl rfl ?_
                                  rcases ite_inv hF with ⟨hc, hF⟩ | ⟨hc, hF⟩
                                  · refine x_icmp_ne 848 723 dL_holds_720 (by decide) rfl (fun q => absurd hc q) (fun _ => ?_)
                                    cases hF
                                  · refine x_icmp_ne 848 723 dL_holds_720 (by decide) rfl (fun _ => ?_) (fun q => absurd q hc)
                                    refine x_sub [(0, .ref a0), (1, .int a1), (2, .int a2), (3, .int a3), (4, .int a4), (5, .int a5), (6, .int a6), (7, .int a7), (9, .int a9), (10, .int y10)] [0, 1, 2, 3, 4, 5, 6, 7, 8, 9] rfl ?_
                                    exact hJ
                          have hF := h181
                          rcases ite_inv hF with ⟨hc, hF⟩ | ⟨hc, hF⟩
                          · refine x_icmp_lt 702 688 dL_holds_685 (by decide) rfl (fun _ => ?_) (fun q => absurd hc q)
                            refine x_sub [(0, .ref a0), (1, .int a1), (2, .int a2), (3, .int a3), (4, .int a4), (5, .int a5), (6, .int a6), (7, .int a7), (9, .int a9), (10, .int y10), (11, .int v113), (12, .int v116), (13, .int v119), (14, .int ((1 : Int32) + (irm a1 (999 : Int32)))), (15, .int v122), (16, .int v125)] [6, 7, 8, 9, 10, 11, 12, 13, 15, 16, 5, 4, 3, 2, 1, 0] rfl ?_
                            exact hJ
                          · refine x_icmp_lt 702 688 dL_holds_685 (by decide) rfl (fun q => absurd q hc) (fun _ => ?_)
                            refine x_iload 690 1 dL_holds_688 rfl rfl ?_
                            refine x_iload 692 3 dL_holds_690 rfl rfl ?_
                            rcases ite_inv hF with ⟨hc, hF⟩ | ⟨hc, hF⟩
                            · refine x_icmp_ne 848 695 dL_holds_692 (by decide) rfl (fun q => absurd hc q) (fun _ => ?_)
                              refine x_iload 697 2 dL_holds_695 rfl rfl ?_
                              refine x_iload 699 5 dL_holds_697 rfl rfl ?_
                              rcases ite_inv hF with ⟨hc, hF⟩ | ⟨hc, hF⟩
                              · refine x_icmp_lt 848 702 dL_holds_699 (by decide) rfl (fun _ => ?_) (fun q => absurd hc q)
                                cases hF
                              · refine x_icmp_lt 848 702 dL_holds_699 (by decide) rfl (fun q => absurd q hc) (fun _ => ?_)
                                refine x_sub [(0, .ref a0), (1, .int a1), (2, .int a2), (3, .int a3), (4, .int a4), (5, .int a5), (6, .int a6), (7, .int a7), (9, .int a9), (10, .int y10), (11, .int v113), (12, .int v116), (13, .int v119), (14, .int ((1 : Int32) + (irm a1 (999 : Int32)))), (15, .int v122), (16, .int v125)] [6, 7, 8, 9, 10, 11, 12, 13, 15, 16, 5, 4, 3, 2, 1, 0] rfl ?_
                                exact hJ
                            · refine x_icmp_ne 848 695 dL_holds_692 (by decide) rfl (fun _ => ?_) (fun q => absurd q hc)
                              cases hF
                        · have hJ : qX l G RL "holds" cL_holds 17 (some .boolean) [] rmL_holds 6142 36852 r (k + 20) (j + 120) s143 none 848 [(0, .ref a0), (1, .int a1), (2, .int a2), (3, .int a3), (4, .int a4), (5, .int a5), (6, .int a6), (7, .int a7), (9, .int a9), (10, .int y10)] [] := by
                            refine x_iconst 849 (0 : Int32) dL_holds_848 rfl (by decide) ?_
                            obtain ⟨e1, e2⟩ := so2 hF
                            subst e1
                            subst e2
                            refine x_wide (k + 32) (j + 192) (by omega) (by omega) ?_
                            exact hJ
                          have hF := h181
                          rcases ite_inv hF with ⟨hc, hF⟩ | ⟨hc, hF⟩
                          · refine x_icmp_lt 702 688 dL_holds_685 (by decide) rfl (fun _ => ?_) (fun q => absurd hc q)
                            cases hF
                          · refine x_icmp_lt 702 688 dL_holds_685 (by decide) rfl (fun q => absurd q hc) (fun _ => ?_)
                            refine x_iload 690 1 dL_holds_688 rfl rfl ?_
                            refine x_iload 692 3 dL_holds_690 rfl rfl ?_
                            rcases ite_inv hF with ⟨hc, hF⟩ | ⟨hc, hF⟩
                            · refine x_icmp_ne 848 695 dL_holds_692 (by decide) rfl (fun q => absurd hc q) (fun _ => ?_)
                              refine x_iload 697 2 dL_holds_695 rfl rfl ?_
                              refine x_iload 699 5 dL_holds_697 rfl rfl ?_
                              rcases ite_inv hF with ⟨hc, hF⟩ | ⟨hc, hF⟩
                              · refine x_icmp_lt 848 702 dL_holds_699 (by decide) rfl (fun _ => ?_) (fun q => absurd hc q)
                                refine x_sub [(0, .ref a0), (1, .int a1), (2, .int a2), (3, .int a3), (4, .int a4), (5, .int a5), (6, .int a6), (7, .int a7), (9, .int a9), (10, .int y10)] [6, 7, 8, 9, 10, 11, 12, 13, 15, 16] rfl ?_
                                exact hJ
                              · refine x_icmp_lt 848 702 dL_holds_699 (by decide) rfl (fun q => absurd q hc) (fun _ => ?_)
                                cases hF
                            · refine x_icmp_ne 848 695 dL_holds_692 (by decide) rfl (fun _ => ?_) (fun q => absurd q hc)
                              refine x_sub [(0, .ref a0), (1, .int a1), (2, .int a2), (3, .int a3), (4, .int a4), (5, .int a5), (6, .int a6), (7, .int a7), (9, .int a9), (10, .int y10)] [6, 7, 8, 9, 10, 11, 12, 13, 15, 16] rfl ?_
                              exact hJ
                      · refine x_icmp_ne 848 681 dL_holds_678 (by decide) rfl (fun _ => ?_) (fun q => absurd q hc)
                        refine x_iconst 849 (0 : Int32) dL_holds_848 rfl (by decide) ?_
                        obtain ⟨e1, e2⟩ := so2 hF
                        subst e1
                        subst e2
                        refine x_wide (k + 32) (j + 192) (by omega) (by omega) ?_
                        refine x_sub [(0, .ref a0), (1, .int a1), (2, .int a2), (3, .int a3), (4, .int a4), (5, .int a5), (6, .int a6), (7, .int a7), (9, .int a9), (10, .int y10)] [6, 7, 8, 9, 10, 11, 12, 13, 15, 16] rfl ?_
                        exact hJ
                    · refine x_icmp_ne 848 665 dL_holds_662 (by decide) rfl (fun _ => ?_) (fun q => absurd q hc)
                      refine x_iconst 849 (0 : Int32) dL_holds_848 rfl (by decide) ?_
                      obtain ⟨e1, e2⟩ := so2 hF
                      subst e1
                      subst e2
                      refine x_wide (k + 32) (j + 192) (by omega) (by omega) ?_
                      refine x_sub [(0, .ref a0), (1, .int a1), (2, .int a2), (3, .int a3), (4, .int a4), (5, .int a5), (6, .int a6), (7, .int a7), (9, .int a9), (10, .int y10)] [6, 7, 8, 9, 10, 11, 12, 13, 15, 16] rfl ?_
                      exact hJ
            · refine x_icmp_ne 848 628 dL_holds_625 (by decide) rfl (fun _ => ?_) (fun q => absurd q hc)
              refine x_iconst 849 (0 : Int32) dL_holds_848 rfl (by decide) ?_
              obtain ⟨e1, e2⟩ := so2 hF
              subst e1
              subst e2
              refine x_wide (k + 32) (j + 192) (by omega) (by omega) ?_
              refine x_sub [(0, .ref a0), (1, .int a1), (2, .int a2), (3, .int a3), (4, .int a4), (5, .int a5), (6, .int a6), (7, .int a7), (9, .int a9), (10, .int y10)] [6, 7, 8, 9, 10, 11, 12, 13, 15, 16] rfl ?_
              exact hJ
          · refine x_icmp_ne 848 613 dL_holds_610 (by decide) rfl (fun _ => ?_) (fun q => absurd q hc)
            refine x_iconst 849 (0 : Int32) dL_holds_848 rfl (by decide) ?_
            obtain ⟨e1, e2⟩ := so2 hF
            subst e1
            subst e2
            refine x_wide (k + 32) (j + 192) (by omega) (by omega) ?_
            refine x_sub [(0, .ref a0), (1, .int a1), (2, .int a2), (3, .int a3), (4, .int a4), (5, .int a5), (6, .int a6), (7, .int a7), (9, .int a9), (10, .int y10)] [6, 7, 8, 9, 10, 11, 12, 13, 15, 16] rfl ?_
            exact hJ
        · refine x_icmp_ne 848 598 dL_holds_595 (by decide) rfl (fun _ => ?_) (fun q => absurd q hc)
          refine x_iconst 849 (0 : Int32) dL_holds_848 rfl (by decide) ?_
          obtain ⟨e1, e2⟩ := so2 hF
          subst e1
          subst e2
          refine x_wide (k + 32) (j + 192) (by omega) (by omega) ?_
          refine x_sub [(0, .ref a0), (1, .int a1), (2, .int a2), (3, .int a3), (4, .int a4), (5, .int a5), (6, .int a6), (7, .int a7), (9, .int a9), (10, .int y10)] [6, 7, 8, 9, 10, 11, 12, 13, 15, 16] rfl ?_
          exact hJ
set_option maxHeartbeats 4000000 in
set_option maxRecDepth 100000 in
theorem mL_holds {l : Launch} {G : qG} (hst : l.stackTraces = false) (p0 : Nat) (p1 : Int32) (σ : qH) (n : Option Nat) (ro : Int32) (so : qH) (hF : FL_holds (G.2.2.2.1) p0 p1 σ = some (ro, so)) : qM l G yL_holds cL_holds 17 (some .boolean) rmL_holds [.ref p0, .int p1] σ n (.inl (some (.int ro), so, none)) := by
  refine q_body (own := RL) (nm := "holds") (ls := [(0, .ref p0), (1, .int p1)]) hst (by decide +kernel) rfl rfl (Nat.le_of_ble_eq_true rfl) rfl rfl rfl ?_
  unfold FL_holds at hF
  refine x_anyn ?_
  refine x_aload_n 1 0 dL_holds_0 rfl rfl ?_
  refine x_iconst 2 (2 : Int32) dL_holds_1 rfl (by decide) ?_
  refine x_iconst 3 (0 : Int32) dL_holds_2 rfl (by decide) ?_
  refine x_iconst 4 (0 : Int32) dL_holds_3 rfl (by decide) ?_
  refine x_iconst 5 (0 : Int32) dL_holds_4 rfl (by decide) ?_
  obtain ⟨v2, s3, h1, hF⟩ := b2_inv hF
  refine x_callS (As := [.ref p0, .int (2 : Int32), .int (0 : Int32), .int (0 : Int32), .int (0 : Int32)]) (rest := []) 8 2 12 (mL_call hst p0 (2 : Int32) (0 : Int32) (0 : Int32) (0 : Int32) σ none v2 s3 h1) qyL_call wd_180 wd_181 rfl rfl (by decide) (Nat.le_of_ble_eq_true rfl) ⟨Nat.le_of_ble_eq_true rfl, Nat.le_of_ble_eq_true rfl⟩ dL_holds_5 rfl rfl rfl rfl ?_
  refine x_istore_n 9 2 [(2, .int v2), (0, .ref p0), (1, .int p1)] dL_holds_8 rfl rfl (by decide) rfl ?_
  refine x_iconst 10 (0 : Int32) dL_holds_9 rfl (by decide) ?_
  refine x_istore_n 11 3 [(3, .int (0 : Int32)), (2, .int v2), (0, .ref p0), (1, .int p1)] dL_holds_10 rfl rfl (by decide) rfl ?_
  refine x_iconst 12 (0 : Int32) dL_holds_11 rfl (by decide) ?_
  refine x_istore 14 4 [(4, .int (0 : Int32)), (3, .int (0 : Int32)), (2, .int v2), (0, .ref p0), (1, .int p1)] dL_holds_12 rfl (by decide) rfl ?_
  refine x_iconst 15 (0 : Int32) dL_holds_14 rfl (by decide) ?_
  refine x_istore 17 5 [(5, .int (0 : Int32)), (4, .int (0 : Int32)), (3, .int (0 : Int32)), (2, .int v2), (0, .ref p0), (1, .int p1)] dL_holds_15 rfl (by decide) rfl ?_
  refine x_iconst 18 (0 : Int32) dL_holds_17 rfl (by decide) ?_
  refine x_istore 20 6 [(6, .int (0 : Int32)), (5, .int (0 : Int32)), (4, .int (0 : Int32)), (3, .int (0 : Int32)), (2, .int v2), (0, .ref p0), (1, .int p1)] dL_holds_18 rfl (by decide) rfl ?_
  refine x_iconst 21 (0 : Int32) dL_holds_20 rfl (by decide) ?_
  refine x_istore 23 7 [(7, .int (0 : Int32)), (6, .int (0 : Int32)), (5, .int (0 : Int32)), (4, .int (0 : Int32)), (3, .int (0 : Int32)), (2, .int v2), (0, .ref p0), (1, .int p1)] dL_holds_21 rfl (by decide) rfl ?_
  refine x_iload_n 24 5 dL_holds_23 rfl rfl ?_
  refine x_bipush 26 (16 : Int32) dL_holds_24 rfl (by decide) ?_
  obtain ⟨x4, s5, h224, hF⟩ := b2_inv hF
  have hJ : qX l G RL "holds" cL_holds 17 (some .boolean) [] rmL_holds 6142 36852 (.inl (some (.int ro), so, none)) 4 24 s5 none 46 [(0, .ref p0), (1, .int p1), (2, .int v2), (3, .int (0 : Int32)), (4, .int (0 : Int32)), (5, .int (0 : Int32)), (6, .int (0 : Int32)), (7, .int (0 : Int32))] [.int x4] := by
    refine x_istore 48 8 [(8, .int x4), (0, .ref p0), (1, .int p1), (2, .int v2), (3, .int (0 : Int32)), (4, .int (0 : Int32)), (5, .int (0 : Int32)), (6, .int (0 : Int32)), (7, .int (0 : Int32))] dL_holds_46 rfl (by decide) rfl ?_
    refine x_iconst 49 (0 : Int32) dL_holds_48 rfl (by decide) ?_
    refine x_istore 51 9 [(9, .int (0 : Int32)), (8, .int x4), (0, .ref p0), (1, .int p1), (2, .int v2), (3, .int (0 : Int32)), (4, .int (0 : Int32)), (5, .int (0 : Int32)), (6, .int (0 : Int32)), (7, .int (0 : Int32))] dL_holds_49 rfl (by decide) rfl ?_
    obtain ⟨x78, x79, s80, h223, hF⟩ := b3_inv hF
    have hJ : qX l G RL "holds" cL_holds 17 (some .boolean) [] rmL_holds 6142 36852 (.inl (some (.int ro), so, none)) 5204 31224 s80 none 372 [(0, .ref p0), (1, .int p1), (2, .int v2), (3, .int x78), (4, .int (0 : Int32)), (5, .int (0 : Int32)), (6, .int (0 : Int32)), (7, .int (0 : Int32)), (8, .int x79)] [] := by
      refine x_iconst 373 (0 : Int32) dL_holds_372 rfl (by decide) ?_
      refine x_istore 375 9 [(9, .int (0 : Int32)), (0, .ref p0), (1, .int p1), (2, .int v2), (3, .int x78), (4, .int (0 : Int32)), (5, .int (0 : Int32)), (6, .int (0 : Int32)), (7, .int (0 : Int32)), (8, .int x79)] dL_holds_373 rfl (by decide) rfl ?_
      refine x_iconst 376 (0 : Int32) dL_holds_375 rfl (by decide) ?_
      refine x_istore 378 10 [(10, .int (0 : Int32)), (9, .int (0 : Int32)), (0, .ref p0), (1, .int p1), (2, .int v2), (3, .int x78), (4, .int (0 : Int32)), (5, .int (0 : Int32)), (6, .int (0 : Int32)), (7, .int (0 : Int32)), (8, .int x79)] dL_holds_376 rfl (by decide) rfl ?_
      obtain ⟨x105, x106, x107, x108, x109, x110, s111, h222, hF⟩ := b7_inv hF
      have hJ : qX l G RL "holds" cL_holds 17 (some .boolean) [] rmL_holds 6142 36852 (.inl (some (.int ro), so, none)) 5484 32904 s111 none 499 [(0, .ref p0), (1, .int p1), (2, .int v2), (3, .int x78), (4, .int x105), (5, .int x106), (6, .int x107), (7, .int x108), (8, .int x109), (9, .int x110)] [] := by
        refine x_iconst 500 (0 : Int32) dL_holds_499 rfl (by decide) ?_
        refine x_istore 502 10 [(10, .int (0 : Int32)), (0, .ref p0), (1, .int p1), (2, .int v2), (3, .int x78), (4, .int x105), (5, .int x106), (6, .int x107), (7, .int x108), (8, .int x109), (9, .int x110)] dL_holds_500 rfl (by decide) rfl ?_
        obtain ⟨x183, s184, h221, hF⟩ := b2_inv hF
        have hJ : qX l G RL "holds" cL_holds 17 (some .boolean) [] rmL_holds 6142 36852 (.inl (some (.int ro), so, none)) 6124 36744 s184 none 857 [(0, .ref p0), (2, .int v2), (3, .int x78), (4, .int x105), (5, .int x106), (6, .int x107), (7, .int x108), (8, .int x183), (9, .int x110)] [] := by
          refine x_iload 859 7 dL_holds_857 rfl rfl ?_
          obtain ⟨x185, s186, h220, hF⟩ := b2_inv hF
          have hJ : qX l G RL "holds" cL_holds 17 (some .boolean) [] rmL_holds 6142 36852 (.inl (some (.int ro), so, none)) 6142 36852 s186 none 1013 [] [.int x185] := by
            obtain ⟨hz, hF⟩ := ite_none hF
            cases hF
            exact x_zret rfl (by rcases hz with h | h <;> rw [h] <;> rfl) rfl (Nat.le_of_ble_eq_true rfl) (Nat.le_of_ble_eq_true rfl) dL_holds_1013
          have hF := h220
          rcases ite_inv hF with ⟨hc, hF⟩ | ⟨hc, hF⟩
          · refine x_if_eq 1012 862 dL_holds_859 (by decide) rfl (fun _ => ?_) (fun q => absurd hc q)
            refine x_iconst 1013 (0 : Int32) dL_holds_1012 rfl (by decide) ?_
            obtain ⟨e1, e2⟩ := so2 hF
            subst e1
            subst e2
            refine x_wide 6142 36852 (Nat.le_of_ble_eq_true rfl) (Nat.le_of_ble_eq_true rfl) ?_
            refine x_sub [] [] rfl ?_
            exact hJ
          · refine x_if_eq 1012 862 dL_holds_859 (by decide) rfl (fun q => absurd q hc) (fun _ => ?_)
            refine x_iload_n 863 2 dL_holds_862 rfl rfl ?_
            refine x_iconst 864 (2 : Int32) dL_holds_863 rfl (by decide) ?_
            refine x_aload_n 865 0 dL_holds_864 rfl rfl ?_
            refine x_iconst 866 (2 : Int32) dL_holds_865 rfl (by decide) ?_
            refine x_iconst 867 (4 : Int32) dL_holds_866 rfl (by decide) ?_
            refine x_iconst 868 (0 : Int32) dL_holds_867 rfl (by decide) ?_
            refine x_iconst 869 (0 : Int32) dL_holds_868 rfl (by decide) ?_
            obtain ⟨v188, s189, h187, hF⟩ := b2_inv hF
            refine x_callS (As := [.ref p0, .int (2 : Int32), .int (4 : Int32), .int (0 : Int32), .int (0 : Int32)]) (rest := [.int (2 : Int32), .int x78]) 872 6126 36756 (mL_call hst p0 (2 : Int32) (4 : Int32) (0 : Int32) (0 : Int32) s184 none v188 s189 h187) qyL_call wd_180 wd_181 rfl rfl (by decide) (Nat.le_of_ble_eq_true rfl) ⟨Nat.le_of_ble_eq_true rfl, Nat.le_of_ble_eq_true rfl⟩ dL_holds_869 rfl rfl rfl rfl ?_
            refine x_imul 873 dL_holds_872 rfl ?_
            rcases ite_inv hF with ⟨hc, hF⟩ | ⟨hc, hF⟩
            · refine x_icmp_ne 1012 876 dL_holds_873 (by decide) rfl (fun q => absurd hc q) (fun _ => ?_)
              refine x_iload 878 8 dL_holds_876 rfl rfl ?_
              refine x_iload_n 879 2 dL_holds_878 rfl rfl ?_
              rcases ite_inv hF with ⟨hc, hF⟩ | ⟨hc, hF⟩
              · refine x_icmp_ne 1012 882 dL_holds_879 (by decide) rfl (fun q => absurd hc q) (fun _ => ?_)
                refine x_aload_n 883 0 dL_holds_882 rfl rfl ?_
                refine x_iconst 884 (2 : Int32) dL_holds_883 rfl (by decide) ?_
                refine x_iconst 885 (5 : Int32) dL_holds_884 rfl (by decide) ?_
                refine x_iconst 886 (0 : Int32) dL_holds_885 rfl (by decide) ?_
                refine x_iconst 887 (0 : Int32) dL_holds_886 rfl (by decide) ?_
                obtain ⟨v191, s192, h190, hF⟩ := b2_inv hF
                refine x_callS (As := [.ref p0, .int (2 : Int32), .int (5 : Int32), .int (0 : Int32), .int (0 : Int32)]) (rest := []) 890 6128 36768 (mL_call hst p0 (2 : Int32) (5 : Int32) (0 : Int32) (0 : Int32) s189 none v191 s192 h190) qyL_call wd_180 wd_181 rfl rfl (by decide) (Nat.le_of_ble_eq_true rfl) ⟨Nat.le_of_ble_eq_true rfl, Nat.le_of_ble_eq_true rfl⟩ dL_holds_887 rfl rfl rfl rfl ?_
                refine x_aload_n 891 0 dL_holds_890 rfl rfl ?_
                refine x_iconst 892 (2 : Int32) dL_holds_891 rfl (by decide) ?_
                refine x_iconst 893 (4 : Int32) dL_holds_892 rfl (by decide) ?_
                refine x_iconst 894 (0 : Int32) dL_holds_893 rfl (by decide) ?_
                refine x_iconst 895 (0 : Int32) dL_holds_894 rfl (by decide) ?_
                obtain ⟨v194, s195, h193, hF⟩ := b2_inv hF
                refine x_callS (As := [.ref p0, .int (2 : Int32), .int (4 : Int32), .int (0 : Int32), .int (0 : Int32)]) (rest := [.int v191]) 898 6130 36780 (mL_call hst p0 (2 : Int32) (4 : Int32) (0 : Int32) (0 : Int32) s192 none v194 s195 h193) qyL_call wd_180 wd_181 rfl rfl (by decide) (Nat.le_of_ble_eq_true rfl) ⟨Nat.le_of_ble_eq_true rfl, Nat.le_of_ble_eq_true rfl⟩ dL_holds_895 rfl rfl rfl rfl ?_
                rcases ite_inv hF with ⟨hc, hF⟩ | ⟨hc, hF⟩
                · refine x_icmp_gt 1012 901 dL_holds_898 (by decide) rfl (fun _ => ?_) (fun q => absurd hc q)
                  refine x_iconst 1013 (0 : Int32) dL_holds_1012 rfl (by decide) ?_
                  obtain ⟨e1, e2⟩ := so2 hF
                  subst e1
                  subst e2
                  refine x_wide 6142 36852 (Nat.le_of_ble_eq_true rfl) (Nat.le_of_ble_eq_true rfl) ?_
                  refine x_sub [] [] rfl ?_
                  exact hJ
                · refine x_icmp_gt 1012 901 dL_holds_898 (by decide) rfl (fun q => absurd q hc) (fun _ => ?_)
                  refine x_iload 903 5 dL_holds_901 rfl rfl ?_
                  refine x_aload_n 904 0 dL_holds_903 rfl rfl ?_
                  refine x_iconst 905 (2 : Int32) dL_holds_904 rfl (by decide) ?_
                  refine x_bipush 907 (6 : Int32) dL_holds_905 rfl (by decide) ?_
                  refine x_iconst 908 (0 : Int32) dL_holds_907 rfl (by decide) ?_
                  refine x_iconst 909 (0 : Int32) dL_holds_908 rfl (by decide) ?_
                  obtain ⟨v197, s198, h196, hF⟩ := b2_inv hF
                  refine x_callS (As := [.ref p0, .int (2 : Int32), .int (6 : Int32), .int (0 : Int32), .int (0 : Int32)]) (rest := [.int x107]) 912 6132 36792 (mL_call hst p0 (2 : Int32) (6 : Int32) (0 : Int32) (0 : Int32) s195 none v197 s198 h196) qyL_call wd_180 wd_181 rfl rfl (by decide) (Nat.le_of_ble_eq_true rfl) ⟨Nat.le_of_ble_eq_true rfl, Nat.le_of_ble_eq_true rfl⟩ dL_holds_909 rfl rfl rfl rfl ?_
                  rcases ite_inv hF with ⟨hc, hF⟩ | ⟨hc, hF⟩
                  · refine x_icmp_ne 1012 915 dL_holds_912 (by decide) rfl (fun q => absurd hc q) (fun _ => ?_)
                    refine x_iload 917 3 dL_holds_915 rfl rfl ?_
                    refine x_aload_n 918 0 dL_holds_917 rfl rfl ?_
                    refine x_iconst 919 (2 : Int32) dL_holds_918 rfl (by decide) ?_
                    refine x_bipush 921 (8 : Int32) dL_holds_919 rfl (by decide) ?_
                    refine x_iconst 922 (0 : Int32) dL_holds_921 rfl (by decide) ?_
                    refine x_iconst 923 (0 : Int32) dL_holds_922 rfl (by decide) ?_
                    obtain ⟨v200, s201, h199, hF⟩ := b2_inv hF
                    refine x_callS (As := [.ref p0, .int (2 : Int32), .int (8 : Int32), .int (0 : Int32), .int (0 : Int32)]) (rest := [.int x105]) 926 6134 36804 (mL_call hst p0 (2 : Int32) (8 : Int32) (0 : Int32) (0 : Int32) s198 none v200 s201 h199) qyL_call wd_180 wd_181 rfl rfl (by decide) (Nat.le_of_ble_eq_true rfl) ⟨Nat.le_of_ble_eq_true rfl, Nat.le_of_ble_eq_true rfl⟩ dL_holds_923 rfl rfl rfl rfl ?_
                    rcases ite_inv hF with ⟨hc, hF⟩ | ⟨hc, hF⟩
                    · refine x_icmp_ne 1012 929 dL_holds_926 (by decide) rfl (fun q => absurd hc q) (fun _ => ?_)
                      refine x_iload 931 4 dL_holds_929 rfl rfl ?_
                      refine x_aload_n 932 0 dL_holds_931 rfl rfl ?_
                      refine x_iconst 933 (2 : Int32) dL_holds_932 rfl (by decide) ?_
                      refine x_bipush 935 (9 : Int32) dL_holds_933 rfl (by decide) ?_
                      refine x_iconst 936 (0 : Int32) dL_holds_935 rfl (by decide) ?_
                      refine x_iconst 937 (0 : Int32) dL_holds_936 rfl (by decide) ?_
                      obtain ⟨v203, s204, h202, hF⟩ := b2_inv hF
                      refine x_callS (As := [.ref p0, .int (2 : Int32), .int (9 : Int32), .int (0 : Int32), .int (0 : Int32)]) (rest := [.int x106]) 940 6136 36816 (mL_call hst p0 (2 : Int32) (9 : Int32) (0 : Int32) (0 : Int32) s201 none v203 s204 h202) qyL_call wd_180 wd_181 rfl rfl (by decide) (Nat.le_of_ble_eq_true rfl) ⟨Nat.le_of_ble_eq_true rfl, Nat.le_of_ble_eq_true rfl⟩ dL_holds_937 rfl rfl rfl rfl ?_
                      rcases ite_inv hF with ⟨hc, hF⟩ | ⟨hc, hF⟩
                      · refine x_icmp_ne 1012 943 dL_holds_940 (by decide) rfl (fun q => absurd hc q) (fun _ => ?_)
                        refine x_iload 945 6 dL_holds_943 rfl rfl ?_
                        refine x_iload_n 946 1 dL_holds_945 rfl rfl ?_
                        rcases ite_inv hF with ⟨hc, hF⟩ | ⟨hc, hF⟩
                        · refine x_icmp_ne 1012 949 dL_holds_946 (by decide) rfl (fun q => absurd hc q) (fun _ => ?_)
                          refine x_aload_n 950 0 dL_holds_949 rfl rfl ?_
                          refine x_iconst 951 (5 : Int32) dL_holds_950 rfl (by decide) ?_
                          refine x_iconst 952 (0 : Int32) dL_holds_951 rfl (by decide) ?_
                          refine x_iconst 953 (0 : Int32) dL_holds_952 rfl (by decide) ?_
                          refine x_iconst 954 (0 : Int32) dL_holds_953 rfl (by decide) ?_
                          obtain ⟨v206, s207, h205, hF⟩ := b2_inv hF
                          refine x_callS (As := [.ref p0, .int (5 : Int32), .int (0 : Int32), .int (0 : Int32), .int (0 : Int32)]) (rest := []) 957 6138 36828 (mL_call hst p0 (5 : Int32) (0 : Int32) (0 : Int32) (0 : Int32) s204 none v206 s207 h205) qyL_call wd_180 wd_181 rfl rfl (by decide) (Nat.le_of_ble_eq_true rfl) ⟨Nat.le_of_ble_eq_true rfl, Nat.le_of_ble_eq_true rfl⟩ dL_holds_954 rfl rfl rfl rfl ?_
                          refine x_aload_n 958 0 dL_holds_957 rfl rfl ?_
                          refine x_iconst 959 (5 : Int32) dL_holds_958 rfl (by decide) ?_
                          refine x_iconst 960 (1 : Int32) dL_holds_959 rfl (by decide) ?_
                          refine x_iconst 961 (0 : Int32) dL_holds_960 rfl (by decide) ?_
                          refine x_iconst 962 (0 : Int32) dL_holds_961 rfl (by decide) ?_
                          obtain ⟨v209, s210, h208, hF⟩ := b2_inv hF
                          refine x_callS (As := [.ref p0, .int (5 : Int32), .int (1 : Int32), .int (0 : Int32), .int (0 : Int32)]) (rest := [.int v206]) 965 6140 36840 (mL_call hst p0 (5 : Int32) (1 : Int32) (0 : Int32) (0 : Int32) s207 none v209 s210 h208) qyL_call wd_180 wd_181 rfl rfl (by decide) (Nat.le_of_ble_eq_true rfl) ⟨Nat.le_of_ble_eq_true rfl, Nat.le_of_ble_eq_true rfl⟩ dL_holds_962 rfl rfl rfl rfl ?_
                          refine x_iadd 966 dL_holds_965 rfl ?_
                          refine x_aload_n 967 0 dL_holds_966 rfl rfl ?_
                          refine x_iconst 968 (5 : Int32) dL_holds_967 rfl (by decide) ?_
                          refine x_iconst 969 (2 : Int32) dL_holds_968 rfl (by decide) ?_
                          refine x_iconst 970 (0 : Int32) dL_holds_969 rfl (by decide) ?_
                          refine x_iconst 971 (0 : Int32) dL_holds_970 rfl (by decide) ?_
                          obtain ⟨v212, s213, h211, hF⟩ := b2_inv hF
                          refine x_callS (As := [.ref p0, .int (5 : Int32), .int (2 : Int32), .int (0 : Int32), .int (0 : Int32)]) (rest := [.int (v206 + v209)]) 974 6142 36852 (mL_call hst p0 (5 : Int32) (2 : Int32) (0 : Int32) (0 : Int32) s210 none v212 s213 h211) qyL_call wd_180 wd_181 rfl rfl (by decide) (Nat.le_of_ble_eq_true rfl) ⟨Nat.le_of_ble_eq_true rfl, Nat.le_of_ble_eq_true rfl⟩ dL_holds_971 rfl rfl rfl rfl ?_
                          refine x_iadd 975 dL_holds_974 rfl ?_
                          refine x_iload_n 976 1 dL_holds_975 rfl rfl ?_
                          rcases ite_inv hF with ⟨hc, hF⟩ | ⟨hc, hF⟩
                          · refine x_icmp_ne 1012 979 dL_holds_976 (by decide) rfl (fun q => absurd hc q) (fun _ => ?_)
                            refine x_aload_n 980 0 dL_holds_979 rfl rfl ?_
                            obtain ⟨v215, h214, hF⟩ := b1_inv hF
                            obtain ⟨fs, hb⟩ : ∃ fs : List Value, True ∧ s213 p0 = some (.inr (4, fs)) := kX6_truest h214
                            refine x_callV (As := []) (rest := []) 983 6142 36852 (mX6_truest hst p0 s213 none v215 h214) qyX6_truest wd_896 wd_897 wd_898 hb.2 rfl rfl rfl (by decide) (Nat.le_of_ble_eq_true rfl) ⟨Nat.le_of_ble_eq_true rfl, Nat.le_of_ble_eq_true rfl⟩ dL_holds_980 rfl rfl rfl rfl ?_
                            refine x_iconst 984 (-1 : Int32) dL_holds_983 rfl (by decide) ?_
                            obtain ⟨x216, h219, hF⟩ := b1_inv hF
                            have hJ : qX l G RL "holds" cL_holds 17 (some .boolean) [] rmL_holds 6142 36852 (.inl (some (.int ro), so, none)) 6142 36852 s213 none 992 [(4, .int x105), (5, .int x106)] [.int x216] := by
                              refine x_iload 994 0 dL_holds_992 rfl rfl ?_
                              refine x_iload 996 1 dL_holds_994 rfl rfl ?_
                              refine x_iadd 997 dL_holds_996 rfl ?_
                              obtain ⟨x217, h218, hF⟩ := b1_inv hF
                              have hJ : qX l G RL "holds" cL_holds 17 (some .boolean) [] rmL_holds 6142 36852 (.inl (some (.int ro), so, none)) 6142 36852 s213 none 1005 [] [.int x217, .int x216] := by
                                rcases ite_inv hF with ⟨hc, hF⟩ | ⟨hc, hF⟩
                                · refine x_icmp_ne 1012 1008 dL_holds_1005 (by decide) rfl (fun q => absurd hc q) (fun _ => ?_)
                                  refine x_iconst 1009 (1 : Int32) dL_holds_1008 rfl (by decide) ?_
                                  refine x_goto 1013 dL_holds_1009 (by decide) ?_
                                  obtain ⟨e1, e2⟩ := so2 hF
                                  subst e1
                                  subst e2
                                  exact hJ
                                · refine x_icmp_ne 1012 1008 dL_holds_1005 (by decide) rfl (fun _ => ?_) (fun q => absurd q hc)
                                  refine x_iconst 1013 (0 : Int32) dL_holds_1012 rfl (by decide) ?_
                                  obtain ⟨e1, e2⟩ := so2 hF
                                  subst e1
                                  subst e2
                                  exact hJ
                              have hF := h218
                              rcases ite_inv hF with ⟨hc, hF⟩ | ⟨hc, hF⟩
                              · refine x_if_ne 1004 1000 dL_holds_997 (by decide) rfl (fun q => absurd hc q) (fun _ => ?_)
                                refine x_iconst 1001 (1 : Int32) dL_holds_1000 rfl (by decide) ?_
                                refine x_goto 1005 dL_holds_1001 (by decide) ?_
                                have e1 := Option.some.inj hF
                                subst e1
                                refine x_sub [] [] rfl ?_
                                exact hJ
                              · refine x_if_ne 1004 1000 dL_holds_997 (by decide) rfl (fun _ => ?_) (fun q => absurd q hc)
                                refine x_iconst 1005 (0 : Int32) dL_holds_1004 rfl (by decide) ?_
                                have e1 := Option.some.inj hF
                                subst e1
                                refine x_sub [] [] rfl ?_
                                exact hJ
                            have hF := h219
                            rcases ite_inv hF with ⟨hc, hF⟩ | ⟨hc, hF⟩
                            · refine x_icmp_ne 991 987 dL_holds_984 (by decide) rfl (fun q => absurd hc q) (fun _ => ?_)
                              refine x_iconst 988 (1 : Int32) dL_holds_987 rfl (by decide) ?_
                              refine x_goto 992 dL_holds_988 (by decide) ?_
                              have e1 := Option.some.inj hF
                              subst e1
                              refine x_sub [(4, .int x105), (5, .int x106)] [3, 4] rfl ?_
                              exact hJ
                            · refine x_icmp_ne 991 987 dL_holds_984 (by decide) rfl (fun _ => ?_) (fun q => absurd q hc)
                              refine x_iconst 992 (0 : Int32) dL_holds_991 rfl (by decide) ?_
                              have e1 := Option.some.inj hF
                              subst e1
                              refine x_sub [(4, .int x105), (5, .int x106)] [3, 4] rfl ?_
                              exact hJ
                          · refine x_icmp_ne 1012 979 dL_holds_976 (by decide) rfl (fun _ => ?_) (fun q => absurd q hc)
                            refine x_iconst 1013 (0 : Int32) dL_holds_1012 rfl (by decide) ?_
                            obtain ⟨e1, e2⟩ := so2 hF
                            subst e1
                            subst e2
                            refine x_sub [] [] rfl ?_
                            exact hJ
                        · refine x_icmp_ne 1012 949 dL_holds_946 (by decide) rfl (fun _ => ?_) (fun q => absurd q hc)
                          refine x_iconst 1013 (0 : Int32) dL_holds_1012 rfl (by decide) ?_
                          obtain ⟨e1, e2⟩ := so2 hF
                          subst e1
                          subst e2
                          refine x_wide 6142 36852 (Nat.le_of_ble_eq_true rfl) (Nat.le_of_ble_eq_true rfl) ?_
                          refine x_sub [] [] rfl ?_
                          exact hJ
                      · refine x_icmp_ne 1012 943 dL_holds_940 (by decide) rfl (fun _ => ?_) (fun q => absurd q hc)
                        refine x_iconst 1013 (0 : Int32) dL_holds_1012 rfl (by decide) ?_
                        obtain ⟨e1, e2⟩ := so2 hF
                        subst e1
                        subst e2
                        refine x_wide 6142 36852 (Nat.le_of_ble_eq_true rfl) (Nat.le_of_ble_eq_true rfl) ?_
                        refine x_sub [] [] rfl ?_
                        exact hJ
                    · refine x_icmp_ne 1012 929 dL_holds_926 (by decide) rfl (fun _ => ?_) (fun q => absurd q hc)
                      refine x_iconst 1013 (0 : Int32) dL_holds_1012 rfl (by decide) ?_
                      obtain ⟨e1, e2⟩ := so2 hF
                      subst e1
                      subst e2
                      refine x_wide 6142 36852 (Nat.le_of_ble_eq_true rfl) (Nat.le_of_ble_eq_true rfl) ?_
                      refine x_sub [] [] rfl ?_
                      exact hJ
                  · refine x_icmp_ne 1012 915 dL_holds_912 (by decide) rfl (fun _ => ?_) (fun q => absurd q hc)
                    refine x_iconst 1013 (0 : Int32) dL_holds_1012 rfl (by decide) ?_
                    obtain ⟨e1, e2⟩ := so2 hF
                    subst e1
                    subst e2
                    refine x_wide 6142 36852 (Nat.le_of_ble_eq_true rfl) (Nat.le_of_ble_eq_true rfl) ?_
                    refine x_sub [] [] rfl ?_
                    exact hJ
              · refine x_icmp_ne 1012 882 dL_holds_879 (by decide) rfl (fun _ => ?_) (fun q => absurd q hc)
                refine x_iconst 1013 (0 : Int32) dL_holds_1012 rfl (by decide) ?_
                obtain ⟨e1, e2⟩ := so2 hF
                subst e1
                subst e2
                refine x_wide 6142 36852 (Nat.le_of_ble_eq_true rfl) (Nat.le_of_ble_eq_true rfl) ?_
                refine x_sub [] [] rfl ?_
                exact hJ
            · refine x_icmp_ne 1012 876 dL_holds_873 (by decide) rfl (fun _ => ?_) (fun q => absurd q hc)
              refine x_iconst 1013 (0 : Int32) dL_holds_1012 rfl (by decide) ?_
              obtain ⟨e1, e2⟩ := so2 hF
              subst e1
              subst e2
              refine x_wide 6142 36852 (Nat.le_of_ble_eq_true rfl) (Nat.le_of_ble_eq_true rfl) ?_
              refine x_sub [] [] rfl ?_
              exact hJ
        refine x_sub [(0, .ref p0), (1, .int p1), (2, .int v2), (3, .int x78), (4, .int x105), (5, .int x106), (6, .int x107), (7, .int x108), (8, .int x109), (9, .int x110), (10, .int (0 : Int32))] [1, 2, 3, 4, 5, 6, 7, 8, 9, 10, 0] rfl ?_
        exact mL_holds_L502 hst p0 p1 v2 x78 x105 x106 x107 x108 x110 _ 6124 36744 (Nat.le_of_ble_eq_true rfl) (Nat.le_of_ble_eq_true rfl) 20 5484 32904 x109 (0 : Int32) s111 x183 s184 (Nat.le_of_ble_eq_true rfl) (Nat.le_of_ble_eq_true rfl) h221 hJ
      refine x_sub [(0, .ref p0), (1, .int p1), (2, .int v2), (3, .int x78), (4, .int (0 : Int32)), (5, .int (0 : Int32)), (6, .int (0 : Int32)), (7, .int (0 : Int32)), (8, .int x79), (9, .int (0 : Int32)), (10, .int (0 : Int32))] [2, 3, 4, 5, 6, 7, 8, 9, 10, 1, 0] rfl ?_
      exact mL_holds_L378 hst p0 p1 v2 x78 _ 5484 32904 (Nat.le_of_ble_eq_true rfl) (Nat.le_of_ble_eq_true rfl) 20 5204 31224 (0 : Int32) (0 : Int32) (0 : Int32) (0 : Int32) x79 (0 : Int32) (0 : Int32) s80 x105 x106 x107 x108 x109 x110 s111 (Nat.le_of_ble_eq_true rfl) (Nat.le_of_ble_eq_true rfl) h222 hJ
    refine x_sub [(0, .ref p0), (1, .int p1), (2, .int v2), (3, .int (0 : Int32)), (4, .int (0 : Int32)), (5, .int (0 : Int32)), (6, .int (0 : Int32)), (7, .int (0 : Int32)), (8, .int x4), (9, .int (0 : Int32))] [2, 3, 4, 5, 6, 7, 8, 9, 1, 0] rfl ?_
    exact mL_holds_L51 hst p0 p1 v2 (0 : Int32) (0 : Int32) (0 : Int32) (0 : Int32) _ 5204 31224 (Nat.le_of_ble_eq_true rfl) (Nat.le_of_ble_eq_true rfl) 20 4 24 (0 : Int32) x4 (0 : Int32) s5 x78 x79 s80 (Nat.le_of_ble_eq_true rfl) (Nat.le_of_ble_eq_true rfl) h223 hJ
  have hF := h224
  rcases ite_inv hF with ⟨hc, hF⟩ | ⟨hc, hF⟩
  · refine x_icmp_gt 45 29 dL_holds_26 (by decide) rfl (fun _ => ?_) (fun q => absurd hc q)
    refine x_iconst 46 (0 : Int32) dL_holds_45 rfl (by decide) ?_
    obtain ⟨e1, e2⟩ := so2 hF
    subst e1
    subst e2
    refine x_wide 4 24 (Nat.le_of_ble_eq_true rfl) (Nat.le_of_ble_eq_true rfl) ?_
    refine x_sub [(0, .ref p0), (1, .int p1), (2, .int v2), (3, .int (0 : Int32)), (4, .int (0 : Int32)), (5, .int (0 : Int32)), (6, .int (0 : Int32)), (7, .int (0 : Int32))] [6, 7, 5, 4, 3, 2, 1, 0] rfl ?_
    exact hJ
  · refine x_icmp_gt 45 29 dL_holds_26 (by decide) rfl (fun q => absurd q hc) (fun _ => ?_)
    refine x_iload_n 30 5 dL_holds_29 rfl rfl ?_
    refine x_aload_n 31 6 dL_holds_30 rfl rfl ?_
    refine x_iconst 32 (2 : Int32) dL_holds_31 rfl (by decide) ?_
    refine x_iconst 33 (1 : Int32) dL_holds_32 rfl (by decide) ?_
    refine x_iconst 34 (0 : Int32) dL_holds_33 rfl (by decide) ?_
    refine x_iconst 35 (0 : Int32) dL_holds_34 rfl (by decide) ?_
    obtain ⟨v7, s8, h6, hF⟩ := b2_inv hF
    refine x_callS (As := [.ref p0, .int (2 : Int32), .int (1 : Int32), .int (0 : Int32), .int (0 : Int32)]) (rest := [.int v2]) 38 4 24 (mL_call hst p0 (2 : Int32) (1 : Int32) (0 : Int32) (0 : Int32) s3 none v7 s8 h6) qyL_call wd_180 wd_181 rfl rfl (by decide) (Nat.le_of_ble_eq_true rfl) ⟨Nat.le_of_ble_eq_true rfl, Nat.le_of_ble_eq_true rfl⟩ dL_holds_35 rfl rfl rfl rfl ?_
    rcases ite_inv hF with ⟨hc, hF⟩ | ⟨hc, hF⟩
    · refine x_icmp_gt 45 41 dL_holds_38 (by decide) rfl (fun _ => ?_) (fun q => absurd hc q)
      refine x_iconst 46 (0 : Int32) dL_holds_45 rfl (by decide) ?_
      obtain ⟨e1, e2⟩ := so2 hF
      subst e1
      subst e2
      refine x_sub [(0, .ref p0), (1, .int p1), (2, .int v2), (3, .int (0 : Int32)), (4, .int (0 : Int32)), (5, .int (0 : Int32)), (6, .int (0 : Int32)), (7, .int (0 : Int32))] [6, 7, 5, 4, 3, 2, 1, 0] rfl ?_
      exact hJ
    · refine x_icmp_gt 45 41 dL_holds_38 (by decide) rfl (fun q => absurd q hc) (fun _ => ?_)
      refine x_iconst 42 (1 : Int32) dL_holds_41 rfl (by decide) ?_
      refine x_goto 46 dL_holds_42 (by decide) ?_
      obtain ⟨e1, e2⟩ := so2 hF
      subst e1
      subst e2
      refine x_sub [(0, .ref p0), (1, .int p1), (2, .int v2), (3, .int (0 : Int32)), (4, .int (0 : Int32)), (5, .int (0 : Int32)), (6, .int (0 : Int32)), (7, .int (0 : Int32))] [6, 7, 5, 4, 3, 2, 1, 0] rfl ?_
      exact hJ
