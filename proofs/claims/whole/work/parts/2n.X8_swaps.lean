/-! X8_swaps X8_crosses X8_cross X8_balanced X8_balance X8_fellows X8_worthOf X8_hasErrand X8_afterPair -/
theorem cK8_swaps_20 (v1 v2 v3 : Int32) (m : ax_M) {P : Option Value → ax_M → Prop} (hD : HK8_swaps_20 v1 v2 v3 m) (hP : P none (K8_swaps_20 v1 v2 v3 m)) : ax_N 0 Y8_swaps 20 [some (.ref 74), some (.int v1), some (.int v2), some (.int v3)] [] m P := by
  have E : K8_swaps_20 v1 v2 v3 m = (ax_up m 75 (Int32.toNatClampNeg ((4 * v3) + 2)) (m 76 (Int32.toNatClampNeg (2 * v1)))) := rfl
  unfold HK8_swaps_20 at hD
  refine s_aload_n eX8_swaps_20 rfl rfl ?_
  refine s_getr (q := 75) eX8_swaps_21 fX8_7 shp_74 rfl ?_
  refine s_iconst (v := 4) eX8_swaps_24 rfl ?_
  refine s_iload_n eX8_swaps_25 rfl rfl ?_
  refine s_imul eX8_swaps_26 ?_
  refine s_iconst (v := 2) eX8_swaps_27 rfl ?_
  refine s_iadd eX8_swaps_28 ?_
  refine s_aload_n eX8_swaps_29 rfl rfl ?_
  refine s_getr (q := 76) eX8_swaps_30 fX8_13 shp_74 rfl ?_
  refine s_iconst (v := 2) eX8_swaps_33 rfl ?_
  refine s_iload_n eX8_swaps_34 rfl rfl ?_
  refine s_imul eX8_swaps_35 ?_
  obtain ⟨q1, hD⟩ := hD
  refine s_iald eX8_swaps_36 shp_76 q1 ?_
  have q2 := hD
  refine s_iast eX8_swaps_37 shp_75 q2 ?_
  rw [E] at hP
  exact s_vret eX8_swaps_38 rfl ⟨rfl, hP⟩
theorem uX8_swaps (a1 : Int32) (a2 : Int32) (a3 : Int32) (m : ax_M) (hD : D8_swaps a1 a2 a3 m) : ax_NM 0 Y8_swaps [.ref 74, .int a1, .int a2, .int a3] m (fun r m1 => r = none ∧ m1 = F8_swaps a1 a2 a3 m) := by
  have E : F8_swaps a1 a2 a3 m = (K8_swaps_20 a1 a2 a3 (ax_up m 75 (Int32.toNatClampNeg ((4 * a2) + 2)) (m 76 (Int32.toNatClampNeg ((2 * a1) + 1))))) := rfl
  unfold D8_swaps at hD
  show ax_N 0 Y8_swaps 0 [some (.ref 74), some (.int a1), some (.int a2), some (.int a3)] [] m _
  refine s_aload_n eX8_swaps_0 rfl rfl ?_
  refine s_getr (q := 75) eX8_swaps_1 fX8_7 shp_74 rfl ?_
  refine s_iconst (v := 4) eX8_swaps_4 rfl ?_
  refine s_iload_n eX8_swaps_5 rfl rfl ?_
  refine s_imul eX8_swaps_6 ?_
  refine s_iconst (v := 2) eX8_swaps_7 rfl ?_
  refine s_iadd eX8_swaps_8 ?_
  refine s_aload_n eX8_swaps_9 rfl rfl ?_
  refine s_getr (q := 76) eX8_swaps_10 fX8_13 shp_74 rfl ?_
  refine s_iconst (v := 2) eX8_swaps_13 rfl ?_
  refine s_iload_n eX8_swaps_14 rfl rfl ?_
  refine s_imul eX8_swaps_15 ?_
  refine s_iconst (v := 1) eX8_swaps_16 rfl ?_
  refine s_iadd eX8_swaps_17 ?_
  obtain ⟨q1, hD⟩ := hD
  refine s_iald eX8_swaps_18 shp_76 q1 ?_
  obtain ⟨q2, hD⟩ := hD
  refine s_iast eX8_swaps_19 shp_75 q2 ?_
  refine cK8_swaps_20 a1 a2 a3 ((ax_up m 75 (Int32.toNatClampNeg ((4 * a2) + 2)) (m 76 (Int32.toNatClampNeg ((2 * a1) + 1))))) hD ?_
  exact ⟨rfl, by rw [E]⟩
theorem cK8_crosses_183 (v1 v2 v3 v4 v5 v6 v7 : Int32) (m : ax_M) {P : Option Value → ax_M → Prop} (hP : P (some (.int (K8_crosses_183 v1 v2 v3 v4 v5 v6 v7 m).1)) (K8_crosses_183 v1 v2 v3 v4 v5 v6 v7 m).2) : ax_N 3 Y8_crosses 183 [some (.ref 74), some (.int v1), some (.int v2), some (.int v3), some (.int v4), some (.int v5), some (.int v6), some (.int v7)] [] m P := by
  have E : K8_crosses_183 v1 v2 v3 v4 v5 v6 v7 m = (m 75 (Int32.toNatClampNeg 32), m) := rfl
  refine s_aload_n eX8_crosses_183 rfl rfl ?_
  refine s_getr (q := 75) eX8_crosses_184 fX8_7 shp_74 rfl ?_
  refine s_bipush (v := 32) eX8_crosses_187 rfl ?_
  refine s_iald eX8_crosses_189 shp_75 (by unfold vp_in; decide) ?_
  rw [E] at hP
  exact s_iret eX8_crosses_190 rfl ⟨rfl, hP⟩
theorem cK8_crosses_165 (v1 v2 v3 v4 v5 v6 v7 : Int32) (m : ax_M) {P : Option Value → ax_M → Prop} (hD : HK8_crosses_165 v1 v2 v3 v4 v5 v6 v7 m) (hP : P (some (.int (K8_crosses_165 v1 v2 v3 v4 v5 v6 v7 m).1)) (K8_crosses_165 v1 v2 v3 v4 v5 v6 v7 m).2) : ax_N 3 Y8_crosses 165 [some (.ref 74), some (.int v1), some (.int v2), some (.int v3), some (.int v4), some (.int v5), some (.int v6), some (.int v7)] [] m P := by
  have E : K8_crosses_165 v1 v2 v3 v4 v5 v6 v7 m = (K8_crosses_183 v1 v2 v3 v4 v5 v6 v7 (ax_up (F8_swaps v1 v2 v3 m) 75 (Int32.toNatClampNeg 32) (((F8_swaps v1 v2 v3 m) 75 (Int32.toNatClampNeg 32)) + 1))) := rfl
  unfold HK8_crosses_165 at hD
  refine s_aload_n eX8_crosses_165 rfl rfl ?_
  refine s_iload_n eX8_crosses_166 rfl rfl ?_
  refine s_iload_n eX8_crosses_167 rfl rfl ?_
  refine s_iload_n eX8_crosses_168 rfl rfl ?_
  have q1 := hD
  refine n_callVv (As := [.int v1, .int v2, .int v3]) eX8_crosses_169 kX8_swaps lX8_265 rfl rfl shp_74 rfl rfl (Nat.le_of_ble_eq_true rfl) (Nat.le_of_ble_eq_true rfl) (Nat.le_of_ble_eq_true rfl) (uX8_swaps v1 v2 v3 m q1) ?_
  refine s_aload_n eX8_crosses_172 rfl rfl ?_
  refine s_getr (q := 75) eX8_crosses_173 fX8_7 shp_74 rfl ?_
  refine s_bipush (v := 32) eX8_crosses_176 rfl ?_
  refine s_dup2 eX8_crosses_178 rfl rfl ?_
  refine s_iald eX8_crosses_179 shp_75 (by unfold vp_in; decide) ?_
  refine s_iconst (v := 1) eX8_crosses_180 rfl ?_
  refine s_iadd eX8_crosses_181 ?_
  refine s_iast eX8_crosses_182 shp_75 (by unfold vp_in; decide) ?_
  refine cK8_crosses_183 v1 v2 v3 v4 v5 v6 v7 ((ax_up (F8_swaps v1 v2 v3 m) 75 (Int32.toNatClampNeg 32) (((F8_swaps v1 v2 v3 m) 75 (Int32.toNatClampNeg 32)) + 1))) ?_
  rw [E] at hP
  exact hP
theorem cK8_crosses_150 (v1 v2 v3 v4 v5 v6 v7 : Int32) (m : ax_M) {P : Option Value → ax_M → Prop} (hD : HK8_crosses_150 v1 v2 v3 v4 v5 v6 v7 m) (hP : P (some (.int (K8_crosses_150 v1 v2 v3 v4 v5 v6 v7 m).1)) (K8_crosses_150 v1 v2 v3 v4 v5 v6 v7 m).2) : ax_N 3 Y8_crosses 150 [some (.ref 74), some (.int v1), some (.int v2), some (.int v3), some (.int v4), some (.int v5), some (.int v6), some (.int v7)] [] m P := by
  have E : K8_crosses_150 v1 v2 v3 v4 v5 v6 v7 m = (K8_crosses_165 v1 v2 v3 v4 v5 v6 v7 (ax_up m 75 (Int32.toNatClampNeg v7) ((m 75 (Int32.toNatClampNeg v7)) + (v4 - v5)))) := rfl
  unfold HK8_crosses_150 at hD
  refine s_aload_n eX8_crosses_150 rfl rfl ?_
  refine s_getr (q := 75) eX8_crosses_151 fX8_7 shp_74 rfl ?_
  refine s_iload eX8_crosses_154 rfl ?_
  refine s_dup2 eX8_crosses_156 rfl rfl ?_
  obtain ⟨q1, hD⟩ := hD
  refine s_iald eX8_crosses_157 shp_75 q1 ?_
  refine s_iload eX8_crosses_158 rfl ?_
  refine s_iload eX8_crosses_160 rfl ?_
  refine s_isub eX8_crosses_162 ?_
  refine s_iadd eX8_crosses_163 ?_
  obtain ⟨q2, hD⟩ := hD
  refine s_iast eX8_crosses_164 shp_75 q2 ?_
  refine cK8_crosses_165 v1 v2 v3 v4 v5 v6 v7 ((ax_up m 75 (Int32.toNatClampNeg v7) ((m 75 (Int32.toNatClampNeg v7)) + (v4 - v5)))) hD ?_
  rw [E] at hP
  exact hP
theorem uX8_crosses (a1 : Int32) (a2 : Int32) (a3 : Int32) (a4 : Int32) (a5 : Int32) (m : ax_M) (hD : D8_crosses a1 a2 a3 a4 a5 m) : ax_NM 3 Y8_crosses [.ref 74, .int a1, .int a2, .int a3, .int a4, .int a5] m (fun r m1 => r = some (.int (F8_crosses a1 a2 a3 a4 a5 m).1) ∧ m1 = (F8_crosses a1 a2 a3 a4 a5 m).2) := by
  have E : F8_crosses a1 a2 a3 a4 a5 m = (if (F8_areTwo a1 a2 a3 m) = 0 then ((-1), m) else (if (F8_in (Int32.toInt64 a4) 0 3 m) = 0 then ((-1), m) else (if (F8_in (Int32.toInt64 a5) 0 3 m) = 0 then ((-1), m) else (if (F8_canCross a1 a2 a3 a4 a5 m) = 0 then ((-4), m) else (if (m 75 (Int32.toNatClampNeg 32)) = 999 then ((-3), m) else (if 20 < (((m 75 (Int32.toNatClampNeg (24 + (m 76 (Int32.toNatClampNeg (2 * a1)))))) - a4) + a5) then ((-3), m) else (if (((m 75 (Int32.toNatClampNeg (24 + (m 76 (Int32.toNatClampNeg ((2 * a1) + 1)))))) - a5) + a4) ≤ 20 then (K8_crosses_150 a1 a2 a3 a4 a5 (24 + (m 76 (Int32.toNatClampNeg (2 * a1)))) (24 + (m 76 (Int32.toNatClampNeg ((2 * a1) + 1)))) (ax_up m 75 (Int32.toNatClampNeg (24 + (m 76 (Int32.toNatClampNeg (2 * a1))))) ((m 75 (Int32.toNatClampNeg (24 + (m 76 (Int32.toNatClampNeg (2 * a1)))))) + (a5 - a4)))) else ((-3), m)))))))) := rfl
  unfold D8_crosses at hD
  show ax_N 3 Y8_crosses 0 [some (.ref 74), some (.int a1), some (.int a2), some (.int a3), some (.int a4), some (.int a5), none, none] [] m _
  refine s_aload_n eX8_crosses_0 rfl rfl ?_
  refine s_iload_n eX8_crosses_1 rfl rfl ?_
  refine s_iload_n eX8_crosses_2 rfl rfl ?_
  refine s_iload_n eX8_crosses_3 rfl rfl ?_
  refine n_callVi (As := [.int a1, .int a2, .int a3]) eX8_crosses_4 kX8_areTwo lX8_259 rfl rfl shp_74 rfl rfl (Nat.le_of_ble_eq_true rfl) (Nat.le_of_ble_eq_true rfl) (Nat.le_of_ble_eq_true rfl) (uX8_areTwo a1 a2 a3 m) ?_
  refine s_if_eq eX8_crosses_7 (fun h1 => ?_) (fun h1 => ?_)
  · skip
    rw [if_pos h1] at E
    refine s_iconst (v := (-1)) eX8_crosses_36 rfl ?_
    exact s_iret eX8_crosses_37 rfl ⟨rfl, by rw [E], by rw [E]⟩
  · skip
    rw [if_neg h1] at E
    have hD := hD h1
    refine s_iload eX8_crosses_10 rfl ?_
    refine s_i2l eX8_crosses_12 ?_
    refine s_lconst (v := 0) eX8_crosses_13 rfl ?_
    refine s_ldc2 eX8_crosses_14 qX8_217 ?_
    refine n_callSi (As := [.long (Int32.toInt64 a4), .long 0, .long 3]) eX8_crosses_17 kX8_in lX8_87 rfl rfl (Nat.le_of_ble_eq_true rfl) (Nat.le_of_ble_eq_true rfl) (Nat.le_of_ble_eq_true rfl) (uX8_in (Int32.toInt64 a4) 0 3 m) ?_
    refine s_if_eq eX8_crosses_20 (fun h2 => ?_) (fun h2 => ?_)
    · skip
      rw [if_pos h2] at E
      refine s_iconst (v := (-1)) eX8_crosses_36 rfl ?_
      exact s_iret eX8_crosses_37 rfl ⟨rfl, by rw [E], by rw [E]⟩
    · skip
      rw [if_neg h2] at E
      have hD := hD h2
      refine s_iload eX8_crosses_23 rfl ?_
      refine s_i2l eX8_crosses_25 ?_
      refine s_lconst (v := 0) eX8_crosses_26 rfl ?_
      refine s_ldc2 eX8_crosses_27 qX8_217 ?_
      refine n_callSi (As := [.long (Int32.toInt64 a5), .long 0, .long 3]) eX8_crosses_30 kX8_in lX8_87 rfl rfl (Nat.le_of_ble_eq_true rfl) (Nat.le_of_ble_eq_true rfl) (Nat.le_of_ble_eq_true rfl) (uX8_in (Int32.toInt64 a5) 0 3 m) ?_
      refine s_if_ne eX8_crosses_33 (fun h3 => ?_) (fun h3 => ?_)
      · skip
        rw [if_neg h3] at E
        have hD := hD h3
        refine s_aload_n eX8_crosses_38 rfl rfl ?_
        refine s_iload_n eX8_crosses_39 rfl rfl ?_
        refine s_iload_n eX8_crosses_40 rfl rfl ?_
        refine s_iload_n eX8_crosses_41 rfl rfl ?_
        refine s_iload eX8_crosses_42 rfl ?_
        refine s_iload eX8_crosses_44 rfl ?_
        obtain ⟨q4, hD⟩ := hD
        refine n_callVi (As := [.int a1, .int a2, .int a3, .int a4, .int a5]) eX8_crosses_46 kX8_canCross lX8_262 rfl rfl shp_74 rfl rfl (Nat.le_of_ble_eq_true rfl) (Nat.le_of_ble_eq_true rfl) (Nat.le_of_ble_eq_true rfl) (uX8_canCross a1 a2 a3 a4 a5 m q4) ?_
        refine s_if_ne eX8_crosses_49 (fun h5 => ?_) (fun h5 => ?_)
        · skip
          rw [if_neg h5] at E
          have hD := hD h5
          refine s_bipush (v := 24) eX8_crosses_55 rfl ?_
          refine s_aload_n eX8_crosses_57 rfl rfl ?_
          refine s_getr (q := 76) eX8_crosses_58 fX8_13 shp_74 rfl ?_
          refine s_iconst (v := 2) eX8_crosses_61 rfl ?_
          refine s_iload_n eX8_crosses_62 rfl rfl ?_
          refine s_imul eX8_crosses_63 ?_
          obtain ⟨q6, hD⟩ := hD
          refine s_iald eX8_crosses_64 shp_76 q6 ?_
          refine s_iadd eX8_crosses_65 ?_
          refine s_istore (ls' := [some (.ref 74), some (.int a1), some (.int a2), some (.int a3), some (.int a4), some (.int a5), some (.int (24 + (m 76 (Int32.toNatClampNeg (2 * a1))))), none]) eX8_crosses_66 rfl rfl ?_
          refine s_bipush (v := 24) eX8_crosses_68 rfl ?_
          refine s_aload_n eX8_crosses_70 rfl rfl ?_
          refine s_getr (q := 76) eX8_crosses_71 fX8_13 shp_74 rfl ?_
          refine s_iconst (v := 2) eX8_crosses_74 rfl ?_
          refine s_iload_n eX8_crosses_75 rfl rfl ?_
          refine s_imul eX8_crosses_76 ?_
          refine s_iconst (v := 1) eX8_crosses_77 rfl ?_
          refine s_iadd eX8_crosses_78 ?_
          obtain ⟨q7, hD⟩ := hD
          refine s_iald eX8_crosses_79 shp_76 q7 ?_
          refine s_iadd eX8_crosses_80 ?_
          refine s_istore (ls' := [some (.ref 74), some (.int a1), some (.int a2), some (.int a3), some (.int a4), some (.int a5), some (.int (24 + (m 76 (Int32.toNatClampNeg (2 * a1))))), some (.int (24 + (m 76 (Int32.toNatClampNeg ((2 * a1) + 1)))))]) eX8_crosses_81 rfl rfl ?_
          refine s_aload_n eX8_crosses_83 rfl rfl ?_
          refine s_getr (q := 75) eX8_crosses_84 fX8_7 shp_74 rfl ?_
          refine s_bipush (v := 32) eX8_crosses_87 rfl ?_
          refine s_iald eX8_crosses_89 shp_75 (by unfold vp_in; decide) ?_
          refine s_sipush (v := 999) eX8_crosses_90 rfl ?_
          refine s_icmp_eq eX8_crosses_93 (fun h8 => ?_) (fun h8 => ?_)
          · skip
            rw [if_pos h8] at E
            refine s_bipush (v := (-3)) eX8_crosses_132 rfl ?_
            exact s_iret eX8_crosses_134 rfl ⟨rfl, by rw [E], by rw [E]⟩
          · skip
            rw [if_neg h8] at E
            have hD := hD h8
            refine s_aload_n eX8_crosses_96 rfl rfl ?_
            refine s_getr (q := 75) eX8_crosses_97 fX8_7 shp_74 rfl ?_
            refine s_iload eX8_crosses_100 rfl ?_
            obtain ⟨q9, hD⟩ := hD
            refine s_iald eX8_crosses_102 shp_75 q9 ?_
            refine s_iload eX8_crosses_103 rfl ?_
            refine s_isub eX8_crosses_105 ?_
            refine s_iload eX8_crosses_106 rfl ?_
            refine s_iadd eX8_crosses_108 ?_
            refine s_bipush (v := 20) eX8_crosses_109 rfl ?_
            refine s_icmp_gt eX8_crosses_111 (fun h10 => ?_) (fun h10 => ?_)
            · skip
              rw [if_pos h10] at E
              refine s_bipush (v := (-3)) eX8_crosses_132 rfl ?_
              exact s_iret eX8_crosses_134 rfl ⟨rfl, by rw [E], by rw [E]⟩
            · skip
              rw [if_neg h10] at E
              have hD := hD h10
              refine s_aload_n eX8_crosses_114 rfl rfl ?_
              refine s_getr (q := 75) eX8_crosses_115 fX8_7 shp_74 rfl ?_
              refine s_iload eX8_crosses_118 rfl ?_
              obtain ⟨q11, hD⟩ := hD
              refine s_iald eX8_crosses_120 shp_75 q11 ?_
              refine s_iload eX8_crosses_121 rfl ?_
              refine s_isub eX8_crosses_123 ?_
              refine s_iload eX8_crosses_124 rfl ?_
              refine s_iadd eX8_crosses_126 ?_
              refine s_bipush (v := 20) eX8_crosses_127 rfl ?_
              refine s_icmp_le eX8_crosses_129 (fun h12 => ?_) (fun h12 => ?_)
              · skip
                rw [if_pos h12] at E
                have hD := hD h12
                refine s_aload_n eX8_crosses_135 rfl rfl ?_
                refine s_getr (q := 75) eX8_crosses_136 fX8_7 shp_74 rfl ?_
                refine s_iload eX8_crosses_139 rfl ?_
                refine s_dup2 eX8_crosses_141 rfl rfl ?_
                obtain ⟨q13, hD⟩ := hD
                refine s_iald eX8_crosses_142 shp_75 q13 ?_
                refine s_iload eX8_crosses_143 rfl ?_
                refine s_iload eX8_crosses_145 rfl ?_
                refine s_isub eX8_crosses_147 ?_
                refine s_iadd eX8_crosses_148 ?_
                obtain ⟨q14, hD⟩ := hD
                refine s_iast eX8_crosses_149 shp_75 q14 ?_
                refine cK8_crosses_150 a1 a2 a3 a4 a5 (24 + (m 76 (Int32.toNatClampNeg (2 * a1)))) (24 + (m 76 (Int32.toNatClampNeg ((2 * a1) + 1)))) ((ax_up m 75 (Int32.toNatClampNeg (24 + (m 76 (Int32.toNatClampNeg (2 * a1))))) ((m 75 (Int32.toNatClampNeg (24 + (m 76 (Int32.toNatClampNeg (2 * a1)))))) + (a5 - a4)))) hD ?_
                exact ⟨by rw [E], by rw [E]⟩
              · skip
                rw [if_neg h12] at E
                refine s_bipush (v := (-3)) eX8_crosses_132 rfl ?_
                exact s_iret eX8_crosses_134 rfl ⟨rfl, by rw [E], by rw [E]⟩
        · skip
          rw [if_pos h5] at E
          refine s_bipush (v := (-4)) eX8_crosses_52 rfl ?_
          exact s_iret eX8_crosses_54 rfl ⟨rfl, by rw [E], by rw [E]⟩
      · skip
        rw [if_pos h3] at E
        refine s_iconst (v := (-1)) eX8_crosses_36 rfl ?_
        exact s_iret eX8_crosses_37 rfl ⟨rfl, by rw [E], by rw [E]⟩
theorem uX8_cross (a1 : Int32) (a2 : Int32) (a3 : Int32) (a4 : Int32) (a5 : Int32) (m : ax_M) (hD : D8_cross a1 a2 a3 a4 a5 m) : ax_NM 4 Y8_cross [.ref 74, .int a1, .int a2, .int a3, .int a4, .int a5] m (fun r m1 => r = some (.int (F8_cross a1 a2 a3 a4 a5 m).1) ∧ m1 = (F8_cross a1 a2 a3 a4 a5 m).2) := by
  have E : F8_cross a1 a2 a3 a4 a5 m = ((F8_crosses a1 a2 a3 a4 a5 m).1, (F8_crosses a1 a2 a3 a4 a5 m).2) := rfl
  unfold D8_cross at hD
  show ax_N 4 Y8_cross 0 [some (.ref 74), some (.int a1), some (.int a2), some (.int a3), some (.int a4), some (.int a5)] [] m _
  refine s_aload_n eX8_cross_0 rfl rfl ?_
  refine s_iload_n eX8_cross_1 rfl rfl ?_
  refine s_iload_n eX8_cross_2 rfl rfl ?_
  refine s_iload_n eX8_cross_3 rfl rfl ?_
  refine s_iload eX8_cross_4 rfl ?_
  refine s_iload eX8_cross_6 rfl ?_
  have q1 := hD
  refine n_callVi (As := [.int a1, .int a2, .int a3, .int a4, .int a5]) eX8_cross_8 kX8_crosses lX8_269 rfl rfl shp_74 rfl rfl (Nat.le_of_ble_eq_true rfl) (Nat.le_of_ble_eq_true rfl) (Nat.le_of_ble_eq_true rfl) (uX8_crosses a1 a2 a3 a4 a5 m q1) ?_
  exact s_iret eX8_cross_11 rfl ⟨rfl, by rw [E], by rw [E]⟩
theorem clX8_balanced_7 {P : Option Value → ax_M → Prop} : ∀ (n : Nat) (v1 v2 v3 v4 v5 : Int32) (m : ax_M), E8_balanced_7 n v1 v2 v3 v4 v5 m → (ax_N 2 Y8_balanced 119 [some (.ref 74), some (.int v1), some (.int v2), some (.int v3), some (.int ((L8_balanced_7 n v1 v2 v3 v4 v5 m).1)), some (.int ((L8_balanced_7 n v1 v2 v3 v4 v5 m).2)), none, none, none] [] m P) → ax_N 2 Y8_balanced 7 [some (.ref 74), some (.int v1), some (.int v2), some (.int v3), some (.int v4), some (.int v5), none, none, none] [] m P := by
  intro n
  induction n with
  | zero => intro v1 v2 v3 v4 v5 m hD; exact absurd hD id
  | succ n ih =>
    intro v1 v2 v3 v4 v5 m hD hx
    have E : L8_balanced_7 (n + 1) v1 v2 v3 v4 v5 m = (if 16 ≤ v5 then (v4, v5) else L8_balanced_7 n v1 v2 v3 (if (if (F8_carries v2 m) < (v5 / 4) then (0 : Int32) else if (F8_carries v3 m) < (v5 - v5 / 4 * 4) then (0 : Int32) else if (F8_isLevel v1 v2 v3 (v5 / 4) (v5 - v5 / 4 * 4) m) = 0 then (0 : Int32) else 1) = 0 then (v4 : Int32) else if v4 = ((-4)) then ((10 * (v5 / 4)) + (v5 - v5 / 4 * 4) : Int32) else if ((v4 / 10) + (v4 - v4 / 10 * 10)) ≤ ((v5 / 4) + (v5 - v5 / 4 * 4)) then (v4 : Int32) else (10 * (v5 / 4)) + (v5 - v5 / 4 * 4)) (v5 + 1) m) := by rw [L8_balanced_7]
    have hD : ((¬ (16 ≤ v5) → ((D8_carries v2 m) ∧ (¬ ((F8_carries v2 m) < (v5 / 4)) → ((D8_carries v3 m) ∧ (¬ ((F8_carries v3 m) < (v5 - v5 / 4 * 4)) → ((D8_isLevel v1 v2 v3 (v5 / 4) (v5 - v5 / 4 * 4) m))))) ∧ (E8_balanced_7 n v1 v2 v3 (if (if (F8_carries v2 m) < (v5 / 4) then (0 : Int32) else if (F8_carries v3 m) < (v5 - v5 / 4 * 4) then (0 : Int32) else if (F8_isLevel v1 v2 v3 (v5 / 4) (v5 - v5 / 4 * 4) m) = 0 then (0 : Int32) else 1) = 0 then (v4 : Int32) else if v4 = ((-4)) then ((10 * (v5 / 4)) + (v5 - v5 / 4 * 4) : Int32) else if ((v4 / 10) + (v4 - v4 / 10 * 10)) ≤ ((v5 / 4) + (v5 - v5 / 4 * 4)) then (v4 : Int32) else (10 * (v5 / 4)) + (v5 - v5 / 4 * 4)) (v5 + 1) m)))) := hD
    refine s_iload eX8_balanced_7 rfl ?_
    refine s_bipush (v := 16) eX8_balanced_9 rfl ?_
    refine s_icmp_ge eX8_balanced_11 (fun h1 => ?_) (fun h1 => ?_)
    · skip
      rw [if_pos h1] at E
      rw [E] at hx
      exact hx
    · skip
      rw [if_neg h1] at E
      have hD := hD h1
      refine s_iload eX8_balanced_14 rfl ?_
      refine s_iconst (v := 4) eX8_balanced_16 rfl ?_
      refine s_idiv eX8_balanced_17 (by decide) ?_
      refine s_istore (ls' := [some (.ref 74), some (.int v1), some (.int v2), some (.int v3), some (.int v4), some (.int v5), some (.int (v5 / 4)), none, none]) eX8_balanced_18 rfl rfl ?_
      refine s_iload eX8_balanced_20 rfl ?_
      refine s_iconst (v := 4) eX8_balanced_22 rfl ?_
      refine s_irem eX8_balanced_23 (by decide) ?_
      refine s_istore (ls' := [some (.ref 74), some (.int v1), some (.int v2), some (.int v3), some (.int v4), some (.int v5), some (.int (v5 / 4)), some (.int (v5 - v5 / 4 * 4)), none]) eX8_balanced_24 rfl rfl ?_
      refine s_iload eX8_balanced_26 rfl ?_
      refine s_aload_n eX8_balanced_28 rfl rfl ?_
      refine s_iload_n eX8_balanced_29 rfl rfl ?_
      obtain ⟨q2, hD⟩ := hD
      refine n_callVi (As := [.int v2]) eX8_balanced_30 kX8_carries lX8_252 rfl rfl shp_74 rfl rfl (Nat.le_of_ble_eq_true rfl) (Nat.le_of_ble_eq_true rfl) (Nat.le_of_ble_eq_true rfl) (uX8_carries v2 m q2) ?_
      obtain ⟨s3, hD⟩ := hD
      have J4 : ax_N 2 Y8_balanced 65 [some (.ref 74), some (.int v1), some (.int v2), some (.int v3), some (.int v4), some (.int v5), some (.int (v5 / 4)), some (.int (v5 - v5 / 4 * 4)), none] [.int (if (F8_carries v2 m) < (v5 / 4) then (0 : Int32) else if (F8_carries v3 m) < (v5 - v5 / 4 * 4) then (0 : Int32) else if (F8_isLevel v1 v2 v3 (v5 / 4) (v5 - v5 / 4 * 4) m) = 0 then (0 : Int32) else 1)] m P := by
        refine s_istore (ls' := [some (.ref 74), some (.int v1), some (.int v2), some (.int v3), some (.int v4), some (.int v5), some (.int (v5 / 4)), some (.int (v5 - v5 / 4 * 4)), some (.int (if (F8_carries v2 m) < (v5 / 4) then (0 : Int32) else if (F8_carries v3 m) < (v5 - v5 / 4 * 4) then (0 : Int32) else if (F8_isLevel v1 v2 v3 (v5 / 4) (v5 - v5 / 4 * 4) m) = 0 then (0 : Int32) else 1))]) eX8_balanced_65 rfl rfl ?_
        refine s_iload eX8_balanced_67 rfl ?_
        have J5 : ax_N 2 Y8_balanced 111 [some (.ref 74), some (.int v1), some (.int v2), some (.int v3), some (.int v4), some (.int v5), some (.int (v5 / 4)), some (.int (v5 - v5 / 4 * 4)), some (.int (if (F8_carries v2 m) < (v5 / 4) then (0 : Int32) else if (F8_carries v3 m) < (v5 - v5 / 4 * 4) then (0 : Int32) else if (F8_isLevel v1 v2 v3 (v5 / 4) (v5 - v5 / 4 * 4) m) = 0 then (0 : Int32) else 1))] [.int (if (if (F8_carries v2 m) < (v5 / 4) then (0 : Int32) else if (F8_carries v3 m) < (v5 - v5 / 4 * 4) then (0 : Int32) else if (F8_isLevel v1 v2 v3 (v5 / 4) (v5 - v5 / 4 * 4) m) = 0 then (0 : Int32) else 1) = 0 then (v4 : Int32) else if v4 = ((-4)) then ((10 * (v5 / 4)) + (v5 - v5 / 4 * 4) : Int32) else if ((v4 / 10) + (v4 - v4 / 10 * 10)) ≤ ((v5 / 4) + (v5 - v5 / 4 * 4)) then (v4 : Int32) else (10 * (v5 / 4)) + (v5 - v5 / 4 * 4))] m P := by
          refine s_istore (ls' := [some (.ref 74), some (.int v1), some (.int v2), some (.int v3), some (.int (if (if (F8_carries v2 m) < (v5 / 4) then (0 : Int32) else if (F8_carries v3 m) < (v5 - v5 / 4 * 4) then (0 : Int32) else if (F8_isLevel v1 v2 v3 (v5 / 4) (v5 - v5 / 4 * 4) m) = 0 then (0 : Int32) else 1) = 0 then (v4 : Int32) else if v4 = ((-4)) then ((10 * (v5 / 4)) + (v5 - v5 / 4 * 4) : Int32) else if ((v4 / 10) + (v4 - v4 / 10 * 10)) ≤ ((v5 / 4) + (v5 - v5 / 4 * 4)) then (v4 : Int32) else (10 * (v5 / 4)) + (v5 - v5 / 4 * 4))), some (.int v5), some (.int (v5 / 4)), some (.int (v5 - v5 / 4 * 4)), some (.int (if (F8_carries v2 m) < (v5 / 4) then (0 : Int32) else if (F8_carries v3 m) < (v5 - v5 / 4 * 4) then (0 : Int32) else if (F8_isLevel v1 v2 v3 (v5 / 4) (v5 - v5 / 4 * 4) m) = 0 then (0 : Int32) else 1))]) eX8_balanced_111 rfl rfl ?_
          refine s_iinc (v := v5 + 1) (ls' := [some (.ref 74), some (.int v1), some (.int v2), some (.int v3), some (.int (if (if (F8_carries v2 m) < (v5 / 4) then (0 : Int32) else if (F8_carries v3 m) < (v5 - v5 / 4 * 4) then (0 : Int32) else if (F8_isLevel v1 v2 v3 (v5 / 4) (v5 - v5 / 4 * 4) m) = 0 then (0 : Int32) else 1) = 0 then (v4 : Int32) else if v4 = ((-4)) then ((10 * (v5 / 4)) + (v5 - v5 / 4 * 4) : Int32) else if ((v4 / 10) + (v4 - v4 / 10 * 10)) ≤ ((v5 / 4) + (v5 - v5 / 4 * 4)) then (v4 : Int32) else (10 * (v5 / 4)) + (v5 - v5 / 4 * 4))), some (.int (v5 + 1)), some (.int (v5 / 4)), some (.int (v5 - v5 / 4 * 4)), some (.int (if (F8_carries v2 m) < (v5 / 4) then (0 : Int32) else if (F8_carries v3 m) < (v5 - v5 / 4 * 4) then (0 : Int32) else if (F8_isLevel v1 v2 v3 (v5 / 4) (v5 - v5 / 4 * 4) m) = 0 then (0 : Int32) else 1))]) eX8_balanced_113 rfl rfl rfl rfl ?_
          refine s_goto eX8_balanced_116 ?_
          refine ax_forget (ls' := [some (.ref 74), some (.int v1), some (.int v2), some (.int v3), some (.int (if (if (F8_carries v2 m) < (v5 / 4) then (0 : Int32) else if (F8_carries v3 m) < (v5 - v5 / 4 * 4) then (0 : Int32) else if (F8_isLevel v1 v2 v3 (v5 / 4) (v5 - v5 / 4 * 4) m) = 0 then (0 : Int32) else 1) = 0 then (v4 : Int32) else if v4 = ((-4)) then ((10 * (v5 / 4)) + (v5 - v5 / 4 * 4) : Int32) else if ((v4 / 10) + (v4 - v4 / 10 * 10)) ≤ ((v5 / 4) + (v5 - v5 / 4 * 4)) then (v4 : Int32) else (10 * (v5 / 4)) + (v5 - v5 / 4 * 4))), some (.int (v5 + 1)), none, none, none]) rfl ?_
          rw [E] at hx
          exact ih v1 v2 v3 (if (if (F8_carries v2 m) < (v5 / 4) then (0 : Int32) else if (F8_carries v3 m) < (v5 - v5 / 4 * 4) then (0 : Int32) else if (F8_isLevel v1 v2 v3 (v5 / 4) (v5 - v5 / 4 * 4) m) = 0 then (0 : Int32) else 1) = 0 then (v4 : Int32) else if v4 = ((-4)) then ((10 * (v5 / 4)) + (v5 - v5 / 4 * 4) : Int32) else if ((v4 / 10) + (v4 - v4 / 10 * 10)) ≤ ((v5 / 4) + (v5 - v5 / 4 * 4)) then (v4 : Int32) else (10 * (v5 / 4)) + (v5 - v5 / 4 * 4)) (v5 + 1) m hD hx
        refine s_if_eq eX8_balanced_69 (fun h6 => ?_) (fun h6 => ?_)
        · skip
          refine s_iload eX8_balanced_109 rfl ?_
          exact ax_eqN rfl (by rw [show (if (if (F8_carries v2 m) < (v5 / 4) then (0 : Int32) else if (F8_carries v3 m) < (v5 - v5 / 4 * 4) then (0 : Int32) else if (F8_isLevel v1 v2 v3 (v5 / 4) (v5 - v5 / 4 * 4) m) = 0 then (0 : Int32) else 1) = 0 then (v4 : Int32) else if v4 = ((-4)) then ((10 * (v5 / 4)) + (v5 - v5 / 4 * 4) : Int32) else if ((v4 / 10) + (v4 - v4 / 10 * 10)) ≤ ((v5 / 4) + (v5 - v5 / 4 * 4)) then (v4 : Int32) else (10 * (v5 / 4)) + (v5 - v5 / 4 * 4) : Int32) = v4 by rw [if_pos h6]]) rfl J5
        · skip
          refine s_iload eX8_balanced_72 rfl ?_
          refine s_bipush (v := (-4)) eX8_balanced_74 rfl ?_
          refine s_icmp_eq eX8_balanced_76 (fun h7 => ?_) (fun h7 => ?_)
          · skip
            refine s_bipush (v := 10) eX8_balanced_98 rfl ?_
            refine s_iload eX8_balanced_100 rfl ?_
            refine s_imul eX8_balanced_102 ?_
            refine s_iload eX8_balanced_103 rfl ?_
            refine s_iadd eX8_balanced_105 ?_
            refine s_goto eX8_balanced_106 ?_
            exact ax_eqN rfl (by rw [show (if (if (F8_carries v2 m) < (v5 / 4) then (0 : Int32) else if (F8_carries v3 m) < (v5 - v5 / 4 * 4) then (0 : Int32) else if (F8_isLevel v1 v2 v3 (v5 / 4) (v5 - v5 / 4 * 4) m) = 0 then (0 : Int32) else 1) = 0 then (v4 : Int32) else if v4 = ((-4)) then ((10 * (v5 / 4)) + (v5 - v5 / 4 * 4) : Int32) else if ((v4 / 10) + (v4 - v4 / 10 * 10)) ≤ ((v5 / 4) + (v5 - v5 / 4 * 4)) then (v4 : Int32) else (10 * (v5 / 4)) + (v5 - v5 / 4 * 4) : Int32) = (10 * (v5 / 4)) + (v5 - v5 / 4 * 4) by rw [if_neg h6, if_pos h7]]) rfl J5
          · skip
            refine s_iload eX8_balanced_79 rfl ?_
            refine s_iload eX8_balanced_81 rfl ?_
            refine s_iadd eX8_balanced_83 ?_
            refine s_iload eX8_balanced_84 rfl ?_
            refine s_bipush (v := 10) eX8_balanced_86 rfl ?_
            refine s_idiv eX8_balanced_88 (by decide) ?_
            refine s_iload eX8_balanced_89 rfl ?_
            refine s_bipush (v := 10) eX8_balanced_91 rfl ?_
            refine s_irem eX8_balanced_93 (by decide) ?_
            refine s_iadd eX8_balanced_94 ?_
            refine s_icmp_ge eX8_balanced_95 (fun h8 => ?_) (fun h8 => ?_)
            · skip
              refine s_iload eX8_balanced_109 rfl ?_
              exact ax_eqN rfl (by rw [show (if (if (F8_carries v2 m) < (v5 / 4) then (0 : Int32) else if (F8_carries v3 m) < (v5 - v5 / 4 * 4) then (0 : Int32) else if (F8_isLevel v1 v2 v3 (v5 / 4) (v5 - v5 / 4 * 4) m) = 0 then (0 : Int32) else 1) = 0 then (v4 : Int32) else if v4 = ((-4)) then ((10 * (v5 / 4)) + (v5 - v5 / 4 * 4) : Int32) else if ((v4 / 10) + (v4 - v4 / 10 * 10)) ≤ ((v5 / 4) + (v5 - v5 / 4 * 4)) then (v4 : Int32) else (10 * (v5 / 4)) + (v5 - v5 / 4 * 4) : Int32) = v4 by rw [if_neg h6, if_neg h7, if_pos h8]]) rfl J5
            · skip
              refine s_bipush (v := 10) eX8_balanced_98 rfl ?_
              refine s_iload eX8_balanced_100 rfl ?_
              refine s_imul eX8_balanced_102 ?_
              refine s_iload eX8_balanced_103 rfl ?_
              refine s_iadd eX8_balanced_105 ?_
              refine s_goto eX8_balanced_106 ?_
              exact ax_eqN rfl (by rw [show (if (if (F8_carries v2 m) < (v5 / 4) then (0 : Int32) else if (F8_carries v3 m) < (v5 - v5 / 4 * 4) then (0 : Int32) else if (F8_isLevel v1 v2 v3 (v5 / 4) (v5 - v5 / 4 * 4) m) = 0 then (0 : Int32) else 1) = 0 then (v4 : Int32) else if v4 = ((-4)) then ((10 * (v5 / 4)) + (v5 - v5 / 4 * 4) : Int32) else if ((v4 / 10) + (v4 - v4 / 10 * 10)) ≤ ((v5 / 4) + (v5 - v5 / 4 * 4)) then (v4 : Int32) else (10 * (v5 / 4)) + (v5 - v5 / 4 * 4) : Int32) = (10 * (v5 / 4)) + (v5 - v5 / 4 * 4) by rw [if_neg h6, if_neg h7, if_neg h8]]) rfl J5
      have hD := s3
      refine s_icmp_gt eX8_balanced_33 (fun h9 => ?_) (fun h9 => ?_)
      · skip
        refine s_iconst (v := 0) eX8_balanced_64 rfl ?_
        exact ax_eqN rfl (by rw [show (if (F8_carries v2 m) < (v5 / 4) then (0 : Int32) else if (F8_carries v3 m) < (v5 - v5 / 4 * 4) then (0 : Int32) else if (F8_isLevel v1 v2 v3 (v5 / 4) (v5 - v5 / 4 * 4) m) = 0 then (0 : Int32) else 1 : Int32) = 0 by rw [if_pos h9]]) rfl J4
      · skip
        have hD := hD h9
        refine s_iload eX8_balanced_36 rfl ?_
        refine s_aload_n eX8_balanced_38 rfl rfl ?_
        refine s_iload_n eX8_balanced_39 rfl rfl ?_
        obtain ⟨q10, hD⟩ := hD
        refine n_callVi (As := [.int v3]) eX8_balanced_40 kX8_carries lX8_252 rfl rfl shp_74 rfl rfl (Nat.le_of_ble_eq_true rfl) (Nat.le_of_ble_eq_true rfl) (Nat.le_of_ble_eq_true rfl) (uX8_carries v3 m q10) ?_
        refine s_icmp_gt eX8_balanced_43 (fun h11 => ?_) (fun h11 => ?_)
        · skip
          refine s_iconst (v := 0) eX8_balanced_64 rfl ?_
          exact ax_eqN rfl (by rw [show (if (F8_carries v2 m) < (v5 / 4) then (0 : Int32) else if (F8_carries v3 m) < (v5 - v5 / 4 * 4) then (0 : Int32) else if (F8_isLevel v1 v2 v3 (v5 / 4) (v5 - v5 / 4 * 4) m) = 0 then (0 : Int32) else 1 : Int32) = 0 by rw [if_neg h9, if_pos h11]]) rfl J4
        · skip
          have hD := hD h11
          refine s_aload_n eX8_balanced_46 rfl rfl ?_
          refine s_iload_n eX8_balanced_47 rfl rfl ?_
          refine s_iload_n eX8_balanced_48 rfl rfl ?_
          refine s_iload_n eX8_balanced_49 rfl rfl ?_
          refine s_iload eX8_balanced_50 rfl ?_
          refine s_iload eX8_balanced_52 rfl ?_
          have q12 := hD
          refine n_callVi (As := [.int v1, .int v2, .int v3, .int (v5 / 4), .int (v5 - v5 / 4 * 4)]) eX8_balanced_54 kX8_isLevel lX8_255 rfl rfl shp_74 rfl rfl (Nat.le_of_ble_eq_true rfl) (Nat.le_of_ble_eq_true rfl) (Nat.le_of_ble_eq_true rfl) (uX8_isLevel v1 v2 v3 (v5 / 4) (v5 - v5 / 4 * 4) m q12) ?_
          refine s_if_eq eX8_balanced_57 (fun h13 => ?_) (fun h13 => ?_)
          · skip
            refine s_iconst (v := 0) eX8_balanced_64 rfl ?_
            exact ax_eqN rfl (by rw [show (if (F8_carries v2 m) < (v5 / 4) then (0 : Int32) else if (F8_carries v3 m) < (v5 - v5 / 4 * 4) then (0 : Int32) else if (F8_isLevel v1 v2 v3 (v5 / 4) (v5 - v5 / 4 * 4) m) = 0 then (0 : Int32) else 1 : Int32) = 0 by rw [if_neg h9, if_neg h11, if_pos h13]]) rfl J4
          · skip
            refine s_iconst (v := 1) eX8_balanced_60 rfl ?_
            refine s_goto eX8_balanced_61 ?_
            exact ax_eqN rfl (by rw [show (if (F8_carries v2 m) < (v5 / 4) then (0 : Int32) else if (F8_carries v3 m) < (v5 - v5 / 4 * 4) then (0 : Int32) else if (F8_isLevel v1 v2 v3 (v5 / 4) (v5 - v5 / 4 * 4) m) = 0 then (0 : Int32) else 1 : Int32) = 1 by rw [if_neg h9, if_neg h11, if_neg h13]]) rfl J4
theorem uX8_balanced (a1 : Int32) (a2 : Int32) (a3 : Int32) (m : ax_M) (hD : D8_balanced a1 a2 a3 m) : ax_NM 2 Y8_balanced [.ref 74, .int a1, .int a2, .int a3] m (fun r m1 => r = some (.int (F8_balanced a1 a2 a3 m)) ∧ m1 = m) := by
  have E : F8_balanced a1 a2 a3 m = ((L8_balanced_7 64 a1 a2 a3 ((-4)) 0 m).1) := rfl
  unfold D8_balanced at hD
  show ax_N 2 Y8_balanced 0 [some (.ref 74), some (.int a1), some (.int a2), some (.int a3), none, none, none, none, none] [] m _
  refine s_bipush (v := (-4)) eX8_balanced_0 rfl ?_
  refine s_istore (ls' := [some (.ref 74), some (.int a1), some (.int a2), some (.int a3), some (.int ((-4))), none, none, none, none]) eX8_balanced_2 rfl rfl ?_
  refine s_iconst (v := 0) eX8_balanced_4 rfl ?_
  refine s_istore (ls' := [some (.ref 74), some (.int a1), some (.int a2), some (.int a3), some (.int ((-4))), some (.int 0), none, none, none]) eX8_balanced_5 rfl rfl ?_
  have q1 := hD
  refine clX8_balanced_7 64 a1 a2 a3 ((-4)) 0 m q1 ?_
  refine s_iload eX8_balanced_119 rfl ?_
  exact s_iret eX8_balanced_121 rfl ⟨rfl, by rw [E], rfl⟩
theorem uX8_balance (a1 : Int32) (a2 : Int32) (a3 : Int32) (a4 : Int32) (m : ax_M) (hD : D8_balance a1 a2 a3 a4 m) : ax_NM 3 Y8_balance [.ref 74, .int a1, .int a2, .int a3, .int a4] m (fun r m1 => r = some (.int (F8_balance a1 a2 a3 a4 m)) ∧ m1 = m) := by
  have E : F8_balance a1 a2 a3 a4 m = (if (F8_areTwo a1 a2 a3 m) = 0 then ((-1)) else (if (F8_in (Int32.toInt64 a4) 0 2 m) = 0 then ((-1)) else (if (F8_isPair a1 a2 a3 m) = 0 then ((-2)) else (if (F8_mayGo a1 a2 a3 m) = 0 then ((-2)) else (if (F8_balanced a1 a2 a3 m) = ((-4)) then ((-4)) else (if a4 = 0 then (((F8_balanced a1 a2 a3 m) / 10) + ((F8_balanced a1 a2 a3 m) - (F8_balanced a1 a2 a3 m) / 10 * 10)) else (if a4 = 1 then ((F8_balanced a1 a2 a3 m) / 10) else ((F8_balanced a1 a2 a3 m) - (F8_balanced a1 a2 a3 m) / 10 * 10)))))))) := rfl
  unfold D8_balance at hD
  show ax_N 3 Y8_balance 0 [some (.ref 74), some (.int a1), some (.int a2), some (.int a3), some (.int a4), none] [] m _
  refine s_aload_n eX8_balance_0 rfl rfl ?_
  refine s_iload_n eX8_balance_1 rfl rfl ?_
  refine s_iload_n eX8_balance_2 rfl rfl ?_
  refine s_iload_n eX8_balance_3 rfl rfl ?_
  refine n_callVi (As := [.int a1, .int a2, .int a3]) eX8_balance_4 kX8_areTwo lX8_259 rfl rfl shp_74 rfl rfl (Nat.le_of_ble_eq_true rfl) (Nat.le_of_ble_eq_true rfl) (Nat.le_of_ble_eq_true rfl) (uX8_areTwo a1 a2 a3 m) ?_
  refine s_if_eq eX8_balance_7 (fun h1 => ?_) (fun h1 => ?_)
  · skip
    rw [if_pos h1] at E
    refine s_iconst (v := (-1)) eX8_balance_23 rfl ?_
    exact s_iret eX8_balance_24 rfl ⟨rfl, by rw [E], rfl⟩
  · skip
    rw [if_neg h1] at E
    have hD := hD h1
    refine s_iload eX8_balance_10 rfl ?_
    refine s_i2l eX8_balance_12 ?_
    refine s_lconst (v := 0) eX8_balance_13 rfl ?_
    refine s_ldc2 eX8_balance_14 qX8_215 ?_
    refine n_callSi (As := [.long (Int32.toInt64 a4), .long 0, .long 2]) eX8_balance_17 kX8_in lX8_87 rfl rfl (Nat.le_of_ble_eq_true rfl) (Nat.le_of_ble_eq_true rfl) (Nat.le_of_ble_eq_true rfl) (uX8_in (Int32.toInt64 a4) 0 2 m) ?_
    refine s_if_ne eX8_balance_20 (fun h2 => ?_) (fun h2 => ?_)
    · skip
      rw [if_neg h2] at E
      have hD := hD h2
      refine s_aload_n eX8_balance_25 rfl rfl ?_
      refine s_iload_n eX8_balance_26 rfl rfl ?_
      refine s_iload_n eX8_balance_27 rfl rfl ?_
      refine s_iload_n eX8_balance_28 rfl rfl ?_
      obtain ⟨q3, hD⟩ := hD
      refine n_callVi (As := [.int a1, .int a2, .int a3]) eX8_balance_29 kX8_isPair lX8_245 rfl rfl shp_74 rfl rfl (Nat.le_of_ble_eq_true rfl) (Nat.le_of_ble_eq_true rfl) (Nat.le_of_ble_eq_true rfl) (uX8_isPair a1 a2 a3 m q3) ?_
      refine s_if_eq eX8_balance_32 (fun h4 => ?_) (fun h4 => ?_)
      · skip
        rw [if_pos h4] at E
        refine s_bipush (v := (-2)) eX8_balance_45 rfl ?_
        exact s_iret eX8_balance_47 rfl ⟨rfl, by rw [E], rfl⟩
      · skip
        rw [if_neg h4] at E
        have hD := hD h4
        refine s_aload_n eX8_balance_35 rfl rfl ?_
        refine s_iload_n eX8_balance_36 rfl rfl ?_
        refine s_iload_n eX8_balance_37 rfl rfl ?_
        refine s_iload_n eX8_balance_38 rfl rfl ?_
        obtain ⟨q5, hD⟩ := hD
        refine n_callVi (As := [.int a1, .int a2, .int a3]) eX8_balance_39 kX8_mayGo lX8_249 rfl rfl shp_74 rfl rfl (Nat.le_of_ble_eq_true rfl) (Nat.le_of_ble_eq_true rfl) (Nat.le_of_ble_eq_true rfl) (uX8_mayGo a1 a2 a3 m q5) ?_
        refine s_if_ne eX8_balance_42 (fun h6 => ?_) (fun h6 => ?_)
        · skip
          rw [if_neg h6] at E
          have hD := hD h6
          refine s_aload_n eX8_balance_48 rfl rfl ?_
          refine s_iload_n eX8_balance_49 rfl rfl ?_
          refine s_iload_n eX8_balance_50 rfl rfl ?_
          refine s_iload_n eX8_balance_51 rfl rfl ?_
          have q7 := hD
          refine n_callVi (As := [.int a1, .int a2, .int a3]) eX8_balance_52 kX8_balanced lX8_273 rfl rfl shp_74 rfl rfl (Nat.le_of_ble_eq_true rfl) (Nat.le_of_ble_eq_true rfl) (Nat.le_of_ble_eq_true rfl) (uX8_balanced a1 a2 a3 m q7) ?_
          refine s_istore (ls' := [some (.ref 74), some (.int a1), some (.int a2), some (.int a3), some (.int a4), some (.int (F8_balanced a1 a2 a3 m))]) eX8_balance_55 rfl rfl ?_
          refine s_iload eX8_balance_57 rfl ?_
          refine s_bipush (v := (-4)) eX8_balance_59 rfl ?_
          refine s_icmp_ne eX8_balance_61 (fun h8 => ?_) (fun h8 => ?_)
          · skip
            rw [if_neg h8] at E
            refine s_iload eX8_balance_69 rfl ?_
            refine s_if_ne eX8_balance_71 (fun h9 => ?_) (fun h9 => ?_)
            · skip
              rw [if_neg h9] at E
              refine s_iload eX8_balance_88 rfl ?_
              refine s_iconst (v := 1) eX8_balance_90 rfl ?_
              refine s_icmp_ne eX8_balance_91 (fun h10 => ?_) (fun h10 => ?_)
              · skip
                rw [if_neg h10] at E
                refine s_iload eX8_balance_102 rfl ?_
                refine s_bipush (v := 10) eX8_balance_104 rfl ?_
                refine s_irem eX8_balance_106 (by decide) ?_
                exact s_iret eX8_balance_107 rfl ⟨rfl, by rw [E], rfl⟩
              · skip
                rw [if_pos h10] at E
                refine s_iload eX8_balance_94 rfl ?_
                refine s_bipush (v := 10) eX8_balance_96 rfl ?_
                refine s_idiv eX8_balance_98 (by decide) ?_
                refine s_goto eX8_balance_99 ?_
                exact s_iret eX8_balance_107 rfl ⟨rfl, by rw [E], rfl⟩
            · skip
              rw [if_pos h9] at E
              refine s_iload eX8_balance_74 rfl ?_
              refine s_bipush (v := 10) eX8_balance_76 rfl ?_
              refine s_idiv eX8_balance_78 (by decide) ?_
              refine s_iload eX8_balance_79 rfl ?_
              refine s_bipush (v := 10) eX8_balance_81 rfl ?_
              refine s_irem eX8_balance_83 (by decide) ?_
              refine s_iadd eX8_balance_84 ?_
              refine s_goto eX8_balance_85 ?_
              exact s_iret eX8_balance_107 rfl ⟨rfl, by rw [E], rfl⟩
          · skip
            rw [if_pos h8] at E
            refine s_bipush (v := (-4)) eX8_balance_64 rfl ?_
            refine s_goto eX8_balance_66 ?_
            exact s_iret eX8_balance_107 rfl ⟨rfl, by rw [E], rfl⟩
        · skip
          rw [if_pos h6] at E
          refine s_bipush (v := (-2)) eX8_balance_45 rfl ?_
          exact s_iret eX8_balance_47 rfl ⟨rfl, by rw [E], rfl⟩
    · skip
      rw [if_pos h2] at E
      refine s_iconst (v := (-1)) eX8_balance_23 rfl ?_
      exact s_iret eX8_balance_24 rfl ⟨rfl, by rw [E], rfl⟩
theorem clX8_fellows_71 {P : Option Value → ax_M → Prop} : ∀ (n : Nat) (v1 v2 v3 v4 v5 : Int32) (m : ax_M), E8_fellows_71 n v1 v2 v3 v4 v5 m → (ax_N 3 Y8_fellows 150 [some (.ref 74), some (.int v1), some (.int v2), some (.int v3), some (.int ((L8_fellows_71 n v1 v2 v3 v4 v5 m).1)), some (.int ((L8_fellows_71 n v1 v2 v3 v4 v5 m).2)), none] [] m P) → ax_N 3 Y8_fellows 71 [some (.ref 74), some (.int v1), some (.int v2), some (.int v3), some (.int v4), some (.int v5), none] [] m P := by
  intro n
  induction n with
  | zero => intro v1 v2 v3 v4 v5 m hD; exact absurd hD id
  | succ n ih =>
    intro v1 v2 v3 v4 v5 m hD hx
    have E : L8_fellows_71 (n + 1) v1 v2 v3 v4 v5 m = (if (m 74 3) ≤ v5 then (v4, v5) else L8_fellows_71 n v1 v2 v3 (v4 ||| (if (if v5 = v2 then (0 : Int32) else if v3 = 0 then (if (F8_canCross v1 v5 v2 0 0 m) = 0 then (0 : Int32) else 1 : Int32) else if (F8_canCross v1 v2 v5 0 0 m) = 0 then (0 : Int32) else 1) = 0 then (0 : Int32) else (1 : Int32) <<< (v5 &&& (31 : Int32)))) (v5 + 1) m) := by rw [L8_fellows_71]
    have hD : ((¬ ((m 74 3) ≤ v5) → ((¬ (v5 = v2) → ((((v3 = 0) → ((D8_canCross v1 v5 v2 0 0 m))) ∧ (¬ (v3 = 0) → ((D8_canCross v1 v2 v5 0 0 m)))))) ∧ (E8_fellows_71 n v1 v2 v3 (v4 ||| (if (if v5 = v2 then (0 : Int32) else if v3 = 0 then (if (F8_canCross v1 v5 v2 0 0 m) = 0 then (0 : Int32) else 1 : Int32) else if (F8_canCross v1 v2 v5 0 0 m) = 0 then (0 : Int32) else 1) = 0 then (0 : Int32) else (1 : Int32) <<< (v5 &&& (31 : Int32)))) (v5 + 1) m)))) := hD
    refine s_iload eX8_fellows_71 rfl ?_
    refine s_aload_n eX8_fellows_73 rfl rfl ?_
    refine s_geti eX8_fellows_74 fX8_202 shp_74 rfl ?_
    refine s_icmp_ge eX8_fellows_77 (fun h1 => ?_) (fun h1 => ?_)
    · skip
      rw [if_pos h1] at E
      rw [E] at hx
      exact hx
    · skip
      rw [if_neg h1] at E
      have hD := hD h1
      refine s_iload eX8_fellows_80 rfl ?_
      refine s_iload_n eX8_fellows_82 rfl rfl ?_
      obtain ⟨s2, hD⟩ := hD
      have J3 : ax_N 3 Y8_fellows 124 [some (.ref 74), some (.int v1), some (.int v2), some (.int v3), some (.int v4), some (.int v5), none] [.int (if v5 = v2 then (0 : Int32) else if v3 = 0 then (if (F8_canCross v1 v5 v2 0 0 m) = 0 then (0 : Int32) else 1 : Int32) else if (F8_canCross v1 v2 v5 0 0 m) = 0 then (0 : Int32) else 1)] m P := by
        refine s_istore (ls' := [some (.ref 74), some (.int v1), some (.int v2), some (.int v3), some (.int v4), some (.int v5), some (.int (if v5 = v2 then (0 : Int32) else if v3 = 0 then (if (F8_canCross v1 v5 v2 0 0 m) = 0 then (0 : Int32) else 1 : Int32) else if (F8_canCross v1 v2 v5 0 0 m) = 0 then (0 : Int32) else 1))]) eX8_fellows_124 rfl rfl ?_
        refine s_iload eX8_fellows_126 rfl ?_
        refine s_iload eX8_fellows_128 rfl ?_
        have J4 : ax_N 3 Y8_fellows 141 [some (.ref 74), some (.int v1), some (.int v2), some (.int v3), some (.int v4), some (.int v5), some (.int (if v5 = v2 then (0 : Int32) else if v3 = 0 then (if (F8_canCross v1 v5 v2 0 0 m) = 0 then (0 : Int32) else 1 : Int32) else if (F8_canCross v1 v2 v5 0 0 m) = 0 then (0 : Int32) else 1))] [.int (if (if v5 = v2 then (0 : Int32) else if v3 = 0 then (if (F8_canCross v1 v5 v2 0 0 m) = 0 then (0 : Int32) else 1 : Int32) else if (F8_canCross v1 v2 v5 0 0 m) = 0 then (0 : Int32) else 1) = 0 then (0 : Int32) else (1 : Int32) <<< (v5 &&& (31 : Int32))), .int v4] m P := by
          refine s_ior eX8_fellows_141 ?_
          refine s_istore (ls' := [some (.ref 74), some (.int v1), some (.int v2), some (.int v3), some (.int (v4 ||| (if (if v5 = v2 then (0 : Int32) else if v3 = 0 then (if (F8_canCross v1 v5 v2 0 0 m) = 0 then (0 : Int32) else 1 : Int32) else if (F8_canCross v1 v2 v5 0 0 m) = 0 then (0 : Int32) else 1) = 0 then (0 : Int32) else (1 : Int32) <<< (v5 &&& (31 : Int32))))), some (.int v5), some (.int (if v5 = v2 then (0 : Int32) else if v3 = 0 then (if (F8_canCross v1 v5 v2 0 0 m) = 0 then (0 : Int32) else 1 : Int32) else if (F8_canCross v1 v2 v5 0 0 m) = 0 then (0 : Int32) else 1))]) eX8_fellows_142 rfl rfl ?_
          refine s_iinc (v := v5 + 1) (ls' := [some (.ref 74), some (.int v1), some (.int v2), some (.int v3), some (.int (v4 ||| (if (if v5 = v2 then (0 : Int32) else if v3 = 0 then (if (F8_canCross v1 v5 v2 0 0 m) = 0 then (0 : Int32) else 1 : Int32) else if (F8_canCross v1 v2 v5 0 0 m) = 0 then (0 : Int32) else 1) = 0 then (0 : Int32) else (1 : Int32) <<< (v5 &&& (31 : Int32))))), some (.int (v5 + 1)), some (.int (if v5 = v2 then (0 : Int32) else if v3 = 0 then (if (F8_canCross v1 v5 v2 0 0 m) = 0 then (0 : Int32) else 1 : Int32) else if (F8_canCross v1 v2 v5 0 0 m) = 0 then (0 : Int32) else 1))]) eX8_fellows_144 rfl rfl rfl rfl ?_
          refine s_goto eX8_fellows_147 ?_
          refine ax_forget (ls' := [some (.ref 74), some (.int v1), some (.int v2), some (.int v3), some (.int (v4 ||| (if (if v5 = v2 then (0 : Int32) else if v3 = 0 then (if (F8_canCross v1 v5 v2 0 0 m) = 0 then (0 : Int32) else 1 : Int32) else if (F8_canCross v1 v2 v5 0 0 m) = 0 then (0 : Int32) else 1) = 0 then (0 : Int32) else (1 : Int32) <<< (v5 &&& (31 : Int32))))), some (.int (v5 + 1)), none]) rfl ?_
          rw [E] at hx
          exact ih v1 v2 v3 (v4 ||| (if (if v5 = v2 then (0 : Int32) else if v3 = 0 then (if (F8_canCross v1 v5 v2 0 0 m) = 0 then (0 : Int32) else 1 : Int32) else if (F8_canCross v1 v2 v5 0 0 m) = 0 then (0 : Int32) else 1) = 0 then (0 : Int32) else (1 : Int32) <<< (v5 &&& (31 : Int32)))) (v5 + 1) m hD hx
        refine s_if_eq eX8_fellows_130 (fun h5 => ?_) (fun h5 => ?_)
        · skip
          refine s_iconst (v := 0) eX8_fellows_140 rfl ?_
          exact ax_eqN rfl (by rw [show (if (if v5 = v2 then (0 : Int32) else if v3 = 0 then (if (F8_canCross v1 v5 v2 0 0 m) = 0 then (0 : Int32) else 1 : Int32) else if (F8_canCross v1 v2 v5 0 0 m) = 0 then (0 : Int32) else 1) = 0 then (0 : Int32) else (1 : Int32) <<< (v5 &&& (31 : Int32)) : Int32) = 0 by rw [if_pos h5]]) rfl J4
        · skip
          refine s_iconst (v := 1) eX8_fellows_133 rfl ?_
          refine s_iload eX8_fellows_134 rfl ?_
          refine s_ishl eX8_fellows_136 ?_
          refine s_goto eX8_fellows_137 ?_
          exact ax_eqN rfl (by rw [show (if (if v5 = v2 then (0 : Int32) else if v3 = 0 then (if (F8_canCross v1 v5 v2 0 0 m) = 0 then (0 : Int32) else 1 : Int32) else if (F8_canCross v1 v2 v5 0 0 m) = 0 then (0 : Int32) else 1) = 0 then (0 : Int32) else (1 : Int32) <<< (v5 &&& (31 : Int32)) : Int32) = (1 : Int32) <<< (v5 &&& (31 : Int32)) by rw [if_neg h5]]) rfl J4
      have hD := s2
      refine s_icmp_eq eX8_fellows_83 (fun h6 => ?_) (fun h6 => ?_)
      · skip
        refine s_iconst (v := 0) eX8_fellows_123 rfl ?_
        exact ax_eqN rfl (by rw [show (if v5 = v2 then (0 : Int32) else if v3 = 0 then (if (F8_canCross v1 v5 v2 0 0 m) = 0 then (0 : Int32) else 1 : Int32) else if (F8_canCross v1 v2 v5 0 0 m) = 0 then (0 : Int32) else 1 : Int32) = 0 by rw [if_pos h6]]) rfl J3
      · skip
        have hD := hD h6
        refine s_iload_n eX8_fellows_86 rfl rfl ?_
        refine s_if_eq eX8_fellows_87 (fun h7 => ?_) (fun h7 => ?_)
        · skip
          have hD := hD.1 h7
          refine s_aload_n eX8_fellows_106 rfl rfl ?_
          refine s_iload_n eX8_fellows_107 rfl rfl ?_
          refine s_iload eX8_fellows_108 rfl ?_
          refine s_iload_n eX8_fellows_110 rfl rfl ?_
          refine s_iconst (v := 0) eX8_fellows_111 rfl ?_
          refine s_iconst (v := 0) eX8_fellows_112 rfl ?_
          have q8 := hD
          refine n_callVi (As := [.int v1, .int v5, .int v2, .int 0, .int 0]) eX8_fellows_113 kX8_canCross lX8_262 rfl rfl shp_74 rfl rfl (Nat.le_of_ble_eq_true rfl) (Nat.le_of_ble_eq_true rfl) (Nat.le_of_ble_eq_true rfl) (uX8_canCross v1 v5 v2 0 0 m q8) ?_
          refine s_if_eq eX8_fellows_116 (fun h9 => ?_) (fun h9 => ?_)
          · skip
            refine s_iconst (v := 0) eX8_fellows_123 rfl ?_
            exact ax_eqN rfl (by rw [show (if v5 = v2 then (0 : Int32) else if v3 = 0 then (if (F8_canCross v1 v5 v2 0 0 m) = 0 then (0 : Int32) else 1 : Int32) else if (F8_canCross v1 v2 v5 0 0 m) = 0 then (0 : Int32) else 1 : Int32) = 0 by rw [if_neg h6, if_pos h7, if_pos h9]]) rfl J3
          · skip
            refine s_iconst (v := 1) eX8_fellows_119 rfl ?_
            refine s_goto eX8_fellows_120 ?_
            exact ax_eqN rfl (by rw [show (if v5 = v2 then (0 : Int32) else if v3 = 0 then (if (F8_canCross v1 v5 v2 0 0 m) = 0 then (0 : Int32) else 1 : Int32) else if (F8_canCross v1 v2 v5 0 0 m) = 0 then (0 : Int32) else 1 : Int32) = 1 by rw [if_neg h6, if_pos h7, if_neg h9]]) rfl J3
        · skip
          have hD := hD.2 h7
          refine s_aload_n eX8_fellows_90 rfl rfl ?_
          refine s_iload_n eX8_fellows_91 rfl rfl ?_
          refine s_iload_n eX8_fellows_92 rfl rfl ?_
          refine s_iload eX8_fellows_93 rfl ?_
          refine s_iconst (v := 0) eX8_fellows_95 rfl ?_
          refine s_iconst (v := 0) eX8_fellows_96 rfl ?_
          have q10 := hD
          refine n_callVi (As := [.int v1, .int v2, .int v5, .int 0, .int 0]) eX8_fellows_97 kX8_canCross lX8_262 rfl rfl shp_74 rfl rfl (Nat.le_of_ble_eq_true rfl) (Nat.le_of_ble_eq_true rfl) (Nat.le_of_ble_eq_true rfl) (uX8_canCross v1 v2 v5 0 0 m q10) ?_
          refine s_if_eq eX8_fellows_100 (fun h11 => ?_) (fun h11 => ?_)
          · skip
            refine s_iconst (v := 0) eX8_fellows_123 rfl ?_
            exact ax_eqN rfl (by rw [show (if v5 = v2 then (0 : Int32) else if v3 = 0 then (if (F8_canCross v1 v5 v2 0 0 m) = 0 then (0 : Int32) else 1 : Int32) else if (F8_canCross v1 v2 v5 0 0 m) = 0 then (0 : Int32) else 1 : Int32) = 0 by rw [if_neg h6, if_neg h7, if_pos h11]]) rfl J3
          · skip
            refine s_goto eX8_fellows_103 ?_
            refine s_iconst (v := 1) eX8_fellows_119 rfl ?_
            refine s_goto eX8_fellows_120 ?_
            exact ax_eqN rfl (by rw [show (if v5 = v2 then (0 : Int32) else if v3 = 0 then (if (F8_canCross v1 v5 v2 0 0 m) = 0 then (0 : Int32) else 1 : Int32) else if (F8_canCross v1 v2 v5 0 0 m) = 0 then (0 : Int32) else 1 : Int32) = 1 by rw [if_neg h6, if_neg h7, if_neg h11]]) rfl J3
theorem uX8_fellows (a1 : Int32) (a2 : Int32) (m : ax_M) (hD : D8_fellows a1 a2 m) : ax_NM 3 Y8_fellows [.ref 74, .int a1, .int a2] m (fun r m1 => r = some (.int (F8_fellows a1 a2 m)) ∧ m1 = m) := by
  have E : F8_fellows a1 a2 m = (if (F8_isBridge a1 m) = 0 then ((-1)) else (if (F8_isOne a2 m) = 0 then ((-1)) else (if (if (F8_bankOf a2 m) = (m 76 (Int32.toNatClampNeg (2 * a1))) then (1 : Int32) else 0) = 0 then (if (F8_bankOf a2 m) = (m 76 (Int32.toNatClampNeg ((2 * a1) + 1))) then ((L8_fellows_71 64 a1 a2 (if (F8_bankOf a2 m) = (m 76 (Int32.toNatClampNeg (2 * a1))) then (1 : Int32) else 0) 0 0 m).1) else ((-2))) else ((L8_fellows_71 64 a1 a2 (if (F8_bankOf a2 m) = (m 76 (Int32.toNatClampNeg (2 * a1))) then (1 : Int32) else 0) 0 0 m).1)))) := rfl
  unfold D8_fellows at hD
  show ax_N 3 Y8_fellows 0 [some (.ref 74), some (.int a1), some (.int a2), none, none, none, none] [] m _
  refine s_aload_n eX8_fellows_0 rfl rfl ?_
  refine s_iload_n eX8_fellows_1 rfl rfl ?_
  refine n_callVi (As := [.int a1]) eX8_fellows_2 kX8_isBridge lX8_208 rfl rfl shp_74 rfl rfl (Nat.le_of_ble_eq_true rfl) (Nat.le_of_ble_eq_true rfl) (Nat.le_of_ble_eq_true rfl) (uX8_isBridge a1 m) ?_
  refine s_if_eq eX8_fellows_5 (fun h1 => ?_) (fun h1 => ?_)
  · skip
    rw [if_pos h1] at E
    refine s_iconst (v := (-1)) eX8_fellows_16 rfl ?_
    exact s_iret eX8_fellows_17 rfl ⟨rfl, by rw [E], rfl⟩
  · skip
    rw [if_neg h1] at E
    have hD := hD h1
    refine s_aload_n eX8_fellows_8 rfl rfl ?_
    refine s_iload_n eX8_fellows_9 rfl rfl ?_
    refine n_callVi (As := [.int a2]) eX8_fellows_10 kX8_isOne lX8_212 rfl rfl shp_74 rfl rfl (Nat.le_of_ble_eq_true rfl) (Nat.le_of_ble_eq_true rfl) (Nat.le_of_ble_eq_true rfl) (uX8_isOne a2 m) ?_
    refine s_if_ne eX8_fellows_13 (fun h2 => ?_) (fun h2 => ?_)
    · skip
      rw [if_neg h2] at E
      have hD := hD h2
      refine s_aload_n eX8_fellows_18 rfl rfl ?_
      refine s_iload_n eX8_fellows_19 rfl rfl ?_
      obtain ⟨q3, hD⟩ := hD
      refine n_callVi (As := [.int a2]) eX8_fellows_20 kX8_bankOf lX8_239 rfl rfl shp_74 rfl rfl (Nat.le_of_ble_eq_true rfl) (Nat.le_of_ble_eq_true rfl) (Nat.le_of_ble_eq_true rfl) (uX8_bankOf a2 m q3) ?_
      refine s_aload_n eX8_fellows_23 rfl rfl ?_
      refine s_getr (q := 76) eX8_fellows_24 fX8_13 shp_74 rfl ?_
      refine s_iconst (v := 2) eX8_fellows_27 rfl ?_
      refine s_iload_n eX8_fellows_28 rfl rfl ?_
      refine s_imul eX8_fellows_29 ?_
      obtain ⟨q4, hD⟩ := hD
      refine s_iald eX8_fellows_30 shp_76 q4 ?_
      have J5 : ax_N 3 Y8_fellows 39 [some (.ref 74), some (.int a1), some (.int a2), none, none, none, none] [.int (if (F8_bankOf a2 m) = (m 76 (Int32.toNatClampNeg (2 * a1))) then (1 : Int32) else 0)] m (fun r m1 => r = some (.int (F8_fellows a1 a2 m)) ∧ m1 = m) := by
        refine s_istore_n (ls' := [some (.ref 74), some (.int a1), some (.int a2), some (.int (if (F8_bankOf a2 m) = (m 76 (Int32.toNatClampNeg (2 * a1))) then (1 : Int32) else 0)), none, none, none]) eX8_fellows_39 rfl rfl rfl ?_
        refine s_iload_n eX8_fellows_40 rfl rfl ?_
        refine s_if_ne eX8_fellows_41 (fun h6 => ?_) (fun h6 => ?_)
        · skip
          rw [if_neg h6] at E
          have hD := hD.2 h6
          refine s_iconst (v := 0) eX8_fellows_65 rfl ?_
          refine s_istore (ls' := [some (.ref 74), some (.int a1), some (.int a2), some (.int (if (F8_bankOf a2 m) = (m 76 (Int32.toNatClampNeg (2 * a1))) then (1 : Int32) else 0)), some (.int 0), none, none]) eX8_fellows_66 rfl rfl ?_
          refine s_iconst (v := 0) eX8_fellows_68 rfl ?_
          refine s_istore (ls' := [some (.ref 74), some (.int a1), some (.int a2), some (.int (if (F8_bankOf a2 m) = (m 76 (Int32.toNatClampNeg (2 * a1))) then (1 : Int32) else 0)), some (.int 0), some (.int 0), none]) eX8_fellows_69 rfl rfl ?_
          have q7 := hD
          refine clX8_fellows_71 64 a1 a2 (if (F8_bankOf a2 m) = (m 76 (Int32.toNatClampNeg (2 * a1))) then (1 : Int32) else 0) 0 0 m q7 ?_
          refine s_iload eX8_fellows_150 rfl ?_
          exact s_iret eX8_fellows_152 rfl ⟨rfl, by rw [E], rfl⟩
        · skip
          rw [if_pos h6] at E
          have hD := hD.1 h6
          refine s_aload_n eX8_fellows_44 rfl rfl ?_
          refine s_iload_n eX8_fellows_45 rfl rfl ?_
          obtain ⟨q8, hD⟩ := hD
          refine n_callVi (As := [.int a2]) eX8_fellows_46 kX8_bankOf lX8_239 rfl rfl shp_74 rfl rfl (Nat.le_of_ble_eq_true rfl) (Nat.le_of_ble_eq_true rfl) (Nat.le_of_ble_eq_true rfl) (uX8_bankOf a2 m q8) ?_
          refine s_aload_n eX8_fellows_49 rfl rfl ?_
          refine s_getr (q := 76) eX8_fellows_50 fX8_13 shp_74 rfl ?_
          refine s_iconst (v := 2) eX8_fellows_53 rfl ?_
          refine s_iload_n eX8_fellows_54 rfl rfl ?_
          refine s_imul eX8_fellows_55 ?_
          refine s_iconst (v := 1) eX8_fellows_56 rfl ?_
          refine s_iadd eX8_fellows_57 ?_
          obtain ⟨q9, hD⟩ := hD
          refine s_iald eX8_fellows_58 shp_76 q9 ?_
          refine s_icmp_eq eX8_fellows_59 (fun h10 => ?_) (fun h10 => ?_)
          · skip
            rw [if_pos h10] at E
            have hD := hD h10
            refine s_iconst (v := 0) eX8_fellows_65 rfl ?_
            refine s_istore (ls' := [some (.ref 74), some (.int a1), some (.int a2), some (.int (if (F8_bankOf a2 m) = (m 76 (Int32.toNatClampNeg (2 * a1))) then (1 : Int32) else 0)), some (.int 0), none, none]) eX8_fellows_66 rfl rfl ?_
            refine s_iconst (v := 0) eX8_fellows_68 rfl ?_
            refine s_istore (ls' := [some (.ref 74), some (.int a1), some (.int a2), some (.int (if (F8_bankOf a2 m) = (m 76 (Int32.toNatClampNeg (2 * a1))) then (1 : Int32) else 0)), some (.int 0), some (.int 0), none]) eX8_fellows_69 rfl rfl ?_
            have q11 := hD
            refine clX8_fellows_71 64 a1 a2 (if (F8_bankOf a2 m) = (m 76 (Int32.toNatClampNeg (2 * a1))) then (1 : Int32) else 0) 0 0 m q11 ?_
            refine s_iload eX8_fellows_150 rfl ?_
            exact s_iret eX8_fellows_152 rfl ⟨rfl, by rw [E], rfl⟩
          · skip
            rw [if_neg h10] at E
            refine s_bipush (v := (-2)) eX8_fellows_62 rfl ?_
            exact s_iret eX8_fellows_64 rfl ⟨rfl, by rw [E], rfl⟩
      refine s_icmp_ne eX8_fellows_31 (fun h12 => ?_) (fun h12 => ?_)
      · skip
        refine s_iconst (v := 0) eX8_fellows_38 rfl ?_
        exact ax_eqN rfl (by rw [show (if (F8_bankOf a2 m) = (m 76 (Int32.toNatClampNeg (2 * a1))) then (1 : Int32) else 0 : Int32) = 0 by rw [if_neg h12]]) rfl J5
      · skip
        refine s_iconst (v := 1) eX8_fellows_34 rfl ?_
        refine s_goto eX8_fellows_35 ?_
        exact ax_eqN rfl (by rw [show (if (F8_bankOf a2 m) = (m 76 (Int32.toNatClampNeg (2 * a1))) then (1 : Int32) else 0 : Int32) = 1 by rw [if_pos h12]]) rfl J5
    · skip
      rw [if_pos h2] at E
      refine s_iconst (v := (-1)) eX8_fellows_16 rfl ?_
      exact s_iret eX8_fellows_17 rfl ⟨rfl, by rw [E], rfl⟩
theorem uX8_worthOf (a1 : Int32) (a2 : Int32) (a3 : Int32) (a4 : Int32) (m : ax_M) (hD : D8_worthOf a1 a2 a3 a4 m) : ax_NM 3 Y8_worthOf [.ref 74, .int a1, .int a2, .int a3, .int a4] m (fun r m1 => r = some (.int (F8_worthOf a1 a2 a3 a4 m)) ∧ m1 = m) := by
  have E : F8_worthOf a1 a2 a3 a4 m = (if (F8_mayGo a1 a2 a3 m) = 0 then ((-4)) else (if (if a4 = 0 then (if (F8_isLevel a1 a2 a3 0 0 m) = 0 then ((-4) : Int32) else 0 : Int32) else F8_balanced a1 a2 a3 m) = ((-4)) then ((-4)) else ((1000 - ((if a4 = 0 then (if (F8_isLevel a1 a2 a3 0 0 m) = 0 then ((-4) : Int32) else 0 : Int32) else F8_balanced a1 a2 a3 m) / 10)) - ((if a4 = 0 then (if (F8_isLevel a1 a2 a3 0 0 m) = 0 then ((-4) : Int32) else 0 : Int32) else F8_balanced a1 a2 a3 m) - (if a4 = 0 then (if (F8_isLevel a1 a2 a3 0 0 m) = 0 then ((-4) : Int32) else 0 : Int32) else F8_balanced a1 a2 a3 m) / 10 * 10)))) := rfl
  unfold D8_worthOf at hD
  show ax_N 3 Y8_worthOf 0 [some (.ref 74), some (.int a1), some (.int a2), some (.int a3), some (.int a4), none] [] m _
  refine s_aload_n eX8_worthOf_0 rfl rfl ?_
  refine s_iload_n eX8_worthOf_1 rfl rfl ?_
  refine s_iload_n eX8_worthOf_2 rfl rfl ?_
  refine s_iload_n eX8_worthOf_3 rfl rfl ?_
  obtain ⟨q1, hD⟩ := hD
  refine n_callVi (As := [.int a1, .int a2, .int a3]) eX8_worthOf_4 kX8_mayGo lX8_249 rfl rfl shp_74 rfl rfl (Nat.le_of_ble_eq_true rfl) (Nat.le_of_ble_eq_true rfl) (Nat.le_of_ble_eq_true rfl) (uX8_mayGo a1 a2 a3 m q1) ?_
  refine s_if_ne eX8_worthOf_7 (fun h2 => ?_) (fun h2 => ?_)
  · skip
    rw [if_neg h2] at E
    have hD := hD h2
    refine s_iload eX8_worthOf_13 rfl ?_
    have J3 : ax_N 3 Y8_worthOf 46 [some (.ref 74), some (.int a1), some (.int a2), some (.int a3), some (.int a4), none] [.int (if a4 = 0 then (if (F8_isLevel a1 a2 a3 0 0 m) = 0 then ((-4) : Int32) else 0 : Int32) else F8_balanced a1 a2 a3 m)] m (fun r m1 => r = some (.int (F8_worthOf a1 a2 a3 a4 m)) ∧ m1 = m) := by
      refine s_istore (ls' := [some (.ref 74), some (.int a1), some (.int a2), some (.int a3), some (.int a4), some (.int (if a4 = 0 then (if (F8_isLevel a1 a2 a3 0 0 m) = 0 then ((-4) : Int32) else 0 : Int32) else F8_balanced a1 a2 a3 m))]) eX8_worthOf_46 rfl rfl ?_
      refine s_iload eX8_worthOf_48 rfl ?_
      refine s_bipush (v := (-4)) eX8_worthOf_50 rfl ?_
      refine s_icmp_ne eX8_worthOf_52 (fun h4 => ?_) (fun h4 => ?_)
      · skip
        rw [if_neg h4] at E
        refine s_sipush (v := 1000) eX8_worthOf_60 rfl ?_
        refine s_iload eX8_worthOf_63 rfl ?_
        refine s_bipush (v := 10) eX8_worthOf_65 rfl ?_
        refine s_idiv eX8_worthOf_67 (by decide) ?_
        refine s_isub eX8_worthOf_68 ?_
        refine s_iload eX8_worthOf_69 rfl ?_
        refine s_bipush (v := 10) eX8_worthOf_71 rfl ?_
        refine s_irem eX8_worthOf_73 (by decide) ?_
        refine s_isub eX8_worthOf_74 ?_
        exact s_iret eX8_worthOf_75 rfl ⟨rfl, by rw [E], rfl⟩
      · skip
        rw [if_pos h4] at E
        refine s_bipush (v := (-4)) eX8_worthOf_55 rfl ?_
        refine s_goto eX8_worthOf_57 ?_
        exact s_iret eX8_worthOf_75 rfl ⟨rfl, by rw [E], rfl⟩
    refine s_if_eq eX8_worthOf_15 (fun h5 => ?_) (fun h5 => ?_)
    · skip
      have hD := hD.1 h5
      refine s_aload_n eX8_worthOf_28 rfl rfl ?_
      refine s_iload_n eX8_worthOf_29 rfl rfl ?_
      refine s_iload_n eX8_worthOf_30 rfl rfl ?_
      refine s_iload_n eX8_worthOf_31 rfl rfl ?_
      refine s_iconst (v := 0) eX8_worthOf_32 rfl ?_
      refine s_iconst (v := 0) eX8_worthOf_33 rfl ?_
      have q6 := hD
      refine n_callVi (As := [.int a1, .int a2, .int a3, .int 0, .int 0]) eX8_worthOf_34 kX8_isLevel lX8_255 rfl rfl shp_74 rfl rfl (Nat.le_of_ble_eq_true rfl) (Nat.le_of_ble_eq_true rfl) (Nat.le_of_ble_eq_true rfl) (uX8_isLevel a1 a2 a3 0 0 m q6) ?_
      refine s_if_eq eX8_worthOf_37 (fun h7 => ?_) (fun h7 => ?_)
      · skip
        refine s_bipush (v := (-4)) eX8_worthOf_44 rfl ?_
        exact ax_eqN rfl (by rw [show (if a4 = 0 then (if (F8_isLevel a1 a2 a3 0 0 m) = 0 then ((-4) : Int32) else 0 : Int32) else F8_balanced a1 a2 a3 m : Int32) = (-4) by rw [if_pos h5, if_pos h7]]) rfl J3
      · skip
        refine s_iconst (v := 0) eX8_worthOf_40 rfl ?_
        refine s_goto eX8_worthOf_41 ?_
        exact ax_eqN rfl (by rw [show (if a4 = 0 then (if (F8_isLevel a1 a2 a3 0 0 m) = 0 then ((-4) : Int32) else 0 : Int32) else F8_balanced a1 a2 a3 m : Int32) = 0 by rw [if_pos h5, if_neg h7]]) rfl J3
    · skip
      have hD := hD.2 h5
      refine s_aload_n eX8_worthOf_18 rfl rfl ?_
      refine s_iload_n eX8_worthOf_19 rfl rfl ?_
      refine s_iload_n eX8_worthOf_20 rfl rfl ?_
      refine s_iload_n eX8_worthOf_21 rfl rfl ?_
      have q8 := hD
      refine n_callVi (As := [.int a1, .int a2, .int a3]) eX8_worthOf_22 kX8_balanced lX8_273 rfl rfl shp_74 rfl rfl (Nat.le_of_ble_eq_true rfl) (Nat.le_of_ble_eq_true rfl) (Nat.le_of_ble_eq_true rfl) (uX8_balanced a1 a2 a3 m q8) ?_
      refine s_goto eX8_worthOf_25 ?_
      exact ax_eqN rfl (by rw [show (if a4 = 0 then (if (F8_isLevel a1 a2 a3 0 0 m) = 0 then ((-4) : Int32) else 0 : Int32) else F8_balanced a1 a2 a3 m : Int32) = F8_balanced a1 a2 a3 m by rw [if_neg h5]]) rfl J3
  · skip
    rw [if_pos h2] at E
    refine s_bipush (v := (-4)) eX8_worthOf_10 rfl ?_
    exact s_iret eX8_worthOf_12 rfl ⟨rfl, by rw [E], rfl⟩
theorem uX8_hasErrand (a1 : Int32) (a2 : Int32) (a3 : Int32) (m : ax_M) (hD : D8_hasErrand a1 a2 a3 m) : ax_NM 1 Y8_hasErrand [.ref 74, .int a1, .int a2, .int a3] m (fun r m1 => r = some (.int (F8_hasErrand a1 a2 a3 m)) ∧ m1 = m) := by
  have E : F8_hasErrand a1 a2 a3 m = (if (F8_bankOf a1 m) = a2 then (if (m 75 (Int32.toNatClampNeg ((4 * a1) + 3))) = a3 then 1 else 0) else 0) := rfl
  unfold D8_hasErrand at hD
  show ax_N 1 Y8_hasErrand 0 [some (.ref 74), some (.int a1), some (.int a2), some (.int a3)] [] m _
  refine s_aload_n eX8_hasErrand_0 rfl rfl ?_
  refine s_iload_n eX8_hasErrand_1 rfl rfl ?_
  obtain ⟨q1, hD⟩ := hD
  refine n_callVi (As := [.int a1]) eX8_hasErrand_2 kX8_bankOf lX8_239 rfl rfl shp_74 rfl rfl (Nat.le_of_ble_eq_true rfl) (Nat.le_of_ble_eq_true rfl) (Nat.le_of_ble_eq_true rfl) (uX8_bankOf a1 m q1) ?_
  refine s_iload_n eX8_hasErrand_5 rfl rfl ?_
  refine s_icmp_ne eX8_hasErrand_6 (fun h2 => ?_) (fun h2 => ?_)
  · skip
    rw [if_neg h2] at E
    refine s_iconst (v := 0) eX8_hasErrand_27 rfl ?_
    exact s_zret eX8_hasErrand_28 rfl (by first | exact Or.inl rfl | exact Or.inr rfl | (split <;> simp) | simp) ⟨rfl, by rw [E], rfl⟩
  · skip
    rw [if_pos h2] at E
    have hD := hD h2
    refine s_aload_n eX8_hasErrand_9 rfl rfl ?_
    refine s_getr (q := 75) eX8_hasErrand_10 fX8_7 shp_74 rfl ?_
    refine s_iconst (v := 4) eX8_hasErrand_13 rfl ?_
    refine s_iload_n eX8_hasErrand_14 rfl rfl ?_
    refine s_imul eX8_hasErrand_15 ?_
    refine s_iconst (v := 3) eX8_hasErrand_16 rfl ?_
    refine s_iadd eX8_hasErrand_17 ?_
    have q3 := hD
    refine s_iald eX8_hasErrand_18 shp_75 q3 ?_
    refine s_iload_n eX8_hasErrand_19 rfl rfl ?_
    refine s_icmp_ne eX8_hasErrand_20 (fun h4 => ?_) (fun h4 => ?_)
    · skip
      rw [if_neg h4] at E
      refine s_iconst (v := 0) eX8_hasErrand_27 rfl ?_
      exact s_zret eX8_hasErrand_28 rfl (by first | exact Or.inl rfl | exact Or.inr rfl | (split <;> simp) | simp) ⟨rfl, by rw [E], rfl⟩
    · skip
      rw [if_pos h4] at E
      refine s_iconst (v := 1) eX8_hasErrand_23 rfl ?_
      refine s_goto eX8_hasErrand_24 ?_
      exact s_zret eX8_hasErrand_28 rfl (by first | exact Or.inl rfl | exact Or.inr rfl | (split <;> simp) | simp) ⟨rfl, by rw [E], rfl⟩
theorem uX8_afterPair (a1 : Int32) (a2 : Int32) (a3 : Int32) (a4 : Int32) (a5 : Int32) (m : ax_M) (hD : D8_afterPair a1 a2 a3 a4 a5 m) : ax_NM 4 Y8_afterPair [.ref 74, .int a1, .int a2, .int a3, .int a4, .int a5] m (fun r m1 => r = some (.int (F8_afterPair a1 a2 a3 a4 a5 m)) ∧ m1 = m) := by
  have E : F8_afterPair a1 a2 a3 a4 a5 m = (if ((((m 74 36) &&& (a4 ^^^ ((-1)))) >>> (a3 &&& (31 : Int32))) &&& 1) = 0 then ((-4)) else (if (F8_worthOf a1 (m 84 (Int32.toNatClampNeg a2)) a3 a5 m) = ((-4)) then ((-4)) else ((F8_worthOf a1 (m 84 (Int32.toNatClampNeg a2)) a3 a5 m) + (m 85 (Int32.toNatClampNeg ((128 * (a2 + 1)) + (a4 ||| ((1 : Int32) <<< (a3 &&& (31 : Int32)))))))))) := rfl
  unfold D8_afterPair at hD
  show ax_N 4 Y8_afterPair 0 [some (.ref 74), some (.int a1), some (.int a2), some (.int a3), some (.int a4), some (.int a5), none] [] m _
  refine s_aload_n eX8_afterPair_0 rfl rfl ?_
  refine s_geti eX8_afterPair_1 fX8_279 shp_74 rfl ?_
  refine s_iload eX8_afterPair_4 rfl ?_
  refine s_iconst (v := (-1)) eX8_afterPair_6 rfl ?_
  refine s_ixor eX8_afterPair_7 ?_
  refine s_iand eX8_afterPair_8 ?_
  refine s_iload_n eX8_afterPair_9 rfl rfl ?_
  refine s_ishr eX8_afterPair_10 ?_
  refine s_iconst (v := 1) eX8_afterPair_11 rfl ?_
  refine s_iand eX8_afterPair_12 ?_
  refine s_if_ne eX8_afterPair_13 (fun h1 => ?_) (fun h1 => ?_)
  · skip
    rw [if_neg h1] at E
    have hD := hD h1
    refine s_aload_n eX8_afterPair_19 rfl rfl ?_
    refine s_iload_n eX8_afterPair_20 rfl rfl ?_
    refine s_aload_n eX8_afterPair_21 rfl rfl ?_
    refine s_getr (q := 84) eX8_afterPair_22 fX8_44 shp_74 rfl ?_
    refine s_iload_n eX8_afterPair_25 rfl rfl ?_
    obtain ⟨q2, hD⟩ := hD
    refine s_iald eX8_afterPair_26 shp_84 q2 ?_
    refine s_iload_n eX8_afterPair_27 rfl rfl ?_
    refine s_iload eX8_afterPair_28 rfl ?_
    obtain ⟨q3, hD⟩ := hD
    refine n_callVi (As := [.int a1, .int (m 84 (Int32.toNatClampNeg a2)), .int a3, .int a5]) eX8_afterPair_30 kX8_worthOf lX8_289 rfl rfl shp_74 rfl rfl (Nat.le_of_ble_eq_true rfl) (Nat.le_of_ble_eq_true rfl) (Nat.le_of_ble_eq_true rfl) (uX8_worthOf a1 (m 84 (Int32.toNatClampNeg a2)) a3 a5 m q3) ?_
    refine s_istore (ls' := [some (.ref 74), some (.int a1), some (.int a2), some (.int a3), some (.int a4), some (.int a5), some (.int (F8_worthOf a1 (m 84 (Int32.toNatClampNeg a2)) a3 a5 m))]) eX8_afterPair_33 rfl rfl ?_
    refine s_iload eX8_afterPair_35 rfl ?_
    refine s_bipush (v := (-4)) eX8_afterPair_37 rfl ?_
    refine s_icmp_ne eX8_afterPair_39 (fun h4 => ?_) (fun h4 => ?_)
    · skip
      rw [if_neg h4] at E
      have hD := hD h4
      refine s_iload eX8_afterPair_47 rfl ?_
      refine s_aload_n eX8_afterPair_49 rfl rfl ?_
      refine s_getr (q := 85) eX8_afterPair_50 fX8_47 shp_74 rfl ?_
      refine s_sipush (v := 128) eX8_afterPair_53 rfl ?_
      refine s_iload_n eX8_afterPair_56 rfl rfl ?_
      refine s_iconst (v := 1) eX8_afterPair_57 rfl ?_
      refine s_iadd eX8_afterPair_58 ?_
      refine s_imul eX8_afterPair_59 ?_
      refine s_iload eX8_afterPair_60 rfl ?_
      refine s_iconst (v := 1) eX8_afterPair_62 rfl ?_
      refine s_iload_n eX8_afterPair_63 rfl rfl ?_
      refine s_ishl eX8_afterPair_64 ?_
      refine s_ior eX8_afterPair_65 ?_
      refine s_iadd eX8_afterPair_66 ?_
      have q5 := hD
      refine s_iald eX8_afterPair_67 shp_85 q5 ?_
      refine s_iadd eX8_afterPair_68 ?_
      exact s_iret eX8_afterPair_69 rfl ⟨rfl, by rw [E], rfl⟩
    · skip
      rw [if_pos h4] at E
      refine s_bipush (v := (-4)) eX8_afterPair_42 rfl ?_
      refine s_goto eX8_afterPair_44 ?_
      exact s_iret eX8_afterPair_69 rfl ⟨rfl, by rw [E], rfl⟩
  · skip
    rw [if_pos h1] at E
    refine s_bipush (v := (-4)) eX8_afterPair_16 rfl ?_
    exact s_iret eX8_afterPair_18 rfl ⟨rfl, by rw [E], rfl⟩
