/-! X8_searches X8_plan X8_reach X8_ways X8_tell X8_forget X8_judge -/
theorem clX8_searches_11 {P : Option Value → ax_M → Prop} : ∀ (n : Nat) (v1 v2 v3 : Int32) (m : ax_M), E8_searches_11 n v1 v2 v3 m → (ax_N 4 Y8_searches 31 [some (.ref 74), some (.int v1), some (.int v2), some (.int ((L8_searches_11 n v1 v2 v3 m).1)), none, none, none] [] ((L8_searches_11 n v1 v2 v3 m).2) P) → ax_N 4 Y8_searches 11 [some (.ref 74), some (.int v1), some (.int v2), some (.int v3), none, none, none] [] m P := by
  intro n
  induction n with
  | zero => intro v1 v2 v3 m hD; exact absurd hD id
  | succ n ih =>
    intro v1 v2 v3 m hD hx
    have E : L8_searches_11 (n + 1) v1 v2 v3 m = (if 4096 ≤ v3 then (v3, m) else L8_searches_11 n v1 v2 (v3 + 1) (ax_up m 87 (Int32.toNatClampNeg v3) 0)) := by rw [L8_searches_11]
    have hD : ((¬ (4096 ≤ v3) → ((vp_in v3 4096) ∧ (E8_searches_11 n v1 v2 (v3 + 1) (ax_up m 87 (Int32.toNatClampNeg v3) 0))))) := hD
    refine s_iload_n eX8_searches_11 rfl rfl ?_
    refine s_sipush (v := 4096) eX8_searches_12 rfl ?_
    refine s_icmp_ge eX8_searches_15 (fun h1 => ?_) (fun h1 => ?_)
    · skip
      rw [if_pos h1] at E
      rw [E] at hx
      exact hx
    · skip
      rw [if_neg h1] at E
      have hD := hD h1
      refine s_aload_n eX8_searches_18 rfl rfl ?_
      refine s_getr (q := 87) eX8_searches_19 fX8_53 shp_74 rfl ?_
      refine s_iload_n eX8_searches_22 rfl rfl ?_
      refine s_iconst (v := 0) eX8_searches_23 rfl ?_
      obtain ⟨q2, hD⟩ := hD
      refine s_iast eX8_searches_24 shp_87 q2 ?_
      refine s_iinc (v := v3 + 1) (ls' := [some (.ref 74), some (.int v1), some (.int v2), some (.int (v3 + 1)), none, none, none]) eX8_searches_25 rfl rfl rfl rfl ?_
      refine s_goto eX8_searches_28 ?_
      rw [E] at hx
      exact ih v1 v2 (v3 + 1) ((ax_up m 87 (Int32.toNatClampNeg v3) 0)) hD hx
theorem clX8_searches_79 {P : Option Value → ax_M → Prop} : ∀ (n : Nat) (v1 v2 v3 v4 v5 : Int32) (m : ax_M), E8_searches_79 n v1 v2 v3 v4 v5 m → (ax_N 4 Y8_searches 164 [some (.ref 74), some (.int v1), some (.int v2), some (.int v3), some (.int v4), some (.int ((L8_searches_79 n v1 v2 v3 v4 v5 m).1)), none] [] ((L8_searches_79 n v1 v2 v3 v4 v5 m).2) P) → ax_N 4 Y8_searches 79 [some (.ref 74), some (.int v1), some (.int v2), some (.int v3), some (.int v4), some (.int v5), none] [] m P := by
  intro n
  induction n with
  | zero => intro v1 v2 v3 v4 v5 m hD; exact absurd hD id
  | succ n ih =>
    intro v1 v2 v3 v4 v5 m hD hx
    have E : L8_searches_79 (n + 1) v1 v2 v3 v4 v5 m = (if (100 * (m 74 2)) ≤ v5 then (v5, m) else L8_searches_79 n v1 v2 v3 v4 (v5 + 1) (if (F8_follows v4 v5 m) = ((-4)) then m else (if (m 87 (Int32.toNatClampNeg (F8_follows v4 v5 m))) = 0 then (ax_up (ax_up (ax_up (ax_up m 87 (Int32.toNatClampNeg (F8_follows v4 v5 m)) (v3 + 1)) 88 (Int32.toNatClampNeg (F8_follows v4 v5 m)) v5) 89 (Int32.toNatClampNeg ((ax_up (ax_up m 87 (Int32.toNatClampNeg (F8_follows v4 v5 m)) (v3 + 1)) 88 (Int32.toNatClampNeg (F8_follows v4 v5 m)) v5) 74 42)) (F8_follows v4 v5 m)) 74 42 (((ax_up (ax_up (ax_up m 87 (Int32.toNatClampNeg (F8_follows v4 v5 m)) (v3 + 1)) 88 (Int32.toNatClampNeg (F8_follows v4 v5 m)) v5) 89 (Int32.toNatClampNeg ((ax_up (ax_up m 87 (Int32.toNatClampNeg (F8_follows v4 v5 m)) (v3 + 1)) 88 (Int32.toNatClampNeg (F8_follows v4 v5 m)) v5) 74 42)) (F8_follows v4 v5 m)) 74 42) + 1)) else m))) := by rw [L8_searches_79]
    have hD : ((¬ ((100 * (m 74 2)) ≤ v5) → ((D8_follows v4 v5 m) ∧ (¬ ((F8_follows v4 v5 m) = ((-4))) → ((vp_in (F8_follows v4 v5 m) 4096) ∧ (((m 87 (Int32.toNatClampNeg (F8_follows v4 v5 m))) = 0) → ((vp_in (F8_follows v4 v5 m) 4096) ∧ (vp_in (F8_follows v4 v5 m) 4096) ∧ (vp_in ((ax_up (ax_up m 87 (Int32.toNatClampNeg (F8_follows v4 v5 m)) (v3 + 1)) 88 (Int32.toNatClampNeg (F8_follows v4 v5 m)) v5) 74 42) 4096))))) ∧ (E8_searches_79 n v1 v2 v3 v4 (v5 + 1) (if (F8_follows v4 v5 m) = ((-4)) then m else (if (m 87 (Int32.toNatClampNeg (F8_follows v4 v5 m))) = 0 then (ax_up (ax_up (ax_up (ax_up m 87 (Int32.toNatClampNeg (F8_follows v4 v5 m)) (v3 + 1)) 88 (Int32.toNatClampNeg (F8_follows v4 v5 m)) v5) 89 (Int32.toNatClampNeg ((ax_up (ax_up m 87 (Int32.toNatClampNeg (F8_follows v4 v5 m)) (v3 + 1)) 88 (Int32.toNatClampNeg (F8_follows v4 v5 m)) v5) 74 42)) (F8_follows v4 v5 m)) 74 42 (((ax_up (ax_up (ax_up m 87 (Int32.toNatClampNeg (F8_follows v4 v5 m)) (v3 + 1)) 88 (Int32.toNatClampNeg (F8_follows v4 v5 m)) v5) 89 (Int32.toNatClampNeg ((ax_up (ax_up m 87 (Int32.toNatClampNeg (F8_follows v4 v5 m)) (v3 + 1)) 88 (Int32.toNatClampNeg (F8_follows v4 v5 m)) v5) 74 42)) (F8_follows v4 v5 m)) 74 42) + 1)) else m)))))) := hD
    refine s_iload eX8_searches_79 rfl ?_
    refine s_bipush (v := 100) eX8_searches_81 rfl ?_
    refine s_aload_n eX8_searches_83 rfl rfl ?_
    refine s_geti eX8_searches_84 fX8_199 shp_74 rfl ?_
    refine s_imul eX8_searches_87 ?_
    refine s_icmp_ge eX8_searches_88 (fun h1 => ?_) (fun h1 => ?_)
    · skip
      rw [if_pos h1] at E
      rw [E] at hx
      exact hx
    · skip
      rw [if_neg h1] at E
      have hD := hD h1
      refine s_aload_n eX8_searches_91 rfl rfl ?_
      refine s_iload eX8_searches_92 rfl ?_
      refine s_iload eX8_searches_94 rfl ?_
      obtain ⟨q2, hD⟩ := hD
      refine n_callVi (As := [.int v4, .int v5]) eX8_searches_96 kX8_follows lX8_314 rfl rfl shp_74 rfl rfl (Nat.le_of_ble_eq_true rfl) (Nat.le_of_ble_eq_true rfl) (Nat.le_of_ble_eq_true rfl) (uX8_follows v4 v5 m q2) ?_
      refine s_istore (ls' := [some (.ref 74), some (.int v1), some (.int v2), some (.int v3), some (.int v4), some (.int v5), some (.int (F8_follows v4 v5 m))]) eX8_searches_99 rfl rfl ?_
      refine s_iload eX8_searches_101 rfl ?_
      refine s_bipush (v := (-4)) eX8_searches_103 rfl ?_
      obtain ⟨s3, hD⟩ := hD
      have J4 : ax_N 4 Y8_searches 158 [some (.ref 74), some (.int v1), some (.int v2), some (.int v3), some (.int v4), some (.int v5), some (.int (F8_follows v4 v5 m))] [] ((if (F8_follows v4 v5 m) = ((-4)) then m else (if (m 87 (Int32.toNatClampNeg (F8_follows v4 v5 m))) = 0 then (ax_up (ax_up (ax_up (ax_up m 87 (Int32.toNatClampNeg (F8_follows v4 v5 m)) (v3 + 1)) 88 (Int32.toNatClampNeg (F8_follows v4 v5 m)) v5) 89 (Int32.toNatClampNeg ((ax_up (ax_up m 87 (Int32.toNatClampNeg (F8_follows v4 v5 m)) (v3 + 1)) 88 (Int32.toNatClampNeg (F8_follows v4 v5 m)) v5) 74 42)) (F8_follows v4 v5 m)) 74 42 (((ax_up (ax_up (ax_up m 87 (Int32.toNatClampNeg (F8_follows v4 v5 m)) (v3 + 1)) 88 (Int32.toNatClampNeg (F8_follows v4 v5 m)) v5) 89 (Int32.toNatClampNeg ((ax_up (ax_up m 87 (Int32.toNatClampNeg (F8_follows v4 v5 m)) (v3 + 1)) 88 (Int32.toNatClampNeg (F8_follows v4 v5 m)) v5) 74 42)) (F8_follows v4 v5 m)) 74 42) + 1)) else m))) P := by
        refine s_iinc (v := v5 + 1) (ls' := [some (.ref 74), some (.int v1), some (.int v2), some (.int v3), some (.int v4), some (.int (v5 + 1)), some (.int (F8_follows v4 v5 m))]) eX8_searches_158 rfl rfl rfl rfl ?_
        refine s_goto eX8_searches_161 ?_
        refine ax_forget (ls' := [some (.ref 74), some (.int v1), some (.int v2), some (.int v3), some (.int v4), some (.int (v5 + 1)), none]) rfl ?_
        rw [E] at hx
        exact ih v1 v2 v3 v4 (v5 + 1) ((if (F8_follows v4 v5 m) = ((-4)) then m else (if (m 87 (Int32.toNatClampNeg (F8_follows v4 v5 m))) = 0 then (ax_up (ax_up (ax_up (ax_up m 87 (Int32.toNatClampNeg (F8_follows v4 v5 m)) (v3 + 1)) 88 (Int32.toNatClampNeg (F8_follows v4 v5 m)) v5) 89 (Int32.toNatClampNeg ((ax_up (ax_up m 87 (Int32.toNatClampNeg (F8_follows v4 v5 m)) (v3 + 1)) 88 (Int32.toNatClampNeg (F8_follows v4 v5 m)) v5) 74 42)) (F8_follows v4 v5 m)) 74 42 (((ax_up (ax_up (ax_up m 87 (Int32.toNatClampNeg (F8_follows v4 v5 m)) (v3 + 1)) 88 (Int32.toNatClampNeg (F8_follows v4 v5 m)) v5) 89 (Int32.toNatClampNeg ((ax_up (ax_up m 87 (Int32.toNatClampNeg (F8_follows v4 v5 m)) (v3 + 1)) 88 (Int32.toNatClampNeg (F8_follows v4 v5 m)) v5) 74 42)) (F8_follows v4 v5 m)) 74 42) + 1)) else m))) hD hx
      have hD := s3
      refine s_icmp_eq eX8_searches_105 (fun h5 => ?_) (fun h5 => ?_)
      · skip
        exact ax_eqN rfl rfl (by rw [show ((if (F8_follows v4 v5 m) = ((-4)) then m else (if (m 87 (Int32.toNatClampNeg (F8_follows v4 v5 m))) = 0 then (ax_up (ax_up (ax_up (ax_up m 87 (Int32.toNatClampNeg (F8_follows v4 v5 m)) (v3 + 1)) 88 (Int32.toNatClampNeg (F8_follows v4 v5 m)) v5) 89 (Int32.toNatClampNeg ((ax_up (ax_up m 87 (Int32.toNatClampNeg (F8_follows v4 v5 m)) (v3 + 1)) 88 (Int32.toNatClampNeg (F8_follows v4 v5 m)) v5) 74 42)) (F8_follows v4 v5 m)) 74 42 (((ax_up (ax_up (ax_up m 87 (Int32.toNatClampNeg (F8_follows v4 v5 m)) (v3 + 1)) 88 (Int32.toNatClampNeg (F8_follows v4 v5 m)) v5) 89 (Int32.toNatClampNeg ((ax_up (ax_up m 87 (Int32.toNatClampNeg (F8_follows v4 v5 m)) (v3 + 1)) 88 (Int32.toNatClampNeg (F8_follows v4 v5 m)) v5) 74 42)) (F8_follows v4 v5 m)) 74 42) + 1)) else m)) : ax_M) = m by rw [if_pos h5]]) J4
      · skip
        have hD := hD h5
        refine s_aload_n eX8_searches_108 rfl rfl ?_
        refine s_getr (q := 87) eX8_searches_109 fX8_53 shp_74 rfl ?_
        refine s_iload eX8_searches_112 rfl ?_
        obtain ⟨q6, hD⟩ := hD
        refine s_iald eX8_searches_114 shp_87 q6 ?_
        refine s_if_ne eX8_searches_115 (fun h7 => ?_) (fun h7 => ?_)
        · skip
          exact ax_eqN rfl rfl (by rw [show ((if (F8_follows v4 v5 m) = ((-4)) then m else (if (m 87 (Int32.toNatClampNeg (F8_follows v4 v5 m))) = 0 then (ax_up (ax_up (ax_up (ax_up m 87 (Int32.toNatClampNeg (F8_follows v4 v5 m)) (v3 + 1)) 88 (Int32.toNatClampNeg (F8_follows v4 v5 m)) v5) 89 (Int32.toNatClampNeg ((ax_up (ax_up m 87 (Int32.toNatClampNeg (F8_follows v4 v5 m)) (v3 + 1)) 88 (Int32.toNatClampNeg (F8_follows v4 v5 m)) v5) 74 42)) (F8_follows v4 v5 m)) 74 42 (((ax_up (ax_up (ax_up m 87 (Int32.toNatClampNeg (F8_follows v4 v5 m)) (v3 + 1)) 88 (Int32.toNatClampNeg (F8_follows v4 v5 m)) v5) 89 (Int32.toNatClampNeg ((ax_up (ax_up m 87 (Int32.toNatClampNeg (F8_follows v4 v5 m)) (v3 + 1)) 88 (Int32.toNatClampNeg (F8_follows v4 v5 m)) v5) 74 42)) (F8_follows v4 v5 m)) 74 42) + 1)) else m)) : ax_M) = m by rw [if_neg h5, if_neg h7]]) J4
        · skip
          have hD := hD h7
          refine s_aload_n eX8_searches_118 rfl rfl ?_
          refine s_getr (q := 87) eX8_searches_119 fX8_53 shp_74 rfl ?_
          refine s_iload eX8_searches_122 rfl ?_
          refine s_iload_n eX8_searches_124 rfl rfl ?_
          refine s_iconst (v := 1) eX8_searches_125 rfl ?_
          refine s_iadd eX8_searches_126 ?_
          obtain ⟨q8, hD⟩ := hD
          refine s_iast eX8_searches_127 shp_87 q8 ?_
          refine s_aload_n eX8_searches_128 rfl rfl ?_
          refine s_getr (q := 88) eX8_searches_129 fX8_56 shp_74 rfl ?_
          refine s_iload eX8_searches_132 rfl ?_
          refine s_iload eX8_searches_134 rfl ?_
          obtain ⟨q9, hD⟩ := hD
          refine s_iast eX8_searches_136 shp_88 q9 ?_
          refine s_aload_n eX8_searches_137 rfl rfl ?_
          refine s_getr (q := 89) eX8_searches_138 fX8_59 shp_74 rfl ?_
          refine s_aload_n eX8_searches_141 rfl rfl ?_
          refine s_geti eX8_searches_142 fX8_311 shp_74 rfl ?_
          refine s_iload eX8_searches_145 rfl ?_
          have q10 := hD
          refine s_iast eX8_searches_147 shp_89 q10 ?_
          refine s_aload_n eX8_searches_148 rfl rfl ?_
          refine s_dup eX8_searches_149 rfl ?_
          refine s_geti eX8_searches_150 fX8_311 shp_74 rfl ?_
          refine s_iconst (v := 1) eX8_searches_153 rfl ?_
          refine s_iadd eX8_searches_154 ?_
          refine s_puti eX8_searches_155 fX8_311 pX8_42 rfl rfl shp_74 rfl ?_
          exact ax_eqN rfl rfl (by rw [show ((if (F8_follows v4 v5 m) = ((-4)) then m else (if (m 87 (Int32.toNatClampNeg (F8_follows v4 v5 m))) = 0 then (ax_up (ax_up (ax_up (ax_up m 87 (Int32.toNatClampNeg (F8_follows v4 v5 m)) (v3 + 1)) 88 (Int32.toNatClampNeg (F8_follows v4 v5 m)) v5) 89 (Int32.toNatClampNeg ((ax_up (ax_up m 87 (Int32.toNatClampNeg (F8_follows v4 v5 m)) (v3 + 1)) 88 (Int32.toNatClampNeg (F8_follows v4 v5 m)) v5) 74 42)) (F8_follows v4 v5 m)) 74 42 (((ax_up (ax_up (ax_up m 87 (Int32.toNatClampNeg (F8_follows v4 v5 m)) (v3 + 1)) 88 (Int32.toNatClampNeg (F8_follows v4 v5 m)) v5) 89 (Int32.toNatClampNeg ((ax_up (ax_up m 87 (Int32.toNatClampNeg (F8_follows v4 v5 m)) (v3 + 1)) 88 (Int32.toNatClampNeg (F8_follows v4 v5 m)) v5) 74 42)) (F8_follows v4 v5 m)) 74 42) + 1)) else m)) : ax_M) = (ax_up (ax_up (ax_up (ax_up m 87 (Int32.toNatClampNeg (F8_follows v4 v5 m)) (v3 + 1)) 88 (Int32.toNatClampNeg (F8_follows v4 v5 m)) v5) 89 (Int32.toNatClampNeg ((ax_up (ax_up m 87 (Int32.toNatClampNeg (F8_follows v4 v5 m)) (v3 + 1)) 88 (Int32.toNatClampNeg (F8_follows v4 v5 m)) v5) 74 42)) (F8_follows v4 v5 m)) 74 42 (((ax_up (ax_up (ax_up m 87 (Int32.toNatClampNeg (F8_follows v4 v5 m)) (v3 + 1)) 88 (Int32.toNatClampNeg (F8_follows v4 v5 m)) v5) 89 (Int32.toNatClampNeg ((ax_up (ax_up m 87 (Int32.toNatClampNeg (F8_follows v4 v5 m)) (v3 + 1)) 88 (Int32.toNatClampNeg (F8_follows v4 v5 m)) v5) 74 42)) (F8_follows v4 v5 m)) 74 42) + 1)) by rw [if_neg h5, if_pos h7]]) J4
theorem clX8_searches_52 {P : Option Value → ax_M → Prop} : ∀ (n : Nat) (v1 v2 v3 : Int32) (m : ax_M), E8_searches_52 n v1 v2 v3 m → (∀ r, (L8_searches_52 n v1 v2 v3 m).1 = some r → P (some (.int r)) (L8_searches_52 n v1 v2 v3 m).2.2) → ((L8_searches_52 n v1 v2 v3 m).1 = none → ax_N 4 Y8_searches 170 [some (.ref 74), some (.int v1), some (.int v2), some (.int ((L8_searches_52 n v1 v2 v3 m).2.1)), none, none, none] [] ((L8_searches_52 n v1 v2 v3 m).2.2) P) → ax_N 4 Y8_searches 52 [some (.ref 74), some (.int v1), some (.int v2), some (.int v3), none, none, none] [] m P := by
  intro n
  induction n with
  | zero => intro v1 v2 v3 m hD; exact absurd hD id
  | succ n ih =>
    intro v1 v2 v3 m hD hr hx
    have E : L8_searches_52 (n + 1) v1 v2 v3 m = (if (m 74 42) ≤ v3 then (none, v3, m) else (if (m 89 (Int32.toNatClampNeg v3)) = v1 then (some v3, v3, m) else L8_searches_52 n v1 v2 (v3 + 1) (L8_searches_79 4200 v1 v2 v3 (m 89 (Int32.toNatClampNeg v3)) 0 m).2)) := by rw [L8_searches_52]
    have hD : ((¬ ((m 74 42) ≤ v3) → ((vp_in v3 4096) ∧ (¬ ((m 89 (Int32.toNatClampNeg v3)) = v1) → ((E8_searches_79 4200 v1 v2 v3 (m 89 (Int32.toNatClampNeg v3)) 0 m) ∧ (E8_searches_52 n v1 v2 (v3 + 1) (L8_searches_79 4200 v1 v2 v3 (m 89 (Int32.toNatClampNeg v3)) 0 m).2)))))) := hD
    refine s_iload_n eX8_searches_52 rfl rfl ?_
    refine s_aload_n eX8_searches_53 rfl rfl ?_
    refine s_geti eX8_searches_54 fX8_311 shp_74 rfl ?_
    refine s_icmp_ge eX8_searches_57 (fun h1 => ?_) (fun h1 => ?_)
    · skip
      rw [if_pos h1] at E
      rw [E] at hx
      exact hx rfl
    · skip
      rw [if_neg h1] at E
      have hD := hD h1
      refine s_aload_n eX8_searches_60 rfl rfl ?_
      refine s_getr (q := 89) eX8_searches_61 fX8_59 shp_74 rfl ?_
      refine s_iload_n eX8_searches_64 rfl rfl ?_
      obtain ⟨q2, hD⟩ := hD
      refine s_iald eX8_searches_65 shp_89 q2 ?_
      refine s_istore (ls' := [some (.ref 74), some (.int v1), some (.int v2), some (.int v3), some (.int (m 89 (Int32.toNatClampNeg v3))), none, none]) eX8_searches_66 rfl rfl ?_
      refine s_iload eX8_searches_68 rfl ?_
      refine s_iload_n eX8_searches_70 rfl rfl ?_
      refine s_icmp_ne eX8_searches_71 (fun h3 => ?_) (fun h3 => ?_)
      · skip
        rw [if_neg h3] at E
        have hD := hD h3
        refine s_iconst (v := 0) eX8_searches_76 rfl ?_
        refine s_istore (ls' := [some (.ref 74), some (.int v1), some (.int v2), some (.int v3), some (.int (m 89 (Int32.toNatClampNeg v3))), some (.int 0), none]) eX8_searches_77 rfl rfl ?_
        obtain ⟨q4, hD⟩ := hD
        refine clX8_searches_79 4200 v1 v2 v3 (m 89 (Int32.toNatClampNeg v3)) 0 m q4 ?_
        refine s_iinc (v := v3 + 1) (ls' := [some (.ref 74), some (.int v1), some (.int v2), some (.int (v3 + 1)), some (.int (m 89 (Int32.toNatClampNeg v3))), some (.int ((L8_searches_79 4200 v1 v2 v3 (m 89 (Int32.toNatClampNeg v3)) 0 m).1)), none]) eX8_searches_164 rfl rfl rfl rfl ?_
        refine s_goto eX8_searches_167 ?_
        refine ax_forget (ls' := [some (.ref 74), some (.int v1), some (.int v2), some (.int (v3 + 1)), none, none, none]) rfl ?_
        rw [E] at hr hx
        exact ih v1 v2 (v3 + 1) ((L8_searches_79 4200 v1 v2 v3 (m 89 (Int32.toNatClampNeg v3)) 0 m).2) hD hr hx
      · skip
        rw [if_pos h3] at E
        refine s_iload_n eX8_searches_74 rfl rfl ?_
        rw [E] at hr
        exact s_iret eX8_searches_75 rfl ⟨rfl, hr _ rfl⟩
theorem cK8_searches_50 (v1 v2 v3 : Int32) (m : ax_M) {P : Option Value → ax_M → Prop} (hD : HK8_searches_50 v1 v2 v3 m) (hP : P (some (.int (K8_searches_50 v1 v2 v3 m).1)) (K8_searches_50 v1 v2 v3 m).2) : ax_N 4 Y8_searches 50 [some (.ref 74), some (.int v1), some (.int v2), some (.int v3), none, none, none] [] m P := by
  have E : K8_searches_50 v1 v2 v3 m = (if (L8_searches_52 4200 v1 v2 0 m).1 = none then ((-4), (L8_searches_52 4200 v1 v2 0 m).2.2) else (((L8_searches_52 4200 v1 v2 0 m).1).getD 0, (L8_searches_52 4200 v1 v2 0 m).2.2)) := rfl
  unfold HK8_searches_50 at hD
  refine s_iconst (v := 0) eX8_searches_50 rfl ?_
  refine s_istore_n (ls' := [some (.ref 74), some (.int v1), some (.int v2), some (.int 0), none, none, none]) eX8_searches_51 rfl rfl rfl ?_
  have q1 := hD
  refine clX8_searches_52 4200 v1 v2 0 m q1 (fun x2 h3 => ?_) (fun h3 => ?_)
  · skip
    rw [if_neg (by rw [h3]; exact fun hh => by cases hh), h3] at E
    rw [E] at hP
    exact hP
  · skip
    rw [if_pos h3] at E
    refine s_bipush (v := (-4)) eX8_searches_170 rfl ?_
    rw [E] at hP
    exact s_iret eX8_searches_172 rfl ⟨rfl, hP⟩
theorem cK8_searches_36 (v1 v2 v3 : Int32) (m : ax_M) {P : Option Value → ax_M → Prop} (hD : HK8_searches_36 v1 v2 v3 m) (hP : P (some (.int (K8_searches_36 v1 v2 v3 m).1)) (K8_searches_36 v1 v2 v3 m).2) : ax_N 4 Y8_searches 36 [some (.ref 74), some (.int v1), some (.int v2), some (.int v3), none, none, none] [] m P := by
  have E : K8_searches_36 v1 v2 v3 m = (K8_searches_50 v1 v2 v3 (ax_up (ax_up m 89 (Int32.toNatClampNeg 0) v2) 87 (Int32.toNatClampNeg v2) ((-1)))) := rfl
  unfold HK8_searches_36 at hD
  refine s_aload_n eX8_searches_36 rfl rfl ?_
  refine s_getr (q := 89) eX8_searches_37 fX8_59 shp_74 rfl ?_
  refine s_iconst (v := 0) eX8_searches_40 rfl ?_
  refine s_iload_n eX8_searches_41 rfl rfl ?_
  refine s_iast eX8_searches_42 shp_89 (by unfold vp_in; decide) ?_
  refine s_aload_n eX8_searches_43 rfl rfl ?_
  refine s_getr (q := 87) eX8_searches_44 fX8_53 shp_74 rfl ?_
  refine s_iload_n eX8_searches_47 rfl rfl ?_
  refine s_iconst (v := (-1)) eX8_searches_48 rfl ?_
  obtain ⟨q1, hD⟩ := hD
  refine s_iast eX8_searches_49 shp_87 q1 ?_
  refine cK8_searches_50 v1 v2 v3 ((ax_up (ax_up m 89 (Int32.toNatClampNeg 0) v2) 87 (Int32.toNatClampNeg v2) ((-1)))) hD ?_
  rw [E] at hP
  exact hP
theorem uX8_searches (a1 : Int32) (m : ax_M) (hD : D8_searches a1 m) : ax_NM 4 Y8_searches [.ref 74, .int a1] m (fun r m1 => r = some (.int (F8_searches a1 m).1) ∧ m1 = (F8_searches a1 m).2) := by
  have E : F8_searches a1 m = (K8_searches_36 a1 (F8_codeNow m) ((L8_searches_11 4200 a1 (F8_codeNow m) 0 (F8_layAble m)).1) (ax_up (L8_searches_11 4200 a1 (F8_codeNow m) 0 (F8_layAble m)).2 74 42 1)) := rfl
  unfold D8_searches at hD
  show ax_N 4 Y8_searches 0 [some (.ref 74), some (.int a1), none, none, none, none, none] [] m _
  refine s_aload_n eX8_searches_0 rfl rfl ?_
  obtain ⟨q1, hD⟩ := hD
  refine n_callVi (As := []) eX8_searches_1 kX8_codeNow lX8_305 rfl rfl shp_74 rfl rfl (Nat.le_of_ble_eq_true rfl) (Nat.le_of_ble_eq_true rfl) (Nat.le_of_ble_eq_true rfl) (uX8_codeNow m q1) ?_
  refine s_istore_n (ls' := [some (.ref 74), some (.int a1), some (.int (F8_codeNow m)), none, none, none, none]) eX8_searches_4 rfl rfl rfl ?_
  refine s_aload_n eX8_searches_5 rfl rfl ?_
  obtain ⟨q2, hD⟩ := hD
  refine n_callVv (As := []) eX8_searches_6 kX8_layAble lX8_308 rfl rfl shp_74 rfl rfl (Nat.le_of_ble_eq_true rfl) (Nat.le_of_ble_eq_true rfl) (Nat.le_of_ble_eq_true rfl) (uX8_layAble m q2) ?_
  refine s_iconst (v := 0) eX8_searches_9 rfl ?_
  refine s_istore_n (ls' := [some (.ref 74), some (.int a1), some (.int (F8_codeNow m)), some (.int 0), none, none, none]) eX8_searches_10 rfl rfl rfl ?_
  obtain ⟨q3, hD⟩ := hD
  refine clX8_searches_11 4200 a1 (F8_codeNow m) 0 ((F8_layAble m)) q3 ?_
  refine s_aload_n eX8_searches_31 rfl rfl ?_
  refine s_iconst (v := 1) eX8_searches_32 rfl ?_
  refine s_puti eX8_searches_33 fX8_311 pX8_42 rfl rfl shp_74 rfl ?_
  refine cK8_searches_36 a1 (F8_codeNow m) ((L8_searches_11 4200 a1 (F8_codeNow m) 0 (F8_layAble m)).1) ((ax_up (L8_searches_11 4200 a1 (F8_codeNow m) 0 (F8_layAble m)).2 74 42 1)) hD ?_
  exact ⟨by rw [E], by rw [E]⟩
theorem clX8_plan_40 {P : Option Value → ax_M → Prop} : ∀ (n : Nat) (v1 v2 v3 v4 : Int32) (m : ax_M), E8_plan_40 n v1 v2 v3 v4 m → (ax_N 5 Y8_plan 86 [some (.ref 74), some (.int v1), some (.int v2), some (.int ((L8_plan_40 n v1 v2 v3 v4 m).1)), some (.int ((L8_plan_40 n v1 v2 v3 v4 m).2.1))] [] ((L8_plan_40 n v1 v2 v3 v4 m).2.2) P) → ax_N 5 Y8_plan 40 [some (.ref 74), some (.int v1), some (.int v2), some (.int v3), some (.int v4)] [] m P := by
  intro n
  induction n with
  | zero => intro v1 v2 v3 v4 m hD; exact absurd hD id
  | succ n ih =>
    intro v1 v2 v3 v4 m hD hx
    have E : L8_plan_40 (n + 1) v1 v2 v3 v4 m = (if (m 87 (Int32.toNatClampNeg v4)) = ((-1)) then (v3, v4, m) else L8_plan_40 n v1 v2 (v3 + 1) ((ax_up m 90 (Int32.toNatClampNeg v3) (m 88 (Int32.toNatClampNeg v4))) 89 (Int32.toNatClampNeg (((ax_up m 90 (Int32.toNatClampNeg v3) (m 88 (Int32.toNatClampNeg v4))) 87 (Int32.toNatClampNeg v4)) - 1))) (ax_up m 90 (Int32.toNatClampNeg v3) (m 88 (Int32.toNatClampNeg v4)))) := by rw [L8_plan_40]
    have hD : ((vp_in v4 4096) ∧ (¬ ((m 87 (Int32.toNatClampNeg v4)) = ((-1))) → ((vp_in v4 4096) ∧ (vp_in v3 4096) ∧ (vp_in v4 4096) ∧ (vp_in (((ax_up m 90 (Int32.toNatClampNeg v3) (m 88 (Int32.toNatClampNeg v4))) 87 (Int32.toNatClampNeg v4)) - 1) 4096) ∧ (E8_plan_40 n v1 v2 (v3 + 1) ((ax_up m 90 (Int32.toNatClampNeg v3) (m 88 (Int32.toNatClampNeg v4))) 89 (Int32.toNatClampNeg (((ax_up m 90 (Int32.toNatClampNeg v3) (m 88 (Int32.toNatClampNeg v4))) 87 (Int32.toNatClampNeg v4)) - 1))) (ax_up m 90 (Int32.toNatClampNeg v3) (m 88 (Int32.toNatClampNeg v4))))))) := hD
    refine s_aload_n eX8_plan_40 rfl rfl ?_
    refine s_getr (q := 87) eX8_plan_41 fX8_53 shp_74 rfl ?_
    refine s_iload eX8_plan_44 rfl ?_
    obtain ⟨q1, hD⟩ := hD
    refine s_iald eX8_plan_46 shp_87 q1 ?_
    refine s_iconst (v := (-1)) eX8_plan_47 rfl ?_
    refine s_icmp_eq eX8_plan_48 (fun h2 => ?_) (fun h2 => ?_)
    · skip
      rw [if_pos h2] at E
      rw [E] at hx
      exact hx
    · skip
      rw [if_neg h2] at E
      have hD := hD h2
      refine s_aload_n eX8_plan_51 rfl rfl ?_
      refine s_getr (q := 90) eX8_plan_52 fX8_62 shp_74 rfl ?_
      refine s_iload_n eX8_plan_55 rfl rfl ?_
      refine s_aload_n eX8_plan_56 rfl rfl ?_
      refine s_getr (q := 88) eX8_plan_57 fX8_56 shp_74 rfl ?_
      refine s_iload eX8_plan_60 rfl ?_
      obtain ⟨q3, hD⟩ := hD
      refine s_iald eX8_plan_62 shp_88 q3 ?_
      obtain ⟨q4, hD⟩ := hD
      refine s_iast eX8_plan_63 shp_90 q4 ?_
      refine s_iinc (v := v3 + 1) (ls' := [some (.ref 74), some (.int v1), some (.int v2), some (.int (v3 + 1)), some (.int v4)]) eX8_plan_64 rfl rfl rfl rfl ?_
      refine s_aload_n eX8_plan_67 rfl rfl ?_
      refine s_getr (q := 89) eX8_plan_68 fX8_59 shp_74 rfl ?_
      refine s_aload_n eX8_plan_71 rfl rfl ?_
      refine s_getr (q := 87) eX8_plan_72 fX8_53 shp_74 rfl ?_
      refine s_iload eX8_plan_75 rfl ?_
      obtain ⟨q5, hD⟩ := hD
      refine s_iald eX8_plan_77 shp_87 q5 ?_
      refine s_iconst (v := 1) eX8_plan_78 rfl ?_
      refine s_isub eX8_plan_79 ?_
      obtain ⟨q6, hD⟩ := hD
      refine s_iald eX8_plan_80 shp_89 q6 ?_
      refine s_istore (ls' := [some (.ref 74), some (.int v1), some (.int v2), some (.int (v3 + 1)), some (.int ((ax_up m 90 (Int32.toNatClampNeg v3) (m 88 (Int32.toNatClampNeg v4))) 89 (Int32.toNatClampNeg (((ax_up m 90 (Int32.toNatClampNeg v3) (m 88 (Int32.toNatClampNeg v4))) 87 (Int32.toNatClampNeg v4)) - 1))))]) eX8_plan_81 rfl rfl ?_
      refine s_goto eX8_plan_83 ?_
      rw [E] at hx
      exact ih v1 v2 (v3 + 1) ((ax_up m 90 (Int32.toNatClampNeg v3) (m 88 (Int32.toNatClampNeg v4))) 89 (Int32.toNatClampNeg (((ax_up m 90 (Int32.toNatClampNeg v3) (m 88 (Int32.toNatClampNeg v4))) 87 (Int32.toNatClampNeg v4)) - 1))) ((ax_up m 90 (Int32.toNatClampNeg v3) (m 88 (Int32.toNatClampNeg v4)))) hD hx
theorem cK8_plan_86 (v1 v2 v3 v4 : Int32) (m : ax_M) {P : Option Value → ax_M → Prop} (hD : HK8_plan_86 v1 v2 v3 v4 m) (hP : P (some (.int (K8_plan_86 v1 v2 v3 v4 m).1)) (K8_plan_86 v1 v2 v3 v4 m).2) : ax_N 5 Y8_plan 86 [some (.ref 74), some (.int v1), some (.int v2), some (.int v3), some (.int v4)] [] m P := by
  have E : K8_plan_86 v1 v2 v3 v4 m = (if v1 = 0 then (v3, m) else (if v3 ≤ (v1 - 10) then ((-4), m) else (m 90 (Int32.toNatClampNeg ((v3 - 1) - (v1 - 10))), m))) := rfl
  unfold HK8_plan_86 at hD
  refine s_iload_n eX8_plan_86 rfl rfl ?_
  refine s_if_ne eX8_plan_87 (fun h1 => ?_) (fun h1 => ?_)
  · skip
    rw [if_neg h1] at E
    have hD := hD h1
    refine s_iload_n eX8_plan_94 rfl rfl ?_
    refine s_bipush (v := 10) eX8_plan_95 rfl ?_
    refine s_isub eX8_plan_97 ?_
    refine s_iload_n eX8_plan_98 rfl rfl ?_
    refine s_icmp_ge eX8_plan_99 (fun h2 => ?_) (fun h2 => ?_)
    · skip
      rw [if_pos h2] at E
      refine s_bipush (v := (-4)) eX8_plan_118 rfl ?_
      rw [E] at hP
      exact s_iret eX8_plan_120 rfl ⟨rfl, hP⟩
    · skip
      rw [if_neg h2] at E
      have hD := hD h2
      refine s_aload_n eX8_plan_102 rfl rfl ?_
      refine s_getr (q := 90) eX8_plan_103 fX8_62 shp_74 rfl ?_
      refine s_iload_n eX8_plan_106 rfl rfl ?_
      refine s_iconst (v := 1) eX8_plan_107 rfl ?_
      refine s_isub eX8_plan_108 ?_
      refine s_iload_n eX8_plan_109 rfl rfl ?_
      refine s_bipush (v := 10) eX8_plan_110 rfl ?_
      refine s_isub eX8_plan_112 ?_
      refine s_isub eX8_plan_113 ?_
      have q3 := hD
      refine s_iald eX8_plan_114 shp_90 q3 ?_
      refine s_goto eX8_plan_115 ?_
      rw [E] at hP
      exact s_iret eX8_plan_120 rfl ⟨rfl, hP⟩
  · skip
    rw [if_pos h1] at E
    refine s_iload_n eX8_plan_90 rfl rfl ?_
    refine s_goto eX8_plan_91 ?_
    rw [E] at hP
    exact s_iret eX8_plan_120 rfl ⟨rfl, hP⟩
theorem uX8_plan (a1 : Int32) (m : ax_M) (hD : D8_plan a1 m) : ax_NM 5 Y8_plan [.ref 74, .int a1] m (fun r m1 => r = some (.int (F8_plan a1 m).1) ∧ m1 = (F8_plan a1 m).2) := by
  have E : F8_plan a1 m = (if a1 = 0 then (if ((F8_searches (F8_goalCode m) m).1) = ((-4)) then ((-4), (F8_searches (F8_goalCode m) m).2) else (K8_plan_86 a1 ((F8_searches (F8_goalCode m) m).1) ((L8_plan_40 4200 a1 ((F8_searches (F8_goalCode m) m).1) 0 ((F8_searches (F8_goalCode m) m).2 89 (Int32.toNatClampNeg ((F8_searches (F8_goalCode m) m).1))) (F8_searches (F8_goalCode m) m).2).1) ((L8_plan_40 4200 a1 ((F8_searches (F8_goalCode m) m).1) 0 ((F8_searches (F8_goalCode m) m).2 89 (Int32.toNatClampNeg ((F8_searches (F8_goalCode m) m).1))) (F8_searches (F8_goalCode m) m).2).2.1) (L8_plan_40 4200 a1 ((F8_searches (F8_goalCode m) m).1) 0 ((F8_searches (F8_goalCode m) m).2 89 (Int32.toNatClampNeg ((F8_searches (F8_goalCode m) m).1))) (F8_searches (F8_goalCode m) m).2).2.2)) else (if 10 ≤ a1 then (if ((F8_searches (F8_goalCode m) m).1) = ((-4)) then ((-4), (F8_searches (F8_goalCode m) m).2) else (K8_plan_86 a1 ((F8_searches (F8_goalCode m) m).1) ((L8_plan_40 4200 a1 ((F8_searches (F8_goalCode m) m).1) 0 ((F8_searches (F8_goalCode m) m).2 89 (Int32.toNatClampNeg ((F8_searches (F8_goalCode m) m).1))) (F8_searches (F8_goalCode m) m).2).1) ((L8_plan_40 4200 a1 ((F8_searches (F8_goalCode m) m).1) 0 ((F8_searches (F8_goalCode m) m).2 89 (Int32.toNatClampNeg ((F8_searches (F8_goalCode m) m).1))) (F8_searches (F8_goalCode m) m).2).2.1) (L8_plan_40 4200 a1 ((F8_searches (F8_goalCode m) m).1) 0 ((F8_searches (F8_goalCode m) m).2 89 (Int32.toNatClampNeg ((F8_searches (F8_goalCode m) m).1))) (F8_searches (F8_goalCode m) m).2).2.2)) else ((-1), m))) := rfl
  unfold D8_plan at hD
  show ax_N 5 Y8_plan 0 [some (.ref 74), some (.int a1), none, none, none] [] m _
  refine s_iload_n eX8_plan_0 rfl rfl ?_
  refine s_if_eq eX8_plan_1 (fun h1 => ?_) (fun h1 => ?_)
  · skip
    rw [if_pos h1] at E
    have hD := hD.1 h1
    refine s_aload_n eX8_plan_12 rfl rfl ?_
    refine s_aload_n eX8_plan_13 rfl rfl ?_
    obtain ⟨q2, hD⟩ := hD
    refine n_callVi (As := []) eX8_plan_14 kX8_goalCode lX8_318 rfl rfl shp_74 rfl rfl (Nat.le_of_ble_eq_true rfl) (Nat.le_of_ble_eq_true rfl) (Nat.le_of_ble_eq_true rfl) (uX8_goalCode m q2) ?_
    obtain ⟨q3, hD⟩ := hD
    refine n_callVi (As := [.int (F8_goalCode m)]) eX8_plan_17 kX8_searches lX8_321 rfl rfl shp_74 rfl rfl (Nat.le_of_ble_eq_true rfl) (Nat.le_of_ble_eq_true rfl) (Nat.le_of_ble_eq_true rfl) (uX8_searches (F8_goalCode m) m q3) ?_
    refine s_istore_n (ls' := [some (.ref 74), some (.int a1), some (.int ((F8_searches (F8_goalCode m) m).1)), none, none]) eX8_plan_20 rfl rfl rfl ?_
    refine s_iload_n eX8_plan_21 rfl rfl ?_
    refine s_bipush (v := (-4)) eX8_plan_22 rfl ?_
    refine s_icmp_ne eX8_plan_24 (fun h4 => ?_) (fun h4 => ?_)
    · skip
      rw [if_neg h4] at E
      have hD := hD h4
      refine s_iconst (v := 0) eX8_plan_30 rfl ?_
      refine s_istore_n (ls' := [some (.ref 74), some (.int a1), some (.int ((F8_searches (F8_goalCode m) m).1)), some (.int 0), none]) eX8_plan_31 rfl rfl rfl ?_
      refine s_aload_n eX8_plan_32 rfl rfl ?_
      refine s_getr (q := 89) eX8_plan_33 fX8_59 shp_74 rfl ?_
      refine s_iload_n eX8_plan_36 rfl rfl ?_
      obtain ⟨q5, hD⟩ := hD
      refine s_iald eX8_plan_37 shp_89 q5 ?_
      refine s_istore (ls' := [some (.ref 74), some (.int a1), some (.int ((F8_searches (F8_goalCode m) m).1)), some (.int 0), some (.int ((F8_searches (F8_goalCode m) m).2 89 (Int32.toNatClampNeg ((F8_searches (F8_goalCode m) m).1))))]) eX8_plan_38 rfl rfl ?_
      obtain ⟨q6, hD⟩ := hD
      refine clX8_plan_40 4200 a1 ((F8_searches (F8_goalCode m) m).1) 0 ((F8_searches (F8_goalCode m) m).2 89 (Int32.toNatClampNeg ((F8_searches (F8_goalCode m) m).1))) ((F8_searches (F8_goalCode m) m).2) q6 ?_
      refine cK8_plan_86 a1 ((F8_searches (F8_goalCode m) m).1) ((L8_plan_40 4200 a1 ((F8_searches (F8_goalCode m) m).1) 0 ((F8_searches (F8_goalCode m) m).2 89 (Int32.toNatClampNeg ((F8_searches (F8_goalCode m) m).1))) (F8_searches (F8_goalCode m) m).2).1) ((L8_plan_40 4200 a1 ((F8_searches (F8_goalCode m) m).1) 0 ((F8_searches (F8_goalCode m) m).2 89 (Int32.toNatClampNeg ((F8_searches (F8_goalCode m) m).1))) (F8_searches (F8_goalCode m) m).2).2.1) ((L8_plan_40 4200 a1 ((F8_searches (F8_goalCode m) m).1) 0 ((F8_searches (F8_goalCode m) m).2 89 (Int32.toNatClampNeg ((F8_searches (F8_goalCode m) m).1))) (F8_searches (F8_goalCode m) m).2).2.2) hD ?_
      exact ⟨by rw [E], by rw [E]⟩
    · skip
      rw [if_pos h4] at E
      refine s_bipush (v := (-4)) eX8_plan_27 rfl ?_
      exact s_iret eX8_plan_29 rfl ⟨rfl, by rw [E], by rw [E]⟩
  · skip
    rw [if_neg h1] at E
    have hD := hD.2 h1
    refine s_iload_n eX8_plan_4 rfl rfl ?_
    refine s_bipush (v := 10) eX8_plan_5 rfl ?_
    refine s_icmp_ge eX8_plan_7 (fun h7 => ?_) (fun h7 => ?_)
    · skip
      rw [if_pos h7] at E
      have hD := hD h7
      refine s_aload_n eX8_plan_12 rfl rfl ?_
      refine s_aload_n eX8_plan_13 rfl rfl ?_
      obtain ⟨q8, hD⟩ := hD
      refine n_callVi (As := []) eX8_plan_14 kX8_goalCode lX8_318 rfl rfl shp_74 rfl rfl (Nat.le_of_ble_eq_true rfl) (Nat.le_of_ble_eq_true rfl) (Nat.le_of_ble_eq_true rfl) (uX8_goalCode m q8) ?_
      obtain ⟨q9, hD⟩ := hD
      refine n_callVi (As := [.int (F8_goalCode m)]) eX8_plan_17 kX8_searches lX8_321 rfl rfl shp_74 rfl rfl (Nat.le_of_ble_eq_true rfl) (Nat.le_of_ble_eq_true rfl) (Nat.le_of_ble_eq_true rfl) (uX8_searches (F8_goalCode m) m q9) ?_
      refine s_istore_n (ls' := [some (.ref 74), some (.int a1), some (.int ((F8_searches (F8_goalCode m) m).1)), none, none]) eX8_plan_20 rfl rfl rfl ?_
      refine s_iload_n eX8_plan_21 rfl rfl ?_
      refine s_bipush (v := (-4)) eX8_plan_22 rfl ?_
      refine s_icmp_ne eX8_plan_24 (fun h10 => ?_) (fun h10 => ?_)
      · skip
        rw [if_neg h10] at E
        have hD := hD h10
        refine s_iconst (v := 0) eX8_plan_30 rfl ?_
        refine s_istore_n (ls' := [some (.ref 74), some (.int a1), some (.int ((F8_searches (F8_goalCode m) m).1)), some (.int 0), none]) eX8_plan_31 rfl rfl rfl ?_
        refine s_aload_n eX8_plan_32 rfl rfl ?_
        refine s_getr (q := 89) eX8_plan_33 fX8_59 shp_74 rfl ?_
        refine s_iload_n eX8_plan_36 rfl rfl ?_
        obtain ⟨q11, hD⟩ := hD
        refine s_iald eX8_plan_37 shp_89 q11 ?_
        refine s_istore (ls' := [some (.ref 74), some (.int a1), some (.int ((F8_searches (F8_goalCode m) m).1)), some (.int 0), some (.int ((F8_searches (F8_goalCode m) m).2 89 (Int32.toNatClampNeg ((F8_searches (F8_goalCode m) m).1))))]) eX8_plan_38 rfl rfl ?_
        obtain ⟨q12, hD⟩ := hD
        refine clX8_plan_40 4200 a1 ((F8_searches (F8_goalCode m) m).1) 0 ((F8_searches (F8_goalCode m) m).2 89 (Int32.toNatClampNeg ((F8_searches (F8_goalCode m) m).1))) ((F8_searches (F8_goalCode m) m).2) q12 ?_
        refine cK8_plan_86 a1 ((F8_searches (F8_goalCode m) m).1) ((L8_plan_40 4200 a1 ((F8_searches (F8_goalCode m) m).1) 0 ((F8_searches (F8_goalCode m) m).2 89 (Int32.toNatClampNeg ((F8_searches (F8_goalCode m) m).1))) (F8_searches (F8_goalCode m) m).2).1) ((L8_plan_40 4200 a1 ((F8_searches (F8_goalCode m) m).1) 0 ((F8_searches (F8_goalCode m) m).2 89 (Int32.toNatClampNeg ((F8_searches (F8_goalCode m) m).1))) (F8_searches (F8_goalCode m) m).2).2.1) ((L8_plan_40 4200 a1 ((F8_searches (F8_goalCode m) m).1) 0 ((F8_searches (F8_goalCode m) m).2 89 (Int32.toNatClampNeg ((F8_searches (F8_goalCode m) m).1))) (F8_searches (F8_goalCode m) m).2).2.2) hD ?_
        exact ⟨by rw [E], by rw [E]⟩
      · skip
        rw [if_pos h10] at E
        refine s_bipush (v := (-4)) eX8_plan_27 rfl ?_
        exact s_iret eX8_plan_29 rfl ⟨rfl, by rw [E], by rw [E]⟩
    · skip
      rw [if_neg h7] at E
      refine s_iconst (v := (-1)) eX8_plan_10 rfl ?_
      exact s_iret eX8_plan_11 rfl ⟨rfl, by rw [E], by rw [E]⟩
theorem clX8_reach_21 {P : Option Value → ax_M → Prop} : ∀ (n : Nat) (v1 v2 v3 : Int32) (m : ax_M), E8_reach_21 n v1 v2 v3 m → (ax_N 5 Y8_reach 52 [some (.ref 74), some (.int v1), some (.int ((L8_reach_21 n v1 v2 v3 m).1)), some (.int ((L8_reach_21 n v1 v2 v3 m).2))] [] m P) → ax_N 5 Y8_reach 21 [some (.ref 74), some (.int v1), some (.int v2), some (.int v3)] [] m P := by
  intro n
  induction n with
  | zero => intro v1 v2 v3 m hD; exact absurd hD id
  | succ n ih =>
    intro v1 v2 v3 m hD hx
    have E : L8_reach_21 (n + 1) v1 v2 v3 m = (if (m 74 42) ≤ v3 then (v2, v3) else L8_reach_21 n v1 (v2 ||| ((1 : Int32) <<< ((((m 89 (Int32.toNatClampNeg v3)) >>> ((2 * v1) &&& (31 : Int32))) &&& 3) &&& (31 : Int32)))) (v3 + 1) m) := by rw [L8_reach_21]
    have hD : ((¬ ((m 74 42) ≤ v3) → ((vp_in v3 4096) ∧ (E8_reach_21 n v1 (v2 ||| ((1 : Int32) <<< ((((m 89 (Int32.toNatClampNeg v3)) >>> ((2 * v1) &&& (31 : Int32))) &&& 3) &&& (31 : Int32)))) (v3 + 1) m)))) := hD
    refine s_iload_n eX8_reach_21 rfl rfl ?_
    refine s_aload_n eX8_reach_22 rfl rfl ?_
    refine s_geti eX8_reach_23 fX8_311 shp_74 rfl ?_
    refine s_icmp_ge eX8_reach_26 (fun h1 => ?_) (fun h1 => ?_)
    · skip
      rw [if_pos h1] at E
      rw [E] at hx
      exact hx
    · skip
      rw [if_neg h1] at E
      have hD := hD h1
      refine s_iload_n eX8_reach_29 rfl rfl ?_
      refine s_iconst (v := 1) eX8_reach_30 rfl ?_
      refine s_aload_n eX8_reach_31 rfl rfl ?_
      refine s_getr (q := 89) eX8_reach_32 fX8_59 shp_74 rfl ?_
      refine s_iload_n eX8_reach_35 rfl rfl ?_
      obtain ⟨q2, hD⟩ := hD
      refine s_iald eX8_reach_36 shp_89 q2 ?_
      refine s_iconst (v := 2) eX8_reach_37 rfl ?_
      refine s_iload_n eX8_reach_38 rfl rfl ?_
      refine s_imul eX8_reach_39 ?_
      refine s_ishr eX8_reach_40 ?_
      refine s_iconst (v := 3) eX8_reach_41 rfl ?_
      refine s_iand eX8_reach_42 ?_
      refine s_ishl eX8_reach_43 ?_
      refine s_ior eX8_reach_44 ?_
      refine s_istore_n (ls' := [some (.ref 74), some (.int v1), some (.int (v2 ||| ((1 : Int32) <<< ((((m 89 (Int32.toNatClampNeg v3)) >>> ((2 * v1) &&& (31 : Int32))) &&& 3) &&& (31 : Int32))))), some (.int v3)]) eX8_reach_45 rfl rfl rfl ?_
      refine s_iinc (v := v3 + 1) (ls' := [some (.ref 74), some (.int v1), some (.int (v2 ||| ((1 : Int32) <<< ((((m 89 (Int32.toNatClampNeg v3)) >>> ((2 * v1) &&& (31 : Int32))) &&& 3) &&& (31 : Int32))))), some (.int (v3 + 1))]) eX8_reach_46 rfl rfl rfl rfl ?_
      refine s_goto eX8_reach_49 ?_
      rw [E] at hx
      exact ih v1 (v2 ||| ((1 : Int32) <<< ((((m 89 (Int32.toNatClampNeg v3)) >>> ((2 * v1) &&& (31 : Int32))) &&& 3) &&& (31 : Int32)))) (v3 + 1) m hD hx
theorem uX8_reach (a1 : Int32) (m : ax_M) (hD : D8_reach a1 m) : ax_NM 5 Y8_reach [.ref 74, .int a1] m (fun r m1 => r = some (.int (F8_reach a1 m).1) ∧ m1 = (F8_reach a1 m).2) := by
  have E : F8_reach a1 m = (if (F8_isOne a1 m) = 0 then ((-1), m) else ((L8_reach_21 4200 a1 0 0 (F8_searches ((-4)) m).2).1, (F8_searches ((-4)) m).2)) := rfl
  unfold D8_reach at hD
  show ax_N 5 Y8_reach 0 [some (.ref 74), some (.int a1), none, none] [] m _
  refine s_aload_n eX8_reach_0 rfl rfl ?_
  refine s_iload_n eX8_reach_1 rfl rfl ?_
  refine n_callVi (As := [.int a1]) eX8_reach_2 kX8_isOne lX8_212 rfl rfl shp_74 rfl rfl (Nat.le_of_ble_eq_true rfl) (Nat.le_of_ble_eq_true rfl) (Nat.le_of_ble_eq_true rfl) (uX8_isOne a1 m) ?_
  refine s_if_ne eX8_reach_5 (fun h1 => ?_) (fun h1 => ?_)
  · skip
    rw [if_neg h1] at E
    have hD := hD h1
    refine s_aload_n eX8_reach_10 rfl rfl ?_
    refine s_bipush (v := (-4)) eX8_reach_11 rfl ?_
    obtain ⟨q2, hD⟩ := hD
    refine n_callVi (As := [.int ((-4))]) eX8_reach_13 kX8_searches lX8_321 rfl rfl shp_74 rfl rfl (Nat.le_of_ble_eq_true rfl) (Nat.le_of_ble_eq_true rfl) (Nat.le_of_ble_eq_true rfl) (uX8_searches ((-4)) m q2) ?_
    refine s_pop eX8_reach_16 rfl ?_
    refine s_iconst (v := 0) eX8_reach_17 rfl ?_
    refine s_istore_n (ls' := [some (.ref 74), some (.int a1), some (.int 0), none]) eX8_reach_18 rfl rfl rfl ?_
    refine s_iconst (v := 0) eX8_reach_19 rfl ?_
    refine s_istore_n (ls' := [some (.ref 74), some (.int a1), some (.int 0), some (.int 0)]) eX8_reach_20 rfl rfl rfl ?_
    have q3 := hD
    refine clX8_reach_21 4200 a1 0 0 ((F8_searches ((-4)) m).2) q3 ?_
    refine s_iload_n eX8_reach_52 rfl rfl ?_
    exact s_iret eX8_reach_53 rfl ⟨rfl, by rw [E], by rw [E]⟩
  · skip
    rw [if_pos h1] at E
    refine s_iconst (v := (-1)) eX8_reach_8 rfl ?_
    exact s_iret eX8_reach_9 rfl ⟨rfl, by rw [E], by rw [E]⟩
theorem uX8_ways (m : ax_M) (hD : D8_ways m) : ax_NM 5 Y8_ways [.ref 74] m (fun r m1 => r = some (.int (F8_ways m).1) ∧ m1 = (F8_ways m).2) := by
  have E : F8_ways m = ((F8_searches ((-4)) m).2 74 42, (F8_searches ((-4)) m).2) := rfl
  unfold D8_ways at hD
  show ax_N 5 Y8_ways 0 [some (.ref 74)] [] m _
  refine s_aload_n eX8_ways_0 rfl rfl ?_
  refine s_bipush (v := (-4)) eX8_ways_1 rfl ?_
  have q1 := hD
  refine n_callVi (As := [.int ((-4))]) eX8_ways_3 kX8_searches lX8_321 rfl rfl shp_74 rfl rfl (Nat.le_of_ble_eq_true rfl) (Nat.le_of_ble_eq_true rfl) (Nat.le_of_ble_eq_true rfl) (uX8_searches ((-4)) m q1) ?_
  refine s_pop eX8_ways_6 rfl ?_
  refine s_aload_n eX8_ways_7 rfl rfl ?_
  refine s_geti eX8_ways_8 fX8_311 shp_74 rfl ?_
  exact s_iret eX8_ways_11 rfl ⟨rfl, by rw [E], by rw [E]⟩
theorem cK8_tell_74 (v1 v2 v3 : Int32) (m : ax_M) {P : Option Value → ax_M → Prop} (hP : P (some (.int (K8_tell_74 v1 v2 v3 m).1)) (K8_tell_74 v1 v2 v3 m).2) : ax_N 3 Y8_tell 74 [some (.ref 74), some (.int v1), some (.int v2), some (.int v3)] [] m P := by
  have E : K8_tell_74 v1 v2 v3 m = (m 74 7, m) := rfl
  refine s_aload_n eX8_tell_74 rfl rfl ?_
  refine s_geti eX8_tell_75 fX8_205 shp_74 rfl ?_
  rw [E] at hP
  exact s_iret eX8_tell_78 rfl ⟨rfl, hP⟩
theorem cK8_tell_50 (v1 v2 v3 : Int32) (m : ax_M) {P : Option Value → ax_M → Prop} (hD : HK8_tell_50 v1 v2 v3 m) (hP : P (some (.int (K8_tell_50 v1 v2 v3 m).1)) (K8_tell_50 v1 v2 v3 m).2) : ax_N 3 Y8_tell 50 [some (.ref 74), some (.int v1), some (.int v2), some (.int v3)] [] m P := by
  have E : K8_tell_50 v1 v2 v3 m = (K8_tell_74 v1 v2 v3 (ax_up (ax_up m 77 (Int32.toNatClampNeg ((3 * (m 74 7)) + 2)) v3) 74 7 (((ax_up m 77 (Int32.toNatClampNeg ((3 * (m 74 7)) + 2)) v3) 74 7) + 1))) := rfl
  unfold HK8_tell_50 at hD
  refine s_aload_n eX8_tell_50 rfl rfl ?_
  refine s_getr (q := 77) eX8_tell_51 fX8_23 shp_74 rfl ?_
  refine s_iconst (v := 3) eX8_tell_54 rfl ?_
  refine s_aload_n eX8_tell_55 rfl rfl ?_
  refine s_geti eX8_tell_56 fX8_205 shp_74 rfl ?_
  refine s_imul eX8_tell_59 ?_
  refine s_iconst (v := 2) eX8_tell_60 rfl ?_
  refine s_iadd eX8_tell_61 ?_
  refine s_iload_n eX8_tell_62 rfl rfl ?_
  have q1 := hD
  refine s_iast eX8_tell_63 shp_77 q1 ?_
  refine s_aload_n eX8_tell_64 rfl rfl ?_
  refine s_dup eX8_tell_65 rfl ?_
  refine s_geti eX8_tell_66 fX8_205 shp_74 rfl ?_
  refine s_iconst (v := 1) eX8_tell_69 rfl ?_
  refine s_iadd eX8_tell_70 ?_
  refine s_puti eX8_tell_71 fX8_205 pX8_7 rfl rfl shp_74 rfl ?_
  refine cK8_tell_74 v1 v2 v3 ((ax_up (ax_up m 77 (Int32.toNatClampNeg ((3 * (m 74 7)) + 2)) v3) 74 7 (((ax_up m 77 (Int32.toNatClampNeg ((3 * (m 74 7)) + 2)) v3) 74 7) + 1))) ?_
  rw [E] at hP
  exact hP
theorem uX8_tell (a1 : Int32) (a2 : Int32) (a3 : Int32) (m : ax_M) (hD : D8_tell a1 a2 a3 m) : ax_NM 3 Y8_tell [.ref 74, .int a1, .int a2, .int a3] m (fun r m1 => r = some (.int (F8_tell a1 a2 a3 m).1) ∧ m1 = (F8_tell a1 a2 a3 m).2) := by
  have E : F8_tell a1 a2 a3 m = (if (F8_areTwo a1 a2 a3 m) = 0 then ((-1), m) else (if (m 74 7) = 8 then ((-3), m) else (K8_tell_50 a1 a2 a3 (ax_up (ax_up m 77 (Int32.toNatClampNeg (3 * (m 74 7))) a1) 77 (Int32.toNatClampNeg ((3 * ((ax_up m 77 (Int32.toNatClampNeg (3 * (m 74 7))) a1) 74 7)) + 1)) a2)))) := rfl
  unfold D8_tell at hD
  show ax_N 3 Y8_tell 0 [some (.ref 74), some (.int a1), some (.int a2), some (.int a3)] [] m _
  refine s_aload_n eX8_tell_0 rfl rfl ?_
  refine s_iload_n eX8_tell_1 rfl rfl ?_
  refine s_iload_n eX8_tell_2 rfl rfl ?_
  refine s_iload_n eX8_tell_3 rfl rfl ?_
  refine n_callVi (As := [.int a1, .int a2, .int a3]) eX8_tell_4 kX8_areTwo lX8_259 rfl rfl shp_74 rfl rfl (Nat.le_of_ble_eq_true rfl) (Nat.le_of_ble_eq_true rfl) (Nat.le_of_ble_eq_true rfl) (uX8_areTwo a1 a2 a3 m) ?_
  refine s_if_ne eX8_tell_7 (fun h1 => ?_) (fun h1 => ?_)
  · skip
    rw [if_neg h1] at E
    have hD := hD h1
    refine s_aload_n eX8_tell_12 rfl rfl ?_
    refine s_geti eX8_tell_13 fX8_205 shp_74 rfl ?_
    refine s_bipush (v := 8) eX8_tell_16 rfl ?_
    refine s_icmp_ne eX8_tell_18 (fun h2 => ?_) (fun h2 => ?_)
    · skip
      rw [if_neg h2] at E
      have hD := hD h2
      refine s_aload_n eX8_tell_24 rfl rfl ?_
      refine s_getr (q := 77) eX8_tell_25 fX8_23 shp_74 rfl ?_
      refine s_iconst (v := 3) eX8_tell_28 rfl ?_
      refine s_aload_n eX8_tell_29 rfl rfl ?_
      refine s_geti eX8_tell_30 fX8_205 shp_74 rfl ?_
      refine s_imul eX8_tell_33 ?_
      refine s_iload_n eX8_tell_34 rfl rfl ?_
      obtain ⟨q3, hD⟩ := hD
      refine s_iast eX8_tell_35 shp_77 q3 ?_
      refine s_aload_n eX8_tell_36 rfl rfl ?_
      refine s_getr (q := 77) eX8_tell_37 fX8_23 shp_74 rfl ?_
      refine s_iconst (v := 3) eX8_tell_40 rfl ?_
      refine s_aload_n eX8_tell_41 rfl rfl ?_
      refine s_geti eX8_tell_42 fX8_205 shp_74 rfl ?_
      refine s_imul eX8_tell_45 ?_
      refine s_iconst (v := 1) eX8_tell_46 rfl ?_
      refine s_iadd eX8_tell_47 ?_
      refine s_iload_n eX8_tell_48 rfl rfl ?_
      obtain ⟨q4, hD⟩ := hD
      refine s_iast eX8_tell_49 shp_77 q4 ?_
      refine cK8_tell_50 a1 a2 a3 ((ax_up (ax_up m 77 (Int32.toNatClampNeg (3 * (m 74 7))) a1) 77 (Int32.toNatClampNeg ((3 * ((ax_up m 77 (Int32.toNatClampNeg (3 * (m 74 7))) a1) 74 7)) + 1)) a2)) hD ?_
      exact ⟨by rw [E], by rw [E]⟩
    · skip
      rw [if_pos h2] at E
      refine s_bipush (v := (-3)) eX8_tell_21 rfl ?_
      exact s_iret eX8_tell_23 rfl ⟨rfl, by rw [E], by rw [E]⟩
  · skip
    rw [if_pos h1] at E
    refine s_iconst (v := (-1)) eX8_tell_10 rfl ?_
    exact s_iret eX8_tell_11 rfl ⟨rfl, by rw [E], by rw [E]⟩
theorem uX8_forget (a1 : Int32) (m : ax_M) : ax_NM 1 Y8_forget [.ref 74, .int a1] m (fun r m1 => r = some (.int (F8_forget a1 m).1) ∧ m1 = (F8_forget a1 m).2) := by
  have E : F8_forget a1 m = (if (F8_in (Int32.toInt64 a1) 0 (Int32.toInt64 (m 74 7)) m) = 0 then ((-1), m) else (m 74 7, (ax_up m 74 7 a1))) := rfl
  show ax_N 1 Y8_forget 0 [some (.ref 74), some (.int a1), none] [] m _
  refine s_iload_n eX8_forget_0 rfl rfl ?_
  refine s_i2l eX8_forget_1 ?_
  refine s_lconst (v := 0) eX8_forget_2 rfl ?_
  refine s_aload_n eX8_forget_3 rfl rfl ?_
  refine s_geti eX8_forget_4 fX8_205 shp_74 rfl ?_
  refine s_i2l eX8_forget_7 ?_
  refine n_callSi (As := [.long (Int32.toInt64 a1), .long 0, .long (Int32.toInt64 (m 74 7))]) eX8_forget_8 kX8_in lX8_87 rfl rfl (Nat.le_of_ble_eq_true rfl) (Nat.le_of_ble_eq_true rfl) (Nat.le_of_ble_eq_true rfl) (uX8_in (Int32.toInt64 a1) 0 (Int32.toInt64 (m 74 7)) m) ?_
  refine s_if_ne eX8_forget_11 (fun h1 => ?_) (fun h1 => ?_)
  · skip
    rw [if_neg h1] at E
    refine s_aload_n eX8_forget_16 rfl rfl ?_
    refine s_geti eX8_forget_17 fX8_205 shp_74 rfl ?_
    refine s_istore_n (ls' := [some (.ref 74), some (.int a1), some (.int (m 74 7))]) eX8_forget_20 rfl rfl rfl ?_
    refine s_aload_n eX8_forget_21 rfl rfl ?_
    refine s_iload_n eX8_forget_22 rfl rfl ?_
    refine s_puti eX8_forget_23 fX8_205 pX8_7 rfl rfl shp_74 rfl ?_
    refine s_iload_n eX8_forget_26 rfl rfl ?_
    exact s_iret eX8_forget_27 rfl ⟨rfl, by rw [E], by rw [E]⟩
  · skip
    rw [if_pos h1] at E
    refine s_iconst (v := (-1)) eX8_forget_14 rfl ?_
    exact s_iret eX8_forget_15 rfl ⟨rfl, by rw [E], by rw [E]⟩
theorem clX8_judge_10 {P : Option Value → ax_M → Prop} : ∀ (n : Nat) (v1 v2 v3 : Int32) (m : ax_M), E8_judge_10 n v1 v2 v3 m → (ax_N 3 Y8_judge 104 [some (.ref 74), some (.int v1), some (.int ((L8_judge_10 n v1 v2 v3 m).1)), some (.int ((L8_judge_10 n v1 v2 v3 m).2.1))] [] ((L8_judge_10 n v1 v2 v3 m).2.2) P) → ax_N 3 Y8_judge 10 [some (.ref 74), some (.int v1), some (.int v2), some (.int v3)] [] m P := by
  intro n
  induction n with
  | zero => intro v1 v2 v3 m hD; exact absurd hD id
  | succ n ih =>
    intro v1 v2 v3 m hD hx
    have E : L8_judge_10 (n + 1) v1 v2 v3 m = (if (m 74 7) ≤ v3 then (v2, v3, m) else (if v2 = ((-4)) then L8_judge_10 n v1 (if (F8_canCross (m 77 (Int32.toNatClampNeg (3 * v3))) (m 77 (Int32.toNatClampNeg ((3 * v3) + 1))) (m 77 (Int32.toNatClampNeg ((3 * v3) + 2))) 0 0 m) = 0 then (v3 : Int32) else v2) (v3 + 1) (if (F8_canCross (m 77 (Int32.toNatClampNeg (3 * v3))) (m 77 (Int32.toNatClampNeg ((3 * v3) + 1))) (m 77 (Int32.toNatClampNeg ((3 * v3) + 2))) 0 0 m) = 0 then m else (F8_swaps (m 77 (Int32.toNatClampNeg (3 * v3))) (m 77 (Int32.toNatClampNeg ((3 * v3) + 1))) (m 77 (Int32.toNatClampNeg ((3 * v3) + 2))) m)) else (v2, v3, m))) := by rw [L8_judge_10]
    have hD : ((¬ ((m 74 7) ≤ v3) → (((v2 = ((-4))) → ((vp_in (3 * v3) 24) ∧ (vp_in ((3 * v3) + 1) 24) ∧ (vp_in ((3 * v3) + 2) 24) ∧ (D8_canCross (m 77 (Int32.toNatClampNeg (3 * v3))) (m 77 (Int32.toNatClampNeg ((3 * v3) + 1))) (m 77 (Int32.toNatClampNeg ((3 * v3) + 2))) 0 0 m) ∧ (¬ ((F8_canCross (m 77 (Int32.toNatClampNeg (3 * v3))) (m 77 (Int32.toNatClampNeg ((3 * v3) + 1))) (m 77 (Int32.toNatClampNeg ((3 * v3) + 2))) 0 0 m) = 0) → ((vp_in (3 * v3) 24) ∧ (vp_in ((3 * v3) + 1) 24) ∧ (vp_in ((3 * v3) + 2) 24) ∧ (D8_swaps (m 77 (Int32.toNatClampNeg (3 * v3))) (m 77 (Int32.toNatClampNeg ((3 * v3) + 1))) (m 77 (Int32.toNatClampNeg ((3 * v3) + 2))) m))) ∧ (E8_judge_10 n v1 (if (F8_canCross (m 77 (Int32.toNatClampNeg (3 * v3))) (m 77 (Int32.toNatClampNeg ((3 * v3) + 1))) (m 77 (Int32.toNatClampNeg ((3 * v3) + 2))) 0 0 m) = 0 then (v3 : Int32) else v2) (v3 + 1) (if (F8_canCross (m 77 (Int32.toNatClampNeg (3 * v3))) (m 77 (Int32.toNatClampNeg ((3 * v3) + 1))) (m 77 (Int32.toNatClampNeg ((3 * v3) + 2))) 0 0 m) = 0 then m else (F8_swaps (m 77 (Int32.toNatClampNeg (3 * v3))) (m 77 (Int32.toNatClampNeg ((3 * v3) + 1))) (m 77 (Int32.toNatClampNeg ((3 * v3) + 2))) m)))))))) := hD
    refine s_iload_n eX8_judge_10 rfl rfl ?_
    refine s_aload_n eX8_judge_11 rfl rfl ?_
    refine s_geti eX8_judge_12 fX8_205 shp_74 rfl ?_
    refine s_icmp_ge eX8_judge_15 (fun h1 => ?_) (fun h1 => ?_)
    · skip
      rw [if_pos h1] at E
      rw [E] at hx
      exact hx
    · skip
      rw [if_neg h1] at E
      have hD := hD h1
      refine s_iload_n eX8_judge_18 rfl rfl ?_
      refine s_bipush (v := (-4)) eX8_judge_19 rfl ?_
      refine s_icmp_ne eX8_judge_21 (fun h2 => ?_) (fun h2 => ?_)
      · skip
        rw [if_neg h2] at E
        rw [E] at hx
        exact hx
      · skip
        rw [if_pos h2] at E
        have hD := hD h2
        refine s_aload_n eX8_judge_24 rfl rfl ?_
        refine s_aload_n eX8_judge_25 rfl rfl ?_
        refine s_getr (q := 77) eX8_judge_26 fX8_23 shp_74 rfl ?_
        refine s_iconst (v := 3) eX8_judge_29 rfl ?_
        refine s_iload_n eX8_judge_30 rfl rfl ?_
        refine s_imul eX8_judge_31 ?_
        obtain ⟨q3, hD⟩ := hD
        refine s_iald eX8_judge_32 shp_77 q3 ?_
        refine s_aload_n eX8_judge_33 rfl rfl ?_
        refine s_getr (q := 77) eX8_judge_34 fX8_23 shp_74 rfl ?_
        refine s_iconst (v := 3) eX8_judge_37 rfl ?_
        refine s_iload_n eX8_judge_38 rfl rfl ?_
        refine s_imul eX8_judge_39 ?_
        refine s_iconst (v := 1) eX8_judge_40 rfl ?_
        refine s_iadd eX8_judge_41 ?_
        obtain ⟨q4, hD⟩ := hD
        refine s_iald eX8_judge_42 shp_77 q4 ?_
        refine s_aload_n eX8_judge_43 rfl rfl ?_
        refine s_getr (q := 77) eX8_judge_44 fX8_23 shp_74 rfl ?_
        refine s_iconst (v := 3) eX8_judge_47 rfl ?_
        refine s_iload_n eX8_judge_48 rfl rfl ?_
        refine s_imul eX8_judge_49 ?_
        refine s_iconst (v := 2) eX8_judge_50 rfl ?_
        refine s_iadd eX8_judge_51 ?_
        obtain ⟨q5, hD⟩ := hD
        refine s_iald eX8_judge_52 shp_77 q5 ?_
        refine s_iconst (v := 0) eX8_judge_53 rfl ?_
        refine s_iconst (v := 0) eX8_judge_54 rfl ?_
        obtain ⟨q6, hD⟩ := hD
        refine n_callVi (As := [.int (m 77 (Int32.toNatClampNeg (3 * v3))), .int (m 77 (Int32.toNatClampNeg ((3 * v3) + 1))), .int (m 77 (Int32.toNatClampNeg ((3 * v3) + 2))), .int 0, .int 0]) eX8_judge_55 kX8_canCross lX8_262 rfl rfl shp_74 rfl rfl (Nat.le_of_ble_eq_true rfl) (Nat.le_of_ble_eq_true rfl) (Nat.le_of_ble_eq_true rfl) (uX8_canCross (m 77 (Int32.toNatClampNeg (3 * v3))) (m 77 (Int32.toNatClampNeg ((3 * v3) + 1))) (m 77 (Int32.toNatClampNeg ((3 * v3) + 2))) 0 0 m q6) ?_
        obtain ⟨s7, hD⟩ := hD
        have J8 : ax_N 3 Y8_judge 98 [some (.ref 74), some (.int v1), some (.int (if (F8_canCross (m 77 (Int32.toNatClampNeg (3 * v3))) (m 77 (Int32.toNatClampNeg ((3 * v3) + 1))) (m 77 (Int32.toNatClampNeg ((3 * v3) + 2))) 0 0 m) = 0 then (v3 : Int32) else v2)), some (.int v3)] [] ((if (F8_canCross (m 77 (Int32.toNatClampNeg (3 * v3))) (m 77 (Int32.toNatClampNeg ((3 * v3) + 1))) (m 77 (Int32.toNatClampNeg ((3 * v3) + 2))) 0 0 m) = 0 then m else (F8_swaps (m 77 (Int32.toNatClampNeg (3 * v3))) (m 77 (Int32.toNatClampNeg ((3 * v3) + 1))) (m 77 (Int32.toNatClampNeg ((3 * v3) + 2))) m))) P := by
          refine s_iinc (v := v3 + 1) (ls' := [some (.ref 74), some (.int v1), some (.int (if (F8_canCross (m 77 (Int32.toNatClampNeg (3 * v3))) (m 77 (Int32.toNatClampNeg ((3 * v3) + 1))) (m 77 (Int32.toNatClampNeg ((3 * v3) + 2))) 0 0 m) = 0 then (v3 : Int32) else v2)), some (.int (v3 + 1))]) eX8_judge_98 rfl rfl rfl rfl ?_
          refine s_goto eX8_judge_101 ?_
          rw [E] at hx
          exact ih v1 (if (F8_canCross (m 77 (Int32.toNatClampNeg (3 * v3))) (m 77 (Int32.toNatClampNeg ((3 * v3) + 1))) (m 77 (Int32.toNatClampNeg ((3 * v3) + 2))) 0 0 m) = 0 then (v3 : Int32) else v2) (v3 + 1) ((if (F8_canCross (m 77 (Int32.toNatClampNeg (3 * v3))) (m 77 (Int32.toNatClampNeg ((3 * v3) + 1))) (m 77 (Int32.toNatClampNeg ((3 * v3) + 2))) 0 0 m) = 0 then m else (F8_swaps (m 77 (Int32.toNatClampNeg (3 * v3))) (m 77 (Int32.toNatClampNeg ((3 * v3) + 1))) (m 77 (Int32.toNatClampNeg ((3 * v3) + 2))) m))) hD hx
        have hD := s7
        refine s_if_eq eX8_judge_58 (fun h9 => ?_) (fun h9 => ?_)
        · skip
          refine s_iload_n eX8_judge_96 rfl rfl ?_
          refine s_istore_n (ls' := [some (.ref 74), some (.int v1), some (.int v3), some (.int v3)]) eX8_judge_97 rfl rfl rfl ?_
          exact ax_eqN (by rw [show (if (F8_canCross (m 77 (Int32.toNatClampNeg (3 * v3))) (m 77 (Int32.toNatClampNeg ((3 * v3) + 1))) (m 77 (Int32.toNatClampNeg ((3 * v3) + 2))) 0 0 m) = 0 then (v3 : Int32) else v2 : Int32) = v3 by rw [if_pos h9]]) rfl (by rw [show ((if (F8_canCross (m 77 (Int32.toNatClampNeg (3 * v3))) (m 77 (Int32.toNatClampNeg ((3 * v3) + 1))) (m 77 (Int32.toNatClampNeg ((3 * v3) + 2))) 0 0 m) = 0 then m else (F8_swaps (m 77 (Int32.toNatClampNeg (3 * v3))) (m 77 (Int32.toNatClampNeg ((3 * v3) + 1))) (m 77 (Int32.toNatClampNeg ((3 * v3) + 2))) m)) : ax_M) = m by rw [if_pos h9]]) J8
        · skip
          have hD := hD h9
          refine s_aload_n eX8_judge_61 rfl rfl ?_
          refine s_aload_n eX8_judge_62 rfl rfl ?_
          refine s_getr (q := 77) eX8_judge_63 fX8_23 shp_74 rfl ?_
          refine s_iconst (v := 3) eX8_judge_66 rfl ?_
          refine s_iload_n eX8_judge_67 rfl rfl ?_
          refine s_imul eX8_judge_68 ?_
          obtain ⟨q10, hD⟩ := hD
          refine s_iald eX8_judge_69 shp_77 q10 ?_
          refine s_aload_n eX8_judge_70 rfl rfl ?_
          refine s_getr (q := 77) eX8_judge_71 fX8_23 shp_74 rfl ?_
          refine s_iconst (v := 3) eX8_judge_74 rfl ?_
          refine s_iload_n eX8_judge_75 rfl rfl ?_
          refine s_imul eX8_judge_76 ?_
          refine s_iconst (v := 1) eX8_judge_77 rfl ?_
          refine s_iadd eX8_judge_78 ?_
          obtain ⟨q11, hD⟩ := hD
          refine s_iald eX8_judge_79 shp_77 q11 ?_
          refine s_aload_n eX8_judge_80 rfl rfl ?_
          refine s_getr (q := 77) eX8_judge_81 fX8_23 shp_74 rfl ?_
          refine s_iconst (v := 3) eX8_judge_84 rfl ?_
          refine s_iload_n eX8_judge_85 rfl rfl ?_
          refine s_imul eX8_judge_86 ?_
          refine s_iconst (v := 2) eX8_judge_87 rfl ?_
          refine s_iadd eX8_judge_88 ?_
          obtain ⟨q12, hD⟩ := hD
          refine s_iald eX8_judge_89 shp_77 q12 ?_
          have q13 := hD
          refine n_callVv (As := [.int (m 77 (Int32.toNatClampNeg (3 * v3))), .int (m 77 (Int32.toNatClampNeg ((3 * v3) + 1))), .int (m 77 (Int32.toNatClampNeg ((3 * v3) + 2)))]) eX8_judge_90 kX8_swaps lX8_265 rfl rfl shp_74 rfl rfl (Nat.le_of_ble_eq_true rfl) (Nat.le_of_ble_eq_true rfl) (Nat.le_of_ble_eq_true rfl) (uX8_swaps (m 77 (Int32.toNatClampNeg (3 * v3))) (m 77 (Int32.toNatClampNeg ((3 * v3) + 1))) (m 77 (Int32.toNatClampNeg ((3 * v3) + 2))) m q13) ?_
          refine s_goto eX8_judge_93 ?_
          exact ax_eqN (by rw [show (if (F8_canCross (m 77 (Int32.toNatClampNeg (3 * v3))) (m 77 (Int32.toNatClampNeg ((3 * v3) + 1))) (m 77 (Int32.toNatClampNeg ((3 * v3) + 2))) 0 0 m) = 0 then (v3 : Int32) else v2 : Int32) = v2 by rw [if_neg h9]]) rfl (by rw [show ((if (F8_canCross (m 77 (Int32.toNatClampNeg (3 * v3))) (m 77 (Int32.toNatClampNeg ((3 * v3) + 1))) (m 77 (Int32.toNatClampNeg ((3 * v3) + 2))) 0 0 m) = 0 then m else (F8_swaps (m 77 (Int32.toNatClampNeg (3 * v3))) (m 77 (Int32.toNatClampNeg ((3 * v3) + 1))) (m 77 (Int32.toNatClampNeg ((3 * v3) + 2))) m)) : ax_M) = (F8_swaps (m 77 (Int32.toNatClampNeg (3 * v3))) (m 77 (Int32.toNatClampNeg ((3 * v3) + 1))) (m 77 (Int32.toNatClampNeg ((3 * v3) + 2))) m) by rw [if_neg h9]]) J8
theorem cK8_judge_109 (v1 v2 v3 : Int32) (m : ax_M) {P : Option Value → ax_M → Prop} (hP : P (some (.int (K8_judge_109 v1 v2 v3 m).1)) (K8_judge_109 v1 v2 v3 m).2) : ax_N 3 Y8_judge 109 [some (.ref 74), some (.int v1), some (.int v2), some (.int v3)] [] m P := by
  have E : K8_judge_109 v1 v2 v3 m = (v2, m) := rfl
  refine s_iload_n eX8_judge_109 rfl rfl ?_
  rw [E] at hP
  exact s_iret eX8_judge_110 rfl ⟨rfl, hP⟩
theorem uX8_judge (m : ax_M) (hD : D8_judge m) : ax_NM 3 Y8_judge [.ref 74] m (fun r m1 => r = some (.int (F8_judge m).1) ∧ m1 = (F8_judge m).2) := by
  have E : F8_judge m = (K8_judge_109 (F8_codeNow m) ((L8_judge_10 64 (F8_codeNow m) ((-4)) 0 m).1) ((L8_judge_10 64 (F8_codeNow m) ((-4)) 0 m).2.1) (F8_stand (F8_codeNow m) (L8_judge_10 64 (F8_codeNow m) ((-4)) 0 m).2.2)) := rfl
  unfold D8_judge at hD
  show ax_N 3 Y8_judge 0 [some (.ref 74), none, none, none] [] m _
  refine s_aload_n eX8_judge_0 rfl rfl ?_
  obtain ⟨q1, hD⟩ := hD
  refine n_callVi (As := []) eX8_judge_1 kX8_codeNow lX8_305 rfl rfl shp_74 rfl rfl (Nat.le_of_ble_eq_true rfl) (Nat.le_of_ble_eq_true rfl) (Nat.le_of_ble_eq_true rfl) (uX8_codeNow m q1) ?_
  refine s_istore_n (ls' := [some (.ref 74), some (.int (F8_codeNow m)), none, none]) eX8_judge_4 rfl rfl rfl ?_
  refine s_bipush (v := (-4)) eX8_judge_5 rfl ?_
  refine s_istore_n (ls' := [some (.ref 74), some (.int (F8_codeNow m)), some (.int ((-4))), none]) eX8_judge_7 rfl rfl rfl ?_
  refine s_iconst (v := 0) eX8_judge_8 rfl ?_
  refine s_istore_n (ls' := [some (.ref 74), some (.int (F8_codeNow m)), some (.int ((-4))), some (.int 0)]) eX8_judge_9 rfl rfl rfl ?_
  obtain ⟨q2, hD⟩ := hD
  refine clX8_judge_10 64 (F8_codeNow m) ((-4)) 0 m q2 ?_
  refine s_aload_n eX8_judge_104 rfl rfl ?_
  refine s_iload_n eX8_judge_105 rfl rfl ?_
  have q3 := hD
  refine n_callVv (As := [.int (F8_codeNow m)]) eX8_judge_106 kX8_stand lX8_324 rfl rfl shp_74 rfl rfl (Nat.le_of_ble_eq_true rfl) (Nat.le_of_ble_eq_true rfl) (Nat.le_of_ble_eq_true rfl) (uX8_stand (F8_codeNow m) ((L8_judge_10 64 (F8_codeNow m) ((-4)) 0 m).2.2) q3) ?_
  refine cK8_judge_109 (F8_codeNow m) ((L8_judge_10 64 (F8_codeNow m) ((-4)) 0 m).1) ((L8_judge_10 64 (F8_codeNow m) ((-4)) 0 m).2.1) ((F8_stand (F8_codeNow m) (L8_judge_10 64 (F8_codeNow m) ((-4)) 0 m).2.2)) ?_
  exact ⟨by rw [E], by rw [E]⟩
