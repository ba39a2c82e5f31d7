/-! X8_late X8_layRows X8_fits X8_draws X8_atGoals -/
theorem clX8_late_20 {P : Option Value → ax_M → Prop} : ∀ (n : Nat) (v1 v2 v3 v4 : Int32) (m : ax_M), E8_late_20 n v1 v2 v3 v4 m → (ax_N 3 Y8_late 155 [some (.ref 74), some (.int v1), some (.int v2), some (.int ((L8_late_20 n v1 v2 v3 v4 m).1)), some (.int ((L8_late_20 n v1 v2 v3 v4 m).2.1)), none] [] ((L8_late_20 n v1 v2 v3 v4 m).2.2) P) → ax_N 3 Y8_late 20 [some (.ref 74), some (.int v1), some (.int v2), some (.int v3), some (.int v4), none] [] m P := by
  intro n
  induction n with
  | zero => intro v1 v2 v3 v4 m hD; exact absurd hD id
  | succ n ih =>
    intro v1 v2 v3 v4 m hD hx
    have E : L8_late_20 (n + 1) v1 v2 v3 v4 m = (if (m 74 7) ≤ v4 then (v3, v4, m) else L8_late_20 n v1 v2 (if (if (m 77 (Int32.toNatClampNeg ((3 * v4) + 1))) = v1 then (0 : Int32) else if (m 77 (Int32.toNatClampNeg ((3 * v4) + 2))) = v1 then (0 : Int32) else 1) = 0 then (v3 : Int32) else if (F8_canCross (m 77 (Int32.toNatClampNeg (3 * v4))) (m 77 (Int32.toNatClampNeg ((3 * v4) + 1))) (m 77 (Int32.toNatClampNeg ((3 * v4) + 2))) 0 0 m) = 0 then (v3 : Int32) else v3 + 1) (v4 + 1) (if (if (m 77 (Int32.toNatClampNeg ((3 * v4) + 1))) = v1 then (0 : Int32) else if (m 77 (Int32.toNatClampNeg ((3 * v4) + 2))) = v1 then (0 : Int32) else 1) = 0 then m else (if (F8_canCross (m 77 (Int32.toNatClampNeg (3 * v4))) (m 77 (Int32.toNatClampNeg ((3 * v4) + 1))) (m 77 (Int32.toNatClampNeg ((3 * v4) + 2))) 0 0 m) = 0 then m else (F8_swaps (m 77 (Int32.toNatClampNeg (3 * v4))) (m 77 (Int32.toNatClampNeg ((3 * v4) + 1))) (m 77 (Int32.toNatClampNeg ((3 * v4) + 2))) m)))) := by rw [L8_late_20]
    have hD : ((¬ ((m 74 7) ≤ v4) → ((vp_in ((3 * v4) + 1) 24) ∧ (¬ ((m 77 (Int32.toNatClampNeg ((3 * v4) + 1))) = v1) → ((vp_in ((3 * v4) + 2) 24))) ∧ (¬ ((if (m 77 (Int32.toNatClampNeg ((3 * v4) + 1))) = v1 then (0 : Int32) else if (m 77 (Int32.toNatClampNeg ((3 * v4) + 2))) = v1 then (0 : Int32) else 1) = 0) → ((vp_in (3 * v4) 24) ∧ (vp_in ((3 * v4) + 1) 24) ∧ (vp_in ((3 * v4) + 2) 24) ∧ (D8_canCross (m 77 (Int32.toNatClampNeg (3 * v4))) (m 77 (Int32.toNatClampNeg ((3 * v4) + 1))) (m 77 (Int32.toNatClampNeg ((3 * v4) + 2))) 0 0 m) ∧ (¬ ((F8_canCross (m 77 (Int32.toNatClampNeg (3 * v4))) (m 77 (Int32.toNatClampNeg ((3 * v4) + 1))) (m 77 (Int32.toNatClampNeg ((3 * v4) + 2))) 0 0 m) = 0) → ((vp_in (3 * v4) 24) ∧ (vp_in ((3 * v4) + 1) 24) ∧ (vp_in ((3 * v4) + 2) 24) ∧ (D8_swaps (m 77 (Int32.toNatClampNeg (3 * v4))) (m 77 (Int32.toNatClampNeg ((3 * v4) + 1))) (m 77 (Int32.toNatClampNeg ((3 * v4) + 2))) m))))) ∧ (E8_late_20 n v1 v2 (if (if (m 77 (Int32.toNatClampNeg ((3 * v4) + 1))) = v1 then (0 : Int32) else if (m 77 (Int32.toNatClampNeg ((3 * v4) + 2))) = v1 then (0 : Int32) else 1) = 0 then (v3 : Int32) else if (F8_canCross (m 77 (Int32.toNatClampNeg (3 * v4))) (m 77 (Int32.toNatClampNeg ((3 * v4) + 1))) (m 77 (Int32.toNatClampNeg ((3 * v4) + 2))) 0 0 m) = 0 then (v3 : Int32) else v3 + 1) (v4 + 1) (if (if (m 77 (Int32.toNatClampNeg ((3 * v4) + 1))) = v1 then (0 : Int32) else if (m 77 (Int32.toNatClampNeg ((3 * v4) + 2))) = v1 then (0 : Int32) else 1) = 0 then m else (if (F8_canCross (m 77 (Int32.toNatClampNeg (3 * v4))) (m 77 (Int32.toNatClampNeg ((3 * v4) + 1))) (m 77 (Int32.toNatClampNeg ((3 * v4) + 2))) 0 0 m) = 0 then m else (F8_swaps (m 77 (Int32.toNatClampNeg (3 * v4))) (m 77 (Int32.toNatClampNeg ((3 * v4) + 1))) (m 77 (Int32.toNatClampNeg ((3 * v4) + 2))) m))))))) := hD
    refine s_iload eX8_late_20 rfl ?_
    refine s_aload_n eX8_late_22 rfl rfl ?_
    refine s_geti eX8_late_23 fX8_205 shp_74 rfl ?_
    refine s_icmp_ge eX8_late_26 (fun h1 => ?_) (fun h1 => ?_)
    · skip
      rw [if_pos h1] at E
      rw [E] at hx
      exact hx
    · skip
      rw [if_neg h1] at E
      have hD := hD h1
      refine s_aload_n eX8_late_29 rfl rfl ?_
      refine s_getr (q := 77) eX8_late_30 fX8_23 shp_74 rfl ?_
      refine s_iconst (v := 3) eX8_late_33 rfl ?_
      refine s_iload eX8_late_34 rfl ?_
      refine s_imul eX8_late_36 ?_
      refine s_iconst (v := 1) eX8_late_37 rfl ?_
      refine s_iadd eX8_late_38 ?_
      obtain ⟨q2, hD⟩ := hD
      refine s_iald eX8_late_39 shp_77 q2 ?_
      refine s_iload_n eX8_late_40 rfl rfl ?_
      obtain ⟨s3, hD⟩ := hD
      have J4 : ax_N 3 Y8_late 64 [some (.ref 74), some (.int v1), some (.int v2), some (.int v3), some (.int v4), none] [.int (if (m 77 (Int32.toNatClampNeg ((3 * v4) + 1))) = v1 then (0 : Int32) else if (m 77 (Int32.toNatClampNeg ((3 * v4) + 2))) = v1 then (0 : Int32) else 1)] m P := by
        refine s_istore (ls' := [some (.ref 74), some (.int v1), some (.int v2), some (.int v3), some (.int v4), some (.int (if (m 77 (Int32.toNatClampNeg ((3 * v4) + 1))) = v1 then (0 : Int32) else if (m 77 (Int32.toNatClampNeg ((3 * v4) + 2))) = v1 then (0 : Int32) else 1))]) eX8_late_64 rfl rfl ?_
        refine s_iload eX8_late_66 rfl ?_
        obtain ⟨s5, hD⟩ := hD
        have J6 : ax_N 3 Y8_late 149 [some (.ref 74), some (.int v1), some (.int v2), some (.int (if (if (m 77 (Int32.toNatClampNeg ((3 * v4) + 1))) = v1 then (0 : Int32) else if (m 77 (Int32.toNatClampNeg ((3 * v4) + 2))) = v1 then (0 : Int32) else 1) = 0 then (v3 : Int32) else if (F8_canCross (m 77 (Int32.toNatClampNeg (3 * v4))) (m 77 (Int32.toNatClampNeg ((3 * v4) + 1))) (m 77 (Int32.toNatClampNeg ((3 * v4) + 2))) 0 0 m) = 0 then (v3 : Int32) else v3 + 1)), some (.int v4), some (.int (if (m 77 (Int32.toNatClampNeg ((3 * v4) + 1))) = v1 then (0 : Int32) else if (m 77 (Int32.toNatClampNeg ((3 * v4) + 2))) = v1 then (0 : Int32) else 1))] [] ((if (if (m 77 (Int32.toNatClampNeg ((3 * v4) + 1))) = v1 then (0 : Int32) else if (m 77 (Int32.toNatClampNeg ((3 * v4) + 2))) = v1 then (0 : Int32) else 1) = 0 then m else (if (F8_canCross (m 77 (Int32.toNatClampNeg (3 * v4))) (m 77 (Int32.toNatClampNeg ((3 * v4) + 1))) (m 77 (Int32.toNatClampNeg ((3 * v4) + 2))) 0 0 m) = 0 then m else (F8_swaps (m 77 (Int32.toNatClampNeg (3 * v4))) (m 77 (Int32.toNatClampNeg ((3 * v4) + 1))) (m 77 (Int32.toNatClampNeg ((3 * v4) + 2))) m)))) P := by
          refine s_iinc (v := v4 + 1) (ls' := [some (.ref 74), some (.int v1), some (.int v2), some (.int (if (if (m 77 (Int32.toNatClampNeg ((3 * v4) + 1))) = v1 then (0 : Int32) else if (m 77 (Int32.toNatClampNeg ((3 * v4) + 2))) = v1 then (0 : Int32) else 1) = 0 then (v3 : Int32) else if (F8_canCross (m 77 (Int32.toNatClampNeg (3 * v4))) (m 77 (Int32.toNatClampNeg ((3 * v4) + 1))) (m 77 (Int32.toNatClampNeg ((3 * v4) + 2))) 0 0 m) = 0 then (v3 : Int32) else v3 + 1)), some (.int (v4 + 1)), some (.int (if (m 77 (Int32.toNatClampNeg ((3 * v4) + 1))) = v1 then (0 : Int32) else if (m 77 (Int32.toNatClampNeg ((3 * v4) + 2))) = v1 then (0 : Int32) else 1))]) eX8_late_149 rfl rfl rfl rfl ?_
          refine s_goto eX8_late_152 ?_
          refine ax_forget (ls' := [some (.ref 74), some (.int v1), some (.int v2), some (.int (if (if (m 77 (Int32.toNatClampNeg ((3 * v4) + 1))) = v1 then (0 : Int32) else if (m 77 (Int32.toNatClampNeg ((3 * v4) + 2))) = v1 then (0 : Int32) else 1) = 0 then (v3 : Int32) else if (F8_canCross (m 77 (Int32.toNatClampNeg (3 * v4))) (m 77 (Int32.toNatClampNeg ((3 * v4) + 1))) (m 77 (Int32.toNatClampNeg ((3 * v4) + 2))) 0 0 m) = 0 then (v3 : Int32) else v3 + 1)), some (.int (v4 + 1)), none]) rfl ?_
          rw [E] at hx
          exact ih v1 v2 (if (if (m 77 (Int32.toNatClampNeg ((3 * v4) + 1))) = v1 then (0 : Int32) else if (m 77 (Int32.toNatClampNeg ((3 * v4) + 2))) = v1 then (0 : Int32) else 1) = 0 then (v3 : Int32) else if (F8_canCross (m 77 (Int32.toNatClampNeg (3 * v4))) (m 77 (Int32.toNatClampNeg ((3 * v4) + 1))) (m 77 (Int32.toNatClampNeg ((3 * v4) + 2))) 0 0 m) = 0 then (v3 : Int32) else v3 + 1) (v4 + 1) ((if (if (m 77 (Int32.toNatClampNeg ((3 * v4) + 1))) = v1 then (0 : Int32) else if (m 77 (Int32.toNatClampNeg ((3 * v4) + 2))) = v1 then (0 : Int32) else 1) = 0 then m else (if (F8_canCross (m 77 (Int32.toNatClampNeg (3 * v4))) (m 77 (Int32.toNatClampNeg ((3 * v4) + 1))) (m 77 (Int32.toNatClampNeg ((3 * v4) + 2))) 0 0 m) = 0 then m else (F8_swaps (m 77 (Int32.toNatClampNeg (3 * v4))) (m 77 (Int32.toNatClampNeg ((3 * v4) + 1))) (m 77 (Int32.toNatClampNeg ((3 * v4) + 2))) m)))) hD hx
        have hD := s5
        refine s_if_eq eX8_late_68 (fun h7 => ?_) (fun h7 => ?_)
        · skip
          exact ax_eqN (by rw [show (if (if (m 77 (Int32.toNatClampNeg ((3 * v4) + 1))) = v1 then (0 : Int32) else if (m 77 (Int32.toNatClampNeg ((3 * v4) + 2))) = v1 then (0 : Int32) else 1) = 0 then (v3 : Int32) else if (F8_canCross (m 77 (Int32.toNatClampNeg (3 * v4))) (m 77 (Int32.toNatClampNeg ((3 * v4) + 1))) (m 77 (Int32.toNatClampNeg ((3 * v4) + 2))) 0 0 m) = 0 then (v3 : Int32) else v3 + 1 : Int32) = v3 by rw [if_pos h7]]) rfl (by rw [show ((if (if (m 77 (Int32.toNatClampNeg ((3 * v4) + 1))) = v1 then (0 : Int32) else if (m 77 (Int32.toNatClampNeg ((3 * v4) + 2))) = v1 then (0 : Int32) else 1) = 0 then m else (if (F8_canCross (m 77 (Int32.toNatClampNeg (3 * v4))) (m 77 (Int32.toNatClampNeg ((3 * v4) + 1))) (m 77 (Int32.toNatClampNeg ((3 * v4) + 2))) 0 0 m) = 0 then m else (F8_swaps (m 77 (Int32.toNatClampNeg (3 * v4))) (m 77 (Int32.toNatClampNeg ((3 * v4) + 1))) (m 77 (Int32.toNatClampNeg ((3 * v4) + 2))) m))) : ax_M) = m by rw [if_pos h7]]) J6
        · skip
          have hD := hD h7
          refine s_aload_n eX8_late_71 rfl rfl ?_
          refine s_aload_n eX8_late_72 rfl rfl ?_
          refine s_getr (q := 77) eX8_late_73 fX8_23 shp_74 rfl ?_
          refine s_iconst (v := 3) eX8_late_76 rfl ?_
          refine s_iload eX8_late_77 rfl ?_
          refine s_imul eX8_late_79 ?_
          obtain ⟨q8, hD⟩ := hD
          refine s_iald eX8_late_80 shp_77 q8 ?_
          refine s_aload_n eX8_late_81 rfl rfl ?_
          refine s_getr (q := 77) eX8_late_82 fX8_23 shp_74 rfl ?_
          refine s_iconst (v := 3) eX8_late_85 rfl ?_
          refine s_iload eX8_late_86 rfl ?_
          refine s_imul eX8_late_88 ?_
          refine s_iconst (v := 1) eX8_late_89 rfl ?_
          refine s_iadd eX8_late_90 ?_
          obtain ⟨q9, hD⟩ := hD
          refine s_iald eX8_late_91 shp_77 q9 ?_
          refine s_aload_n eX8_late_92 rfl rfl ?_
          refine s_getr (q := 77) eX8_late_93 fX8_23 shp_74 rfl ?_
          refine s_iconst (v := 3) eX8_late_96 rfl ?_
          refine s_iload eX8_late_97 rfl ?_
          refine s_imul eX8_late_99 ?_
          refine s_iconst (v := 2) eX8_late_100 rfl ?_
          refine s_iadd eX8_late_101 ?_
          obtain ⟨q10, hD⟩ := hD
          refine s_iald eX8_late_102 shp_77 q10 ?_
          refine s_iconst (v := 0) eX8_late_103 rfl ?_
          refine s_iconst (v := 0) eX8_late_104 rfl ?_
          obtain ⟨q11, hD⟩ := hD
          refine n_callVi (As := [.int (m 77 (Int32.toNatClampNeg (3 * v4))), .int (m 77 (Int32.toNatClampNeg ((3 * v4) + 1))), .int (m 77 (Int32.toNatClampNeg ((3 * v4) + 2))), .int 0, .int 0]) eX8_late_105 kX8_canCross lX8_262 rfl rfl shp_74 rfl rfl (Nat.le_of_ble_eq_true rfl) (Nat.le_of_ble_eq_true rfl) (Nat.le_of_ble_eq_true rfl) (uX8_canCross (m 77 (Int32.toNatClampNeg (3 * v4))) (m 77 (Int32.toNatClampNeg ((3 * v4) + 1))) (m 77 (Int32.toNatClampNeg ((3 * v4) + 2))) 0 0 m q11) ?_
          refine s_if_eq eX8_late_108 (fun h12 => ?_) (fun h12 => ?_)
          · skip
            exact ax_eqN (by rw [show (if (if (m 77 (Int32.toNatClampNeg ((3 * v4) + 1))) = v1 then (0 : Int32) else if (m 77 (Int32.toNatClampNeg ((3 * v4) + 2))) = v1 then (0 : Int32) else 1) = 0 then (v3 : Int32) else if (F8_canCross (m 77 (Int32.toNatClampNeg (3 * v4))) (m 77 (Int32.toNatClampNeg ((3 * v4) + 1))) (m 77 (Int32.toNatClampNeg ((3 * v4) + 2))) 0 0 m) = 0 then (v3 : Int32) else v3 + 1 : Int32) = v3 by rw [if_neg h7, if_pos h12]]) rfl (by rw [show ((if (if (m 77 (Int32.toNatClampNeg ((3 * v4) + 1))) = v1 then (0 : Int32) else if (m 77 (Int32.toNatClampNeg ((3 * v4) + 2))) = v1 then (0 : Int32) else 1) = 0 then m else (if (F8_canCross (m 77 (Int32.toNatClampNeg (3 * v4))) (m 77 (Int32.toNatClampNeg ((3 * v4) + 1))) (m 77 (Int32.toNatClampNeg ((3 * v4) + 2))) 0 0 m) = 0 then m else (F8_swaps (m 77 (Int32.toNatClampNeg (3 * v4))) (m 77 (Int32.toNatClampNeg ((3 * v4) + 1))) (m 77 (Int32.toNatClampNeg ((3 * v4) + 2))) m))) : ax_M) = m by rw [if_neg h7, if_pos h12]]) J6
          · skip
            have hD := hD h12
            refine s_aload_n eX8_late_111 rfl rfl ?_
            refine s_aload_n eX8_late_112 rfl rfl ?_
            refine s_getr (q := 77) eX8_late_113 fX8_23 shp_74 rfl ?_
            refine s_iconst (v := 3) eX8_late_116 rfl ?_
            refine s_iload eX8_late_117 rfl ?_
            refine s_imul eX8_late_119 ?_
            obtain ⟨q13, hD⟩ := hD
            refine s_iald eX8_late_120 shp_77 q13 ?_
            refine s_aload_n eX8_late_121 rfl rfl ?_
            refine s_getr (q := 77) eX8_late_122 fX8_23 shp_74 rfl ?_
            refine s_iconst (v := 3) eX8_late_125 rfl ?_
            refine s_iload eX8_late_126 rfl ?_
            refine s_imul eX8_late_128 ?_
            refine s_iconst (v := 1) eX8_late_129 rfl ?_
            refine s_iadd eX8_late_130 ?_
            obtain ⟨q14, hD⟩ := hD
            refine s_iald eX8_late_131 shp_77 q14 ?_
            refine s_aload_n eX8_late_132 rfl rfl ?_
            refine s_getr (q := 77) eX8_late_133 fX8_23 shp_74 rfl ?_
            refine s_iconst (v := 3) eX8_late_136 rfl ?_
            refine s_iload eX8_late_137 rfl ?_
            refine s_imul eX8_late_139 ?_
            refine s_iconst (v := 2) eX8_late_140 rfl ?_
            refine s_iadd eX8_late_141 ?_
            obtain ⟨q15, hD⟩ := hD
            refine s_iald eX8_late_142 shp_77 q15 ?_
            have q16 := hD
            refine n_callVv (As := [.int (m 77 (Int32.toNatClampNeg (3 * v4))), .int (m 77 (Int32.toNatClampNeg ((3 * v4) + 1))), .int (m 77 (Int32.toNatClampNeg ((3 * v4) + 2)))]) eX8_late_143 kX8_swaps lX8_265 rfl rfl shp_74 rfl rfl (Nat.le_of_ble_eq_true rfl) (Nat.le_of_ble_eq_true rfl) (Nat.le_of_ble_eq_true rfl) (uX8_swaps (m 77 (Int32.toNatClampNeg (3 * v4))) (m 77 (Int32.toNatClampNeg ((3 * v4) + 1))) (m 77 (Int32.toNatClampNeg ((3 * v4) + 2))) m q16) ?_
            refine s_iinc (v := v3 + 1) (ls' := [some (.ref 74), some (.int v1), some (.int v2), some (.int (v3 + 1)), some (.int v4), some (.int (if (m 77 (Int32.toNatClampNeg ((3 * v4) + 1))) = v1 then (0 : Int32) else if (m 77 (Int32.toNatClampNeg ((3 * v4) + 2))) = v1 then (0 : Int32) else 1))]) eX8_late_146 rfl rfl rfl rfl ?_
            exact ax_eqN (by rw [show (if (if (m 77 (Int32.toNatClampNeg ((3 * v4) + 1))) = v1 then (0 : Int32) else if (m 77 (Int32.toNatClampNeg ((3 * v4) + 2))) = v1 then (0 : Int32) else 1) = 0 then (v3 : Int32) else if (F8_canCross (m 77 (Int32.toNatClampNeg (3 * v4))) (m 77 (Int32.toNatClampNeg ((3 * v4) + 1))) (m 77 (Int32.toNatClampNeg ((3 * v4) + 2))) 0 0 m) = 0 then (v3 : Int32) else v3 + 1 : Int32) = v3 + 1 by rw [if_neg h7, if_neg h12]]) rfl (by rw [show ((if (if (m 77 (Int32.toNatClampNeg ((3 * v4) + 1))) = v1 then (0 : Int32) else if (m 77 (Int32.toNatClampNeg ((3 * v4) + 2))) = v1 then (0 : Int32) else 1) = 0 then m else (if (F8_canCross (m 77 (Int32.toNatClampNeg (3 * v4))) (m 77 (Int32.toNatClampNeg ((3 * v4) + 1))) (m 77 (Int32.toNatClampNeg ((3 * v4) + 2))) 0 0 m) = 0 then m else (F8_swaps (m 77 (Int32.toNatClampNeg (3 * v4))) (m 77 (Int32.toNatClampNeg ((3 * v4) + 1))) (m 77 (Int32.toNatClampNeg ((3 * v4) + 2))) m))) : ax_M) = (F8_swaps (m 77 (Int32.toNatClampNeg (3 * v4))) (m 77 (Int32.toNatClampNeg ((3 * v4) + 1))) (m 77 (Int32.toNatClampNeg ((3 * v4) + 2))) m) by rw [if_neg h7, if_neg h12]]) J6
      have hD := s3
      refine s_icmp_eq eX8_late_41 (fun h17 => ?_) (fun h17 => ?_)
      · skip
        refine s_iconst (v := 0) eX8_late_63 rfl ?_
        exact ax_eqN rfl (by rw [show (if (m 77 (Int32.toNatClampNeg ((3 * v4) + 1))) = v1 then (0 : Int32) else if (m 77 (Int32.toNatClampNeg ((3 * v4) + 2))) = v1 then (0 : Int32) else 1 : Int32) = 0 by rw [if_pos h17]]) rfl J4
      · skip
        have hD := hD h17
        refine s_aload_n eX8_late_44 rfl rfl ?_
        refine s_getr (q := 77) eX8_late_45 fX8_23 shp_74 rfl ?_
        refine s_iconst (v := 3) eX8_late_48 rfl ?_
        refine s_iload eX8_late_49 rfl ?_
        refine s_imul eX8_late_51 ?_
        refine s_iconst (v := 2) eX8_late_52 rfl ?_
        refine s_iadd eX8_late_53 ?_
        have q18 := hD
        refine s_iald eX8_late_54 shp_77 q18 ?_
        refine s_iload_n eX8_late_55 rfl rfl ?_
        refine s_icmp_eq eX8_late_56 (fun h19 => ?_) (fun h19 => ?_)
        · skip
          refine s_iconst (v := 0) eX8_late_63 rfl ?_
          exact ax_eqN rfl (by rw [show (if (m 77 (Int32.toNatClampNeg ((3 * v4) + 1))) = v1 then (0 : Int32) else if (m 77 (Int32.toNatClampNeg ((3 * v4) + 2))) = v1 then (0 : Int32) else 1 : Int32) = 0 by rw [if_neg h17, if_pos h19]]) rfl J4
        · skip
          refine s_iconst (v := 1) eX8_late_59 rfl ?_
          refine s_goto eX8_late_60 ?_
          exact ax_eqN rfl (by rw [show (if (m 77 (Int32.toNatClampNeg ((3 * v4) + 1))) = v1 then (0 : Int32) else if (m 77 (Int32.toNatClampNeg ((3 * v4) + 2))) = v1 then (0 : Int32) else 1 : Int32) = 1 by rw [if_neg h17, if_neg h19]]) rfl J4
theorem cK8_late_160 (v1 v2 v3 v4 : Int32) (m : ax_M) {P : Option Value → ax_M → Prop} (hP : P (some (.int (K8_late_160 v1 v2 v3 v4 m).1)) (K8_late_160 v1 v2 v3 v4 m).2) : ax_N 3 Y8_late 160 [some (.ref 74), some (.int v1), some (.int v2), some (.int v3), some (.int v4), none] [] m P := by
  have E : K8_late_160 v1 v2 v3 v4 m = (v3, m) := rfl
  refine s_iload_n eX8_late_160 rfl rfl ?_
  rw [E] at hP
  exact s_iret eX8_late_161 rfl ⟨rfl, hP⟩
theorem uX8_late (a1 : Int32) (m : ax_M) (hD : D8_late a1 m) : ax_NM 3 Y8_late [.ref 74, .int a1] m (fun r m1 => r = some (.int (F8_late a1 m).1) ∧ m1 = (F8_late a1 m).2) := by
  have E : F8_late a1 m = (if (F8_isOne a1 m) = 0 then ((-1), m) else (K8_late_160 a1 (F8_codeNow m) ((L8_late_20 64 a1 (F8_codeNow m) 0 0 m).1) ((L8_late_20 64 a1 (F8_codeNow m) 0 0 m).2.1) (F8_stand (F8_codeNow m) (L8_late_20 64 a1 (F8_codeNow m) 0 0 m).2.2))) := rfl
  unfold D8_late at hD
  show ax_N 3 Y8_late 0 [some (.ref 74), some (.int a1), none, none, none, none] [] m _
  refine s_aload_n eX8_late_0 rfl rfl ?_
  refine s_iload_n eX8_late_1 rfl rfl ?_
  refine n_callVi (As := [.int a1]) eX8_late_2 kX8_isOne lX8_212 rfl rfl shp_74 rfl rfl (Nat.le_of_ble_eq_true rfl) (Nat.le_of_ble_eq_true rfl) (Nat.le_of_ble_eq_true rfl) (uX8_isOne a1 m) ?_
  refine s_if_ne eX8_late_5 (fun h1 => ?_) (fun h1 => ?_)
  · skip
    rw [if_neg h1] at E
    have hD := hD h1
    refine s_aload_n eX8_late_10 rfl rfl ?_
    obtain ⟨q2, hD⟩ := hD
    refine n_callVi (As := []) eX8_late_11 kX8_codeNow lX8_305 rfl rfl shp_74 rfl rfl (Nat.le_of_ble_eq_true rfl) (Nat.le_of_ble_eq_true rfl) (Nat.le_of_ble_eq_true rfl) (uX8_codeNow m q2) ?_
    refine s_istore_n (ls' := [some (.ref 74), some (.int a1), some (.int (F8_codeNow m)), none, none, none]) eX8_late_14 rfl rfl rfl ?_
    refine s_iconst (v := 0) eX8_late_15 rfl ?_
    refine s_istore_n (ls' := [some (.ref 74), some (.int a1), some (.int (F8_codeNow m)), some (.int 0), none, none]) eX8_late_16 rfl rfl rfl ?_
    refine s_iconst (v := 0) eX8_late_17 rfl ?_
    refine s_istore (ls' := [some (.ref 74), some (.int a1), some (.int (F8_codeNow m)), some (.int 0), some (.int 0), none]) eX8_late_18 rfl rfl ?_
    obtain ⟨q3, hD⟩ := hD
    refine clX8_late_20 64 a1 (F8_codeNow m) 0 0 m q3 ?_
    refine s_aload_n eX8_late_155 rfl rfl ?_
    refine s_iload_n eX8_late_156 rfl rfl ?_
    have q4 := hD
    refine n_callVv (As := [.int (F8_codeNow m)]) eX8_late_157 kX8_stand lX8_324 rfl rfl shp_74 rfl rfl (Nat.le_of_ble_eq_true rfl) (Nat.le_of_ble_eq_true rfl) (Nat.le_of_ble_eq_true rfl) (uX8_stand (F8_codeNow m) ((L8_late_20 64 a1 (F8_codeNow m) 0 0 m).2.2) q4) ?_
    refine cK8_late_160 a1 (F8_codeNow m) ((L8_late_20 64 a1 (F8_codeNow m) 0 0 m).1) ((L8_late_20 64 a1 (F8_codeNow m) 0 0 m).2.1) ((F8_stand (F8_codeNow m) (L8_late_20 64 a1 (F8_codeNow m) 0 0 m).2.2)) ?_
    exact ⟨by rw [E], by rw [E]⟩
  · skip
    rw [if_pos h1] at E
    refine s_iconst (v := (-1)) eX8_late_8 rfl ?_
    exact s_iret eX8_late_9 rfl ⟨rfl, by rw [E], by rw [E]⟩
theorem clX8_layRows_6 {P : Option Value → ax_M → Prop} : ∀ (n : Nat) (v1 v2 v3 : Int32) (m : ax_M), E8_layRows_6 n v1 v2 v3 m → (ax_N 4 Y8_layRows 35 [some (.ref 74), some (.int v1), some (.int v2), some (.int ((L8_layRows_6 n v1 v2 v3 m).1)), none, none, none, none] [] ((L8_layRows_6 n v1 v2 v3 m).2) P) → ax_N 4 Y8_layRows 6 [some (.ref 74), some (.int v1), some (.int v2), some (.int v3), none, none, none, none] [] m P := by
  intro n
  induction n with
  | zero => intro v1 v2 v3 m hD; exact absurd hD id
  | succ n ih =>
    intro v1 v2 v3 m hD hx
    have E : L8_layRows_6 (n + 1) v1 v2 v3 m = (if 4096 ≤ v3 then (v3, m) else L8_layRows_6 n v1 v2 (v3 + 1) (ax_up m 92 (Int32.toNatClampNeg v3) (if v3 = v2 then (1 : Int32) else 0))) := by rw [L8_layRows_6]
    have hD : ((¬ (4096 ≤ v3) → ((vp_in v3 20480) ∧ (E8_layRows_6 n v1 v2 (v3 + 1) (ax_up m 92 (Int32.toNatClampNeg v3) (if v3 = v2 then (1 : Int32) else 0)))))) := hD
    refine s_iload_n eX8_layRows_6 rfl rfl ?_
    refine s_sipush (v := 4096) eX8_layRows_7 rfl ?_
    refine s_icmp_ge eX8_layRows_10 (fun h1 => ?_) (fun h1 => ?_)
    · skip
      rw [if_pos h1] at E
      rw [E] at hx
      exact hx
    · skip
      rw [if_neg h1] at E
      have hD := hD h1
      refine s_aload_n eX8_layRows_13 rfl rfl ?_
      refine s_getr (q := 92) eX8_layRows_14 fX8_68 shp_74 rfl ?_
      refine s_iload_n eX8_layRows_17 rfl rfl ?_
      refine s_iload_n eX8_layRows_18 rfl rfl ?_
      refine s_iload_n eX8_layRows_19 rfl rfl ?_
      have J2 : ax_N 4 Y8_layRows 28 [some (.ref 74), some (.int v1), some (.int v2), some (.int v3), none, none, none, none] [.int (if v3 = v2 then (1 : Int32) else 0), .int v3, .ref 92] m P := by
        obtain ⟨q3, hD⟩ := hD
        refine s_iast eX8_layRows_28 shp_92 q3 ?_
        refine s_iinc (v := v3 + 1) (ls' := [some (.ref 74), some (.int v1), some (.int v2), some (.int (v3 + 1)), none, none, none, none]) eX8_layRows_29 rfl rfl rfl rfl ?_
        refine s_goto eX8_layRows_32 ?_
        rw [E] at hx
        exact ih v1 v2 (v3 + 1) ((ax_up m 92 (Int32.toNatClampNeg v3) (if v3 = v2 then (1 : Int32) else 0))) hD hx
      refine s_icmp_ne eX8_layRows_20 (fun h4 => ?_) (fun h4 => ?_)
      · skip
        refine s_iconst (v := 0) eX8_layRows_27 rfl ?_
        exact ax_eqN rfl (by rw [show (if v3 = v2 then (1 : Int32) else 0 : Int32) = 0 by rw [if_neg h4]]) rfl J2
      · skip
        refine s_iconst (v := 1) eX8_layRows_23 rfl ?_
        refine s_goto eX8_layRows_24 ?_
        exact ax_eqN rfl (by rw [show (if v3 = v2 then (1 : Int32) else 0 : Int32) = 1 by rw [if_pos h4]]) rfl J2
theorem clX8_layRows_59 {P : Option Value → ax_M → Prop} : ∀ (n : Nat) (v1 v2 v3 v4 v5 v6 : Int32) (m : ax_M), E8_layRows_59 n v1 v2 v3 v4 v5 v6 m → (ax_N 4 Y8_layRows 131 [some (.ref 74), some (.int v1), some (.int v2), some (.int v3), some (.int v4), some (.int ((L8_layRows_59 n v1 v2 v3 v4 v5 v6 m).1)), some (.int ((L8_layRows_59 n v1 v2 v3 v4 v5 v6 m).2)), none] [] m P) → ax_N 4 Y8_layRows 59 [some (.ref 74), some (.int v1), some (.int v2), some (.int v3), some (.int v4), some (.int v5), some (.int v6), none] [] m P := by
  intro n
  induction n with
  | zero => intro v1 v2 v3 v4 v5 v6 m hD; exact absurd hD id
  | succ n ih =>
    intro v1 v2 v3 v4 v5 v6 m hD hx
    have E : L8_layRows_59 (n + 1) v1 v2 v3 v4 v5 v6 m = (if (100 * (m 74 2)) ≤ v6 then (v5, v6) else (if ((1 : Int32) <<< ((2 * (m 74 3)) &&& (31 : Int32))) ≤ v4 then (v5, v6) else L8_layRows_59 n v1 v2 v3 v4 (v5 + (if (F8_follows v4 v6 m) = ((-4)) then (0 : Int32) else m 92 (Int32.toNatClampNeg ((4096 * (v3 - 1)) + (F8_follows v4 v6 m))))) (v6 + 1) m)) := by rw [L8_layRows_59]
    have hD : ((¬ ((100 * (m 74 2)) ≤ v6) → ((¬ (((1 : Int32) <<< ((2 * (m 74 3)) &&& (31 : Int32))) ≤ v4) → ((D8_follows v4 v6 m) ∧ (¬ ((F8_follows v4 v6 m) = ((-4))) → ((vp_in ((4096 * (v3 - 1)) + (F8_follows v4 v6 m)) 20480))) ∧ (E8_layRows_59 n v1 v2 v3 v4 (v5 + (if (F8_follows v4 v6 m) = ((-4)) then (0 : Int32) else m 92 (Int32.toNatClampNeg ((4096 * (v3 - 1)) + (F8_follows v4 v6 m))))) (v6 + 1) m)))))) := hD
    refine s_iload eX8_layRows_59 rfl ?_
    refine s_bipush (v := 100) eX8_layRows_61 rfl ?_
    refine s_aload_n eX8_layRows_63 rfl rfl ?_
    refine s_geti eX8_layRows_64 fX8_199 shp_74 rfl ?_
    refine s_imul eX8_layRows_67 ?_
    refine s_icmp_ge eX8_layRows_68 (fun h1 => ?_) (fun h1 => ?_)
    · skip
      rw [if_pos h1] at E
      rw [E] at hx
      exact hx
    · skip
      rw [if_neg h1] at E
      have hD := hD h1
      refine s_iload eX8_layRows_71 rfl ?_
      refine s_iconst (v := 1) eX8_layRows_73 rfl ?_
      refine s_iconst (v := 2) eX8_layRows_74 rfl ?_
      refine s_aload_n eX8_layRows_75 rfl rfl ?_
      refine s_geti eX8_layRows_76 fX8_202 shp_74 rfl ?_
      refine s_imul eX8_layRows_79 ?_
      refine s_ishl eX8_layRows_80 ?_
      refine s_icmp_ge eX8_layRows_81 (fun h2 => ?_) (fun h2 => ?_)
      · skip
        rw [if_pos h2] at E
        rw [E] at hx
        exact hx
      · skip
        rw [if_neg h2] at E
        have hD := hD h2
        refine s_aload_n eX8_layRows_84 rfl rfl ?_
        refine s_iload eX8_layRows_85 rfl ?_
        refine s_iload eX8_layRows_87 rfl ?_
        obtain ⟨q3, hD⟩ := hD
        refine n_callVi (As := [.int v4, .int v6]) eX8_layRows_89 kX8_follows lX8_314 rfl rfl shp_74 rfl rfl (Nat.le_of_ble_eq_true rfl) (Nat.le_of_ble_eq_true rfl) (Nat.le_of_ble_eq_true rfl) (uX8_follows v4 v6 m q3) ?_
        refine s_istore (ls' := [some (.ref 74), some (.int v1), some (.int v2), some (.int v3), some (.int v4), some (.int v5), some (.int v6), some (.int (F8_follows v4 v6 m))]) eX8_layRows_92 rfl rfl ?_
        refine s_iload eX8_layRows_94 rfl ?_
        refine s_iload eX8_layRows_96 rfl ?_
        refine s_bipush (v := (-4)) eX8_layRows_98 rfl ?_
        obtain ⟨s4, hD⟩ := hD
        have J5 : ax_N 4 Y8_layRows 122 [some (.ref 74), some (.int v1), some (.int v2), some (.int v3), some (.int v4), some (.int v5), some (.int v6), some (.int (F8_follows v4 v6 m))] [.int (if (F8_follows v4 v6 m) = ((-4)) then (0 : Int32) else m 92 (Int32.toNatClampNeg ((4096 * (v3 - 1)) + (F8_follows v4 v6 m)))), .int v5] m P := by
          refine s_iadd eX8_layRows_122 ?_
          refine s_istore (ls' := [some (.ref 74), some (.int v1), some (.int v2), some (.int v3), some (.int v4), some (.int (v5 + (if (F8_follows v4 v6 m) = ((-4)) then (0 : Int32) else m 92 (Int32.toNatClampNeg ((4096 * (v3 - 1)) + (F8_follows v4 v6 m)))))), some (.int v6), some (.int (F8_follows v4 v6 m))]) eX8_layRows_123 rfl rfl ?_
          refine s_iinc (v := v6 + 1) (ls' := [some (.ref 74), some (.int v1), some (.int v2), some (.int v3), some (.int v4), some (.int (v5 + (if (F8_follows v4 v6 m) = ((-4)) then (0 : Int32) else m 92 (Int32.toNatClampNeg ((4096 * (v3 - 1)) + (F8_follows v4 v6 m)))))), some (.int (v6 + 1)), some (.int (F8_follows v4 v6 m))]) eX8_layRows_125 rfl rfl rfl rfl ?_
          refine s_goto eX8_layRows_128 ?_
          refine ax_forget (ls' := [some (.ref 74), some (.int v1), some (.int v2), some (.int v3), some (.int v4), some (.int (v5 + (if (F8_follows v4 v6 m) = ((-4)) then (0 : Int32) else m 92 (Int32.toNatClampNeg ((4096 * (v3 - 1)) + (F8_follows v4 v6 m)))))), some (.int (v6 + 1)), none]) rfl ?_
          rw [E] at hx
          exact ih v1 v2 v3 v4 (v5 + (if (F8_follows v4 v6 m) = ((-4)) then (0 : Int32) else m 92 (Int32.toNatClampNeg ((4096 * (v3 - 1)) + (F8_follows v4 v6 m))))) (v6 + 1) m hD hx
        have hD := s4
        refine s_icmp_ne eX8_layRows_100 (fun h6 => ?_) (fun h6 => ?_)
        · skip
          have hD := hD h6
          refine s_aload_n eX8_layRows_107 rfl rfl ?_
          refine s_getr (q := 92) eX8_layRows_108 fX8_68 shp_74 rfl ?_
          refine s_sipush (v := 4096) eX8_layRows_111 rfl ?_
          refine s_iload_n eX8_layRows_114 rfl rfl ?_
          refine s_iconst (v := 1) eX8_layRows_115 rfl ?_
          refine s_isub eX8_layRows_116 ?_
          refine s_imul eX8_layRows_117 ?_
          refine s_iload eX8_layRows_118 rfl ?_
          refine s_iadd eX8_layRows_120 ?_
          have q7 := hD
          refine s_iald eX8_layRows_121 shp_92 q7 ?_
          exact ax_eqN rfl (by rw [show (if (F8_follows v4 v6 m) = ((-4)) then (0 : Int32) else m 92 (Int32.toNatClampNeg ((4096 * (v3 - 1)) + (F8_follows v4 v6 m))) : Int32) = m 92 (Int32.toNatClampNeg ((4096 * (v3 - 1)) + (F8_follows v4 v6 m))) by rw [if_neg h6]]) rfl J5
        · skip
          refine s_iconst (v := 0) eX8_layRows_103 rfl ?_
          refine s_goto eX8_layRows_104 ?_
          exact ax_eqN rfl (by rw [show (if (F8_follows v4 v6 m) = ((-4)) then (0 : Int32) else m 92 (Int32.toNatClampNeg ((4096 * (v3 - 1)) + (F8_follows v4 v6 m))) : Int32) = 0 by rw [if_pos h6]]) rfl J5
theorem clX8_layRows_45 {P : Option Value → ax_M → Prop} : ∀ (n : Nat) (v1 v2 v3 v4 : Int32) (m : ax_M), E8_layRows_45 n v1 v2 v3 v4 m → (ax_N 4 Y8_layRows 152 [some (.ref 74), some (.int v1), some (.int v2), some (.int v3), some (.int ((L8_layRows_45 n v1 v2 v3 v4 m).1)), none, none, none] [] ((L8_layRows_45 n v1 v2 v3 v4 m).2) P) → ax_N 4 Y8_layRows 45 [some (.ref 74), some (.int v1), some (.int v2), some (.int v3), some (.int v4), none, none, none] [] m P := by
  intro n
  induction n with
  | zero => intro v1 v2 v3 v4 m hD; exact absurd hD id
  | succ n ih =>
    intro v1 v2 v3 v4 m hD hx
    have E : L8_layRows_45 (n + 1) v1 v2 v3 v4 m = (if 4096 ≤ v4 then (v4, m) else L8_layRows_45 n v1 v2 v3 (v4 + 1) (ax_up m 92 (Int32.toNatClampNeg ((4096 * v3) + v4)) ((L8_layRows_59 4200 v1 v2 v3 v4 0 0 m).1))) := by rw [L8_layRows_45]
    have hD : ((¬ (4096 ≤ v4) → ((E8_layRows_59 4200 v1 v2 v3 v4 0 0 m) ∧ (vp_in ((4096 * v3) + v4) 20480) ∧ (E8_layRows_45 n v1 v2 v3 (v4 + 1) (ax_up m 92 (Int32.toNatClampNeg ((4096 * v3) + v4)) ((L8_layRows_59 4200 v1 v2 v3 v4 0 0 m).1)))))) := hD
    refine s_iload eX8_layRows_45 rfl ?_
    refine s_sipush (v := 4096) eX8_layRows_47 rfl ?_
    refine s_icmp_ge eX8_layRows_50 (fun h1 => ?_) (fun h1 => ?_)
    · skip
      rw [if_pos h1] at E
      rw [E] at hx
      exact hx
    · skip
      rw [if_neg h1] at E
      have hD := hD h1
      refine s_iconst (v := 0) eX8_layRows_53 rfl ?_
      refine s_istore (ls' := [some (.ref 74), some (.int v1), some (.int v2), some (.int v3), some (.int v4), some (.int 0), none, none]) eX8_layRows_54 rfl rfl ?_
      refine s_iconst (v := 0) eX8_layRows_56 rfl ?_
      refine s_istore (ls' := [some (.ref 74), some (.int v1), some (.int v2), some (.int v3), some (.int v4), some (.int 0), some (.int 0), none]) eX8_layRows_57 rfl rfl ?_
      obtain ⟨q2, hD⟩ := hD
      refine clX8_layRows_59 4200 v1 v2 v3 v4 0 0 m q2 ?_
      refine s_aload_n eX8_layRows_131 rfl rfl ?_
      refine s_getr (q := 92) eX8_layRows_132 fX8_68 shp_74 rfl ?_
      refine s_sipush (v := 4096) eX8_layRows_135 rfl ?_
      refine s_iload_n eX8_layRows_138 rfl rfl ?_
      refine s_imul eX8_layRows_139 ?_
      refine s_iload eX8_layRows_140 rfl ?_
      refine s_iadd eX8_layRows_142 ?_
      refine s_iload eX8_layRows_143 rfl ?_
      obtain ⟨q3, hD⟩ := hD
      refine s_iast eX8_layRows_145 shp_92 q3 ?_
      refine s_iinc (v := v4 + 1) (ls' := [some (.ref 74), some (.int v1), some (.int v2), some (.int v3), some (.int (v4 + 1)), some (.int ((L8_layRows_59 4200 v1 v2 v3 v4 0 0 m).1)), some (.int ((L8_layRows_59 4200 v1 v2 v3 v4 0 0 m).2)), none]) eX8_layRows_146 rfl rfl rfl rfl ?_
      refine s_goto eX8_layRows_149 ?_
      refine ax_forget (ls' := [some (.ref 74), some (.int v1), some (.int v2), some (.int v3), some (.int (v4 + 1)), none, none, none]) rfl ?_
      rw [E] at hx
      exact ih v1 v2 v3 (v4 + 1) ((ax_up m 92 (Int32.toNatClampNeg ((4096 * v3) + v4)) ((L8_layRows_59 4200 v1 v2 v3 v4 0 0 m).1))) hD hx
theorem clX8_layRows_37 {P : Option Value → ax_M → Prop} : ∀ (n : Nat) (v1 v2 v3 : Int32) (m : ax_M), E8_layRows_37 n v1 v2 v3 m → (ax_N 4 Y8_layRows 158 [some (.ref 74), some (.int v1), some (.int v2), some (.int ((L8_layRows_37 n v1 v2 v3 m).1)), none, none, none, none] [] ((L8_layRows_37 n v1 v2 v3 m).2) P) → ax_N 4 Y8_layRows 37 [some (.ref 74), some (.int v1), some (.int v2), some (.int v3), none, none, none, none] [] m P := by
  intro n
  induction n with
  | zero => intro v1 v2 v3 m hD; exact absurd hD id
  | succ n ih =>
    intro v1 v2 v3 m hD hx
    have E : L8_layRows_37 (n + 1) v1 v2 v3 m = (if v1 < v3 then (v3, m) else L8_layRows_37 n v1 v2 (v3 + 1) (L8_layRows_45 4200 v1 v2 v3 0 m).2) := by rw [L8_layRows_37]
    have hD : ((¬ (v1 < v3) → ((E8_layRows_45 4200 v1 v2 v3 0 m) ∧ (E8_layRows_37 n v1 v2 (v3 + 1) (L8_layRows_45 4200 v1 v2 v3 0 m).2)))) := hD
    refine s_iload_n eX8_layRows_37 rfl rfl ?_
    refine s_iload_n eX8_layRows_38 rfl rfl ?_
    refine s_icmp_gt eX8_layRows_39 (fun h1 => ?_) (fun h1 => ?_)
    · skip
      rw [if_pos h1] at E
      rw [E] at hx
      exact hx
    · skip
      rw [if_neg h1] at E
      have hD := hD h1
      refine s_iconst (v := 0) eX8_layRows_42 rfl ?_
      refine s_istore (ls' := [some (.ref 74), some (.int v1), some (.int v2), some (.int v3), some (.int 0), none, none, none]) eX8_layRows_43 rfl rfl ?_
      obtain ⟨q2, hD⟩ := hD
      refine clX8_layRows_45 4200 v1 v2 v3 0 m q2 ?_
      refine s_iinc (v := v3 + 1) (ls' := [some (.ref 74), some (.int v1), some (.int v2), some (.int (v3 + 1)), some (.int ((L8_layRows_45 4200 v1 v2 v3 0 m).1)), none, none, none]) eX8_layRows_152 rfl rfl rfl rfl ?_
      refine s_goto eX8_layRows_155 ?_
      refine ax_forget (ls' := [some (.ref 74), some (.int v1), some (.int v2), some (.int (v3 + 1)), none, none, none, none]) rfl ?_
      rw [E] at hx
      exact ih v1 v2 (v3 + 1) ((L8_layRows_45 4200 v1 v2 v3 0 m).2) hD hx
theorem uX8_layRows (a1 : Int32) (a2 : Int32) (m : ax_M) (hD : D8_layRows a1 a2 m) : ax_NM 4 Y8_layRows [.ref 74, .int a1, .int a2] m (fun r m1 => r = none ∧ m1 = F8_layRows a1 a2 m) := by
  have E : F8_layRows a1 a2 m = (L8_layRows_37 4200 a1 a2 1 (L8_layRows_6 4200 a1 a2 0 (F8_layAble m)).2).2 := rfl
  unfold D8_layRows at hD
  show ax_N 4 Y8_layRows 0 [some (.ref 74), some (.int a1), some (.int a2), none, none, none, none, none] [] m _
  refine s_aload_n eX8_layRows_0 rfl rfl ?_
  obtain ⟨q1, hD⟩ := hD
  refine n_callVv (As := []) eX8_layRows_1 kX8_layAble lX8_308 rfl rfl shp_74 rfl rfl (Nat.le_of_ble_eq_true rfl) (Nat.le_of_ble_eq_true rfl) (Nat.le_of_ble_eq_true rfl) (uX8_layAble m q1) ?_
  refine s_iconst (v := 0) eX8_layRows_4 rfl ?_
  refine s_istore_n (ls' := [some (.ref 74), some (.int a1), some (.int a2), some (.int 0), none, none, none, none]) eX8_layRows_5 rfl rfl rfl ?_
  obtain ⟨q2, hD⟩ := hD
  refine clX8_layRows_6 4200 a1 a2 0 ((F8_layAble m)) q2 ?_
  refine s_iconst (v := 1) eX8_layRows_35 rfl ?_
  refine s_istore_n (ls' := [some (.ref 74), some (.int a1), some (.int a2), some (.int 1), none, none, none, none]) eX8_layRows_36 rfl rfl rfl ?_
  have q3 := hD
  refine clX8_layRows_37 4200 a1 a2 1 ((L8_layRows_6 4200 a1 a2 0 (F8_layAble m)).2) q3 ?_
  exact s_vret eX8_layRows_158 rfl ⟨rfl, rfl, by rw [E]⟩
theorem clX8_fits_68 {P : Option Value → ax_M → Prop} : ∀ (n : Nat) (v1 v2 v3 v4 v5 v6 : Int32) (m : ax_M), E8_fits_68 n v1 v2 v3 v4 v5 v6 m → (ax_N 5 Y8_fits 111 [some (.ref 74), some (.int v1), some (.int v2), some (.int v3), some (.int v4), some (.int ((L8_fits_68 n v1 v2 v3 v4 v5 v6 m).1)), some (.int ((L8_fits_68 n v1 v2 v3 v4 v5 v6 m).2)), none, none, none] [] m P) → ax_N 5 Y8_fits 68 [some (.ref 74), some (.int v1), some (.int v2), some (.int v3), some (.int v4), some (.int v5), some (.int v6), none, none, none] [] m P := by
  intro n
  induction n with
  | zero => intro v1 v2 v3 v4 v5 v6 m hD; exact absurd hD id
  | succ n ih =>
    intro v1 v2 v3 v4 v5 v6 m hD hx
    have E : L8_fits_68 (n + 1) v1 v2 v3 v4 v5 v6 m = (if (m 74 3) ≤ v6 then (v5, v6) else L8_fits_68 n v1 v2 v3 v4 (v5 ||| ((m 75 (Int32.toNatClampNeg (((33 * (v1 + 1)) + (4 * v6)) + 2))) <<< ((2 * v6) &&& (31 : Int32)))) (v6 + 1) m) := by rw [L8_fits_68]
    have hD : ((¬ ((m 74 3) ≤ v6) → ((vp_in (((33 * (v1 + 1)) + (4 * v6)) + 2) 132) ∧ (E8_fits_68 n v1 v2 v3 v4 (v5 ||| ((m 75 (Int32.toNatClampNeg (((33 * (v1 + 1)) + (4 * v6)) + 2))) <<< ((2 * v6) &&& (31 : Int32)))) (v6 + 1) m)))) := hD
    refine s_iload eX8_fits_68 rfl ?_
    refine s_aload_n eX8_fits_70 rfl rfl ?_
    refine s_geti eX8_fits_71 fX8_202 shp_74 rfl ?_
    refine s_icmp_ge eX8_fits_74 (fun h1 => ?_) (fun h1 => ?_)
    · skip
      rw [if_pos h1] at E
      rw [E] at hx
      exact hx
    · skip
      rw [if_neg h1] at E
      have hD := hD h1
      refine s_iload eX8_fits_77 rfl ?_
      refine s_aload_n eX8_fits_79 rfl rfl ?_
      refine s_getr (q := 75) eX8_fits_80 fX8_7 shp_74 rfl ?_
      refine s_bipush (v := 33) eX8_fits_83 rfl ?_
      refine s_iload_n eX8_fits_85 rfl rfl ?_
      refine s_iconst (v := 1) eX8_fits_86 rfl ?_
      refine s_iadd eX8_fits_87 ?_
      refine s_imul eX8_fits_88 ?_
      refine s_iconst (v := 4) eX8_fits_89 rfl ?_
      refine s_iload eX8_fits_90 rfl ?_
      refine s_imul eX8_fits_92 ?_
      refine s_iadd eX8_fits_93 ?_
      refine s_iconst (v := 2) eX8_fits_94 rfl ?_
      refine s_iadd eX8_fits_95 ?_
      obtain ⟨q2, hD⟩ := hD
      refine s_iald eX8_fits_96 shp_75 q2 ?_
      refine s_iconst (v := 2) eX8_fits_97 rfl ?_
      refine s_iload eX8_fits_98 rfl ?_
      refine s_imul eX8_fits_100 ?_
      refine s_ishl eX8_fits_101 ?_
      refine s_ior eX8_fits_102 ?_
      refine s_istore (ls' := [some (.ref 74), some (.int v1), some (.int v2), some (.int v3), some (.int v4), some (.int (v5 ||| ((m 75 (Int32.toNatClampNeg (((33 * (v1 + 1)) + (4 * v6)) + 2))) <<< ((2 * v6) &&& (31 : Int32))))), some (.int v6), none, none, none]) eX8_fits_103 rfl rfl ?_
      refine s_iinc (v := v6 + 1) (ls' := [some (.ref 74), some (.int v1), some (.int v2), some (.int v3), some (.int v4), some (.int (v5 ||| ((m 75 (Int32.toNatClampNeg (((33 * (v1 + 1)) + (4 * v6)) + 2))) <<< ((2 * v6) &&& (31 : Int32))))), some (.int (v6 + 1)), none, none, none]) eX8_fits_105 rfl rfl rfl rfl ?_
      refine s_goto eX8_fits_108 ?_
      rw [E] at hx
      exact ih v1 v2 v3 v4 (v5 ||| ((m 75 (Int32.toNatClampNeg (((33 * (v1 + 1)) + (4 * v6)) + 2))) <<< ((2 * v6) &&& (31 : Int32)))) (v6 + 1) m hD hx
theorem clX8_fits_169 {P : Option Value → ax_M → Prop} : ∀ (n : Nat) (v1 v2 v3 v4 v5 v6 v7 v8 v9 : Int32) (m : ax_M), E8_fits_169 n v1 v2 v3 v4 v5 v6 v7 v8 v9 m → (ax_N 5 Y8_fits 207 [some (.ref 74), some (.int v1), some (.int v2), some (.int v3), some (.int v4), some (.int v5), some (.int v6), some (.int ((L8_fits_169 n v1 v2 v3 v4 v5 v6 v7 v8 v9 m))), some (.int v8), some (.int v9)] [] m P) → ax_N 5 Y8_fits 169 [some (.ref 74), some (.int v1), some (.int v2), some (.int v3), some (.int v4), some (.int v5), some (.int v6), some (.int v7), some (.int v8), some (.int v9)] [] m P := by
  intro n
  induction n with
  | zero => intro v1 v2 v3 v4 v5 v6 v7 v8 v9 m hD; exact absurd hD id
  | succ n ih =>
    intro v1 v2 v3 v4 v5 v6 v7 v8 v9 m hD hx
    have E : L8_fits_169 (n + 1) v1 v2 v3 v4 v5 v6 v7 v8 v9 m = (if (F8_follows v5 v7 m) = ((-4)) then L8_fits_169 n v1 v2 v3 v4 v5 v6 (v7 + 1) v8 v9 m else (if (m 92 (Int32.toNatClampNeg (v9 + (F8_follows v5 v7 m)))) = 0 then L8_fits_169 n v1 v2 v3 v4 v5 v6 (v7 + 1) v8 v9 m else v7)) := by rw [L8_fits_169]
    have hD : ((D8_follows v5 v7 m) ∧ ((((F8_follows v5 v7 m) = ((-4))) → ((E8_fits_169 n v1 v2 v3 v4 v5 v6 (v7 + 1) v8 v9 m))) ∧ (¬ ((F8_follows v5 v7 m) = ((-4))) → ((D8_follows v5 v7 m) ∧ (vp_in (v9 + (F8_follows v5 v7 m)) 20480) ∧ (((m 92 (Int32.toNatClampNeg (v9 + (F8_follows v5 v7 m)))) = 0) → ((E8_fits_169 n v1 v2 v3 v4 v5 v6 (v7 + 1) v8 v9 m))))))) := hD
    refine s_aload_n eX8_fits_169 rfl rfl ?_
    refine s_iload eX8_fits_170 rfl ?_
    refine s_iload eX8_fits_172 rfl ?_
    obtain ⟨q1, hD⟩ := hD
    refine n_callVi (As := [.int v5, .int v7]) eX8_fits_174 kX8_follows lX8_314 rfl rfl shp_74 rfl rfl (Nat.le_of_ble_eq_true rfl) (Nat.le_of_ble_eq_true rfl) (Nat.le_of_ble_eq_true rfl) (uX8_follows v5 v7 m q1) ?_
    refine s_bipush (v := (-4)) eX8_fits_177 rfl ?_
    refine s_icmp_eq eX8_fits_179 (fun h2 => ?_) (fun h2 => ?_)
    · skip
      rw [if_pos h2] at E
      have hD := hD.1 h2
      refine s_iinc (v := v7 + 1) (ls' := [some (.ref 74), some (.int v1), some (.int v2), some (.int v3), some (.int v4), some (.int v5), some (.int v6), some (.int (v7 + 1)), some (.int v8), some (.int v9)]) eX8_fits_201 rfl rfl rfl rfl ?_
      refine s_goto eX8_fits_204 ?_
      rw [E] at hx
      exact ih v1 v2 v3 v4 v5 v6 (v7 + 1) v8 v9 m hD hx
    · skip
      rw [if_neg h2] at E
      have hD := hD.2 h2
      refine s_aload_n eX8_fits_182 rfl rfl ?_
      refine s_getr (q := 92) eX8_fits_183 fX8_68 shp_74 rfl ?_
      refine s_iload eX8_fits_186 rfl ?_
      refine s_aload_n eX8_fits_188 rfl rfl ?_
      refine s_iload eX8_fits_189 rfl ?_
      refine s_iload eX8_fits_191 rfl ?_
      obtain ⟨q3, hD⟩ := hD
      refine n_callVi (As := [.int v5, .int v7]) eX8_fits_193 kX8_follows lX8_314 rfl rfl shp_74 rfl rfl (Nat.le_of_ble_eq_true rfl) (Nat.le_of_ble_eq_true rfl) (Nat.le_of_ble_eq_true rfl) (uX8_follows v5 v7 m q3) ?_
      refine s_iadd eX8_fits_196 ?_
      obtain ⟨q4, hD⟩ := hD
      refine s_iald eX8_fits_197 shp_92 q4 ?_
      refine s_if_ne eX8_fits_198 (fun h5 => ?_) (fun h5 => ?_)
      · skip
        rw [if_neg h5] at E
        rw [E] at hx
        exact hx
      · skip
        rw [if_pos h5] at E
        have hD := hD h5
        refine s_iinc (v := v7 + 1) (ls' := [some (.ref 74), some (.int v1), some (.int v2), some (.int v3), some (.int v4), some (.int v5), some (.int v6), some (.int (v7 + 1)), some (.int v8), some (.int v9)]) eX8_fits_201 rfl rfl rfl rfl ?_
        refine s_goto eX8_fits_204 ?_
        rw [E] at hx
        exact ih v1 v2 v3 v4 v5 v6 (v7 + 1) v8 v9 m hD hx
theorem clX8_fits_140 {P : Option Value → ax_M → Prop} : ∀ (n : Nat) (v1 v2 v3 v4 v5 v6 v7 v8 : Int32) (m : ax_M), E8_fits_140 n v1 v2 v3 v4 v5 v6 v7 v8 m → (ax_N 5 Y8_fits 223 [some (.ref 74), some (.int v1), some (.int v2), some (.int v3), some (.int v4), some (.int ((L8_fits_140 n v1 v2 v3 v4 v5 v6 v7 v8 m).1)), some (.int v6), some (.int ((L8_fits_140 n v1 v2 v3 v4 v5 v6 v7 v8 m).2.1)), some (.int ((L8_fits_140 n v1 v2 v3 v4 v5 v6 v7 v8 m).2.2)), none] [] m P) → ax_N 5 Y8_fits 140 [some (.ref 74), some (.int v1), some (.int v2), some (.int v3), some (.int v4), some (.int v5), some (.int v6), some (.int v7), some (.int v8), none] [] m P := by
  intro n
  induction n with
  | zero => intro v1 v2 v3 v4 v5 v6 v7 v8 m hD; exact absurd hD id
  | succ n ih =>
    intro v1 v2 v3 v4 v5 v6 v7 v8 m hD hx
    have E : L8_fits_140 (n + 1) v1 v2 v3 v4 v5 v6 v7 v8 m = (if (v3 - 10) < v8 then (v5, v7, v8) else (if v6 ≤ 0 then (v5, v7, v8) else L8_fits_140 n v1 v2 v3 v4 (F8_follows v5 ((L8_fits_169 420 v1 v2 v3 v4 v5 v6 0 v8 (4096 * ((v2 - v8) - 1)) m)) m) v6 ((L8_fits_169 420 v1 v2 v3 v4 v5 v6 0 v8 (4096 * ((v2 - v8) - 1)) m)) (v8 + 1) m)) := by rw [L8_fits_140]
    have hD : ((¬ ((v3 - 10) < v8) → ((¬ (v6 ≤ 0) → ((E8_fits_169 420 v1 v2 v3 v4 v5 v6 0 v8 (4096 * ((v2 - v8) - 1)) m) ∧ (D8_follows v5 ((L8_fits_169 420 v1 v2 v3 v4 v5 v6 0 v8 (4096 * ((v2 - v8) - 1)) m)) m) ∧ (E8_fits_140 n v1 v2 v3 v4 (F8_follows v5 ((L8_fits_169 420 v1 v2 v3 v4 v5 v6 0 v8 (4096 * ((v2 - v8) - 1)) m)) m) v6 ((L8_fits_169 420 v1 v2 v3 v4 v5 v6 0 v8 (4096 * ((v2 - v8) - 1)) m)) (v8 + 1) m)))))) := hD
    refine s_iload eX8_fits_140 rfl ?_
    refine s_iload_n eX8_fits_142 rfl rfl ?_
    refine s_bipush (v := 10) eX8_fits_143 rfl ?_
    refine s_isub eX8_fits_145 ?_
    refine s_icmp_gt eX8_fits_146 (fun h1 => ?_) (fun h1 => ?_)
    · skip
      rw [if_pos h1] at E
      rw [E] at hx
      exact hx
    · skip
      rw [if_neg h1] at E
      have hD := hD h1
      refine s_iload eX8_fits_149 rfl ?_
      refine s_if_le eX8_fits_151 (fun h2 => ?_) (fun h2 => ?_)
      · skip
        rw [if_pos h2] at E
        rw [E] at hx
        exact hx
      · skip
        rw [if_neg h2] at E
        have hD := hD h2
        refine s_iconst (v := 0) eX8_fits_154 rfl ?_
        refine s_istore (ls' := [some (.ref 74), some (.int v1), some (.int v2), some (.int v3), some (.int v4), some (.int v5), some (.int v6), some (.int 0), some (.int v8), none]) eX8_fits_155 rfl rfl ?_
        refine s_sipush (v := 4096) eX8_fits_157 rfl ?_
        refine s_iload_n eX8_fits_160 rfl rfl ?_
        refine s_iload eX8_fits_161 rfl ?_
        refine s_isub eX8_fits_163 ?_
        refine s_iconst (v := 1) eX8_fits_164 rfl ?_
        refine s_isub eX8_fits_165 ?_
        refine s_imul eX8_fits_166 ?_
        refine s_istore (ls' := [some (.ref 74), some (.int v1), some (.int v2), some (.int v3), some (.int v4), some (.int v5), some (.int v6), some (.int 0), some (.int v8), some (.int (4096 * ((v2 - v8) - 1)))]) eX8_fits_167 rfl rfl ?_
        obtain ⟨q3, hD⟩ := hD
        refine clX8_fits_169 420 v1 v2 v3 v4 v5 v6 0 v8 (4096 * ((v2 - v8) - 1)) m q3 ?_
        refine s_aload_n eX8_fits_207 rfl rfl ?_
        refine s_iload eX8_fits_208 rfl ?_
        refine s_iload eX8_fits_210 rfl ?_
        obtain ⟨q4, hD⟩ := hD
        refine n_callVi (As := [.int v5, .int ((L8_fits_169 420 v1 v2 v3 v4 v5 v6 0 v8 (4096 * ((v2 - v8) - 1)) m))]) eX8_fits_212 kX8_follows lX8_314 rfl rfl shp_74 rfl rfl (Nat.le_of_ble_eq_true rfl) (Nat.le_of_ble_eq_true rfl) (Nat.le_of_ble_eq_true rfl) (uX8_follows v5 ((L8_fits_169 420 v1 v2 v3 v4 v5 v6 0 v8 (4096 * ((v2 - v8) - 1)) m)) m q4) ?_
        refine s_istore (ls' := [some (.ref 74), some (.int v1), some (.int v2), some (.int v3), some (.int v4), some (.int (F8_follows v5 ((L8_fits_169 420 v1 v2 v3 v4 v5 v6 0 v8 (4096 * ((v2 - v8) - 1)) m)) m)), some (.int v6), some (.int ((L8_fits_169 420 v1 v2 v3 v4 v5 v6 0 v8 (4096 * ((v2 - v8) - 1)) m))), some (.int v8), some (.int (4096 * ((v2 - v8) - 1)))]) eX8_fits_215 rfl rfl ?_
        refine s_iinc (v := v8 + 1) (ls' := [some (.ref 74), some (.int v1), some (.int v2), some (.int v3), some (.int v4), some (.int (F8_follows v5 ((L8_fits_169 420 v1 v2 v3 v4 v5 v6 0 v8 (4096 * ((v2 - v8) - 1)) m)) m)), some (.int v6), some (.int ((L8_fits_169 420 v1 v2 v3 v4 v5 v6 0 v8 (4096 * ((v2 - v8) - 1)) m))), some (.int (v8 + 1)), some (.int (4096 * ((v2 - v8) - 1)))]) eX8_fits_217 rfl rfl rfl rfl ?_
        refine s_goto eX8_fits_220 ?_
        refine ax_forget (ls' := [some (.ref 74), some (.int v1), some (.int v2), some (.int v3), some (.int v4), some (.int (F8_follows v5 ((L8_fits_169 420 v1 v2 v3 v4 v5 v6 0 v8 (4096 * ((v2 - v8) - 1)) m)) m)), some (.int v6), some (.int ((L8_fits_169 420 v1 v2 v3 v4 v5 v6 0 v8 (4096 * ((v2 - v8) - 1)) m))), some (.int (v8 + 1)), none]) rfl ?_
        rw [E] at hx
        exact ih v1 v2 v3 v4 (F8_follows v5 ((L8_fits_169 420 v1 v2 v3 v4 v5 v6 0 v8 (4096 * ((v2 - v8) - 1)) m)) m) v6 ((L8_fits_169 420 v1 v2 v3 v4 v5 v6 0 v8 (4096 * ((v2 - v8) - 1)) m)) (v8 + 1) m hD hx
theorem cK8_fits_223 (v1 v2 v3 v4 v5 v6 v7 v8 : Int32) (m : ax_M) {P : Option Value → ax_M → Prop} (hP : P (some (.int (K8_fits_223 v1 v2 v3 v4 v5 v6 v7 v8 m).1)) (K8_fits_223 v1 v2 v3 v4 v5 v6 v7 v8 m).2) : ax_N 5 Y8_fits 223 [some (.ref 74), some (.int v1), some (.int v2), some (.int v3), some (.int v4), some (.int v5), some (.int v6), some (.int v7), some (.int v8), none] [] m P := by
  have E : K8_fits_223 v1 v2 v3 v4 v5 v6 v7 v8 m = (if v3 = 0 then (v6, m) else (v7, m)) := rfl
  refine s_iload_n eX8_fits_223 rfl rfl ?_
  refine s_if_ne eX8_fits_224 (fun h1 => ?_) (fun h1 => ?_)
  · skip
    rw [if_neg h1] at E
    refine s_iload eX8_fits_232 rfl ?_
    rw [E] at hP
    exact s_iret eX8_fits_234 rfl ⟨rfl, hP⟩
  · skip
    rw [if_pos h1] at E
    refine s_iload eX8_fits_227 rfl ?_
    refine s_goto eX8_fits_229 ?_
    rw [E] at hP
    exact s_iret eX8_fits_234 rfl ⟨rfl, hP⟩
theorem uX8_fits (a1 : Int32) (a2 : Int32) (a3 : Int32) (m : ax_M) (hD : D8_fits a1 a2 a3 m) : ax_NM 5 Y8_fits [.ref 74, .int a1, .int a2, .int a3] m (fun r m1 => r = some (.int (F8_fits a1 a2 a3 m).1) ∧ m1 = (F8_fits a1 a2 a3 m).2) := by
  have E : F8_fits a1 a2 a3 m = (if (F8_in (Int32.toInt64 a1) 0 1 m) = 0 then ((-1), m) else (if (F8_in (Int32.toInt64 a2) 0 4 m) = 0 then ((-1), m) else (if a3 = 0 then (if (m 93 (Int32.toNatClampNeg a1)) = 0 then ((-2), m) else (K8_fits_223 a1 a2 a3 (F8_codeNow m) ((L8_fits_140 420 a1 a2 a3 (F8_codeNow m) ((L8_fits_68 420 a1 a2 a3 (F8_codeNow m) 0 0 m).1) ((F8_layRows a2 (F8_codeNow m) m) 92 (Int32.toNatClampNeg ((4096 * a2) + ((L8_fits_68 420 a1 a2 a3 (F8_codeNow m) 0 0 m).1)))) ((-4)) 0 (F8_layRows a2 (F8_codeNow m) m)).1) ((F8_layRows a2 (F8_codeNow m) m) 92 (Int32.toNatClampNeg ((4096 * a2) + ((L8_fits_68 420 a1 a2 a3 (F8_codeNow m) 0 0 m).1)))) ((L8_fits_140 420 a1 a2 a3 (F8_codeNow m) ((L8_fits_68 420 a1 a2 a3 (F8_codeNow m) 0 0 m).1) ((F8_layRows a2 (F8_codeNow m) m) 92 (Int32.toNatClampNeg ((4096 * a2) + ((L8_fits_68 420 a1 a2 a3 (F8_codeNow m) 0 0 m).1)))) ((-4)) 0 (F8_layRows a2 (F8_codeNow m) m)).2.1) ((L8_fits_140 420 a1 a2 a3 (F8_codeNow m) ((L8_fits_68 420 a1 a2 a3 (F8_codeNow m) 0 0 m).1) ((F8_layRows a2 (F8_codeNow m) m) 92 (Int32.toNatClampNeg ((4096 * a2) + ((L8_fits_68 420 a1 a2 a3 (F8_codeNow m) 0 0 m).1)))) ((-4)) 0 (F8_layRows a2 (F8_codeNow m) m)).2.2) (F8_layRows a2 (F8_codeNow m) m))) else (if (F8_in (Int32.toInt64 a3) 10 (Int32.toInt64 (9 + a2)) m) = 0 then ((-1), m) else (if (m 93 (Int32.toNatClampNeg a1)) = 0 then ((-2), m) else (K8_fits_223 a1 a2 a3 (F8_codeNow m) ((L8_fits_140 420 a1 a2 a3 (F8_codeNow m) ((L8_fits_68 420 a1 a2 a3 (F8_codeNow m) 0 0 m).1) ((F8_layRows a2 (F8_codeNow m) m) 92 (Int32.toNatClampNeg ((4096 * a2) + ((L8_fits_68 420 a1 a2 a3 (F8_codeNow m) 0 0 m).1)))) ((-4)) 0 (F8_layRows a2 (F8_codeNow m) m)).1) ((F8_layRows a2 (F8_codeNow m) m) 92 (Int32.toNatClampNeg ((4096 * a2) + ((L8_fits_68 420 a1 a2 a3 (F8_codeNow m) 0 0 m).1)))) ((L8_fits_140 420 a1 a2 a3 (F8_codeNow m) ((L8_fits_68 420 a1 a2 a3 (F8_codeNow m) 0 0 m).1) ((F8_layRows a2 (F8_codeNow m) m) 92 (Int32.toNatClampNeg ((4096 * a2) + ((L8_fits_68 420 a1 a2 a3 (F8_codeNow m) 0 0 m).1)))) ((-4)) 0 (F8_layRows a2 (F8_codeNow m) m)).2.1) ((L8_fits_140 420 a1 a2 a3 (F8_codeNow m) ((L8_fits_68 420 a1 a2 a3 (F8_codeNow m) 0 0 m).1) ((F8_layRows a2 (F8_codeNow m) m) 92 (Int32.toNatClampNeg ((4096 * a2) + ((L8_fits_68 420 a1 a2 a3 (F8_codeNow m) 0 0 m).1)))) ((-4)) 0 (F8_layRows a2 (F8_codeNow m) m)).2.2) (F8_layRows a2 (F8_codeNow m) m))))))) := rfl
  unfold D8_fits at hD
  show ax_N 5 Y8_fits 0 [some (.ref 74), some (.int a1), some (.int a2), some (.int a3), none, none, none, none, none, none] [] m _
  refine s_iload_n eX8_fits_0 rfl rfl ?_
  refine s_i2l eX8_fits_1 ?_
  refine s_lconst (v := 0) eX8_fits_2 rfl ?_
  refine s_lconst (v := 1) eX8_fits_3 rfl ?_
  refine n_callSi (As := [.long (Int32.toInt64 a1), .long 0, .long 1]) eX8_fits_4 kX8_in lX8_87 rfl rfl (Nat.le_of_ble_eq_true rfl) (Nat.le_of_ble_eq_true rfl) (Nat.le_of_ble_eq_true rfl) (uX8_in (Int32.toInt64 a1) 0 1 m) ?_
  refine s_if_eq eX8_fits_7 (fun h1 => ?_) (fun h1 => ?_)
  · skip
    rw [if_pos h1] at E
    refine s_iconst (v := (-1)) eX8_fits_42 rfl ?_
    exact s_iret eX8_fits_43 rfl ⟨rfl, by rw [E], by rw [E]⟩
  · skip
    rw [if_neg h1] at E
    have hD := hD h1
    refine s_iload_n eX8_fits_10 rfl rfl ?_
    refine s_i2l eX8_fits_11 ?_
    refine s_lconst (v := 0) eX8_fits_12 rfl ?_
    refine s_ldc2 eX8_fits_13 qX8_327 ?_
    refine n_callSi (As := [.long (Int32.toInt64 a2), .long 0, .long 4]) eX8_fits_16 kX8_in lX8_87 rfl rfl (Nat.le_of_ble_eq_true rfl) (Nat.le_of_ble_eq_true rfl) (Nat.le_of_ble_eq_true rfl) (uX8_in (Int32.toInt64 a2) 0 4 m) ?_
    refine s_if_eq eX8_fits_19 (fun h2 => ?_) (fun h2 => ?_)
    · skip
      rw [if_pos h2] at E
      refine s_iconst (v := (-1)) eX8_fits_42 rfl ?_
      exact s_iret eX8_fits_43 rfl ⟨rfl, by rw [E], by rw [E]⟩
    · skip
      rw [if_neg h2] at E
      have hD := hD h2
      refine s_iload_n eX8_fits_22 rfl rfl ?_
      refine s_if_eq eX8_fits_23 (fun h3 => ?_) (fun h3 => ?_)
      · skip
        rw [if_pos h3] at E
        have hD := hD.1 h3
        refine s_aload_n eX8_fits_44 rfl rfl ?_
        refine s_getr (q := 93) eX8_fits_45 fX8_71 shp_74 rfl ?_
        refine s_iload_n eX8_fits_48 rfl rfl ?_
        obtain ⟨q4, hD⟩ := hD
        refine s_zald eX8_fits_49 shp_93 q4 ?_
        refine s_if_ne eX8_fits_50 (fun h5 => ?_) (fun h5 => ?_)
        · skip
          rw [if_neg h5] at E
          have hD := hD h5
          refine s_aload_n eX8_fits_56 rfl rfl ?_
          obtain ⟨q6, hD⟩ := hD
          refine n_callVi (As := []) eX8_fits_57 kX8_codeNow lX8_305 rfl rfl shp_74 rfl rfl (Nat.le_of_ble_eq_true rfl) (Nat.le_of_ble_eq_true rfl) (Nat.le_of_ble_eq_true rfl) (uX8_codeNow m q6) ?_
          refine s_istore (ls' := [some (.ref 74), some (.int a1), some (.int a2), some (.int a3), some (.int (F8_codeNow m)), none, none, none, none, none]) eX8_fits_60 rfl rfl ?_
          refine s_iconst (v := 0) eX8_fits_62 rfl ?_
          refine s_istore (ls' := [some (.ref 74), some (.int a1), some (.int a2), some (.int a3), some (.int (F8_codeNow m)), some (.int 0), none, none, none, none]) eX8_fits_63 rfl rfl ?_
          refine s_iconst (v := 0) eX8_fits_65 rfl ?_
          refine s_istore (ls' := [some (.ref 74), some (.int a1), some (.int a2), some (.int a3), some (.int (F8_codeNow m)), some (.int 0), some (.int 0), none, none, none]) eX8_fits_66 rfl rfl ?_
          obtain ⟨q7, hD⟩ := hD
          refine clX8_fits_68 420 a1 a2 a3 (F8_codeNow m) 0 0 m q7 ?_
          refine s_aload_n eX8_fits_111 rfl rfl ?_
          refine s_iload_n eX8_fits_112 rfl rfl ?_
          refine s_iload eX8_fits_113 rfl ?_
          obtain ⟨q8, hD⟩ := hD
          refine n_callVv (As := [.int a2, .int (F8_codeNow m)]) eX8_fits_115 kX8_layRows lX8_329 rfl rfl shp_74 rfl rfl (Nat.le_of_ble_eq_true rfl) (Nat.le_of_ble_eq_true rfl) (Nat.le_of_ble_eq_true rfl) (uX8_layRows a2 (F8_codeNow m) m q8) ?_
          refine s_aload_n eX8_fits_118 rfl rfl ?_
          refine s_getr (q := 92) eX8_fits_119 fX8_68 shp_74 rfl ?_
          refine s_sipush (v := 4096) eX8_fits_122 rfl ?_
          refine s_iload_n eX8_fits_125 rfl rfl ?_
          refine s_imul eX8_fits_126 ?_
          refine s_iload eX8_fits_127 rfl ?_
          refine s_iadd eX8_fits_129 ?_
          obtain ⟨q9, hD⟩ := hD
          refine s_iald eX8_fits_130 shp_92 q9 ?_
          refine s_istore (ls' := [some (.ref 74), some (.int a1), some (.int a2), some (.int a3), some (.int (F8_codeNow m)), some (.int ((L8_fits_68 420 a1 a2 a3 (F8_codeNow m) 0 0 m).1)), some (.int ((F8_layRows a2 (F8_codeNow m) m) 92 (Int32.toNatClampNeg ((4096 * a2) + ((L8_fits_68 420 a1 a2 a3 (F8_codeNow m) 0 0 m).1))))), none, none, none]) eX8_fits_131 rfl rfl ?_
          refine s_bipush (v := (-4)) eX8_fits_133 rfl ?_
          refine s_istore (ls' := [some (.ref 74), some (.int a1), some (.int a2), some (.int a3), some (.int (F8_codeNow m)), some (.int ((L8_fits_68 420 a1 a2 a3 (F8_codeNow m) 0 0 m).1)), some (.int ((F8_layRows a2 (F8_codeNow m) m) 92 (Int32.toNatClampNeg ((4096 * a2) + ((L8_fits_68 420 a1 a2 a3 (F8_codeNow m) 0 0 m).1))))), some (.int ((-4))), none, none]) eX8_fits_135 rfl rfl ?_
          refine s_iconst (v := 0) eX8_fits_137 rfl ?_
          refine s_istore (ls' := [some (.ref 74), some (.int a1), some (.int a2), some (.int a3), some (.int (F8_codeNow m)), some (.int ((L8_fits_68 420 a1 a2 a3 (F8_codeNow m) 0 0 m).1)), some (.int ((F8_layRows a2 (F8_codeNow m) m) 92 (Int32.toNatClampNeg ((4096 * a2) + ((L8_fits_68 420 a1 a2 a3 (F8_codeNow m) 0 0 m).1))))), some (.int ((-4))), some (.int 0), none]) eX8_fits_138 rfl rfl ?_
          have q10 := hD
          refine clX8_fits_140 420 a1 a2 a3 (F8_codeNow m) ((L8_fits_68 420 a1 a2 a3 (F8_codeNow m) 0 0 m).1) ((F8_layRows a2 (F8_codeNow m) m) 92 (Int32.toNatClampNeg ((4096 * a2) + ((L8_fits_68 420 a1 a2 a3 (F8_codeNow m) 0 0 m).1)))) ((-4)) 0 ((F8_layRows a2 (F8_codeNow m) m)) q10 ?_
          refine cK8_fits_223 a1 a2 a3 (F8_codeNow m) ((L8_fits_140 420 a1 a2 a3 (F8_codeNow m) ((L8_fits_68 420 a1 a2 a3 (F8_codeNow m) 0 0 m).1) ((F8_layRows a2 (F8_codeNow m) m) 92 (Int32.toNatClampNeg ((4096 * a2) + ((L8_fits_68 420 a1 a2 a3 (F8_codeNow m) 0 0 m).1)))) ((-4)) 0 (F8_layRows a2 (F8_codeNow m) m)).1) ((F8_layRows a2 (F8_codeNow m) m) 92 (Int32.toNatClampNeg ((4096 * a2) + ((L8_fits_68 420 a1 a2 a3 (F8_codeNow m) 0 0 m).1)))) ((L8_fits_140 420 a1 a2 a3 (F8_codeNow m) ((L8_fits_68 420 a1 a2 a3 (F8_codeNow m) 0 0 m).1) ((F8_layRows a2 (F8_codeNow m) m) 92 (Int32.toNatClampNeg ((4096 * a2) + ((L8_fits_68 420 a1 a2 a3 (F8_codeNow m) 0 0 m).1)))) ((-4)) 0 (F8_layRows a2 (F8_codeNow m) m)).2.1) ((L8_fits_140 420 a1 a2 a3 (F8_codeNow m) ((L8_fits_68 420 a1 a2 a3 (F8_codeNow m) 0 0 m).1) ((F8_layRows a2 (F8_codeNow m) m) 92 (Int32.toNatClampNeg ((4096 * a2) + ((L8_fits_68 420 a1 a2 a3 (F8_codeNow m) 0 0 m).1)))) ((-4)) 0 (F8_layRows a2 (F8_codeNow m) m)).2.2) ((F8_layRows a2 (F8_codeNow m) m)) ?_
          exact ⟨by rw [E], by rw [E]⟩
        · skip
          rw [if_pos h5] at E
          refine s_bipush (v := (-2)) eX8_fits_53 rfl ?_
          exact s_iret eX8_fits_55 rfl ⟨rfl, by rw [E], by rw [E]⟩
      · skip
        rw [if_neg h3] at E
        have hD := hD.2 h3
        refine s_iload_n eX8_fits_26 rfl rfl ?_
        refine s_i2l eX8_fits_27 ?_
        refine s_ldc2 eX8_fits_28 qX8_293 ?_
        refine s_bipush (v := 9) eX8_fits_31 rfl ?_
        refine s_iload_n eX8_fits_33 rfl rfl ?_
        refine s_iadd eX8_fits_34 ?_
        refine s_i2l eX8_fits_35 ?_
        refine n_callSi (As := [.long (Int32.toInt64 a3), .long 10, .long (Int32.toInt64 (9 + a2))]) eX8_fits_36 kX8_in lX8_87 rfl rfl (Nat.le_of_ble_eq_true rfl) (Nat.le_of_ble_eq_true rfl) (Nat.le_of_ble_eq_true rfl) (uX8_in (Int32.toInt64 a3) 10 (Int32.toInt64 (9 + a2)) m) ?_
        refine s_if_ne eX8_fits_39 (fun h11 => ?_) (fun h11 => ?_)
        · skip
          rw [if_neg h11] at E
          have hD := hD h11
          refine s_aload_n eX8_fits_44 rfl rfl ?_
          refine s_getr (q := 93) eX8_fits_45 fX8_71 shp_74 rfl ?_
          refine s_iload_n eX8_fits_48 rfl rfl ?_
          obtain ⟨q12, hD⟩ := hD
          refine s_zald eX8_fits_49 shp_93 q12 ?_
          refine s_if_ne eX8_fits_50 (fun h13 => ?_) (fun h13 => ?_)
          · skip
            rw [if_neg h13] at E
            have hD := hD h13
            refine s_aload_n eX8_fits_56 rfl rfl ?_
            obtain ⟨q14, hD⟩ := hD
            refine n_callVi (As := []) eX8_fits_57 kX8_codeNow lX8_305 rfl rfl shp_74 rfl rfl (Nat.le_of_ble_eq_true rfl) (Nat.le_of_ble_eq_true rfl) (Nat.le_of_ble_eq_true rfl) (uX8_codeNow m q14) ?_
            refine s_istore (ls' := [some (.ref 74), some (.int a1), some (.int a2), some (.int a3), some (.int (F8_codeNow m)), none, none, none, none, none]) eX8_fits_60 rfl rfl ?_
            refine s_iconst (v := 0) eX8_fits_62 rfl ?_
            refine s_istore (ls' := [some (.ref 74), some (.int a1), some (.int a2), some (.int a3), some (.int (F8_codeNow m)), some (.int 0), none, none, none, none]) eX8_fits_63 rfl rfl ?_
            refine s_iconst (v := 0) eX8_fits_65 rfl ?_
            refine s_istore (ls' := [some (.ref 74), some (.int a1), some (.int a2), some (.int a3), some (.int (F8_codeNow m)), some (.int 0), some (.int 0), none, none, none]) eX8_fits_66 rfl rfl ?_
            obtain ⟨q15, hD⟩ := hD
            refine clX8_fits_68 420 a1 a2 a3 (F8_codeNow m) 0 0 m q15 ?_
            refine s_aload_n eX8_fits_111 rfl rfl ?_
            refine s_iload_n eX8_fits_112 rfl rfl ?_
            refine s_iload eX8_fits_113 rfl ?_
            obtain ⟨q16, hD⟩ := hD
            refine n_callVv (As := [.int a2, .int (F8_codeNow m)]) eX8_fits_115 kX8_layRows lX8_329 rfl rfl shp_74 rfl rfl (Nat.le_of_ble_eq_true rfl) (Nat.le_of_ble_eq_true rfl) (Nat.le_of_ble_eq_true rfl) (uX8_layRows a2 (F8_codeNow m) m q16) ?_
            refine s_aload_n eX8_fits_118 rfl rfl ?_
            refine s_getr (q := 92) eX8_fits_119 fX8_68 shp_74 rfl ?_
            refine s_sipush (v := 4096) eX8_fits_122 rfl ?_
            refine s_iload_n eX8_fits_125 rfl rfl ?_
            refine s_imul eX8_fits_126 ?_
            refine s_iload eX8_fits_127 rfl ?_
            refine s_iadd eX8_fits_129 ?_
            obtain ⟨q17, hD⟩ := hD
            refine s_iald eX8_fits_130 shp_92 q17 ?_
            refine s_istore (ls' := [some (.ref 74), some (.int a1), some (.int a2), some (.int a3), some (.int (F8_codeNow m)), some (.int ((L8_fits_68 420 a1 a2 a3 (F8_codeNow m) 0 0 m).1)), some (.int ((F8_layRows a2 (F8_codeNow m) m) 92 (Int32.toNatClampNeg ((4096 * a2) + ((L8_fits_68 420 a1 a2 a3 (F8_codeNow m) 0 0 m).1))))), none, none, none]) eX8_fits_131 rfl rfl ?_
            refine s_bipush (v := (-4)) eX8_fits_133 rfl ?_
            refine s_istore (ls' := [some (.ref 74), some (.int a1), some (.int a2), some (.int a3), some (.int (F8_codeNow m)), some (.int ((L8_fits_68 420 a1 a2 a3 (F8_codeNow m) 0 0 m).1)), some (.int ((F8_layRows a2 (F8_codeNow m) m) 92 (Int32.toNatClampNeg ((4096 * a2) + ((L8_fits_68 420 a1 a2 a3 (F8_codeNow m) 0 0 m).1))))), some (.int ((-4))), none, none]) eX8_fits_135 rfl rfl ?_
            refine s_iconst (v := 0) eX8_fits_137 rfl ?_
            refine s_istore (ls' := [some (.ref 74), some (.int a1), some (.int a2), some (.int a3), some (.int (F8_codeNow m)), some (.int ((L8_fits_68 420 a1 a2 a3 (F8_codeNow m) 0 0 m).1)), some (.int ((F8_layRows a2 (F8_codeNow m) m) 92 (Int32.toNatClampNeg ((4096 * a2) + ((L8_fits_68 420 a1 a2 a3 (F8_codeNow m) 0 0 m).1))))), some (.int ((-4))), some (.int 0), none]) eX8_fits_138 rfl rfl ?_
            have q18 := hD
            refine clX8_fits_140 420 a1 a2 a3 (F8_codeNow m) ((L8_fits_68 420 a1 a2 a3 (F8_codeNow m) 0 0 m).1) ((F8_layRows a2 (F8_codeNow m) m) 92 (Int32.toNatClampNeg ((4096 * a2) + ((L8_fits_68 420 a1 a2 a3 (F8_codeNow m) 0 0 m).1)))) ((-4)) 0 ((F8_layRows a2 (F8_codeNow m) m)) q18 ?_
            refine cK8_fits_223 a1 a2 a3 (F8_codeNow m) ((L8_fits_140 420 a1 a2 a3 (F8_codeNow m) ((L8_fits_68 420 a1 a2 a3 (F8_codeNow m) 0 0 m).1) ((F8_layRows a2 (F8_codeNow m) m) 92 (Int32.toNatClampNeg ((4096 * a2) + ((L8_fits_68 420 a1 a2 a3 (F8_codeNow m) 0 0 m).1)))) ((-4)) 0 (F8_layRows a2 (F8_codeNow m) m)).1) ((F8_layRows a2 (F8_codeNow m) m) 92 (Int32.toNatClampNeg ((4096 * a2) + ((L8_fits_68 420 a1 a2 a3 (F8_codeNow m) 0 0 m).1)))) ((L8_fits_140 420 a1 a2 a3 (F8_codeNow m) ((L8_fits_68 420 a1 a2 a3 (F8_codeNow m) 0 0 m).1) ((F8_layRows a2 (F8_codeNow m) m) 92 (Int32.toNatClampNeg ((4096 * a2) + ((L8_fits_68 420 a1 a2 a3 (F8_codeNow m) 0 0 m).1)))) ((-4)) 0 (F8_layRows a2 (F8_codeNow m) m)).2.1) ((L8_fits_140 420 a1 a2 a3 (F8_codeNow m) ((L8_fits_68 420 a1 a2 a3 (F8_codeNow m) 0 0 m).1) ((F8_layRows a2 (F8_codeNow m) m) 92 (Int32.toNatClampNeg ((4096 * a2) + ((L8_fits_68 420 a1 a2 a3 (F8_codeNow m) 0 0 m).1)))) ((-4)) 0 (F8_layRows a2 (F8_codeNow m) m)).2.2) ((F8_layRows a2 (F8_codeNow m) m)) ?_
            exact ⟨by rw [E], by rw [E]⟩
          · skip
            rw [if_pos h13] at E
            refine s_bipush (v := (-2)) eX8_fits_53 rfl ?_
            exact s_iret eX8_fits_55 rfl ⟨rfl, by rw [E], by rw [E]⟩
        · skip
          rw [if_pos h11] at E
          refine s_iconst (v := (-1)) eX8_fits_42 rfl ?_
          exact s_iret eX8_fits_43 rfl ⟨rfl, by rw [E], by rw [E]⟩
theorem uX8_draws (a1 : Int32) (m : ax_M) (hD : D8_draws a1 m) : ax_NM 0 Y8_draws [.ref 74, .int a1] m (fun r m1 => r = some (.int (F8_draws a1 m).1) ∧ m1 = (F8_draws a1 m).2) := by
  have E : F8_draws a1 m = (((((ax_up m 74 46 (((m 74 46) * 1103515245) + 12345)) 74 46) >>> (16 &&& (31 : Int32))) &&& 32767) - ((((ax_up m 74 46 (((m 74 46) * 1103515245) + 12345)) 74 46) >>> (16 &&& (31 : Int32))) &&& 32767) / a1 * a1, (ax_up m 74 46 (((m 74 46) * 1103515245) + 12345))) := rfl
  unfold D8_draws at hD
  show ax_N 0 Y8_draws 0 [some (.ref 74), some (.int a1)] [] m _
  refine s_aload_n eX8_draws_0 rfl rfl ?_
  refine s_aload_n eX8_draws_1 rfl rfl ?_
  refine s_geti eX8_draws_2 fX8_333 shp_74 rfl ?_
  refine s_ldcw eX8_draws_5 qX8_336 ?_
  refine s_imul eX8_draws_8 ?_
  refine s_sipush (v := 12345) eX8_draws_9 rfl ?_
  refine s_iadd eX8_draws_12 ?_
  refine s_puti eX8_draws_13 fX8_333 pX8_46 rfl rfl shp_74 rfl ?_
  refine s_aload_n eX8_draws_16 rfl rfl ?_
  refine s_geti eX8_draws_17 fX8_333 shp_74 rfl ?_
  refine s_bipush (v := 16) eX8_draws_20 rfl ?_
  refine s_ishr eX8_draws_22 ?_
  refine s_sipush (v := 32767) eX8_draws_23 rfl ?_
  refine s_iand eX8_draws_26 ?_
  refine s_iload_n eX8_draws_27 rfl rfl ?_
  have q1 := hD
  refine s_irem eX8_draws_28 q1 ?_
  exact s_iret eX8_draws_29 rfl ⟨rfl, by rw [E], by rw [E]⟩
theorem clX8_atGoals_4 {P : Option Value → ax_M → Prop} : ∀ (n : Nat) (v1 v2 : Int32) (m : ax_M), E8_atGoals_4 n v1 v2 m → (ax_N 1 Y8_atGoals 44 [some (.ref 74), some (.int ((L8_atGoals_4 n v1 v2 m).1)), some (.int ((L8_atGoals_4 n v1 v2 m).2))] [] m P) → ax_N 1 Y8_atGoals 4 [some (.ref 74), some (.int v1), some (.int v2)] [] m P := by
  intro n
  induction n with
  | zero => intro v1 v2 m hD; exact absurd hD id
  | succ n ih =>
    intro v1 v2 m hD hx
    have E : L8_atGoals_4 (n + 1) v1 v2 m = (if (m 74 3) ≤ v2 then (v1, v2) else L8_atGoals_4 n (v1 + (if (F8_bankOf v2 m) = (m 75 (Int32.toNatClampNeg ((4 * v2) + 3))) then (1 : Int32) else 0)) (v2 + 1) m) := by rw [L8_atGoals_4]
    have hD : ((¬ ((m 74 3) ≤ v2) → ((D8_bankOf v2 m) ∧ (vp_in ((4 * v2) + 3) 132) ∧ (E8_atGoals_4 n (v1 + (if (F8_bankOf v2 m) = (m 75 (Int32.toNatClampNeg ((4 * v2) + 3))) then (1 : Int32) else 0)) (v2 + 1) m)))) := hD
    refine s_iload_n eX8_atGoals_4 rfl rfl ?_
    refine s_aload_n eX8_atGoals_5 rfl rfl ?_
    refine s_geti eX8_atGoals_6 fX8_202 shp_74 rfl ?_
    refine s_icmp_ge eX8_atGoals_9 (fun h1 => ?_) (fun h1 => ?_)
    · skip
      rw [if_pos h1] at E
      rw [E] at hx
      exact hx
    · skip
      rw [if_neg h1] at E
      have hD := hD h1
      refine s_iload_n eX8_atGoals_12 rfl rfl ?_
      refine s_aload_n eX8_atGoals_13 rfl rfl ?_
      refine s_iload_n eX8_atGoals_14 rfl rfl ?_
      obtain ⟨q2, hD⟩ := hD
      refine n_callVi (As := [.int v2]) eX8_atGoals_15 kX8_bankOf lX8_239 rfl rfl shp_74 rfl rfl (Nat.le_of_ble_eq_true rfl) (Nat.le_of_ble_eq_true rfl) (Nat.le_of_ble_eq_true rfl) (uX8_bankOf v2 m q2) ?_
      refine s_aload_n eX8_atGoals_18 rfl rfl ?_
      refine s_getr (q := 75) eX8_atGoals_19 fX8_7 shp_74 rfl ?_
      refine s_iconst (v := 4) eX8_atGoals_22 rfl ?_
      refine s_iload_n eX8_atGoals_23 rfl rfl ?_
      refine s_imul eX8_atGoals_24 ?_
      refine s_iconst (v := 3) eX8_atGoals_25 rfl ?_
      refine s_iadd eX8_atGoals_26 ?_
      obtain ⟨q3, hD⟩ := hD
      refine s_iald eX8_atGoals_27 shp_75 q3 ?_
      have J4 : ax_N 1 Y8_atGoals 36 [some (.ref 74), some (.int v1), some (.int v2)] [.int (if (F8_bankOf v2 m) = (m 75 (Int32.toNatClampNeg ((4 * v2) + 3))) then (1 : Int32) else 0), .int v1] m P := by
        refine s_iadd eX8_atGoals_36 ?_
        refine s_istore_n (ls' := [some (.ref 74), some (.int (v1 + (if (F8_bankOf v2 m) = (m 75 (Int32.toNatClampNeg ((4 * v2) + 3))) then (1 : Int32) else 0))), some (.int v2)]) eX8_atGoals_37 rfl rfl rfl ?_
        refine s_iinc (v := v2 + 1) (ls' := [some (.ref 74), some (.int (v1 + (if (F8_bankOf v2 m) = (m 75 (Int32.toNatClampNeg ((4 * v2) + 3))) then (1 : Int32) else 0))), some (.int (v2 + 1))]) eX8_atGoals_38 rfl rfl rfl rfl ?_
        refine s_goto eX8_atGoals_41 ?_
        rw [E] at hx
        exact ih (v1 + (if (F8_bankOf v2 m) = (m 75 (Int32.toNatClampNeg ((4 * v2) + 3))) then (1 : Int32) else 0)) (v2 + 1) m hD hx
      refine s_icmp_ne eX8_atGoals_28 (fun h5 => ?_) (fun h5 => ?_)
      · skip
        refine s_iconst (v := 0) eX8_atGoals_35 rfl ?_
        exact ax_eqN rfl (by rw [show (if (F8_bankOf v2 m) = (m 75 (Int32.toNatClampNeg ((4 * v2) + 3))) then (1 : Int32) else 0 : Int32) = 0 by rw [if_neg h5]]) rfl J4
      · skip
        refine s_iconst (v := 1) eX8_atGoals_31 rfl ?_
        refine s_goto eX8_atGoals_32 ?_
        exact ax_eqN rfl (by rw [show (if (F8_bankOf v2 m) = (m 75 (Int32.toNatClampNeg ((4 * v2) + 3))) then (1 : Int32) else 0 : Int32) = 1 by rw [if_pos h5]]) rfl J4
theorem uX8_atGoals (m : ax_M) (hD : D8_atGoals m) : ax_NM 1 Y8_atGoals [.ref 74] m (fun r m1 => r = some (.int (F8_atGoals m)) ∧ m1 = m) := by
  have E : F8_atGoals m = ((L8_atGoals_4 64 0 0 m).1) := rfl
  unfold D8_atGoals at hD
  show ax_N 1 Y8_atGoals 0 [some (.ref 74), none, none] [] m _
  refine s_iconst (v := 0) eX8_atGoals_0 rfl ?_
  refine s_istore_n (ls' := [some (.ref 74), some (.int 0), none]) eX8_atGoals_1 rfl rfl rfl ?_
  refine s_iconst (v := 0) eX8_atGoals_2 rfl ?_
  refine s_istore_n (ls' := [some (.ref 74), some (.int 0), some (.int 0)]) eX8_atGoals_3 rfl rfl rfl ?_
  have q1 := hD
  refine clX8_atGoals_4 64 0 0 m q1 ?_
  refine s_iload_n eX8_atGoals_44 rfl rfl ?_
  exact s_iret eX8_atGoals_45 rfl ⟨rfl, by rw [E], rfl⟩
