/-! X8_read X8_torn X8_count -/
theorem clX8_read_55 {P : Option Value → ax_M → Prop} : ∀ (n : Nat) (v1 v2 v3 v4 v5 v6 v7 : Int32) (m : ax_M), E8_read_55 n v1 v2 v3 v4 v5 v6 v7 m → (∀ r, (L8_read_55 n v1 v2 v3 v4 v5 v6 v7 m).1 = some r → P (some (.int r)) (L8_read_55 n v1 v2 v3 v4 v5 v6 v7 m).2.2.2.2) → ((L8_read_55 n v1 v2 v3 v4 v5 v6 v7 m).1 = none → ax_N 4 Y8_read 207 [some (.ref 74), some (.int v1), some (.int v2), some (.int v3), some (.int v4), some (.int ((L8_read_55 n v1 v2 v3 v4 v5 v6 v7 m).2.1)), some (.int ((L8_read_55 n v1 v2 v3 v4 v5 v6 v7 m).2.2.1)), some (.int ((L8_read_55 n v1 v2 v3 v4 v5 v6 v7 m).2.2.2.1)), none] [] ((L8_read_55 n v1 v2 v3 v4 v5 v6 v7 m).2.2.2.2) P) → ax_N 4 Y8_read 55 [some (.ref 74), some (.int v1), some (.int v2), some (.int v3), some (.int v4), some (.int v5), some (.int v6), some (.int v7), none] [] m P := by
  intro n
  induction n with
  | zero => intro v1 v2 v3 v4 v5 v6 v7 m hD; exact absurd hD id
  | succ n ih =>
    intro v1 v2 v3 v4 v5 v6 v7 m hD hr hx
    have E : L8_read_55 (n + 1) v1 v2 v3 v4 v5 v6 v7 m = (if (3 * v4) ≤ v7 then (none, v5, v6, v7, m) else (if v5 = 0 then (if (if (m 94 (Int32.toNatClampNeg v1)) = ((-4)) then (1 : Int32) else if (m 94 (Int32.toNatClampNeg v1)) = v2 then (if (F8_in ((Int32.toInt64 v3) + (Int32.toInt64 v7)) 0 (Int32.toInt64 ((m 95 (Int32.toNatClampNeg v1)) - 1)) m) = 0 then (2 : Int32) else 0 : Int32) else 3) = 0 then (if (v7 - v7 / 3 * 3) = 2 then (if 0 ≤ ((F8_crosses (m 96 (Int32.toNatClampNeg ((((40 * v1) + v3) + v7) - 2))) (m 96 (Int32.toNatClampNeg ((((40 * v1) + v3) + v7) - 1))) (m 96 (Int32.toNatClampNeg (((40 * v1) + v3) + v7))) 0 0 m).1) then L8_read_55 n v1 v2 v3 v4 (if (m 94 (Int32.toNatClampNeg v1)) = ((-4)) then (1 : Int32) else if (m 94 (Int32.toNatClampNeg v1)) = v2 then (if (F8_in ((Int32.toInt64 v3) + (Int32.toInt64 v7)) 0 (Int32.toInt64 ((m 95 (Int32.toNatClampNeg v1)) - 1)) m) = 0 then (2 : Int32) else 0 : Int32) else 3) (v6 + 1) (v7 + 1) (F8_crosses (m 96 (Int32.toNatClampNeg ((((40 * v1) + v3) + v7) - 2))) (m 96 (Int32.toNatClampNeg ((((40 * v1) + v3) + v7) - 1))) (m 96 (Int32.toNatClampNeg (((40 * v1) + v3) + v7))) 0 0 m).2 else (some (((-20)) - v6), v5, v6, v7, (F8_copies 99 0 (F8_crosses (m 96 (Int32.toNatClampNeg ((((40 * v1) + v3) + v7) - 2))) (m 96 (Int32.toNatClampNeg ((((40 * v1) + v3) + v7) - 1))) (m 96 (Int32.toNatClampNeg (((40 * v1) + v3) + v7))) 0 0 m).2))) else L8_read_55 n v1 v2 v3 v4 (if (m 94 (Int32.toNatClampNeg v1)) = ((-4)) then (1 : Int32) else if (m 94 (Int32.toNatClampNeg v1)) = v2 then (if (F8_in ((Int32.toInt64 v3) + (Int32.toInt64 v7)) 0 (Int32.toInt64 ((m 95 (Int32.toNatClampNeg v1)) - 1)) m) = 0 then (2 : Int32) else 0 : Int32) else 3) v6 (v7 + 1) m) else L8_read_55 n v1 v2 v3 v4 (if (m 94 (Int32.toNatClampNeg v1)) = ((-4)) then (1 : Int32) else if (m 94 (Int32.toNatClampNeg v1)) = v2 then (if (F8_in ((Int32.toInt64 v3) + (Int32.toInt64 v7)) 0 (Int32.toInt64 ((m 95 (Int32.toNatClampNeg v1)) - 1)) m) = 0 then (2 : Int32) else 0 : Int32) else 3) v6 (v7 + 1) m) else (none, v5, v6, v7, m))) := by rw [L8_read_55]
    have hD : ((¬ ((3 * v4) ≤ v7) → (((v5 = 0) → ((vp_in v1 4) ∧ (¬ ((m 94 (Int32.toNatClampNeg v1)) = ((-4))) → ((vp_in v1 4) ∧ (((m 94 (Int32.toNatClampNeg v1)) = v2) → ((vp_in v1 4))))) ∧ ((((if (m 94 (Int32.toNatClampNeg v1)) = ((-4)) then (1 : Int32) else if (m 94 (Int32.toNatClampNeg v1)) = v2 then (if (F8_in ((Int32.toInt64 v3) + (Int32.toInt64 v7)) 0 (Int32.toInt64 ((m 95 (Int32.toNatClampNeg v1)) - 1)) m) = 0 then (2 : Int32) else 0 : Int32) else 3) = 0) → (((((v7 - v7 / 3 * 3) = 2) → ((vp_in ((((40 * v1) + v3) + v7) - 2) 160) ∧ (vp_in ((((40 * v1) + v3) + v7) - 1) 160) ∧ (vp_in (((40 * v1) + v3) + v7) 160) ∧ (D8_crosses (m 96 (Int32.toNatClampNeg ((((40 * v1) + v3) + v7) - 2))) (m 96 (Int32.toNatClampNeg ((((40 * v1) + v3) + v7) - 1))) (m 96 (Int32.toNatClampNeg (((40 * v1) + v3) + v7))) 0 0 m) ∧ (((0 ≤ ((F8_crosses (m 96 (Int32.toNatClampNeg ((((40 * v1) + v3) + v7) - 2))) (m 96 (Int32.toNatClampNeg ((((40 * v1) + v3) + v7) - 1))) (m 96 (Int32.toNatClampNeg (((40 * v1) + v3) + v7))) 0 0 m).1)) → ((E8_read_55 n v1 v2 v3 v4 (if (m 94 (Int32.toNatClampNeg v1)) = ((-4)) then (1 : Int32) else if (m 94 (Int32.toNatClampNeg v1)) = v2 then (if (F8_in ((Int32.toInt64 v3) + (Int32.toInt64 v7)) 0 (Int32.toInt64 ((m 95 (Int32.toNatClampNeg v1)) - 1)) m) = 0 then (2 : Int32) else 0 : Int32) else 3) (v6 + 1) (v7 + 1) (F8_crosses (m 96 (Int32.toNatClampNeg ((((40 * v1) + v3) + v7) - 2))) (m 96 (Int32.toNatClampNeg ((((40 * v1) + v3) + v7) - 1))) (m 96 (Int32.toNatClampNeg (((40 * v1) + v3) + v7))) 0 0 m).2))) ∧ (¬ (0 ≤ ((F8_crosses (m 96 (Int32.toNatClampNeg ((((40 * v1) + v3) + v7) - 2))) (m 96 (Int32.toNatClampNeg ((((40 * v1) + v3) + v7) - 1))) (m 96 (Int32.toNatClampNeg (((40 * v1) + v3) + v7))) 0 0 m).1)) → ((D8_copies 99 0 (F8_crosses (m 96 (Int32.toNatClampNeg ((((40 * v1) + v3) + v7) - 2))) (m 96 (Int32.toNatClampNeg ((((40 * v1) + v3) + v7) - 1))) (m 96 (Int32.toNatClampNeg (((40 * v1) + v3) + v7))) 0 0 m).2)))))) ∧ (¬ ((v7 - v7 / 3 * 3) = 2) → ((E8_read_55 n v1 v2 v3 v4 (if (m 94 (Int32.toNatClampNeg v1)) = ((-4)) then (1 : Int32) else if (m 94 (Int32.toNatClampNeg v1)) = v2 then (if (F8_in ((Int32.toInt64 v3) + (Int32.toInt64 v7)) 0 (Int32.toInt64 ((m 95 (Int32.toNatClampNeg v1)) - 1)) m) = 0 then (2 : Int32) else 0 : Int32) else 3) v6 (v7 + 1) m)))))) ∧ (¬ ((if (m 94 (Int32.toNatClampNeg v1)) = ((-4)) then (1 : Int32) else if (m 94 (Int32.toNatClampNeg v1)) = v2 then (if (F8_in ((Int32.toInt64 v3) + (Int32.toInt64 v7)) 0 (Int32.toInt64 ((m 95 (Int32.toNatClampNeg v1)) - 1)) m) = 0 then (2 : Int32) else 0 : Int32) else 3) = 0) → ((E8_read_55 n v1 v2 v3 v4 (if (m 94 (Int32.toNatClampNeg v1)) = ((-4)) then (1 : Int32) else if (m 94 (Int32.toNatClampNeg v1)) = v2 then (if (F8_in ((Int32.toInt64 v3) + (Int32.toInt64 v7)) 0 (Int32.toInt64 ((m 95 (Int32.toNatClampNeg v1)) - 1)) m) = 0 then (2 : Int32) else 0 : Int32) else 3) v6 (v7 + 1) m))))))))) := hD
    refine s_iload eX8_read_55 rfl ?_
    refine s_iconst (v := 3) eX8_read_57 rfl ?_
    refine s_iload eX8_read_58 rfl ?_
    refine s_imul eX8_read_60 ?_
    refine s_icmp_ge eX8_read_61 (fun h1 => ?_) (fun h1 => ?_)
    · skip
      rw [if_pos h1] at E
      rw [E] at hx
      exact hx rfl
    · skip
      rw [if_neg h1] at E
      have hD := hD h1
      refine s_iload eX8_read_64 rfl ?_
      refine s_if_ne eX8_read_66 (fun h2 => ?_) (fun h2 => ?_)
      · skip
        rw [if_neg h2] at E
        rw [E] at hx
        exact hx rfl
      · skip
        rw [if_pos h2] at E
        have hD := hD h2
        refine s_aload_n eX8_read_69 rfl rfl ?_
        refine s_getr (q := 94) eX8_read_70 fX8_75 shp_74 rfl ?_
        refine s_iload_n eX8_read_73 rfl rfl ?_
        obtain ⟨q3, hD⟩ := hD
        refine s_iald eX8_read_74 shp_94 q3 ?_
        refine s_bipush (v := (-4)) eX8_read_75 rfl ?_
        obtain ⟨s4, hD⟩ := hD
        have J5 : ax_N 4 Y8_read 125 [some (.ref 74), some (.int v1), some (.int v2), some (.int v3), some (.int v4), some (.int v5), some (.int v6), some (.int v7), none] [.int (if (m 94 (Int32.toNatClampNeg v1)) = ((-4)) then (1 : Int32) else if (m 94 (Int32.toNatClampNeg v1)) = v2 then (if (F8_in ((Int32.toInt64 v3) + (Int32.toInt64 v7)) 0 (Int32.toInt64 ((m 95 (Int32.toNatClampNeg v1)) - 1)) m) = 0 then (2 : Int32) else 0 : Int32) else 3)] m P := by
          refine s_istore (ls' := [some (.ref 74), some (.int v1), some (.int v2), some (.int v3), some (.int v4), some (.int (if (m 94 (Int32.toNatClampNeg v1)) = ((-4)) then (1 : Int32) else if (m 94 (Int32.toNatClampNeg v1)) = v2 then (if (F8_in ((Int32.toInt64 v3) + (Int32.toInt64 v7)) 0 (Int32.toInt64 ((m 95 (Int32.toNatClampNeg v1)) - 1)) m) = 0 then (2 : Int32) else 0 : Int32) else 3)), some (.int v6), some (.int v7), none]) eX8_read_125 rfl rfl ?_
          refine s_iload eX8_read_127 rfl ?_
          refine s_if_ne eX8_read_129 (fun h6 => ?_) (fun h6 => ?_)
          · skip
            rw [if_neg h6] at E
            have hD := hD.2 h6
            refine s_iinc (v := v7 + 1) (ls' := [some (.ref 74), some (.int v1), some (.int v2), some (.int v3), some (.int v4), some (.int (if (m 94 (Int32.toNatClampNeg v1)) = ((-4)) then (1 : Int32) else if (m 94 (Int32.toNatClampNeg v1)) = v2 then (if (F8_in ((Int32.toInt64 v3) + (Int32.toInt64 v7)) 0 (Int32.toInt64 ((m 95 (Int32.toNatClampNeg v1)) - 1)) m) = 0 then (2 : Int32) else 0 : Int32) else 3)), some (.int v6), some (.int (v7 + 1)), none]) eX8_read_201 rfl rfl rfl rfl ?_
            refine s_goto eX8_read_204 ?_
            rw [E] at hr hx
            exact ih v1 v2 v3 v4 (if (m 94 (Int32.toNatClampNeg v1)) = ((-4)) then (1 : Int32) else if (m 94 (Int32.toNatClampNeg v1)) = v2 then (if (F8_in ((Int32.toInt64 v3) + (Int32.toInt64 v7)) 0 (Int32.toInt64 ((m 95 (Int32.toNatClampNeg v1)) - 1)) m) = 0 then (2 : Int32) else 0 : Int32) else 3) v6 (v7 + 1) m hD hr hx
          · skip
            rw [if_pos h6] at E
            have hD := hD.1 h6
            refine s_iload eX8_read_132 rfl ?_
            refine s_iconst (v := 3) eX8_read_134 rfl ?_
            refine s_irem eX8_read_135 (by decide) ?_
            refine s_iconst (v := 2) eX8_read_136 rfl ?_
            refine s_icmp_ne eX8_read_137 (fun h7 => ?_) (fun h7 => ?_)
            · skip
              rw [if_neg h7] at E
              have hD := hD.2 h7
              refine s_iinc (v := v7 + 1) (ls' := [some (.ref 74), some (.int v1), some (.int v2), some (.int v3), some (.int v4), some (.int (if (m 94 (Int32.toNatClampNeg v1)) = ((-4)) then (1 : Int32) else if (m 94 (Int32.toNatClampNeg v1)) = v2 then (if (F8_in ((Int32.toInt64 v3) + (Int32.toInt64 v7)) 0 (Int32.toInt64 ((m 95 (Int32.toNatClampNeg v1)) - 1)) m) = 0 then (2 : Int32) else 0 : Int32) else 3)), some (.int v6), some (.int (v7 + 1)), none]) eX8_read_201 rfl rfl rfl rfl ?_
              refine s_goto eX8_read_204 ?_
              rw [E] at hr hx
              exact ih v1 v2 v3 v4 (if (m 94 (Int32.toNatClampNeg v1)) = ((-4)) then (1 : Int32) else if (m 94 (Int32.toNatClampNeg v1)) = v2 then (if (F8_in ((Int32.toInt64 v3) + (Int32.toInt64 v7)) 0 (Int32.toInt64 ((m 95 (Int32.toNatClampNeg v1)) - 1)) m) = 0 then (2 : Int32) else 0 : Int32) else 3) v6 (v7 + 1) m hD hr hx
            · skip
              rw [if_pos h7] at E
              have hD := hD.1 h7
              refine s_bipush (v := 40) eX8_read_140 rfl ?_
              refine s_iload_n eX8_read_142 rfl rfl ?_
              refine s_imul eX8_read_143 ?_
              refine s_iload_n eX8_read_144 rfl rfl ?_
              refine s_iadd eX8_read_145 ?_
              refine s_iload eX8_read_146 rfl ?_
              refine s_iadd eX8_read_148 ?_
              refine s_istore (ls' := [some (.ref 74), some (.int v1), some (.int v2), some (.int v3), some (.int v4), some (.int (if (m 94 (Int32.toNatClampNeg v1)) = ((-4)) then (1 : Int32) else if (m 94 (Int32.toNatClampNeg v1)) = v2 then (if (F8_in ((Int32.toInt64 v3) + (Int32.toInt64 v7)) 0 (Int32.toInt64 ((m 95 (Int32.toNatClampNeg v1)) - 1)) m) = 0 then (2 : Int32) else 0 : Int32) else 3)), some (.int v6), some (.int v7), some (.int (((40 * v1) + v3) + v7))]) eX8_read_149 rfl rfl ?_
              refine s_aload_n eX8_read_151 rfl rfl ?_
              refine s_aload_n eX8_read_152 rfl rfl ?_
              refine s_getr (q := 96) eX8_read_153 fX8_81 shp_74 rfl ?_
              refine s_iload eX8_read_156 rfl ?_
              refine s_iconst (v := 2) eX8_read_158 rfl ?_
              refine s_isub eX8_read_159 ?_
              obtain ⟨q8, hD⟩ := hD
              refine s_iald eX8_read_160 shp_96 q8 ?_
              refine s_aload_n eX8_read_161 rfl rfl ?_
              refine s_getr (q := 96) eX8_read_162 fX8_81 shp_74 rfl ?_
              refine s_iload eX8_read_165 rfl ?_
              refine s_iconst (v := 1) eX8_read_167 rfl ?_
              refine s_isub eX8_read_168 ?_
              obtain ⟨q9, hD⟩ := hD
              refine s_iald eX8_read_169 shp_96 q9 ?_
              refine s_aload_n eX8_read_170 rfl rfl ?_
              refine s_getr (q := 96) eX8_read_171 fX8_81 shp_74 rfl ?_
              refine s_iload eX8_read_174 rfl ?_
              obtain ⟨q10, hD⟩ := hD
              refine s_iald eX8_read_176 shp_96 q10 ?_
              refine s_iconst (v := 0) eX8_read_177 rfl ?_
              refine s_iconst (v := 0) eX8_read_178 rfl ?_
              obtain ⟨q11, hD⟩ := hD
              refine n_callVi (As := [.int (m 96 (Int32.toNatClampNeg ((((40 * v1) + v3) + v7) - 2))), .int (m 96 (Int32.toNatClampNeg ((((40 * v1) + v3) + v7) - 1))), .int (m 96 (Int32.toNatClampNeg (((40 * v1) + v3) + v7))), .int 0, .int 0]) eX8_read_179 kX8_crosses lX8_269 rfl rfl shp_74 rfl rfl (Nat.le_of_ble_eq_true rfl) (Nat.le_of_ble_eq_true rfl) (Nat.le_of_ble_eq_true rfl) (uX8_crosses (m 96 (Int32.toNatClampNeg ((((40 * v1) + v3) + v7) - 2))) (m 96 (Int32.toNatClampNeg ((((40 * v1) + v3) + v7) - 1))) (m 96 (Int32.toNatClampNeg (((40 * v1) + v3) + v7))) 0 0 m q11) ?_
              refine s_if_ge eX8_read_182 (fun h12 => ?_) (fun h12 => ?_)
              · skip
                rw [if_pos h12] at E
                have hD := hD.1 h12
                refine s_iinc (v := v6 + 1) (ls' := [some (.ref 74), some (.int v1), some (.int v2), some (.int v3), some (.int v4), some (.int (if (m 94 (Int32.toNatClampNeg v1)) = ((-4)) then (1 : Int32) else if (m 94 (Int32.toNatClampNeg v1)) = v2 then (if (F8_in ((Int32.toInt64 v3) + (Int32.toInt64 v7)) 0 (Int32.toInt64 ((m 95 (Int32.toNatClampNeg v1)) - 1)) m) = 0 then (2 : Int32) else 0 : Int32) else 3)), some (.int (v6 + 1)), some (.int v7), some (.int (((40 * v1) + v3) + v7))]) eX8_read_198 rfl rfl rfl rfl ?_
                refine s_iinc (v := v7 + 1) (ls' := [some (.ref 74), some (.int v1), some (.int v2), some (.int v3), some (.int v4), some (.int (if (m 94 (Int32.toNatClampNeg v1)) = ((-4)) then (1 : Int32) else if (m 94 (Int32.toNatClampNeg v1)) = v2 then (if (F8_in ((Int32.toInt64 v3) + (Int32.toInt64 v7)) 0 (Int32.toInt64 ((m 95 (Int32.toNatClampNeg v1)) - 1)) m) = 0 then (2 : Int32) else 0 : Int32) else 3)), some (.int (v6 + 1)), some (.int (v7 + 1)), some (.int (((40 * v1) + v3) + v7))]) eX8_read_201 rfl rfl rfl rfl ?_
                refine s_goto eX8_read_204 ?_
                refine ax_forget (ls' := [some (.ref 74), some (.int v1), some (.int v2), some (.int v3), some (.int v4), some (.int (if (m 94 (Int32.toNatClampNeg v1)) = ((-4)) then (1 : Int32) else if (m 94 (Int32.toNatClampNeg v1)) = v2 then (if (F8_in ((Int32.toInt64 v3) + (Int32.toInt64 v7)) 0 (Int32.toInt64 ((m 95 (Int32.toNatClampNeg v1)) - 1)) m) = 0 then (2 : Int32) else 0 : Int32) else 3)), some (.int (v6 + 1)), some (.int (v7 + 1)), none]) rfl ?_
                rw [E] at hr hx
                exact ih v1 v2 v3 v4 (if (m 94 (Int32.toNatClampNeg v1)) = ((-4)) then (1 : Int32) else if (m 94 (Int32.toNatClampNeg v1)) = v2 then (if (F8_in ((Int32.toInt64 v3) + (Int32.toInt64 v7)) 0 (Int32.toInt64 ((m 95 (Int32.toNatClampNeg v1)) - 1)) m) = 0 then (2 : Int32) else 0 : Int32) else 3) (v6 + 1) (v7 + 1) ((F8_crosses (m 96 (Int32.toNatClampNeg ((((40 * v1) + v3) + v7) - 2))) (m 96 (Int32.toNatClampNeg ((((40 * v1) + v3) + v7) - 1))) (m 96 (Int32.toNatClampNeg (((40 * v1) + v3) + v7))) 0 0 m).2) hD hr hx
              · skip
                rw [if_neg h12] at E
                have hD := hD.2 h12
                refine s_aload_n eX8_read_185 rfl rfl ?_
                refine s_bipush (v := 99) eX8_read_186 rfl ?_
                refine s_iconst (v := 0) eX8_read_188 rfl ?_
                have q13 := hD
                refine n_callVv (As := [.int 99, .int 0]) eX8_read_189 kX8_copies lX8_345 rfl rfl shp_74 rfl rfl (Nat.le_of_ble_eq_true rfl) (Nat.le_of_ble_eq_true rfl) (Nat.le_of_ble_eq_true rfl) (uX8_copies 99 0 ((F8_crosses (m 96 (Int32.toNatClampNeg ((((40 * v1) + v3) + v7) - 2))) (m 96 (Int32.toNatClampNeg ((((40 * v1) + v3) + v7) - 1))) (m 96 (Int32.toNatClampNeg (((40 * v1) + v3) + v7))) 0 0 m).2) q13) ?_
                refine s_bipush (v := (-20)) eX8_read_192 rfl ?_
                refine s_iload eX8_read_194 rfl ?_
                refine s_isub eX8_read_196 ?_
                rw [E] at hr
                exact s_iret eX8_read_197 rfl ⟨rfl, hr _ rfl⟩
        have hD := s4
        refine s_icmp_ne eX8_read_77 (fun h14 => ?_) (fun h14 => ?_)
        · skip
          have hD := hD h14
          refine s_aload_n eX8_read_84 rfl rfl ?_
          refine s_getr (q := 94) eX8_read_85 fX8_75 shp_74 rfl ?_
          refine s_iload_n eX8_read_88 rfl rfl ?_
          obtain ⟨q15, hD⟩ := hD
          refine s_iald eX8_read_89 shp_94 q15 ?_
          refine s_iload_n eX8_read_90 rfl rfl ?_
          refine s_icmp_eq eX8_read_91 (fun h16 => ?_) (fun h16 => ?_)
          · skip
            have hD := hD h16
            refine s_iload_n eX8_read_98 rfl rfl ?_
            refine s_i2l eX8_read_99 ?_
            refine s_iload eX8_read_100 rfl ?_
            refine s_i2l eX8_read_102 ?_
            refine s_ladd eX8_read_103 ?_
            refine s_lconst (v := 0) eX8_read_104 rfl ?_
            refine s_aload_n eX8_read_105 rfl rfl ?_
            refine s_getr (q := 95) eX8_read_106 fX8_78 shp_74 rfl ?_
            refine s_iload_n eX8_read_109 rfl rfl ?_
            have q17 := hD
            refine s_iald eX8_read_110 shp_95 q17 ?_
            refine s_iconst (v := 1) eX8_read_111 rfl ?_
            refine s_isub eX8_read_112 ?_
            refine s_i2l eX8_read_113 ?_
            refine n_callSi (As := [.long ((Int32.toInt64 v3) + (Int32.toInt64 v7)), .long 0, .long (Int32.toInt64 ((m 95 (Int32.toNatClampNeg v1)) - 1))]) eX8_read_114 kX8_in lX8_87 rfl rfl (Nat.le_of_ble_eq_true rfl) (Nat.le_of_ble_eq_true rfl) (Nat.le_of_ble_eq_true rfl) (uX8_in ((Int32.toInt64 v3) + (Int32.toInt64 v7)) 0 (Int32.toInt64 ((m 95 (Int32.toNatClampNeg v1)) - 1)) m) ?_
            refine s_if_ne eX8_read_117 (fun h18 => ?_) (fun h18 => ?_)
            · skip
              refine s_iconst (v := 0) eX8_read_124 rfl ?_
              exact ax_eqN rfl (by rw [show (if (m 94 (Int32.toNatClampNeg v1)) = ((-4)) then (1 : Int32) else if (m 94 (Int32.toNatClampNeg v1)) = v2 then (if (F8_in ((Int32.toInt64 v3) + (Int32.toInt64 v7)) 0 (Int32.toInt64 ((m 95 (Int32.toNatClampNeg v1)) - 1)) m) = 0 then (2 : Int32) else 0 : Int32) else 3 : Int32) = 0 by rw [if_neg h14, if_pos h16, if_neg h18]]) rfl J5
            · skip
              refine s_iconst (v := 2) eX8_read_120 rfl ?_
              refine s_goto eX8_read_121 ?_
              exact ax_eqN rfl (by rw [show (if (m 94 (Int32.toNatClampNeg v1)) = ((-4)) then (1 : Int32) else if (m 94 (Int32.toNatClampNeg v1)) = v2 then (if (F8_in ((Int32.toInt64 v3) + (Int32.toInt64 v7)) 0 (Int32.toInt64 ((m 95 (Int32.toNatClampNeg v1)) - 1)) m) = 0 then (2 : Int32) else 0 : Int32) else 3 : Int32) = 2 by rw [if_neg h14, if_pos h16, if_pos h18]]) rfl J5
          · skip
            refine s_iconst (v := 3) eX8_read_94 rfl ?_
            refine s_goto eX8_read_95 ?_
            exact ax_eqN rfl (by rw [show (if (m 94 (Int32.toNatClampNeg v1)) = ((-4)) then (1 : Int32) else if (m 94 (Int32.toNatClampNeg v1)) = v2 then (if (F8_in ((Int32.toInt64 v3) + (Int32.toInt64 v7)) 0 (Int32.toInt64 ((m 95 (Int32.toNatClampNeg v1)) - 1)) m) = 0 then (2 : Int32) else 0 : Int32) else 3 : Int32) = 3 by rw [if_neg h14, if_neg h16]]) rfl J5
        · skip
          refine s_iconst (v := 1) eX8_read_80 rfl ?_
          refine s_goto eX8_read_81 ?_
          exact ax_eqN rfl (by rw [show (if (m 94 (Int32.toNatClampNeg v1)) = ((-4)) then (1 : Int32) else if (m 94 (Int32.toNatClampNeg v1)) = v2 then (if (F8_in ((Int32.toInt64 v3) + (Int32.toInt64 v7)) 0 (Int32.toInt64 ((m 95 (Int32.toNatClampNeg v1)) - 1)) m) = 0 then (2 : Int32) else 0 : Int32) else 3 : Int32) = 1 by rw [if_pos h14]]) rfl J5
theorem cK8_read_213 (v1 v2 v3 v4 v5 v6 v7 : Int32) (m : ax_M) {P : Option Value → ax_M → Prop} (hP : P (some (.int (K8_read_213 v1 v2 v3 v4 v5 v6 v7 m).1)) (K8_read_213 v1 v2 v3 v4 v5 v6 v7 m).2) : ax_N 4 Y8_read 213 [some (.ref 74), some (.int v1), some (.int v2), some (.int v3), some (.int v4), some (.int v5), some (.int v6), some (.int v7), none] [] m P := by
  have E : K8_read_213 v1 v2 v3 v4 v5 v6 v7 m = (v6, m) := rfl
  refine s_iload eX8_read_213 rfl ?_
  rw [E] at hP
  exact s_iret eX8_read_215 rfl ⟨rfl, hP⟩
theorem uX8_read (a1 : Int32) (a2 : Int32) (a3 : Int32) (a4 : Int32) (m : ax_M) (hD : D8_read a1 a2 a3 a4 m) : ax_NM 4 Y8_read [.ref 74, .int a1, .int a2, .int a3, .int a4] m (fun r m1 => r = some (.int (F8_read a1 a2 a3 a4 m).1) ∧ m1 = (F8_read a1 a2 a3 a4 m).2) := by
  have E : F8_read a1 a2 a3 a4 m = (if (F8_in (Int32.toInt64 a1) 0 3 m) = 0 then ((-1), m) else (if (F8_in (Int32.toInt64 a2) 0 2 m) = 0 then ((-1), m) else (if (F8_in (Int32.toInt64 a4) 0 13 m) = 0 then ((-1), m) else (if (L8_read_55 64 a1 a2 a3 a4 0 0 0 (F8_copies 0 99 m)).1 = none then (K8_read_213 a1 a2 a3 a4 ((L8_read_55 64 a1 a2 a3 a4 0 0 0 (F8_copies 0 99 m)).2.1) ((L8_read_55 64 a1 a2 a3 a4 0 0 0 (F8_copies 0 99 m)).2.2.1) ((L8_read_55 64 a1 a2 a3 a4 0 0 0 (F8_copies 0 99 m)).2.2.2.1) (ax_up (L8_read_55 64 a1 a2 a3 a4 0 0 0 (F8_copies 0 99 m)).2.2.2.2 74 51 ((L8_read_55 64 a1 a2 a3 a4 0 0 0 (F8_copies 0 99 m)).2.1))) else (((L8_read_55 64 a1 a2 a3 a4 0 0 0 (F8_copies 0 99 m)).1).getD 0, (L8_read_55 64 a1 a2 a3 a4 0 0 0 (F8_copies 0 99 m)).2.2.2.2))))) := rfl
  unfold D8_read at hD
  show ax_N 4 Y8_read 0 [some (.ref 74), some (.int a1), some (.int a2), some (.int a3), some (.int a4), none, none, none, none] [] m _
  refine s_iload_n eX8_read_0 rfl rfl ?_
  refine s_i2l eX8_read_1 ?_
  refine s_lconst (v := 0) eX8_read_2 rfl ?_
  refine s_ldc2 eX8_read_3 qX8_217 ?_
  refine n_callSi (As := [.long (Int32.toInt64 a1), .long 0, .long 3]) eX8_read_6 kX8_in lX8_87 rfl rfl (Nat.le_of_ble_eq_true rfl) (Nat.le_of_ble_eq_true rfl) (Nat.le_of_ble_eq_true rfl) (uX8_in (Int32.toInt64 a1) 0 3 m) ?_
  refine s_if_eq eX8_read_9 (fun h1 => ?_) (fun h1 => ?_)
  · skip
    rw [if_pos h1] at E
    refine s_iconst (v := (-1)) eX8_read_37 rfl ?_
    exact s_iret eX8_read_38 rfl ⟨rfl, by rw [E], by rw [E]⟩
  · skip
    rw [if_neg h1] at E
    have hD := hD h1
    refine s_iload_n eX8_read_12 rfl rfl ?_
    refine s_i2l eX8_read_13 ?_
    refine s_lconst (v := 0) eX8_read_14 rfl ?_
    refine s_ldc2 eX8_read_15 qX8_215 ?_
    refine n_callSi (As := [.long (Int32.toInt64 a2), .long 0, .long 2]) eX8_read_18 kX8_in lX8_87 rfl rfl (Nat.le_of_ble_eq_true rfl) (Nat.le_of_ble_eq_true rfl) (Nat.le_of_ble_eq_true rfl) (uX8_in (Int32.toInt64 a2) 0 2 m) ?_
    refine s_if_eq eX8_read_21 (fun h2 => ?_) (fun h2 => ?_)
    · skip
      rw [if_pos h2] at E
      refine s_iconst (v := (-1)) eX8_read_37 rfl ?_
      exact s_iret eX8_read_38 rfl ⟨rfl, by rw [E], by rw [E]⟩
    · skip
      rw [if_neg h2] at E
      have hD := hD h2
      refine s_iload eX8_read_24 rfl ?_
      refine s_i2l eX8_read_26 ?_
      refine s_lconst (v := 0) eX8_read_27 rfl ?_
      refine s_ldc2 eX8_read_28 qX8_348 ?_
      refine n_callSi (As := [.long (Int32.toInt64 a4), .long 0, .long 13]) eX8_read_31 kX8_in lX8_87 rfl rfl (Nat.le_of_ble_eq_true rfl) (Nat.le_of_ble_eq_true rfl) (Nat.le_of_ble_eq_true rfl) (uX8_in (Int32.toInt64 a4) 0 13 m) ?_
      refine s_if_ne eX8_read_34 (fun h3 => ?_) (fun h3 => ?_)
      · skip
        rw [if_neg h3] at E
        have hD := hD h3
        refine s_aload_n eX8_read_39 rfl rfl ?_
        refine s_iconst (v := 0) eX8_read_40 rfl ?_
        refine s_bipush (v := 99) eX8_read_41 rfl ?_
        obtain ⟨q4, hD⟩ := hD
        refine n_callVv (As := [.int 0, .int 99]) eX8_read_43 kX8_copies lX8_345 rfl rfl shp_74 rfl rfl (Nat.le_of_ble_eq_true rfl) (Nat.le_of_ble_eq_true rfl) (Nat.le_of_ble_eq_true rfl) (uX8_copies 0 99 m q4) ?_
        refine s_iconst (v := 0) eX8_read_46 rfl ?_
        refine s_istore (ls' := [some (.ref 74), some (.int a1), some (.int a2), some (.int a3), some (.int a4), some (.int 0), none, none, none]) eX8_read_47 rfl rfl ?_
        refine s_iconst (v := 0) eX8_read_49 rfl ?_
        refine s_istore (ls' := [some (.ref 74), some (.int a1), some (.int a2), some (.int a3), some (.int a4), some (.int 0), some (.int 0), none, none]) eX8_read_50 rfl rfl ?_
        refine s_iconst (v := 0) eX8_read_52 rfl ?_
        refine s_istore (ls' := [some (.ref 74), some (.int a1), some (.int a2), some (.int a3), some (.int a4), some (.int 0), some (.int 0), some (.int 0), none]) eX8_read_53 rfl rfl ?_
        have q5 := hD
        refine clX8_read_55 64 a1 a2 a3 a4 0 0 0 ((F8_copies 0 99 m)) q5 (fun x6 h7 => ?_) (fun h7 => ?_)
        · skip
          rw [if_neg (by rw [h7]; exact fun hh => by cases hh), h7] at E
          exact ⟨by rw [E]; rfl, by rw [E]⟩
        · skip
          rw [if_pos h7] at E
          refine s_aload_n eX8_read_207 rfl rfl ?_
          refine s_iload eX8_read_208 rfl ?_
          refine s_puti eX8_read_210 fX8_350 pX8_51 rfl rfl shp_74 rfl ?_
          refine cK8_read_213 a1 a2 a3 a4 ((L8_read_55 64 a1 a2 a3 a4 0 0 0 (F8_copies 0 99 m)).2.1) ((L8_read_55 64 a1 a2 a3 a4 0 0 0 (F8_copies 0 99 m)).2.2.1) ((L8_read_55 64 a1 a2 a3 a4 0 0 0 (F8_copies 0 99 m)).2.2.2.1) ((ax_up (L8_read_55 64 a1 a2 a3 a4 0 0 0 (F8_copies 0 99 m)).2.2.2.2 74 51 ((L8_read_55 64 a1 a2 a3 a4 0 0 0 (F8_copies 0 99 m)).2.1))) ?_
          exact ⟨by rw [E], by rw [E]⟩
      · skip
        rw [if_pos h3] at E
        refine s_iconst (v := (-1)) eX8_read_37 rfl ?_
        exact s_iret eX8_read_38 rfl ⟨rfl, by rw [E], by rw [E]⟩
theorem uX8_torn (m : ax_M) : ax_NM 0 Y8_torn [.ref 74] m (fun r m1 => r = some (.int (F8_torn m)) ∧ m1 = m) := by
  have E : F8_torn m = (m 74 51) := rfl
  show ax_N 0 Y8_torn 0 [some (.ref 74)] [] m _
  refine s_aload_n eX8_torn_0 rfl rfl ?_
  refine s_geti eX8_torn_1 fX8_350 shp_74 rfl ?_
  exact s_iret eX8_torn_4 rfl ⟨rfl, by rw [E], rfl⟩
theorem clX8_count_4 {P : Option Value → ax_M → Prop} : ∀ (n : Nat) (v1 v2 v3 : Int32) (m : ax_M), E8_count_4 n v1 v2 v3 m → (ax_N 2 Y8_count 27 [some (.ref 74), some (.int v1), some (.int ((L8_count_4 n v1 v2 v3 m).1)), some (.int ((L8_count_4 n v1 v2 v3 m).2))] [] m P) → ax_N 2 Y8_count 4 [some (.ref 74), some (.int v1), some (.int v2), some (.int v3)] [] m P := by
  intro n
  induction n with
  | zero => intro v1 v2 v3 m hD; exact absurd hD id
  | succ n ih =>
    intro v1 v2 v3 m hD hx
    have E : L8_count_4 (n + 1) v1 v2 v3 m = (if 4 ≤ v3 then (v2, v3) else L8_count_4 n v1 (v2 + (m 75 (Int32.toNatClampNeg (24 + v3)))) (v3 + 1) m) := by rw [L8_count_4]
    have hD : ((¬ (4 ≤ v3) → ((vp_in (24 + v3) 132) ∧ (E8_count_4 n v1 (v2 + (m 75 (Int32.toNatClampNeg (24 + v3)))) (v3 + 1) m)))) := hD
    refine s_iload_n eX8_count_4 rfl rfl ?_
    refine s_iconst (v := 4) eX8_count_5 rfl ?_
    refine s_icmp_ge eX8_count_6 (fun h1 => ?_) (fun h1 => ?_)
    · skip
      rw [if_pos h1] at E
      rw [E] at hx
      exact hx
    · skip
      rw [if_neg h1] at E
      have hD := hD h1
      refine s_iload_n eX8_count_9 rfl rfl ?_
      refine s_aload_n eX8_count_10 rfl rfl ?_
      refine s_getr (q := 75) eX8_count_11 fX8_7 shp_74 rfl ?_
      refine s_bipush (v := 24) eX8_count_14 rfl ?_
      refine s_iload_n eX8_count_16 rfl rfl ?_
      refine s_iadd eX8_count_17 ?_
      obtain ⟨q2, hD⟩ := hD
      refine s_iald eX8_count_18 shp_75 q2 ?_
      refine s_iadd eX8_count_19 ?_
      refine s_istore_n (ls' := [some (.ref 74), some (.int v1), some (.int (v2 + (m 75 (Int32.toNatClampNeg (24 + v3))))), some (.int v3)]) eX8_count_20 rfl rfl rfl ?_
      refine s_iinc (v := v3 + 1) (ls' := [some (.ref 74), some (.int v1), some (.int (v2 + (m 75 (Int32.toNatClampNeg (24 + v3))))), some (.int (v3 + 1))]) eX8_count_21 rfl rfl rfl rfl ?_
      refine s_goto eX8_count_24 ?_
      rw [E] at hx
      exact ih v1 (v2 + (m 75 (Int32.toNatClampNeg (24 + v3)))) (v3 + 1) m hD hx
theorem uX8_count (a1 : Int32) (m : ax_M) (hD : D8_count a1 m) : ax_NM 2 Y8_count [.ref 74, .int a1] m (fun r m1 => r = some (.int (F8_count a1 m)) ∧ m1 = m) := by
  have E : F8_count a1 m = (if a1 = 0 then (F8_atGoals m) else (if a1 = 1 then (m 74 7) else (if a1 = 2 then ((if (m 93 (Int32.toNatClampNeg 0)) = 0 then (0 : Int32) else 1) + (if (m 93 (Int32.toNatClampNeg 1)) = 0 then (0 : Int32) else 1)) else (if a1 = 3 then (m 74 22) else (if a1 = 4 then (if (m 94 (Int32.toNatClampNeg 0)) = ((-4)) then ((-4)) else (m 95 (Int32.toNatClampNeg 0))) else (if a1 = 5 then ((L8_count_4 64 a1 0 0 m).1) else ((-1)))))))) := rfl
  unfold D8_count at hD
  show ax_N 2 Y8_count 0 [some (.ref 74), some (.int a1), none, none] [] m _
  refine s_iconst (v := 0) eX8_count_0 rfl ?_
  refine s_istore_n (ls' := [some (.ref 74), some (.int a1), some (.int 0), none]) eX8_count_1 rfl rfl rfl ?_
  refine s_iconst (v := 0) eX8_count_2 rfl ?_
  refine s_istore_n (ls' := [some (.ref 74), some (.int a1), some (.int 0), some (.int 0)]) eX8_count_3 rfl rfl rfl ?_
  obtain ⟨q1, hD⟩ := hD
  refine clX8_count_4 64 a1 0 0 m q1 ?_
  refine s_iload_n eX8_count_27 rfl rfl ?_
  by_cases h2 : a1 = 0
  · skip
    refine s_tabIn (off := 40) (tgt := 68) ⟨eX8_count_28.1, eX8_count_28.2, by decide⟩ (by rw [h2]; decide) (by rw [h2]; decide) (by rw [h2]; rfl) ?_
    rw [if_pos h2] at E
    have hD := hD h2
    refine s_aload_n eX8_count_68 rfl rfl ?_
    have q3 := hD
    refine n_callVi (As := []) eX8_count_69 kX8_atGoals lX8_342 rfl rfl shp_74 rfl rfl (Nat.le_of_ble_eq_true rfl) (Nat.le_of_ble_eq_true rfl) (Nat.le_of_ble_eq_true rfl) (uX8_atGoals m q3) ?_
    exact s_iret eX8_count_72 rfl ⟨rfl, by rw [E], rfl⟩
  rw [if_neg h2] at E
  by_cases h4 : a1 = 1
  · skip
    refine s_tabIn (off := 45) (tgt := 73) ⟨eX8_count_28.1, eX8_count_28.2, by decide⟩ (by rw [h4]; decide) (by rw [h4]; decide) (by rw [h4]; rfl) ?_
    rw [if_pos h4] at E
    refine s_aload_n eX8_count_73 rfl rfl ?_
    refine s_geti eX8_count_74 fX8_205 shp_74 rfl ?_
    exact s_iret eX8_count_77 rfl ⟨rfl, by rw [E], rfl⟩
  rw [if_neg h4] at E
  by_cases h5 : a1 = 2
  · skip
    refine s_tabIn (off := 50) (tgt := 78) ⟨eX8_count_28.1, eX8_count_28.2, by decide⟩ (by rw [h5]; decide) (by rw [h5]; decide) (by rw [h5]; rfl) ?_
    rw [if_pos h5] at E
    refine s_aload_n eX8_count_78 rfl rfl ?_
    refine s_getr (q := 93) eX8_count_79 fX8_71 shp_74 rfl ?_
    refine s_iconst (v := 0) eX8_count_82 rfl ?_
    refine s_zald eX8_count_83 shp_93 (by unfold vp_in; decide) ?_
    have J6 : ax_N 2 Y8_count 92 [some (.ref 74), some (.int a1), some (.int ((L8_count_4 64 a1 0 0 m).1)), some (.int ((L8_count_4 64 a1 0 0 m).2))] [.int (if (m 93 (Int32.toNatClampNeg 0)) = 0 then (0 : Int32) else 1)] m (fun r m1 => r = some (.int (F8_count a1 m)) ∧ m1 = m) := by
      refine s_aload_n eX8_count_92 rfl rfl ?_
      refine s_getr (q := 93) eX8_count_93 fX8_71 shp_74 rfl ?_
      refine s_iconst (v := 1) eX8_count_96 rfl ?_
      refine s_zald eX8_count_97 shp_93 (by unfold vp_in; decide) ?_
      have J7 : ax_N 2 Y8_count 106 [some (.ref 74), some (.int a1), some (.int ((L8_count_4 64 a1 0 0 m).1)), some (.int ((L8_count_4 64 a1 0 0 m).2))] [.int (if (m 93 (Int32.toNatClampNeg 1)) = 0 then (0 : Int32) else 1), .int (if (m 93 (Int32.toNatClampNeg 0)) = 0 then (0 : Int32) else 1)] m (fun r m1 => r = some (.int (F8_count a1 m)) ∧ m1 = m) := by
        refine s_iadd eX8_count_106 ?_
        exact s_iret eX8_count_107 rfl ⟨rfl, by rw [E], rfl⟩
      refine s_if_eq eX8_count_98 (fun h8 => ?_) (fun h8 => ?_)
      · skip
        refine s_iconst (v := 0) eX8_count_105 rfl ?_
        exact ax_eqN rfl (by rw [show (if (m 93 (Int32.toNatClampNeg 1)) = 0 then (0 : Int32) else 1 : Int32) = 0 by rw [if_pos h8]]) rfl J7
      · skip
        refine s_iconst (v := 1) eX8_count_101 rfl ?_
        refine s_goto eX8_count_102 ?_
        exact ax_eqN rfl (by rw [show (if (m 93 (Int32.toNatClampNeg 1)) = 0 then (0 : Int32) else 1 : Int32) = 1 by rw [if_neg h8]]) rfl J7
    refine s_if_eq eX8_count_84 (fun h9 => ?_) (fun h9 => ?_)
    · skip
      refine s_iconst (v := 0) eX8_count_91 rfl ?_
      exact ax_eqN rfl (by rw [show (if (m 93 (Int32.toNatClampNeg 0)) = 0 then (0 : Int32) else 1 : Int32) = 0 by rw [if_pos h9]]) rfl J6
    · skip
      refine s_iconst (v := 1) eX8_count_87 rfl ?_
      refine s_goto eX8_count_88 ?_
      exact ax_eqN rfl (by rw [show (if (m 93 (Int32.toNatClampNeg 0)) = 0 then (0 : Int32) else 1 : Int32) = 1 by rw [if_neg h9]]) rfl J6
  rw [if_neg h5] at E
  by_cases h10 : a1 = 3
  · skip
    refine s_tabIn (off := 80) (tgt := 108) ⟨eX8_count_28.1, eX8_count_28.2, by decide⟩ (by rw [h10]; decide) (by rw [h10]; decide) (by rw [h10]; rfl) ?_
    rw [if_pos h10] at E
    refine s_aload_n eX8_count_108 rfl rfl ?_
    refine s_geti eX8_count_109 fX8_84 shp_74 rfl ?_
    exact s_iret eX8_count_112 rfl ⟨rfl, by rw [E], rfl⟩
  rw [if_neg h10] at E
  by_cases h11 : a1 = 4
  · skip
    refine s_tabIn (off := 85) (tgt := 113) ⟨eX8_count_28.1, eX8_count_28.2, by decide⟩ (by rw [h11]; decide) (by rw [h11]; decide) (by rw [h11]; rfl) ?_
    rw [if_pos h11] at E
    refine s_aload_n eX8_count_113 rfl rfl ?_
    refine s_getr (q := 94) eX8_count_114 fX8_75 shp_74 rfl ?_
    refine s_iconst (v := 0) eX8_count_117 rfl ?_
    refine s_iald eX8_count_118 shp_94 (by unfold vp_in; decide) ?_
    refine s_bipush (v := (-4)) eX8_count_119 rfl ?_
    refine s_icmp_ne eX8_count_121 (fun h12 => ?_) (fun h12 => ?_)
    · skip
      rw [if_neg h12] at E
      refine s_aload_n eX8_count_129 rfl rfl ?_
      refine s_getr (q := 95) eX8_count_130 fX8_78 shp_74 rfl ?_
      refine s_iconst (v := 0) eX8_count_133 rfl ?_
      refine s_iald eX8_count_134 shp_95 (by unfold vp_in; decide) ?_
      exact s_iret eX8_count_135 rfl ⟨rfl, by rw [E], rfl⟩
    · skip
      rw [if_pos h12] at E
      refine s_bipush (v := (-4)) eX8_count_124 rfl ?_
      refine s_goto eX8_count_126 ?_
      exact s_iret eX8_count_135 rfl ⟨rfl, by rw [E], rfl⟩
  rw [if_neg h11] at E
  by_cases h13 : a1 = 5
  · skip
    refine s_tabIn (off := 108) (tgt := 136) ⟨eX8_count_28.1, eX8_count_28.2, by decide⟩ (by rw [h13]; decide) (by rw [h13]; decide) (by rw [h13]; rfl) ?_
    rw [if_pos h13] at E
    refine s_iload_n eX8_count_136 rfl rfl ?_
    exact s_iret eX8_count_137 rfl ⟨rfl, by rw [E], rfl⟩
  rw [if_neg h13] at E
  refine s_tabOut (tgt := 138) ⟨eX8_count_28.1, eX8_count_28.2, by decide⟩ (ax_swout 5 (by decide) (fun k hk => by
    rcases (show k = 0 ∨ k = 1 ∨ k = 2 ∨ k = 3 ∨ k = 4 ∨ k = 5 by omega) with rfl | rfl | rfl | rfl | rfl | rfl
    · exact h2
    · exact h4
    · exact h5
    · exact h10
    · exact h11
    · exact h13)) ?_
  refine s_iconst (v := (-1)) eX8_count_138 rfl ?_
  exact s_iret eX8_count_139 rfl ⟨rfl, by rw [E], rfl⟩
