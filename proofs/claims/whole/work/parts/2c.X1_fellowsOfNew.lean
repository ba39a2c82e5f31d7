/-! X1_fellowsOfNew X2_gather X2_leaveOut X2_seatNew X2_compare X2_solve X2_fellowOf X3_addMove -/
theorem clX1_fellowsOfNew_44 (g : Nat) (hg : isG g) {P : Option Value → ax_M → Prop} : ∀ (n : Nat) (v1 v2 v3 v4 v5 v6 v7 : Int32) (m : ax_M), E1_fellowsOfNew_44 g n v1 v2 v3 v4 v5 v6 v7 m → (ax_N 3 Y1_fellowsOfNew 141 [some (.ref g), some (.int v1), some (.int v2), some (.int v3), some (.int v4), some (.int v5), some (.int ((L1_fellowsOfNew_44 g n v1 v2 v3 v4 v5 v6 v7 m).1)), some (.int ((L1_fellowsOfNew_44 g n v1 v2 v3 v4 v5 v6 v7 m).2)), none] [] m P) → ax_N 3 Y1_fellowsOfNew 44 [some (.ref g), some (.int v1), some (.int v2), some (.int v3), some (.int v4), some (.int v5), some (.int v6), some (.int v7), none] [] m P := by
  intro n
  induction n with
  | zero => intro v1 v2 v3 v4 v5 v6 v7 m hD; exact absurd hD id
  | succ n ih =>
    intro v1 v2 v3 v4 v5 v6 v7 m hD hx
    have E : L1_fellowsOfNew_44 g (n + 1) v1 v2 v3 v4 v5 v6 v7 m = (if (m g 2) ≤ v7 then (v6, v7) else L1_fellowsOfNew_44 g n v1 v2 v3 v4 v5 (if (F1_bankOf g v7 m) = v5 then (if (F1_goalOf g v7 m) = v4 then (if (F1_kindOf g v7 m) = 1 then (if v4 = 0 then (v6 : Int32) else if (F1_playFor g v1 0 (F1_kindOf g v7 m) m) < (if 0 ≤ v3 - (F1_weightOf g v7 m) then v3 - (F1_weightOf g v7 m) else 0 - (v3 - (F1_weightOf g v7 m))) then (v6 : Int32) else v6 ||| ((1 : Int32) <<< (v7 &&& (31 : Int32))) : Int32) else if (F1_playFor g v1 0 (F1_kindOf g v7 m) m) < (if 0 ≤ v3 - (F1_weightOf g v7 m) then v3 - (F1_weightOf g v7 m) else 0 - (v3 - (F1_weightOf g v7 m))) then (v6 : Int32) else v6 ||| ((1 : Int32) <<< (v7 &&& (31 : Int32))) : Int32) else v6 : Int32) else v6) (v7 + 1) m) := by rw [L1_fellowsOfNew_44]
    have hD : ((¬ ((m g 2) ≤ v7) → ((E1_fellowsOfNew_44 g n v1 v2 v3 v4 v5 (if (F1_bankOf g v7 m) = v5 then (if (F1_goalOf g v7 m) = v4 then (if (F1_kindOf g v7 m) = 1 then (if v4 = 0 then (v6 : Int32) else if (F1_playFor g v1 0 (F1_kindOf g v7 m) m) < (if 0 ≤ v3 - (F1_weightOf g v7 m) then v3 - (F1_weightOf g v7 m) else 0 - (v3 - (F1_weightOf g v7 m))) then (v6 : Int32) else v6 ||| ((1 : Int32) <<< (v7 &&& (31 : Int32))) : Int32) else if (F1_playFor g v1 0 (F1_kindOf g v7 m) m) < (if 0 ≤ v3 - (F1_weightOf g v7 m) then v3 - (F1_weightOf g v7 m) else 0 - (v3 - (F1_weightOf g v7 m))) then (v6 : Int32) else v6 ||| ((1 : Int32) <<< (v7 &&& (31 : Int32))) : Int32) else v6 : Int32) else v6) (v7 + 1) m)))) := hD
    refine s_iload eX1_fellowsOfNew_44 rfl ?_
    refine s_aload_n eX1_fellowsOfNew_46 rfl rfl ?_
    refine s_geti eX1_fellowsOfNew_47 fX1_46 hg.1 rfl ?_
    refine s_icmp_ge eX1_fellowsOfNew_50 (fun h1 => ?_) (fun h1 => ?_)
    · skip
      rw [if_pos h1] at E
      rw [E] at hx
      exact hx
    · skip
      rw [if_neg h1] at E
      have hD := hD h1
      refine s_aload_n eX1_fellowsOfNew_53 rfl rfl ?_
      refine s_iload eX1_fellowsOfNew_54 rfl ?_
      refine n_callVi (As := [.int v7]) eX1_fellowsOfNew_56 kX1_bankOf lX1_68 rfl rfl hg.1 rfl rfl (Nat.le_of_ble_eq_true rfl) (Nat.le_of_ble_eq_true rfl) (Nat.le_of_ble_eq_true rfl) (uX1_bankOf g v7 m hg) ?_
      refine s_iload eX1_fellowsOfNew_59 rfl ?_
      have J2 : ax_N 3 Y1_fellowsOfNew 135 [some (.ref g), some (.int v1), some (.int v2), some (.int v3), some (.int v4), some (.int v5), some (.int (if (F1_bankOf g v7 m) = v5 then (if (F1_goalOf g v7 m) = v4 then (if (F1_kindOf g v7 m) = 1 then (if v4 = 0 then (v6 : Int32) else if (F1_playFor g v1 0 (F1_kindOf g v7 m) m) < (if 0 ≤ v3 - (F1_weightOf g v7 m) then v3 - (F1_weightOf g v7 m) else 0 - (v3 - (F1_weightOf g v7 m))) then (v6 : Int32) else v6 ||| ((1 : Int32) <<< (v7 &&& (31 : Int32))) : Int32) else if (F1_playFor g v1 0 (F1_kindOf g v7 m) m) < (if 0 ≤ v3 - (F1_weightOf g v7 m) then v3 - (F1_weightOf g v7 m) else 0 - (v3 - (F1_weightOf g v7 m))) then (v6 : Int32) else v6 ||| ((1 : Int32) <<< (v7 &&& (31 : Int32))) : Int32) else v6 : Int32) else v6)), some (.int v7), none] [] m P := by
        refine s_iinc (v := v7 + 1) (ls' := [some (.ref g), some (.int v1), some (.int v2), some (.int v3), some (.int v4), some (.int v5), some (.int (if (F1_bankOf g v7 m) = v5 then (if (F1_goalOf g v7 m) = v4 then (if (F1_kindOf g v7 m) = 1 then (if v4 = 0 then (v6 : Int32) else if (F1_playFor g v1 0 (F1_kindOf g v7 m) m) < (if 0 ≤ v3 - (F1_weightOf g v7 m) then v3 - (F1_weightOf g v7 m) else 0 - (v3 - (F1_weightOf g v7 m))) then (v6 : Int32) else v6 ||| ((1 : Int32) <<< (v7 &&& (31 : Int32))) : Int32) else if (F1_playFor g v1 0 (F1_kindOf g v7 m) m) < (if 0 ≤ v3 - (F1_weightOf g v7 m) then v3 - (F1_weightOf g v7 m) else 0 - (v3 - (F1_weightOf g v7 m))) then (v6 : Int32) else v6 ||| ((1 : Int32) <<< (v7 &&& (31 : Int32))) : Int32) else v6 : Int32) else v6)), some (.int (v7 + 1)), none]) eX1_fellowsOfNew_135 rfl rfl rfl rfl ?_
        refine s_goto eX1_fellowsOfNew_138 ?_
        rw [E] at hx
        exact ih v1 v2 v3 v4 v5 (if (F1_bankOf g v7 m) = v5 then (if (F1_goalOf g v7 m) = v4 then (if (F1_kindOf g v7 m) = 1 then (if v4 = 0 then (v6 : Int32) else if (F1_playFor g v1 0 (F1_kindOf g v7 m) m) < (if 0 ≤ v3 - (F1_weightOf g v7 m) then v3 - (F1_weightOf g v7 m) else 0 - (v3 - (F1_weightOf g v7 m))) then (v6 : Int32) else v6 ||| ((1 : Int32) <<< (v7 &&& (31 : Int32))) : Int32) else if (F1_playFor g v1 0 (F1_kindOf g v7 m) m) < (if 0 ≤ v3 - (F1_weightOf g v7 m) then v3 - (F1_weightOf g v7 m) else 0 - (v3 - (F1_weightOf g v7 m))) then (v6 : Int32) else v6 ||| ((1 : Int32) <<< (v7 &&& (31 : Int32))) : Int32) else v6 : Int32) else v6) (v7 + 1) m hD hx
      refine s_icmp_ne eX1_fellowsOfNew_61 (fun h3 => ?_) (fun h3 => ?_)
      · skip
        exact ax_eqN (by rw [show (if (F1_bankOf g v7 m) = v5 then (if (F1_goalOf g v7 m) = v4 then (if (F1_kindOf g v7 m) = 1 then (if v4 = 0 then (v6 : Int32) else if (F1_playFor g v1 0 (F1_kindOf g v7 m) m) < (if 0 ≤ v3 - (F1_weightOf g v7 m) then v3 - (F1_weightOf g v7 m) else 0 - (v3 - (F1_weightOf g v7 m))) then (v6 : Int32) else v6 ||| ((1 : Int32) <<< (v7 &&& (31 : Int32))) : Int32) else if (F1_playFor g v1 0 (F1_kindOf g v7 m) m) < (if 0 ≤ v3 - (F1_weightOf g v7 m) then v3 - (F1_weightOf g v7 m) else 0 - (v3 - (F1_weightOf g v7 m))) then (v6 : Int32) else v6 ||| ((1 : Int32) <<< (v7 &&& (31 : Int32))) : Int32) else v6 : Int32) else v6 : Int32) = v6 by rw [if_neg h3]]) rfl rfl J2
      · skip
        refine s_aload_n eX1_fellowsOfNew_64 rfl rfl ?_
        refine s_iload eX1_fellowsOfNew_65 rfl ?_
        refine n_callVi (As := [.int v7]) eX1_fellowsOfNew_67 kX1_goalOf lX1_71 rfl rfl hg.1 rfl rfl (Nat.le_of_ble_eq_true rfl) (Nat.le_of_ble_eq_true rfl) (Nat.le_of_ble_eq_true rfl) (uX1_goalOf g v7 m hg) ?_
        refine s_iload eX1_fellowsOfNew_70 rfl ?_
        refine s_icmp_eq eX1_fellowsOfNew_72 (fun h4 => ?_) (fun h4 => ?_)
        · skip
          refine s_aload_n eX1_fellowsOfNew_78 rfl rfl ?_
          refine s_iload eX1_fellowsOfNew_79 rfl ?_
          refine n_callVi (As := [.int v7]) eX1_fellowsOfNew_81 kX1_kindOf lX1_91 rfl rfl hg.1 rfl rfl (Nat.le_of_ble_eq_true rfl) (Nat.le_of_ble_eq_true rfl) (Nat.le_of_ble_eq_true rfl) (uX1_kindOf g v7 m hg) ?_
          refine s_iconst (v := 1) eX1_fellowsOfNew_84 rfl ?_
          refine s_icmp_ne eX1_fellowsOfNew_85 (fun h5 => ?_) (fun h5 => ?_)
          · skip
            refine s_iload_n eX1_fellowsOfNew_96 rfl rfl ?_
            refine s_aload_n eX1_fellowsOfNew_97 rfl rfl ?_
            refine s_iload eX1_fellowsOfNew_98 rfl ?_
            refine n_callVi (As := [.int v7]) eX1_fellowsOfNew_100 kX1_weightOf lX1_97 rfl rfl hg.1 rfl rfl (Nat.le_of_ble_eq_true rfl) (Nat.le_of_ble_eq_true rfl) (Nat.le_of_ble_eq_true rfl) (uX1_weightOf g v7 m hg) ?_
            refine s_isub eX1_fellowsOfNew_103 ?_
            refine s_abs eX1_fellowsOfNew_104 lX1_100 wM_abs (Nat.le_of_ble_eq_true rfl) (Nat.le_of_ble_eq_true rfl) ?_
            refine s_istore (ls' := [some (.ref g), some (.int v1), some (.int v2), some (.int v3), some (.int v4), some (.int v5), some (.int v6), some (.int v7), some (.int (if 0 ≤ v3 - (F1_weightOf g v7 m) then v3 - (F1_weightOf g v7 m) else 0 - (v3 - (F1_weightOf g v7 m))))]) eX1_fellowsOfNew_107 rfl rfl ?_
            refine s_iload eX1_fellowsOfNew_109 rfl ?_
            refine s_aload_n eX1_fellowsOfNew_111 rfl rfl ?_
            refine s_iload_n eX1_fellowsOfNew_112 rfl rfl ?_
            refine s_iconst (v := 0) eX1_fellowsOfNew_113 rfl ?_
            refine s_aload_n eX1_fellowsOfNew_114 rfl rfl ?_
            refine s_iload eX1_fellowsOfNew_115 rfl ?_
            refine n_callVi (As := [.int v7]) eX1_fellowsOfNew_117 kX1_kindOf lX1_91 rfl rfl hg.1 rfl rfl (Nat.le_of_ble_eq_true rfl) (Nat.le_of_ble_eq_true rfl) (Nat.le_of_ble_eq_true rfl) (uX1_kindOf g v7 m hg) ?_
            refine n_callVi (As := [.int v1, .int 0, .int (F1_kindOf g v7 m)]) eX1_fellowsOfNew_120 kX1_playFor lX1_105 rfl rfl hg.1 rfl rfl (Nat.le_of_ble_eq_true rfl) (Nat.le_of_ble_eq_true rfl) (Nat.le_of_ble_eq_true rfl) (uX1_playFor g v1 0 (F1_kindOf g v7 m) m hg) ?_
            refine s_icmp_gt eX1_fellowsOfNew_123 (fun h6 => ?_) (fun h6 => ?_)
            · skip
              refine ax_forget (ls' := [some (.ref g), some (.int v1), some (.int v2), some (.int v3), some (.int v4), some (.int v5), some (.int v6), some (.int v7), none]) rfl ?_
              exact ax_eqN (by rw [show (if (F1_bankOf g v7 m) = v5 then (if (F1_goalOf g v7 m) = v4 then (if (F1_kindOf g v7 m) = 1 then (if v4 = 0 then (v6 : Int32) else if (F1_playFor g v1 0 (F1_kindOf g v7 m) m) < (if 0 ≤ v3 - (F1_weightOf g v7 m) then v3 - (F1_weightOf g v7 m) else 0 - (v3 - (F1_weightOf g v7 m))) then (v6 : Int32) else v6 ||| ((1 : Int32) <<< (v7 &&& (31 : Int32))) : Int32) else if (F1_playFor g v1 0 (F1_kindOf g v7 m) m) < (if 0 ≤ v3 - (F1_weightOf g v7 m) then v3 - (F1_weightOf g v7 m) else 0 - (v3 - (F1_weightOf g v7 m))) then (v6 : Int32) else v6 ||| ((1 : Int32) <<< (v7 &&& (31 : Int32))) : Int32) else v6 : Int32) else v6 : Int32) = v6 by rw [if_pos h3, if_pos h4, if_neg h5, if_pos h6]]) rfl rfl J2
            · skip
              refine s_iload eX1_fellowsOfNew_126 rfl ?_
              refine s_iconst (v := 1) eX1_fellowsOfNew_128 rfl ?_
              refine s_iload eX1_fellowsOfNew_129 rfl ?_
              refine s_ishl eX1_fellowsOfNew_131 ?_
              refine s_ior eX1_fellowsOfNew_132 ?_
              refine s_istore (ls' := [some (.ref g), some (.int v1), some (.int v2), some (.int v3), some (.int v4), some (.int v5), some (.int (v6 ||| ((1 : Int32) <<< (v7 &&& (31 : Int32))))), some (.int v7), some (.int (if 0 ≤ v3 - (F1_weightOf g v7 m) then v3 - (F1_weightOf g v7 m) else 0 - (v3 - (F1_weightOf g v7 m))))]) eX1_fellowsOfNew_133 rfl rfl ?_
              refine ax_forget (ls' := [some (.ref g), some (.int v1), some (.int v2), some (.int v3), some (.int v4), some (.int v5), some (.int (v6 ||| ((1 : Int32) <<< (v7 &&& (31 : Int32))))), some (.int v7), none]) rfl ?_
              exact ax_eqN (by rw [show (if (F1_bankOf g v7 m) = v5 then (if (F1_goalOf g v7 m) = v4 then (if (F1_kindOf g v7 m) = 1 then (if v4 = 0 then (v6 : Int32) else if (F1_playFor g v1 0 (F1_kindOf g v7 m) m) < (if 0 ≤ v3 - (F1_weightOf g v7 m) then v3 - (F1_weightOf g v7 m) else 0 - (v3 - (F1_weightOf g v7 m))) then (v6 : Int32) else v6 ||| ((1 : Int32) <<< (v7 &&& (31 : Int32))) : Int32) else if (F1_playFor g v1 0 (F1_kindOf g v7 m) m) < (if 0 ≤ v3 - (F1_weightOf g v7 m) then v3 - (F1_weightOf g v7 m) else 0 - (v3 - (F1_weightOf g v7 m))) then (v6 : Int32) else v6 ||| ((1 : Int32) <<< (v7 &&& (31 : Int32))) : Int32) else v6 : Int32) else v6 : Int32) = v6 ||| ((1 : Int32) <<< (v7 &&& (31 : Int32))) by rw [if_pos h3, if_pos h4, if_neg h5, if_neg h6]]) rfl rfl J2
          · skip
            refine s_iload eX1_fellowsOfNew_88 rfl ?_
            refine s_if_ne eX1_fellowsOfNew_90 (fun h7 => ?_) (fun h7 => ?_)
            · skip
              refine s_iload_n eX1_fellowsOfNew_96 rfl rfl ?_
              refine s_aload_n eX1_fellowsOfNew_97 rfl rfl ?_
              refine s_iload eX1_fellowsOfNew_98 rfl ?_
              refine n_callVi (As := [.int v7]) eX1_fellowsOfNew_100 kX1_weightOf lX1_97 rfl rfl hg.1 rfl rfl (Nat.le_of_ble_eq_true rfl) (Nat.le_of_ble_eq_true rfl) (Nat.le_of_ble_eq_true rfl) (uX1_weightOf g v7 m hg) ?_
              refine s_isub eX1_fellowsOfNew_103 ?_
              refine s_abs eX1_fellowsOfNew_104 lX1_100 wM_abs (Nat.le_of_ble_eq_true rfl) (Nat.le_of_ble_eq_true rfl) ?_
              refine s_istore (ls' := [some (.ref g), some (.int v1), some (.int v2), some (.int v3), some (.int v4), some (.int v5), some (.int v6), some (.int v7), some (.int (if 0 ≤ v3 - (F1_weightOf g v7 m) then v3 - (F1_weightOf g v7 m) else 0 - (v3 - (F1_weightOf g v7 m))))]) eX1_fellowsOfNew_107 rfl rfl ?_
              refine s_iload eX1_fellowsOfNew_109 rfl ?_
              refine s_aload_n eX1_fellowsOfNew_111 rfl rfl ?_
              refine s_iload_n eX1_fellowsOfNew_112 rfl rfl ?_
              refine s_iconst (v := 0) eX1_fellowsOfNew_113 rfl ?_
              refine s_aload_n eX1_fellowsOfNew_114 rfl rfl ?_
              refine s_iload eX1_fellowsOfNew_115 rfl ?_
              refine n_callVi (As := [.int v7]) eX1_fellowsOfNew_117 kX1_kindOf lX1_91 rfl rfl hg.1 rfl rfl (Nat.le_of_ble_eq_true rfl) (Nat.le_of_ble_eq_true rfl) (Nat.le_of_ble_eq_true rfl) (uX1_kindOf g v7 m hg) ?_
              refine n_callVi (As := [.int v1, .int 0, .int (F1_kindOf g v7 m)]) eX1_fellowsOfNew_120 kX1_playFor lX1_105 rfl rfl hg.1 rfl rfl (Nat.le_of_ble_eq_true rfl) (Nat.le_of_ble_eq_true rfl) (Nat.le_of_ble_eq_true rfl) (uX1_playFor g v1 0 (F1_kindOf g v7 m) m hg) ?_
              refine s_icmp_gt eX1_fellowsOfNew_123 (fun h8 => ?_) (fun h8 => ?_)
              · skip
                refine ax_forget (ls' := [some (.ref g), some (.int v1), some (.int v2), some (.int v3), some (.int v4), some (.int v5), some (.int v6), some (.int v7), none]) rfl ?_
                exact ax_eqN (by rw [show (if (F1_bankOf g v7 m) = v5 then (if (F1_goalOf g v7 m) = v4 then (if (F1_kindOf g v7 m) = 1 then (if v4 = 0 then (v6 : Int32) else if (F1_playFor g v1 0 (F1_kindOf g v7 m) m) < (if 0 ≤ v3 - (F1_weightOf g v7 m) then v3 - (F1_weightOf g v7 m) else 0 - (v3 - (F1_weightOf g v7 m))) then (v6 : Int32) else v6 ||| ((1 : Int32) <<< (v7 &&& (31 : Int32))) : Int32) else if (F1_playFor g v1 0 (F1_kindOf g v7 m) m) < (if 0 ≤ v3 - (F1_weightOf g v7 m) then v3 - (F1_weightOf g v7 m) else 0 - (v3 - (F1_weightOf g v7 m))) then (v6 : Int32) else v6 ||| ((1 : Int32) <<< (v7 &&& (31 : Int32))) : Int32) else v6 : Int32) else v6 : Int32) = v6 by rw [if_pos h3, if_pos h4, if_pos h5, if_neg h7, if_pos h8]]) rfl rfl J2
              · skip
                refine s_iload eX1_fellowsOfNew_126 rfl ?_
                refine s_iconst (v := 1) eX1_fellowsOfNew_128 rfl ?_
                refine s_iload eX1_fellowsOfNew_129 rfl ?_
                refine s_ishl eX1_fellowsOfNew_131 ?_
                refine s_ior eX1_fellowsOfNew_132 ?_
                refine s_istore (ls' := [some (.ref g), some (.int v1), some (.int v2), some (.int v3), some (.int v4), some (.int v5), some (.int (v6 ||| ((1 : Int32) <<< (v7 &&& (31 : Int32))))), some (.int v7), some (.int (if 0 ≤ v3 - (F1_weightOf g v7 m) then v3 - (F1_weightOf g v7 m) else 0 - (v3 - (F1_weightOf g v7 m))))]) eX1_fellowsOfNew_133 rfl rfl ?_
                refine ax_forget (ls' := [some (.ref g), some (.int v1), some (.int v2), some (.int v3), some (.int v4), some (.int v5), some (.int (v6 ||| ((1 : Int32) <<< (v7 &&& (31 : Int32))))), some (.int v7), none]) rfl ?_
                exact ax_eqN (by rw [show (if (F1_bankOf g v7 m) = v5 then (if (F1_goalOf g v7 m) = v4 then (if (F1_kindOf g v7 m) = 1 then (if v4 = 0 then (v6 : Int32) else if (F1_playFor g v1 0 (F1_kindOf g v7 m) m) < (if 0 ≤ v3 - (F1_weightOf g v7 m) then v3 - (F1_weightOf g v7 m) else 0 - (v3 - (F1_weightOf g v7 m))) then (v6 : Int32) else v6 ||| ((1 : Int32) <<< (v7 &&& (31 : Int32))) : Int32) else if (F1_playFor g v1 0 (F1_kindOf g v7 m) m) < (if 0 ≤ v3 - (F1_weightOf g v7 m) then v3 - (F1_weightOf g v7 m) else 0 - (v3 - (F1_weightOf g v7 m))) then (v6 : Int32) else v6 ||| ((1 : Int32) <<< (v7 &&& (31 : Int32))) : Int32) else v6 : Int32) else v6 : Int32) = v6 ||| ((1 : Int32) <<< (v7 &&& (31 : Int32))) by rw [if_pos h3, if_pos h4, if_pos h5, if_neg h7, if_neg h8]]) rfl rfl J2
            · skip
              refine s_goto eX1_fellowsOfNew_93 ?_
              exact ax_eqN (by rw [show (if (F1_bankOf g v7 m) = v5 then (if (F1_goalOf g v7 m) = v4 then (if (F1_kindOf g v7 m) = 1 then (if v4 = 0 then (v6 : Int32) else if (F1_playFor g v1 0 (F1_kindOf g v7 m) m) < (if 0 ≤ v3 - (F1_weightOf g v7 m) then v3 - (F1_weightOf g v7 m) else 0 - (v3 - (F1_weightOf g v7 m))) then (v6 : Int32) else v6 ||| ((1 : Int32) <<< (v7 &&& (31 : Int32))) : Int32) else if (F1_playFor g v1 0 (F1_kindOf g v7 m) m) < (if 0 ≤ v3 - (F1_weightOf g v7 m) then v3 - (F1_weightOf g v7 m) else 0 - (v3 - (F1_weightOf g v7 m))) then (v6 : Int32) else v6 ||| ((1 : Int32) <<< (v7 &&& (31 : Int32))) : Int32) else v6 : Int32) else v6 : Int32) = v6 by rw [if_pos h3, if_pos h4, if_pos h5, if_pos h7]]) rfl rfl J2
        · skip
          refine s_goto eX1_fellowsOfNew_75 ?_
          exact ax_eqN (by rw [show (if (F1_bankOf g v7 m) = v5 then (if (F1_goalOf g v7 m) = v4 then (if (F1_kindOf g v7 m) = 1 then (if v4 = 0 then (v6 : Int32) else if (F1_playFor g v1 0 (F1_kindOf g v7 m) m) < (if 0 ≤ v3 - (F1_weightOf g v7 m) then v3 - (F1_weightOf g v7 m) else 0 - (v3 - (F1_weightOf g v7 m))) then (v6 : Int32) else v6 ||| ((1 : Int32) <<< (v7 &&& (31 : Int32))) : Int32) else if (F1_playFor g v1 0 (F1_kindOf g v7 m) m) < (if 0 ≤ v3 - (F1_weightOf g v7 m) then v3 - (F1_weightOf g v7 m) else 0 - (v3 - (F1_weightOf g v7 m))) then (v6 : Int32) else v6 ||| ((1 : Int32) <<< (v7 &&& (31 : Int32))) : Int32) else v6 : Int32) else v6 : Int32) = v6 by rw [if_pos h3, if_neg h4]]) rfl rfl J2
theorem uX1_fellowsOfNew (g : Nat) (a1 : Int32) (a2 : Int32) (a3 : Int32) (m : ax_M) (hg : isG g) (hD : D1_fellowsOfNew g a1 a2 a3 m) : ax_NM 3 Y1_fellowsOfNew [.ref g, .int a1, .int a2, .int a3] m (fun r m1 => r = some (.int (F1_fellowsOfNew g a1 a2 a3 m)) ∧ m1 = m) := by
  have E : F1_fellowsOfNew g a1 a2 a3 m = ((L1_fellowsOfNew_44 g 64 a1 a2 a3 (if a2 = 0 then (F1_firstBank g a1 m : Int32) else F1_secondBank g a1 m) (if a2 = 0 then (F1_secondBank g a1 m : Int32) else F1_firstBank g a1 m) 0 0 m).1) := rfl
  unfold D1_fellowsOfNew at hD
  show ax_N 3 Y1_fellowsOfNew 0 [some (.ref g), some (.int a1), some (.int a2), some (.int a3), none, none, none, none, none] [] m _
  refine s_iload_n eX1_fellowsOfNew_0 rfl rfl ?_
  have J1 : ax_N 3 Y1_fellowsOfNew 17 [some (.ref g), some (.int a1), some (.int a2), some (.int a3), none, none, none, none, none] [.int (if a2 = 0 then (F1_firstBank g a1 m : Int32) else F1_secondBank g a1 m)] m (fun r m1 => r = some (.int (F1_fellowsOfNew g a1 a2 a3 m)) ∧ m1 = m) := by
    refine s_istore (ls' := [some (.ref g), some (.int a1), some (.int a2), some (.int a3), some (.int (if a2 = 0 then (F1_firstBank g a1 m : Int32) else F1_secondBank g a1 m)), none, none, none, none]) eX1_fellowsOfNew_17 rfl rfl ?_
    refine s_iload_n eX1_fellowsOfNew_19 rfl rfl ?_
    have J2 : ax_N 3 Y1_fellowsOfNew 36 [some (.ref g), some (.int a1), some (.int a2), some (.int a3), some (.int (if a2 = 0 then (F1_firstBank g a1 m : Int32) else F1_secondBank g a1 m)), none, none, none, none] [.int (if a2 = 0 then (F1_secondBank g a1 m : Int32) else F1_firstBank g a1 m)] m (fun r m1 => r = some (.int (F1_fellowsOfNew g a1 a2 a3 m)) ∧ m1 = m) := by
      refine s_istore (ls' := [some (.ref g), some (.int a1), some (.int a2), some (.int a3), some (.int (if a2 = 0 then (F1_firstBank g a1 m : Int32) else F1_secondBank g a1 m)), some (.int (if a2 = 0 then (F1_secondBank g a1 m : Int32) else F1_firstBank g a1 m)), none, none, none]) eX1_fellowsOfNew_36 rfl rfl ?_
      refine s_iconst (v := 0) eX1_fellowsOfNew_38 rfl ?_
      refine s_istore (ls' := [some (.ref g), some (.int a1), some (.int a2), some (.int a3), some (.int (if a2 = 0 then (F1_firstBank g a1 m : Int32) else F1_secondBank g a1 m)), some (.int (if a2 = 0 then (F1_secondBank g a1 m : Int32) else F1_firstBank g a1 m)), some (.int 0), none, none]) eX1_fellowsOfNew_39 rfl rfl ?_
      refine s_iconst (v := 0) eX1_fellowsOfNew_41 rfl ?_
      refine s_istore (ls' := [some (.ref g), some (.int a1), some (.int a2), some (.int a3), some (.int (if a2 = 0 then (F1_firstBank g a1 m : Int32) else F1_secondBank g a1 m)), some (.int (if a2 = 0 then (F1_secondBank g a1 m : Int32) else F1_firstBank g a1 m)), some (.int 0), some (.int 0), none]) eX1_fellowsOfNew_42 rfl rfl ?_
      have q3 := hD
      refine clX1_fellowsOfNew_44 g hg 64 a1 a2 a3 (if a2 = 0 then (F1_firstBank g a1 m : Int32) else F1_secondBank g a1 m) (if a2 = 0 then (F1_secondBank g a1 m : Int32) else F1_firstBank g a1 m) 0 0 m q3 ?_
      refine s_iload eX1_fellowsOfNew_141 rfl ?_
      exact s_iret eX1_fellowsOfNew_143 rfl ⟨rfl, by rw [E], rfl⟩
    refine s_if_ne eX1_fellowsOfNew_20 (fun h4 => ?_) (fun h4 => ?_)
    · skip
      refine s_aload_n eX1_fellowsOfNew_31 rfl rfl ?_
      refine s_iload_n eX1_fellowsOfNew_32 rfl rfl ?_
      refine n_callVi (As := [.int a1]) eX1_fellowsOfNew_33 kX1_firstBank lX1_85 rfl rfl hg.1 rfl rfl (Nat.le_of_ble_eq_true rfl) (Nat.le_of_ble_eq_true rfl) (Nat.le_of_ble_eq_true rfl) (uX1_firstBank g a1 m hg) ?_
      exact ax_eqN rfl (by rw [show (if a2 = 0 then (F1_secondBank g a1 m : Int32) else F1_firstBank g a1 m : Int32) = F1_firstBank g a1 m by rw [if_neg h4]]) rfl J2
    · skip
      refine s_aload_n eX1_fellowsOfNew_23 rfl rfl ?_
      refine s_iload_n eX1_fellowsOfNew_24 rfl rfl ?_
      refine n_callVi (As := [.int a1]) eX1_fellowsOfNew_25 kX1_secondBank lX1_88 rfl rfl hg.1 rfl rfl (Nat.le_of_ble_eq_true rfl) (Nat.le_of_ble_eq_true rfl) (Nat.le_of_ble_eq_true rfl) (uX1_secondBank g a1 m hg) ?_
      refine s_goto eX1_fellowsOfNew_28 ?_
      exact ax_eqN rfl (by rw [show (if a2 = 0 then (F1_secondBank g a1 m : Int32) else F1_firstBank g a1 m : Int32) = F1_secondBank g a1 m by rw [if_pos h4]]) rfl J2
  refine s_if_ne eX1_fellowsOfNew_1 (fun h5 => ?_) (fun h5 => ?_)
  · skip
    refine s_aload_n eX1_fellowsOfNew_12 rfl rfl ?_
    refine s_iload_n eX1_fellowsOfNew_13 rfl rfl ?_
    refine n_callVi (As := [.int a1]) eX1_fellowsOfNew_14 kX1_secondBank lX1_88 rfl rfl hg.1 rfl rfl (Nat.le_of_ble_eq_true rfl) (Nat.le_of_ble_eq_true rfl) (Nat.le_of_ble_eq_true rfl) (uX1_secondBank g a1 m hg) ?_
    exact ax_eqN rfl (by rw [show (if a2 = 0 then (F1_firstBank g a1 m : Int32) else F1_secondBank g a1 m : Int32) = F1_secondBank g a1 m by rw [if_neg h5]]) rfl J1
  · skip
    refine s_aload_n eX1_fellowsOfNew_4 rfl rfl ?_
    refine s_iload_n eX1_fellowsOfNew_5 rfl rfl ?_
    refine n_callVi (As := [.int a1]) eX1_fellowsOfNew_6 kX1_firstBank lX1_85 rfl rfl hg.1 rfl rfl (Nat.le_of_ble_eq_true rfl) (Nat.le_of_ble_eq_true rfl) (Nat.le_of_ble_eq_true rfl) (uX1_firstBank g a1 m hg) ?_
    refine s_goto eX1_fellowsOfNew_9 ?_
    exact ax_eqN rfl (by rw [show (if a2 = 0 then (F1_firstBank g a1 m : Int32) else F1_secondBank g a1 m : Int32) = F1_firstBank g a1 m by rw [if_pos h5]]) rfl J1
theorem clX2_gather_13 (g1 : Nat) (hg1 : isG g1) {P : Option Value → ax_M → Prop} : ∀ (n : Nat) (v2 v3 v4 v5 : Int32) (m : ax_M), E2_gather_13 g1 n v2 v3 v4 v5 m → (ax_N 6 Y2_gather 51 [some (.ref 55), some (.ref g1), some (.int v2), some (.int v3), some (.int v4), some (.int ((L2_gather_13 g1 n v2 v3 v4 v5 m).1))] [] ((L2_gather_13 g1 n v2 v3 v4 v5 m).2) P) → ax_N 6 Y2_gather 13 [some (.ref 55), some (.ref g1), some (.int v2), some (.int v3), some (.int v4), some (.int v5)] [] m P := by
  intro n
  induction n with
  | zero => intro v2 v3 v4 v5 m hD; exact absurd hD id
  | succ n ih =>
    intro v2 v3 v4 v5 m hD hx
    have E : L2_gather_13 g1 (n + 1) v2 v3 v4 v5 m = (if 7 ≤ v5 then (v5, m) else L2_gather_13 g1 n v2 v3 v4 (v5 + 1) (F7_put 56 49 ((v4 * 7) + v5) (F1_errandStones g1 v2 v4 v5 v3 m) m)) := by rw [L2_gather_13]
    have hD : ((¬ (7 ≤ v5) → ((D1_errandStones g1 v2 v4 v5 v3 m) ∧ (E2_gather_13 g1 n v2 v3 v4 (v5 + 1) (F7_put 56 49 ((v4 * 7) + v5) (F1_errandStones g1 v2 v4 v5 v3 m) m))))) := hD
    refine s_iload eX2_gather_13 rfl ?_
    refine s_bipush (v := 7) eX2_gather_15 rfl ?_
    refine s_icmp_ge eX2_gather_17 (fun h1 => ?_) (fun h1 => ?_)
    · skip
      rw [if_pos h1] at E
      rw [E] at hx
      exact hx
    · skip
      rw [if_neg h1] at E
      have hD := hD h1
      refine s_aload_n eX2_gather_20 rfl rfl ?_
      refine s_getr (q := 56) eX2_gather_21 fX2_11 shp_55 rfl ?_
      refine s_iload eX2_gather_24 rfl ?_
      refine s_bipush (v := 7) eX2_gather_26 rfl ?_
      refine s_imul eX2_gather_28 ?_
      refine s_iload eX2_gather_29 rfl ?_
      refine s_iadd eX2_gather_31 ?_
      refine s_aload_n eX2_gather_32 rfl rfl ?_
      refine s_iload_n eX2_gather_33 rfl rfl ?_
      refine s_iload eX2_gather_34 rfl ?_
      refine s_iload eX2_gather_36 rfl ?_
      refine s_iload_n eX2_gather_38 rfl rfl ?_
      obtain ⟨q2, hD⟩ := hD
      refine n_callVi (As := [.int v2, .int v4, .int v5, .int v3]) eX2_gather_39 kX1_errandStones lX2_21 rfl rfl hg1.1 rfl rfl (Nat.le_of_ble_eq_true rfl) (Nat.le_of_ble_eq_true rfl) (Nat.le_of_ble_eq_true rfl) (uX1_errandStones g1 v2 v4 v5 v3 m hg1 q2) ?_
      refine n_callSv (As := [.ref 56, .int ((v4 * 7) + v5), .int (F1_errandStones g1 v2 v4 v5 v3 m)]) eX2_gather_42 kX7_put lX2_27 rfl rfl (Nat.le_of_ble_eq_true rfl) (Nat.le_of_ble_eq_true rfl) (Nat.le_of_ble_eq_true rfl) (uX7_put 56 49 ((v4 * 7) + v5) (F1_errandStones g1 v2 v4 v5 v3 m) m shp_56) ?_
      refine s_iinc (v := v5 + 1) (ls' := [some (.ref 55), some (.ref g1), some (.int v2), some (.int v3), some (.int v4), some (.int (v5 + 1))]) eX2_gather_45 rfl rfl rfl rfl ?_
      refine s_goto eX2_gather_48 ?_
      rw [E] at hx
      exact ih v2 v3 v4 (v5 + 1) ((F7_put 56 49 ((v4 * 7) + v5) (F1_errandStones g1 v2 v4 v5 v3 m) m)) hD hx
theorem clX2_gather_3 (g1 : Nat) (hg1 : isG g1) {P : Option Value → ax_M → Prop} : ∀ (n : Nat) (v2 v3 v4 : Int32) (m : ax_M), E2_gather_3 g1 n v2 v3 v4 m → (ax_N 6 Y2_gather 57 [some (.ref 55), some (.ref g1), some (.int v2), some (.int v3), some (.int ((L2_gather_3 g1 n v2 v3 v4 m).1)), none] [] ((L2_gather_3 g1 n v2 v3 v4 m).2) P) → ax_N 6 Y2_gather 3 [some (.ref 55), some (.ref g1), some (.int v2), some (.int v3), some (.int v4), none] [] m P := by
  intro n
  induction n with
  | zero => intro v2 v3 v4 m hD; exact absurd hD id
  | succ n ih =>
    intro v2 v3 v4 m hD hx
    have E : L2_gather_3 g1 (n + 1) v2 v3 v4 m = (if 7 ≤ v4 then (v4, m) else L2_gather_3 g1 n v2 v3 (v4 + 1) (L2_gather_13 g1 64 v2 v3 v4 0 m).2) := by rw [L2_gather_3]
    have hD : ((¬ (7 ≤ v4) → ((E2_gather_13 g1 64 v2 v3 v4 0 m) ∧ (E2_gather_3 g1 n v2 v3 (v4 + 1) (L2_gather_13 g1 64 v2 v3 v4 0 m).2)))) := hD
    refine s_iload eX2_gather_3 rfl ?_
    refine s_bipush (v := 7) eX2_gather_5 rfl ?_
    refine s_icmp_ge eX2_gather_7 (fun h1 => ?_) (fun h1 => ?_)
    · skip
      rw [if_pos h1] at E
      rw [E] at hx
      exact hx
    · skip
      rw [if_neg h1] at E
      have hD := hD h1
      refine s_iconst (v := 0) eX2_gather_10 rfl ?_
      refine s_istore (ls' := [some (.ref 55), some (.ref g1), some (.int v2), some (.int v3), some (.int v4), some (.int 0)]) eX2_gather_11 rfl rfl ?_
      obtain ⟨q2, hD⟩ := hD
      refine clX2_gather_13 g1 hg1 64 v2 v3 v4 0 m q2 ?_
      refine s_iinc (v := v4 + 1) (ls' := [some (.ref 55), some (.ref g1), some (.int v2), some (.int v3), some (.int (v4 + 1)), some (.int ((L2_gather_13 g1 64 v2 v3 v4 0 m).1))]) eX2_gather_51 rfl rfl rfl rfl ?_
      refine s_goto eX2_gather_54 ?_
      refine ax_forget (ls' := [some (.ref 55), some (.ref g1), some (.int v2), some (.int v3), some (.int (v4 + 1)), none]) rfl ?_
      rw [E] at hx
      exact ih v2 v3 (v4 + 1) ((L2_gather_13 g1 64 v2 v3 v4 0 m).2) hD hx
theorem uX2_gather (g1 : Nat) (a2 : Int32) (a3 : Int32) (m : ax_M) (hg1 : isG g1) (hD : D2_gather g1 a2 a3 m) : ax_NM 6 Y2_gather [.ref 55, .ref g1, .int a2, .int a3] m (fun r m1 => r = none ∧ m1 = F2_gather g1 a2 a3 m) := by
  have E : F2_gather g1 a2 a3 m = (L2_gather_3 g1 64 a2 a3 0 m).2 := rfl
  unfold D2_gather at hD
  show ax_N 6 Y2_gather 0 [some (.ref 55), some (.ref g1), some (.int a2), some (.int a3), none, none] [] m _
  refine s_iconst (v := 0) eX2_gather_0 rfl ?_
  refine s_istore (ls' := [some (.ref 55), some (.ref g1), some (.int a2), some (.int a3), some (.int 0), none]) eX2_gather_1 rfl rfl ?_
  have q1 := hD
  refine clX2_gather_3 g1 hg1 64 a2 a3 0 m q1 ?_
  exact s_vret eX2_gather_57 rfl ⟨rfl, rfl, by rw [E]⟩
theorem clX2_leaveOut_2 {P : Option Value → ax_M → Prop} : ∀ (n : Nat) (v1 v2 : Int32) (m : ax_M), E2_leaveOut_2 n v1 v2 m → (ax_N 1 Y2_leaveOut 42 [some (.ref 55), some (.int v1), some (.int ((L2_leaveOut_2 n v1 v2 m).1))] [] ((L2_leaveOut_2 n v1 v2 m).2) P) → ax_N 1 Y2_leaveOut 2 [some (.ref 55), some (.int v1), some (.int v2)] [] m P := by
  intro n
  induction n with
  | zero => intro v1 v2 m hD; exact absurd hD id
  | succ n ih =>
    intro v1 v2 m hD hx
    have E : L2_leaveOut_2 (n + 1) v1 v2 m = (if 7 ≤ v2 then (v2, m) else L2_leaveOut_2 n v1 (v2 + 1) (F7_put 56 49 ((v2 * 7) + v1) ((-1)) (F7_put 56 49 ((v1 * 7) + v2) ((-1)) m))) := by rw [L2_leaveOut_2]
    have hD : ((¬ (7 ≤ v2) → ((E2_leaveOut_2 n v1 (v2 + 1) (F7_put 56 49 ((v2 * 7) + v1) ((-1)) (F7_put 56 49 ((v1 * 7) + v2) ((-1)) m)))))) := hD
    refine s_iload_n eX2_leaveOut_2 rfl rfl ?_
    refine s_bipush (v := 7) eX2_leaveOut_3 rfl ?_
    refine s_icmp_ge eX2_leaveOut_5 (fun h1 => ?_) (fun h1 => ?_)
    · skip
      rw [if_pos h1] at E
      rw [E] at hx
      exact hx
    · skip
      rw [if_neg h1] at E
      have hD := hD h1
      refine s_aload_n eX2_leaveOut_8 rfl rfl ?_
      refine s_getr (q := 56) eX2_leaveOut_9 fX2_11 shp_55 rfl ?_
      refine s_iload_n eX2_leaveOut_12 rfl rfl ?_
      refine s_bipush (v := 7) eX2_leaveOut_13 rfl ?_
      refine s_imul eX2_leaveOut_15 ?_
      refine s_iload_n eX2_leaveOut_16 rfl rfl ?_
      refine s_iadd eX2_leaveOut_17 ?_
      refine s_iconst (v := (-1)) eX2_leaveOut_18 rfl ?_
      refine n_callSv (As := [.ref 56, .int ((v1 * 7) + v2), .int ((-1))]) eX2_leaveOut_19 kX7_put lX2_27 rfl rfl (Nat.le_of_ble_eq_true rfl) (Nat.le_of_ble_eq_true rfl) (Nat.le_of_ble_eq_true rfl) (uX7_put 56 49 ((v1 * 7) + v2) ((-1)) m shp_56) ?_
      refine s_aload_n eX2_leaveOut_22 rfl rfl ?_
      refine s_getr (q := 56) eX2_leaveOut_23 fX2_11 shp_55 rfl ?_
      refine s_iload_n eX2_leaveOut_26 rfl rfl ?_
      refine s_bipush (v := 7) eX2_leaveOut_27 rfl ?_
      refine s_imul eX2_leaveOut_29 ?_
      refine s_iload_n eX2_leaveOut_30 rfl rfl ?_
      refine s_iadd eX2_leaveOut_31 ?_
      refine s_iconst (v := (-1)) eX2_leaveOut_32 rfl ?_
      refine n_callSv (As := [.ref 56, .int ((v2 * 7) + v1), .int ((-1))]) eX2_leaveOut_33 kX7_put lX2_27 rfl rfl (Nat.le_of_ble_eq_true rfl) (Nat.le_of_ble_eq_true rfl) (Nat.le_of_ble_eq_true rfl) (uX7_put 56 49 ((v2 * 7) + v1) ((-1)) ((F7_put 56 49 ((v1 * 7) + v2) ((-1)) m)) shp_56) ?_
      refine s_iinc (v := v2 + 1) (ls' := [some (.ref 55), some (.int v1), some (.int (v2 + 1))]) eX2_leaveOut_36 rfl rfl rfl rfl ?_
      refine s_goto eX2_leaveOut_39 ?_
      rw [E] at hx
      exact ih v1 (v2 + 1) ((F7_put 56 49 ((v2 * 7) + v1) ((-1)) (F7_put 56 49 ((v1 * 7) + v2) ((-1)) m))) hD hx
theorem uX2_leaveOut (a1 : Int32) (m : ax_M) (hD : D2_leaveOut a1 m) : ax_NM 1 Y2_leaveOut [.ref 55, .int a1] m (fun r m1 => r = none ∧ m1 = F2_leaveOut a1 m) := by
  have E : F2_leaveOut a1 m = (L2_leaveOut_2 64 a1 0 m).2 := rfl
  unfold D2_leaveOut at hD
  show ax_N 1 Y2_leaveOut 0 [some (.ref 55), some (.int a1), none] [] m _
  refine s_iconst (v := 0) eX2_leaveOut_0 rfl ?_
  refine s_istore_n (ls' := [some (.ref 55), some (.int a1), some (.int 0)]) eX2_leaveOut_1 rfl rfl rfl ?_
  have q1 := hD
  refine clX2_leaveOut_2 64 a1 0 m q1 ?_
  exact s_vret eX2_leaveOut_42 rfl ⟨rfl, rfl, by rw [E]⟩
theorem clX2_seatNew_2 {P : Option Value → ax_M → Prop} : ∀ (n : Nat) (v1 v2 v3 : Int32) (m : ax_M), E2_seatNew_2 n v1 v2 v3 m → (ax_N 1 Y2_seatNew 50 [some (.ref 55), some (.int v1), some (.int v2), some (.int ((L2_seatNew_2 n v1 v2 v3 m).1)), none] [] ((L2_seatNew_2 n v1 v2 v3 m).2) P) → ax_N 1 Y2_seatNew 2 [some (.ref 55), some (.int v1), some (.int v2), some (.int v3), none] [] m P := by
  intro n
  induction n with
  | zero => intro v1 v2 v3 m hD; exact absurd hD id
  | succ n ih =>
    intro v1 v2 v3 m hD hx
    have E : L2_seatNew_2 (n + 1) v1 v2 v3 m = (if 6 ≤ v3 then (v3, m) else L2_seatNew_2 n v1 v2 (v3 + 1) (F7_put 56 49 (if v1 = 0 then (42 + v3 : Int32) else (v3 * 7) + 6) (((v2 >>> (v3 &&& (31 : Int32))) &&& 1) - 1) m)) := by rw [L2_seatNew_2]
    have hD : ((¬ (6 ≤ v3) → ((E2_seatNew_2 n v1 v2 (v3 + 1) (F7_put 56 49 (if v1 = 0 then (42 + v3 : Int32) else (v3 * 7) + 6) (((v2 >>> (v3 &&& (31 : Int32))) &&& 1) - 1) m))))) := hD
    refine s_iload_n eX2_seatNew_2 rfl rfl ?_
    refine s_bipush (v := 6) eX2_seatNew_3 rfl ?_
    refine s_icmp_ge eX2_seatNew_5 (fun h1 => ?_) (fun h1 => ?_)
    · skip
      rw [if_pos h1] at E
      rw [E] at hx
      exact hx
    · skip
      rw [if_neg h1] at E
      have hD := hD h1
      refine s_iload_n eX2_seatNew_8 rfl rfl ?_
      have J2 : ax_N 1 Y2_seatNew 26 [some (.ref 55), some (.int v1), some (.int v2), some (.int v3), none] [.int (if v1 = 0 then (42 + v3 : Int32) else (v3 * 7) + 6)] m P := by
        refine s_istore (ls' := [some (.ref 55), some (.int v1), some (.int v2), some (.int v3), some (.int (if v1 = 0 then (42 + v3 : Int32) else (v3 * 7) + 6))]) eX2_seatNew_26 rfl rfl ?_
        refine s_aload_n eX2_seatNew_28 rfl rfl ?_
        refine s_getr (q := 56) eX2_seatNew_29 fX2_11 shp_55 rfl ?_
        refine s_iload eX2_seatNew_32 rfl ?_
        refine s_iload_n eX2_seatNew_34 rfl rfl ?_
        refine s_iload_n eX2_seatNew_35 rfl rfl ?_
        refine s_ishr eX2_seatNew_36 ?_
        refine s_iconst (v := 1) eX2_seatNew_37 rfl ?_
        refine s_iand eX2_seatNew_38 ?_
        refine s_iconst (v := 1) eX2_seatNew_39 rfl ?_
        refine s_isub eX2_seatNew_40 ?_
        refine n_callSv (As := [.ref 56, .int (if v1 = 0 then (42 + v3 : Int32) else (v3 * 7) + 6), .int (((v2 >>> (v3 &&& (31 : Int32))) &&& 1) - 1)]) eX2_seatNew_41 kX7_put lX2_27 rfl rfl (Nat.le_of_ble_eq_true rfl) (Nat.le_of_ble_eq_true rfl) (Nat.le_of_ble_eq_true rfl) (uX7_put 56 49 (if v1 = 0 then (42 + v3 : Int32) else (v3 * 7) + 6) (((v2 >>> (v3 &&& (31 : Int32))) &&& 1) - 1) m shp_56) ?_
        refine s_iinc (v := v3 + 1) (ls' := [some (.ref 55), some (.int v1), some (.int v2), some (.int (v3 + 1)), some (.int (if v1 = 0 then (42 + v3 : Int32) else (v3 * 7) + 6))]) eX2_seatNew_44 rfl rfl rfl rfl ?_
        refine s_goto eX2_seatNew_47 ?_
        refine ax_forget (ls' := [some (.ref 55), some (.int v1), some (.int v2), some (.int (v3 + 1)), none]) rfl ?_
        rw [E] at hx
        exact ih v1 v2 (v3 + 1) ((F7_put 56 49 (if v1 = 0 then (42 + v3 : Int32) else (v3 * 7) + 6) (((v2 >>> (v3 &&& (31 : Int32))) &&& 1) - 1) m)) hD hx
      refine s_if_ne eX2_seatNew_9 (fun h3 => ?_) (fun h3 => ?_)
      · skip
        refine s_iload_n eX2_seatNew_19 rfl rfl ?_
        refine s_bipush (v := 7) eX2_seatNew_20 rfl ?_
        refine s_imul eX2_seatNew_22 ?_
        refine s_bipush (v := 6) eX2_seatNew_23 rfl ?_
        refine s_iadd eX2_seatNew_25 ?_
        exact ax_eqN rfl (by rw [show (if v1 = 0 then (42 + v3 : Int32) else (v3 * 7) + 6 : Int32) = (v3 * 7) + 6 by rw [if_neg h3]]) rfl J2
      · skip
        refine s_bipush (v := 42) eX2_seatNew_12 rfl ?_
        refine s_iload_n eX2_seatNew_14 rfl rfl ?_
        refine s_iadd eX2_seatNew_15 ?_
        refine s_goto eX2_seatNew_16 ?_
        exact ax_eqN rfl (by rw [show (if v1 = 0 then (42 + v3 : Int32) else (v3 * 7) + 6 : Int32) = 42 + v3 by rw [if_pos h3]]) rfl J2
theorem uX2_seatNew (a1 : Int32) (a2 : Int32) (m : ax_M) (hD : D2_seatNew a1 a2 m) : ax_NM 1 Y2_seatNew [.ref 55, .int a1, .int a2] m (fun r m1 => r = none ∧ m1 = F2_seatNew a1 a2 m) := by
  have E : F2_seatNew a1 a2 m = (L2_seatNew_2 64 a1 a2 0 m).2 := rfl
  unfold D2_seatNew at hD
  show ax_N 1 Y2_seatNew 0 [some (.ref 55), some (.int a1), some (.int a2), none, none] [] m _
  refine s_iconst (v := 0) eX2_seatNew_0 rfl ?_
  refine s_istore_n (ls' := [some (.ref 55), some (.int a1), some (.int a2), some (.int 0), none]) eX2_seatNew_1 rfl rfl rfl ?_
  have q1 := hD
  refine clX2_seatNew_2 64 a1 a2 0 m q1 ?_
  exact s_vret eX2_seatNew_50 rfl ⟨rfl, rfl, by rw [E]⟩
theorem uX2_compare (a1 : Int32) (a2 : Int32) (m : ax_M) : ax_NM 2 Y2_compare [.ref 55, .int a1, .int a2] m (fun r m1 => r = none ∧ m1 = F2_compare a1 a2 m) := by
  have E : F2_compare a1 a2 m = (if a1 < (m 55 3) then m else (if a1 = (m 55 3) then (if a2 < (m 55 4) then (F7_copyRow 57 7 58 7 (ax_up (ax_up m 55 3 a1) 55 4 a2)) else m) else (F7_copyRow 57 7 58 7 (ax_up (ax_up m 55 3 a1) 55 4 a2)))) := rfl
  show ax_N 2 Y2_compare 0 [some (.ref 55), some (.int a1), some (.int a2)] [] m _
  refine s_iload_n eX2_compare_0 rfl rfl ?_
  refine s_aload_n eX2_compare_1 rfl rfl ?_
  refine s_geti eX2_compare_2 fX2_31 shp_55 rfl ?_
  refine s_icmp_lt eX2_compare_5 (fun h1 => ?_) (fun h1 => ?_)
  · skip
    rw [if_pos h1] at E
    exact s_vret eX2_compare_24 rfl ⟨rfl, rfl, by rw [E]⟩
  · skip
    rw [if_neg h1] at E
    refine s_iload_n eX2_compare_8 rfl rfl ?_
    refine s_aload_n eX2_compare_9 rfl rfl ?_
    refine s_geti eX2_compare_10 fX2_31 shp_55 rfl ?_
    refine s_icmp_ne eX2_compare_13 (fun h2 => ?_) (fun h2 => ?_)
    · skip
      rw [if_neg h2] at E
      refine s_aload_n eX2_compare_25 rfl rfl ?_
      refine s_iload_n eX2_compare_26 rfl rfl ?_
      refine s_puti eX2_compare_27 fX2_31 pX2_3 rfl rfl shp_55 rfl ?_
      refine s_aload_n eX2_compare_30 rfl rfl ?_
      refine s_iload_n eX2_compare_31 rfl rfl ?_
      refine s_puti eX2_compare_32 fX2_35 pX2_4 rfl rfl shp_55 rfl ?_
      refine s_aload_n eX2_compare_35 rfl rfl ?_
      refine s_getr (q := 57) eX2_compare_36 fX2_15 shp_55 rfl ?_
      refine s_aload_n eX2_compare_39 rfl rfl ?_
      refine s_getr (q := 58) eX2_compare_40 fX2_18 shp_55 rfl ?_
      refine n_callSv (As := [.ref 57, .ref 58]) eX2_compare_43 kX7_copyRow lX2_50 rfl rfl (Nat.le_of_ble_eq_true rfl) (Nat.le_of_ble_eq_true rfl) (Nat.le_of_ble_eq_true rfl) (uX7_copyRow 57 7 58 7 ((ax_up (ax_up m 55 3 a1) 55 4 a2)) shp_57 shp_58) ?_
      exact s_vret eX2_compare_46 rfl ⟨rfl, rfl, by rw [E]⟩
    · skip
      rw [if_pos h2] at E
      refine s_iload_n eX2_compare_16 rfl rfl ?_
      refine s_aload_n eX2_compare_17 rfl rfl ?_
      refine s_geti eX2_compare_18 fX2_35 shp_55 rfl ?_
      refine s_icmp_lt eX2_compare_21 (fun h3 => ?_) (fun h3 => ?_)
      · skip
        rw [if_pos h3] at E
        refine s_aload_n eX2_compare_25 rfl rfl ?_
        refine s_iload_n eX2_compare_26 rfl rfl ?_
        refine s_puti eX2_compare_27 fX2_31 pX2_3 rfl rfl shp_55 rfl ?_
        refine s_aload_n eX2_compare_30 rfl rfl ?_
        refine s_iload_n eX2_compare_31 rfl rfl ?_
        refine s_puti eX2_compare_32 fX2_35 pX2_4 rfl rfl shp_55 rfl ?_
        refine s_aload_n eX2_compare_35 rfl rfl ?_
        refine s_getr (q := 57) eX2_compare_36 fX2_15 shp_55 rfl ?_
        refine s_aload_n eX2_compare_39 rfl rfl ?_
        refine s_getr (q := 58) eX2_compare_40 fX2_18 shp_55 rfl ?_
        refine n_callSv (As := [.ref 57, .ref 58]) eX2_compare_43 kX7_copyRow lX2_50 rfl rfl (Nat.le_of_ble_eq_true rfl) (Nat.le_of_ble_eq_true rfl) (Nat.le_of_ble_eq_true rfl) (uX7_copyRow 57 7 58 7 ((ax_up (ax_up m 55 3 a1) 55 4 a2)) shp_57 shp_58) ?_
        exact s_vret eX2_compare_46 rfl ⟨rfl, rfl, by rw [E]⟩
      · skip
        rw [if_neg h3] at E
        exact s_vret eX2_compare_24 rfl ⟨rfl, rfl, by rw [E]⟩
theorem clX2_choose (d : Nat) (rc : Int32 → Int32 → Int32 → Int32 → ax_M → ax_M) (p t a s : Int32) (hrc : ∀ t a s m, ax_NM d Y2_choose [.ref 55, .int (p + 1), .int t, .int a, .int s] m (fun r m1 => r = none ∧ m1 = rc (p + 1) t a s m)) {P : Option Value → ax_M → Prop} : ∀ (n i : Nat) (m : ax_M), i + n = 8 → ax_N (d + 1) Y2_choose 94 [some (.ref 55), some (.int p), some (.int t), some (.int a), some (.int s), none, none] [] (F2_chl rc p t a s n (nI i) m) P → ax_N (d + 1) Y2_choose 17 [some (.ref 55), some (.int p), some (.int t), some (.int a), some (.int s), some (.int (nI i)), none] [] m P := by
  intro n
  induction n with
  | zero =>
    intro i m hi hx
    have hi : i = 8 := by omega
    subst hi
    refine s_iload eX2_choose_17 rfl ?_
    refine s_bipush (v := 7) eX2_choose_19 rfl ?_
    refine s_icmp_ge eX2_choose_21 (fun _ => ?_) (fun h => absurd (by decide) h)
    refine ax_forget (ls' := [some (.ref 55), some (.int p), some (.int t), some (.int a), some (.int s), none, none]) rfl ?_
    exact hx
  | succ n ih =>
    intro i m hi hx
    refine s_iload eX2_choose_17 rfl ?_
    refine s_bipush (v := 7) eX2_choose_19 rfl ?_
    have E : F2_chl rc p t a s (n + 1) (nI i) m = if 7 ≤ nI i then m else F2_chl rc p t a s n (nI i + 1) (if F7_at 56 49 (p * 7 + nI i) m < 0 then m else if t >>> (nI i &&& 31) &&& 1 = 0 then rc (p + 1) (t ||| 1 <<< (nI i &&& 31)) (a + 1) (s + F7_at 56 49 (p * 7 + nI i) m) (F7_put 57 7 p (nI i) m) else m) := rfl
    refine s_icmp_ge eX2_choose_21 (fun h => ?_) (fun h => ?_)
    · rw [if_pos h] at E
      refine ax_forget (ls' := [some (.ref 55), some (.int p), some (.int t), some (.int a), some (.int s), none, none]) rfl ?_
      rw [E] at hx
      exact hx
    · rw [if_neg h] at E
      have J : ∀ m' : ax_M, m' = (if F7_at 56 49 (p * 7 + nI i) m < 0 then m else if t >>> (nI i &&& 31) &&& 1 = 0 then rc (p + 1) (t ||| 1 <<< (nI i &&& 31)) (a + 1) (s + F7_at 56 49 (p * 7 + nI i) m) (F7_put 57 7 p (nI i) m) else m) → ∀ c, ax_N (d + 1) Y2_choose 88 [some (.ref 55), some (.int p), some (.int t), some (.int a), some (.int s), some (.int (nI i)), some (.int c)] [] m' P := by
        intro m' hm' c
        refine s_iinc (v := nI i + 1) (ls' := [some (.ref 55), some (.int p), some (.int t), some (.int a), some (.int s), some (.int (nI i + 1)), some (.int c)]) eX2_choose_88 rfl rfl rfl rfl ?_
        refine s_goto eX2_choose_91 ?_
        refine ax_forget (ls' := [some (.ref 55), some (.int p), some (.int t), some (.int a), some (.int s), some (.int (nI i + 1)), none]) rfl ?_
        rw [nI_1]
        refine ih (i + 1) m' (by omega) ?_
        rw [E, ← hm', nI_1] at hx
        exact hx
      refine s_aload_n eX2_choose_24 rfl rfl ?_
      refine s_getr (q := 56) eX2_choose_25 fX2_11 shp_55 rfl ?_
      refine s_iload_n eX2_choose_28 rfl rfl ?_
      refine s_bipush (v := 7) eX2_choose_29 rfl ?_
      refine s_imul eX2_choose_31 ?_
      refine s_iload eX2_choose_32 rfl ?_
      refine s_iadd eX2_choose_34 ?_
      refine n_callSi (d' := 0) (As := [.ref 56, .int (p * 7 + nI i)]) eX2_choose_35 kX7_at lX2_46 rfl rfl (Nat.le_of_ble_eq_true rfl) (Nat.succ_le_succ (Nat.zero_le _)) (Nat.le_of_ble_eq_true rfl) (uX7_at 56 49 (p * 7 + nI i) m shp_56) ?_
      refine s_istore (ls' := [some (.ref 55), some (.int p), some (.int t), some (.int a), some (.int s), some (.int (nI i)), some (.int (F7_at 56 49 (p * 7 + nI i) m))]) eX2_choose_38 rfl rfl ?_
      refine s_iload eX2_choose_40 rfl ?_
      refine s_if_lt eX2_choose_42 (fun h2 => ?_) (fun h2 => ?_)
      · exact J m (by rw [if_pos h2]) _
      · refine s_iload_n eX2_choose_45 rfl rfl ?_
        refine s_iload eX2_choose_46 rfl ?_
        refine s_ishr eX2_choose_48 ?_
        refine s_iconst (v := 1) eX2_choose_49 rfl ?_
        refine s_iand eX2_choose_50 ?_
        refine s_if_eq eX2_choose_51 (fun h3 => ?_) (fun h3 => ?_)
        · refine s_aload_n eX2_choose_57 rfl rfl ?_
          refine s_getr (q := 57) eX2_choose_58 fX2_15 shp_55 rfl ?_
          refine s_iload_n eX2_choose_61 rfl rfl ?_
          refine s_iload eX2_choose_62 rfl ?_
          refine n_callSv (d' := 0) (As := [.ref 57, .int p, .int (nI i)]) eX2_choose_64 kX7_put lX2_27 rfl rfl (Nat.le_of_ble_eq_true rfl) (Nat.succ_le_succ (Nat.zero_le _)) (Nat.le_of_ble_eq_true rfl) (uX7_put 57 7 p (nI i) m shp_57) ?_
          refine s_aload_n eX2_choose_67 rfl rfl ?_
          refine s_iload_n eX2_choose_68 rfl rfl ?_
          refine s_iconst (v := 1) eX2_choose_69 rfl ?_
          refine s_iadd eX2_choose_70 ?_
          refine s_iload_n eX2_choose_71 rfl rfl ?_
          refine s_iconst (v := 1) eX2_choose_72 rfl ?_
          refine s_iload eX2_choose_73 rfl ?_
          refine s_ishl eX2_choose_75 ?_
          refine s_ior eX2_choose_76 ?_
          refine s_iload_n eX2_choose_77 rfl rfl ?_
          refine s_iconst (v := 1) eX2_choose_78 rfl ?_
          refine s_iadd eX2_choose_79 ?_
          refine s_iload eX2_choose_80 rfl ?_
          refine s_iload eX2_choose_82 rfl ?_
          refine s_iadd eX2_choose_84 ?_
          refine n_callSv (As := [.ref 55, .int (p + 1), .int (t ||| 1 <<< (nI i &&& 31)), .int (a + 1), .int (s + F7_at 56 49 (p * 7 + nI i) m)]) eX2_choose_85 kX2_choose lX2_38 rfl rfl (Nat.le_of_ble_eq_true rfl) (Nat.le_refl _) (Nat.le_of_ble_eq_true rfl) (hrc _ _ _ _) ?_
          exact J _ (by rw [if_neg h2, if_pos h3]) _
        · refine s_goto eX2_choose_54 ?_
          exact J m (by rw [if_neg h2, if_neg h3]) _
theorem uX2_ch : ∀ (n k : Nat), k + n = 7 → ∀ (t a s : Int32) (m : ax_M), ax_NM (n + 3) Y2_choose [.ref 55, .int (nI k), .int t, .int a, .int s] m (fun r m1 => r = none ∧ m1 = F2_ch (n + 1) (nI k) t a s m) := by
  intro n
  induction n with
  | zero =>
    intro k hk t a s m
    have hk : k = 7 := by omega
    subst hk
    show ax_N 3 Y2_choose 0 [some (.ref 55), some (.int (nI 7)), some (.int t), some (.int a), some (.int s), none, none] [] m _
    have E : F2_ch 1 (nI 7) t a s m = if nI 7 < 7 then F2_ch 0 (nI 7 + 1) t a s (F7_put 57 7 (nI 7) (-1) (F2_chl (F2_ch 0) (nI 7) t a s 8 0 m)) else F2_compare a s m := rfl
    refine s_iload_n eX2_choose_0 rfl rfl ?_
    refine s_bipush (v := 7) eX2_choose_1 rfl ?_
    refine s_icmp_lt eX2_choose_3 (fun h => absurd h (by decide)) (fun h => ?_)
    rw [if_neg h] at E
    refine s_aload_n eX2_choose_6 rfl rfl ?_
    refine s_iload_n eX2_choose_7 rfl rfl ?_
    refine s_iload eX2_choose_8 rfl ?_
    refine n_callVv (d' := 2) (As := [.int a, .int s]) eX2_choose_10 kX2_compare lX2_42 rfl rfl shp_55 rfl rfl (Nat.le_of_ble_eq_true rfl) (Nat.le_of_ble_eq_true rfl) (Nat.le_of_ble_eq_true rfl) (uX2_compare a s m) ?_
    exact s_vret eX2_choose_13 rfl ⟨rfl, rfl, by rw [E]⟩
  | succ n ih =>
    intro k hk t a s m
    show ax_N (n + 3 + 1) Y2_choose 0 [some (.ref 55), some (.int (nI k)), some (.int t), some (.int a), some (.int s), none, none] [] m _
    have E : F2_ch (n + 1 + 1) (nI k) t a s m = if nI k < 7 then F2_ch (n + 1) (nI k + 1) t a s (F7_put 57 7 (nI k) (-1) (F2_chl (F2_ch (n + 1)) (nI k) t a s 8 0 m)) else F2_compare a s m := rfl
    have hk7 : nI k < 7 := (nI_ltI (b := 7) (by omega) (by decide)).mpr (by omega)
    rw [if_pos hk7] at E
    refine s_iload_n eX2_choose_0 rfl rfl ?_
    refine s_bipush (v := 7) eX2_choose_1 rfl ?_
    refine s_icmp_lt eX2_choose_3 (fun h => ?_) (fun h => absurd hk7 h)
    refine s_iconst (v := 0) eX2_choose_14 rfl ?_
    refine s_istore (ls' := [some (.ref 55), some (.int (nI k)), some (.int t), some (.int a), some (.int s), some (.int 0), none]) eX2_choose_15 rfl rfl ?_
    refine clX2_choose (n + 3) (F2_ch (n + 1)) (nI k) t a s (fun t a s m => by rw [nI_1]; exact ih (k + 1) (by omega) t a s m) 8 0 m rfl ?_
    refine s_aload_n eX2_choose_94 rfl rfl ?_
    refine s_getr (q := 57) eX2_choose_95 fX2_15 shp_55 rfl ?_
    refine s_iload_n eX2_choose_98 rfl rfl ?_
    refine s_iconst (v := -1) eX2_choose_99 rfl ?_
    refine n_callSv (d' := 0) (As := [.ref 57, .int (nI k), .int (-1)]) eX2_choose_100 kX7_put lX2_27 rfl rfl (Nat.le_of_ble_eq_true rfl) (Nat.succ_le_succ (Nat.zero_le _)) (Nat.le_of_ble_eq_true rfl) (uX7_put 57 7 (nI k) (-1) _ shp_57) ?_
    refine s_aload_n eX2_choose_103 rfl rfl ?_
    refine s_iload_n eX2_choose_104 rfl rfl ?_
    refine s_iconst (v := 1) eX2_choose_105 rfl ?_
    refine s_iadd eX2_choose_106 ?_
    refine s_iload_n eX2_choose_107 rfl rfl ?_
    refine s_iload_n eX2_choose_108 rfl rfl ?_
    refine s_iload eX2_choose_109 rfl ?_
    refine n_callSv (d' := n + 3) (As := [.ref 55, .int (nI k + 1), .int t, .int a, .int s]) eX2_choose_111 kX2_choose lX2_38 rfl rfl (Nat.le_of_ble_eq_true rfl) (Nat.le_refl _) (Nat.le_of_ble_eq_true rfl) (by rw [nI_1]; exact ih (k + 1) (by omega) t a s _) ?_
    refine s_vret eX2_choose_114 rfl ⟨rfl, rfl, ?_⟩
    rw [E, nI_1]
    rfl
theorem uX2_choose (p t a s : Int32) (m : ax_M) (hD : D2_choose p t a s m) : ax_NM 10 Y2_choose [.ref 55, .int p, .int t, .int a, .int s] m (fun r m1 => r = none ∧ m1 = F2_choose p t a s m) := by
  have hp : p = 0 := hD
  subst hp
  exact uX2_ch 7 0 rfl t a s m
theorem uX2_solve (m : ax_M) (hD : D2_solve m) : ax_NM 11 Y2_solve [.ref 55] m (fun r m1 => r = none ∧ m1 = F2_solve m) := by
  have E : F2_solve m = (F2_choose 0 0 0 0 (ax_up (ax_up m 55 3 ((-1))) 55 4 0)) := rfl
  unfold D2_solve at hD
  show ax_N 11 Y2_solve 0 [some (.ref 55)] [] m _
  refine s_aload_n eX2_solve_0 rfl rfl ?_
  refine s_iconst (v := (-1)) eX2_solve_1 rfl ?_
  refine s_puti eX2_solve_2 fX2_31 pX2_3 rfl rfl shp_55 rfl ?_
  refine s_aload_n eX2_solve_5 rfl rfl ?_
  refine s_iconst (v := 0) eX2_solve_6 rfl ?_
  refine s_puti eX2_solve_7 fX2_35 pX2_4 rfl rfl shp_55 rfl ?_
  refine s_aload_n eX2_solve_10 rfl rfl ?_
  refine s_iconst (v := 0) eX2_solve_11 rfl ?_
  refine s_iconst (v := 0) eX2_solve_12 rfl ?_
  refine s_iconst (v := 0) eX2_solve_13 rfl ?_
  refine s_iconst (v := 0) eX2_solve_14 rfl ?_
  have q1 := hD
  refine n_callSv (As := [.ref 55, .int 0, .int 0, .int 0, .int 0]) eX2_solve_15 kX2_choose lX2_38 rfl rfl (Nat.le_of_ble_eq_true rfl) (Nat.le_of_ble_eq_true rfl) (Nat.le_of_ble_eq_true rfl) (uX2_choose 0 0 0 0 ((ax_up (ax_up m 55 3 ((-1))) 55 4 0)) q1) ?_
  exact s_vret eX2_solve_18 rfl ⟨rfl, rfl, by rw [E]⟩
theorem clX2_fellowOf_32 {P : Option Value → ax_M → Prop} : ∀ (n : Nat) (v1 v2 : Int32) (m : ax_M), E2_fellowOf_32 n v1 v2 m → (∀ r, (L2_fellowOf_32 n v1 v2 m).1 = some r → P (some (.int r)) m) → ((L2_fellowOf_32 n v1 v2 m).1 = none → ax_N 1 Y2_fellowOf 58 [some (.ref 55), some (.int v1), some (.int ((L2_fellowOf_32 n v1 v2 m).2))] [] m P) → ax_N 1 Y2_fellowOf 32 [some (.ref 55), some (.int v1), some (.int v2)] [] m P := by
  intro n
  induction n with
  | zero => intro v1 v2 m hD; exact absurd hD id
  | succ n ih =>
    intro v1 v2 m hD hr hx
    have E : L2_fellowOf_32 (n + 1) v1 v2 m = (if 7 ≤ v2 then (none, v2) else (if (F7_at 58 7 v2 m) = v1 then (some v2, v2) else L2_fellowOf_32 n v1 (v2 + 1) m)) := by rw [L2_fellowOf_32]
    have hD : ((¬ (7 ≤ v2) → ((¬ ((F7_at 58 7 v2 m) = v1) → ((E2_fellowOf_32 n v1 (v2 + 1) m)))))) := hD
    refine s_iload_n eX2_fellowOf_32 rfl rfl ?_
    refine s_bipush (v := 7) eX2_fellowOf_33 rfl ?_
    refine s_icmp_ge eX2_fellowOf_35 (fun h1 => ?_) (fun h1 => ?_)
    · skip
      rw [if_pos h1] at E
      rw [E] at hx
      exact hx rfl
    · skip
      rw [if_neg h1] at E
      have hD := hD h1
      refine s_aload_n eX2_fellowOf_38 rfl rfl ?_
      refine s_getr (q := 58) eX2_fellowOf_39 fX2_18 shp_55 rfl ?_
      refine s_iload_n eX2_fellowOf_42 rfl rfl ?_
      refine n_callSi (As := [.ref 58, .int v2]) eX2_fellowOf_43 kX7_at lX2_46 rfl rfl (Nat.le_of_ble_eq_true rfl) (Nat.le_of_ble_eq_true rfl) (Nat.le_of_ble_eq_true rfl) (uX7_at 58 7 v2 m shp_58) ?_
      refine s_iload_n eX2_fellowOf_46 rfl rfl ?_
      refine s_icmp_ne eX2_fellowOf_47 (fun h2 => ?_) (fun h2 => ?_)
      · skip
        rw [if_neg h2] at E
        have hD := hD h2
        refine s_iinc (v := v2 + 1) (ls' := [some (.ref 55), some (.int v1), some (.int (v2 + 1))]) eX2_fellowOf_52 rfl rfl rfl rfl ?_
        refine s_goto eX2_fellowOf_55 ?_
        rw [E] at hr hx
        exact ih v1 (v2 + 1) m hD hr hx
      · skip
        rw [if_pos h2] at E
        refine s_iload_n eX2_fellowOf_50 rfl rfl ?_
        rw [E] at hr
        exact s_iret eX2_fellowOf_51 rfl ⟨rfl, hr _ rfl⟩
theorem uX2_fellowOf (a1 : Int32) (m : ax_M) (hD : D2_fellowOf a1 m) : ax_NM 1 Y2_fellowOf [.ref 55, .int a1] m (fun r m1 => r = some (.int (F2_fellowOf a1 m)) ∧ m1 = m) := by
  have E : F2_fellowOf a1 m = (if a1 < 0 then (if (L2_fellowOf_32 64 a1 0 m).1 = none then ((-4)) else (((L2_fellowOf_32 64 a1 0 m).1).getD 0)) else (if 7 ≤ a1 then (if (L2_fellowOf_32 64 a1 0 m).1 = none then ((-4)) else (((L2_fellowOf_32 64 a1 0 m).1).getD 0)) else (if (F7_at 58 7 a1 m) < 0 then (if (L2_fellowOf_32 64 a1 0 m).1 = none then ((-4)) else (((L2_fellowOf_32 64 a1 0 m).1).getD 0)) else (F7_at 58 7 a1 m)))) := rfl
  unfold D2_fellowOf at hD
  show ax_N 1 Y2_fellowOf 0 [some (.ref 55), some (.int a1), none] [] m _
  refine s_iload_n eX2_fellowOf_0 rfl rfl ?_
  refine s_if_lt eX2_fellowOf_1 (fun h1 => ?_) (fun h1 => ?_)
  · skip
    rw [if_pos h1] at E
    have hD := hD.1 h1
    refine s_iconst (v := 0) eX2_fellowOf_30 rfl ?_
    refine s_istore_n (ls' := [some (.ref 55), some (.int a1), some (.int 0)]) eX2_fellowOf_31 rfl rfl rfl ?_
    have q2 := hD
    refine clX2_fellowOf_32 64 a1 0 m q2 (fun x3 h4 => ?_) (fun h4 => ?_)
    · skip
      rw [if_neg (by rw [h4]; exact fun hh => by cases hh), h4] at E
      exact ⟨by rw [E]; rfl, rfl⟩
    · skip
      rw [if_pos h4] at E
      refine s_bipush (v := (-4)) eX2_fellowOf_58 rfl ?_
      exact s_iret eX2_fellowOf_60 rfl ⟨rfl, by rw [E], rfl⟩
  · skip
    rw [if_neg h1] at E
    have hD := hD.2 h1
    refine s_iload_n eX2_fellowOf_4 rfl rfl ?_
    refine s_bipush (v := 7) eX2_fellowOf_5 rfl ?_
    refine s_icmp_ge eX2_fellowOf_7 (fun h5 => ?_) (fun h5 => ?_)
    · skip
      rw [if_pos h5] at E
      have hD := hD.1 h5
      refine s_iconst (v := 0) eX2_fellowOf_30 rfl ?_
      refine s_istore_n (ls' := [some (.ref 55), some (.int a1), some (.int 0)]) eX2_fellowOf_31 rfl rfl rfl ?_
      have q6 := hD
      refine clX2_fellowOf_32 64 a1 0 m q6 (fun x7 h8 => ?_) (fun h8 => ?_)
      · skip
        rw [if_neg (by rw [h8]; exact fun hh => by cases hh), h8] at E
        exact ⟨by rw [E]; rfl, rfl⟩
      · skip
        rw [if_pos h8] at E
        refine s_bipush (v := (-4)) eX2_fellowOf_58 rfl ?_
        exact s_iret eX2_fellowOf_60 rfl ⟨rfl, by rw [E], rfl⟩
    · skip
      rw [if_neg h5] at E
      have hD := hD.2 h5
      refine s_aload_n eX2_fellowOf_10 rfl rfl ?_
      refine s_getr (q := 58) eX2_fellowOf_11 fX2_18 shp_55 rfl ?_
      refine s_iload_n eX2_fellowOf_14 rfl rfl ?_
      refine n_callSi (As := [.ref 58, .int a1]) eX2_fellowOf_15 kX7_at lX2_46 rfl rfl (Nat.le_of_ble_eq_true rfl) (Nat.le_of_ble_eq_true rfl) (Nat.le_of_ble_eq_true rfl) (uX7_at 58 7 a1 m shp_58) ?_
      refine s_if_lt eX2_fellowOf_18 (fun h9 => ?_) (fun h9 => ?_)
      · skip
        rw [if_pos h9] at E
        have hD := hD h9
        refine s_iconst (v := 0) eX2_fellowOf_30 rfl ?_
        refine s_istore_n (ls' := [some (.ref 55), some (.int a1), some (.int 0)]) eX2_fellowOf_31 rfl rfl rfl ?_
        have q10 := hD
        refine clX2_fellowOf_32 64 a1 0 m q10 (fun x11 h12 => ?_) (fun h12 => ?_)
        · skip
          rw [if_neg (by rw [h12]; exact fun hh => by cases hh), h12] at E
          exact ⟨by rw [E]; rfl, rfl⟩
        · skip
          rw [if_pos h12] at E
          refine s_bipush (v := (-4)) eX2_fellowOf_58 rfl ?_
          exact s_iret eX2_fellowOf_60 rfl ⟨rfl, by rw [E], rfl⟩
      · skip
        rw [if_neg h9] at E
        refine s_aload_n eX2_fellowOf_21 rfl rfl ?_
        refine s_getr (q := 58) eX2_fellowOf_22 fX2_18 shp_55 rfl ?_
        refine s_iload_n eX2_fellowOf_25 rfl rfl ?_
        refine n_callSi (As := [.ref 58, .int a1]) eX2_fellowOf_26 kX7_at lX2_46 rfl rfl (Nat.le_of_ble_eq_true rfl) (Nat.le_of_ble_eq_true rfl) (Nat.le_of_ble_eq_true rfl) (uX7_at 58 7 a1 m shp_58) ?_
        exact s_iret eX2_fellowOf_29 rfl ⟨rfl, by rw [E], rfl⟩
theorem cK3_addMove_125 (g1 : Nat) (hg1 : isG g1) (v2 v3 v4 v5 : Int32) (m : ax_M) {P : Option Value → ax_M → Prop} (hP : P none (K3_addMove_125 g1 v2 v3 v4 v5 m)) : ax_N 2 Y3_addMove 125 [some (.ref 59), some (.ref g1), some (.int v2), some (.int v3), some (.int v4), some (.int v5)] [] m P := by
  have E : K3_addMove_125 g1 v2 v3 v4 v5 m = (ax_up m 59 4 ((m 59 4) + 1)) := rfl
  refine s_aload_n eX3_addMove_125 rfl rfl ?_
  refine s_dup eX3_addMove_126 rfl ?_
  refine s_geti eX3_addMove_127 fX3_62 shp_59 rfl ?_
  refine s_iconst (v := 1) eX3_addMove_130 rfl ?_
  refine s_iadd eX3_addMove_131 ?_
  refine s_puti eX3_addMove_132 fX3_62 pX3_4 rfl rfl shp_59 rfl ?_
  rw [E] at hP
  exact s_vret eX3_addMove_135 rfl ⟨rfl, hP⟩
theorem cK3_addMove_100 (g1 : Nat) (hg1 : isG g1) (v2 v3 v4 v5 : Int32) (m : ax_M) {P : Option Value → ax_M → Prop} (hP : P none (K3_addMove_100 g1 v2 v3 v4 v5 m)) : ax_N 2 Y3_addMove 100 [some (.ref 59), some (.ref g1), some (.int v2), some (.int v3), some (.int v4), some (.int v5)] [] m P := by
  have E : K3_addMove_100 g1 v2 v3 v4 v5 m = (K3_addMove_125 g1 v2 v3 v4 v5 (F7_put 63 120 (m 59 4) ((v5 <<< ((2 * v3) &&& (31 : Int32))) ||| (v5 <<< ((2 * v4) &&& (31 : Int32)))) m)) := rfl
  refine s_aload_n eX3_addMove_100 rfl rfl ?_
  refine s_getr (q := 63) eX3_addMove_101 fX3_21 shp_59 rfl ?_
  refine s_aload_n eX3_addMove_104 rfl rfl ?_
  refine s_geti eX3_addMove_105 fX3_62 shp_59 rfl ?_
  refine s_iload eX3_addMove_108 rfl ?_
  refine s_iconst (v := 2) eX3_addMove_110 rfl ?_
  refine s_iload_n eX3_addMove_111 rfl rfl ?_
  refine s_imul eX3_addMove_112 ?_
  refine s_ishl eX3_addMove_113 ?_
  refine s_iload eX3_addMove_114 rfl ?_
  refine s_iconst (v := 2) eX3_addMove_116 rfl ?_
  refine s_iload eX3_addMove_117 rfl ?_
  refine s_imul eX3_addMove_119 ?_
  refine s_ishl eX3_addMove_120 ?_
  refine s_ior eX3_addMove_121 ?_
  refine n_callSv (As := [.ref 63, .int (m 59 4), .int ((v5 <<< ((2 * v3) &&& (31 : Int32))) ||| (v5 <<< ((2 * v4) &&& (31 : Int32))))]) eX3_addMove_122 kX7_put lX3_50 rfl rfl (Nat.le_of_ble_eq_true rfl) (Nat.le_of_ble_eq_true rfl) (Nat.le_of_ble_eq_true rfl) (uX7_put 63 120 (m 59 4) ((v5 <<< ((2 * v3) &&& (31 : Int32))) ||| (v5 <<< ((2 * v4) &&& (31 : Int32)))) m shp_63) ?_
  refine cK3_addMove_125 g1 hg1 v2 v3 v4 v5 ((F7_put 63 120 (m 59 4) ((v5 <<< ((2 * v3) &&& (31 : Int32))) ||| (v5 <<< ((2 * v4) &&& (31 : Int32)))) m)) ?_
  rw [E] at hP
  exact hP
theorem cK3_addMove_69 (g1 : Nat) (hg1 : isG g1) (v2 v3 v4 v5 : Int32) (m : ax_M) {P : Option Value → ax_M → Prop} (hP : P none (K3_addMove_69 g1 v2 v3 v4 v5 m)) : ax_N 2 Y3_addMove 69 [some (.ref 59), some (.ref g1), some (.int v2), some (.int v3), some (.int v4), some (.int v5)] [] m P := by
  have E : K3_addMove_69 g1 v2 v3 v4 v5 m = (K3_addMove_100 g1 v2 v3 v4 v5 (F7_put 62 120 (m 59 4) (((F1_firstBank g1 v2 m) <<< ((2 * v3) &&& (31 : Int32))) ||| ((F1_secondBank g1 v2 m) <<< ((2 * v4) &&& (31 : Int32)))) m)) := rfl
  refine s_aload_n eX3_addMove_69 rfl rfl ?_
  refine s_getr (q := 62) eX3_addMove_70 fX3_18 shp_59 rfl ?_
  refine s_aload_n eX3_addMove_73 rfl rfl ?_
  refine s_geti eX3_addMove_74 fX3_62 shp_59 rfl ?_
  refine s_aload_n eX3_addMove_77 rfl rfl ?_
  refine s_iload_n eX3_addMove_78 rfl rfl ?_
  refine n_callVi (As := [.int v2]) eX3_addMove_79 kX1_firstBank lX3_89 rfl rfl hg1.1 rfl rfl (Nat.le_of_ble_eq_true rfl) (Nat.le_of_ble_eq_true rfl) (Nat.le_of_ble_eq_true rfl) (uX1_firstBank g1 v2 m hg1) ?_
  refine s_iconst (v := 2) eX3_addMove_82 rfl ?_
  refine s_iload_n eX3_addMove_83 rfl rfl ?_
  refine s_imul eX3_addMove_84 ?_
  refine s_ishl eX3_addMove_85 ?_
  refine s_aload_n eX3_addMove_86 rfl rfl ?_
  refine s_iload_n eX3_addMove_87 rfl rfl ?_
  refine n_callVi (As := [.int v2]) eX3_addMove_88 kX1_secondBank lX3_93 rfl rfl hg1.1 rfl rfl (Nat.le_of_ble_eq_true rfl) (Nat.le_of_ble_eq_true rfl) (Nat.le_of_ble_eq_true rfl) (uX1_secondBank g1 v2 m hg1) ?_
  refine s_iconst (v := 2) eX3_addMove_91 rfl ?_
  refine s_iload eX3_addMove_92 rfl ?_
  refine s_imul eX3_addMove_94 ?_
  refine s_ishl eX3_addMove_95 ?_
  refine s_ior eX3_addMove_96 ?_
  refine n_callSv (As := [.ref 62, .int (m 59 4), .int (((F1_firstBank g1 v2 m) <<< ((2 * v3) &&& (31 : Int32))) ||| ((F1_secondBank g1 v2 m) <<< ((2 * v4) &&& (31 : Int32))))]) eX3_addMove_97 kX7_put lX3_50 rfl rfl (Nat.le_of_ble_eq_true rfl) (Nat.le_of_ble_eq_true rfl) (Nat.le_of_ble_eq_true rfl) (uX7_put 62 120 (m 59 4) (((F1_firstBank g1 v2 m) <<< ((2 * v3) &&& (31 : Int32))) ||| ((F1_secondBank g1 v2 m) <<< ((2 * v4) &&& (31 : Int32)))) m shp_62) ?_
  refine cK3_addMove_100 g1 hg1 v2 v3 v4 v5 ((F7_put 62 120 (m 59 4) (((F1_firstBank g1 v2 m) <<< ((2 * v3) &&& (31 : Int32))) ||| ((F1_secondBank g1 v2 m) <<< ((2 * v4) &&& (31 : Int32)))) m)) ?_
  rw [E] at hP
  exact hP
theorem uX3_addMove (g1 : Nat) (a2 : Int32) (a3 : Int32) (a4 : Int32) (m : ax_M) (hg1 : isG g1) : ax_NM 2 Y3_addMove [.ref 59, .ref g1, .int a2, .int a3, .int a4] m (fun r m1 => r = none ∧ m1 = F3_addMove g1 a2 a3 a4 m) := by
  have E : F3_addMove g1 a2 a3 a4 m = (if (m 59 4) < 120 then (K3_addMove_69 g1 a2 a3 a4 ((F1_firstBank g1 a2 m) ^^^ (F1_secondBank g1 a2 m)) (F7_put 61 120 ((F7_put 60 120 (m 59 4) (((100 * a2) + (10 * a3)) + a4) m) 59 4) (((3 : Int32) <<< ((2 * a3) &&& (31 : Int32))) ||| ((3 : Int32) <<< ((2 * a4) &&& (31 : Int32)))) (F7_put 60 120 (m 59 4) (((100 * a2) + (10 * a3)) + a4) m))) else m) := rfl
  show ax_N 2 Y3_addMove 0 [some (.ref 59), some (.ref g1), some (.int a2), some (.int a3), some (.int a4), none] [] m _
  refine s_aload_n eX3_addMove_0 rfl rfl ?_
  refine s_geti eX3_addMove_1 fX3_62 shp_59 rfl ?_
  refine s_bipush (v := 120) eX3_addMove_4 rfl ?_
  refine s_icmp_lt eX3_addMove_6 (fun h1 => ?_) (fun h1 => ?_)
  · skip
    rw [if_pos h1] at E
    refine s_aload_n eX3_addMove_10 rfl rfl ?_
    refine s_iload_n eX3_addMove_11 rfl rfl ?_
    refine n_callVi (As := [.int a2]) eX3_addMove_12 kX1_firstBank lX3_89 rfl rfl hg1.1 rfl rfl (Nat.le_of_ble_eq_true rfl) (Nat.le_of_ble_eq_true rfl) (Nat.le_of_ble_eq_true rfl) (uX1_firstBank g1 a2 m hg1) ?_
    refine s_aload_n eX3_addMove_15 rfl rfl ?_
    refine s_iload_n eX3_addMove_16 rfl rfl ?_
    refine n_callVi (As := [.int a2]) eX3_addMove_17 kX1_secondBank lX3_93 rfl rfl hg1.1 rfl rfl (Nat.le_of_ble_eq_true rfl) (Nat.le_of_ble_eq_true rfl) (Nat.le_of_ble_eq_true rfl) (uX1_secondBank g1 a2 m hg1) ?_
    refine s_ixor eX3_addMove_20 ?_
    refine s_istore (ls' := [some (.ref 59), some (.ref g1), some (.int a2), some (.int a3), some (.int a4), some (.int ((F1_firstBank g1 a2 m) ^^^ (F1_secondBank g1 a2 m)))]) eX3_addMove_21 rfl rfl ?_
    refine s_aload_n eX3_addMove_23 rfl rfl ?_
    refine s_getr (q := 60) eX3_addMove_24 fX3_11 shp_59 rfl ?_
    refine s_aload_n eX3_addMove_27 rfl rfl ?_
    refine s_geti eX3_addMove_28 fX3_62 shp_59 rfl ?_
    refine s_bipush (v := 100) eX3_addMove_31 rfl ?_
    refine s_iload_n eX3_addMove_33 rfl rfl ?_
    refine s_imul eX3_addMove_34 ?_
    refine s_bipush (v := 10) eX3_addMove_35 rfl ?_
    refine s_iload_n eX3_addMove_37 rfl rfl ?_
    refine s_imul eX3_addMove_38 ?_
    refine s_iadd eX3_addMove_39 ?_
    refine s_iload eX3_addMove_40 rfl ?_
    refine s_iadd eX3_addMove_42 ?_
    refine n_callSv (As := [.ref 60, .int (m 59 4), .int (((100 * a2) + (10 * a3)) + a4)]) eX3_addMove_43 kX7_put lX3_50 rfl rfl (Nat.le_of_ble_eq_true rfl) (Nat.le_of_ble_eq_true rfl) (Nat.le_of_ble_eq_true rfl) (uX7_put 60 120 (m 59 4) (((100 * a2) + (10 * a3)) + a4) m shp_60) ?_
    refine s_aload_n eX3_addMove_46 rfl rfl ?_
    refine s_getr (q := 61) eX3_addMove_47 fX3_15 shp_59 rfl ?_
    refine s_aload_n eX3_addMove_50 rfl rfl ?_
    refine s_geti eX3_addMove_51 fX3_62 shp_59 rfl ?_
    refine s_iconst (v := 3) eX3_addMove_54 rfl ?_
    refine s_iconst (v := 2) eX3_addMove_55 rfl ?_
    refine s_iload_n eX3_addMove_56 rfl rfl ?_
    refine s_imul eX3_addMove_57 ?_
    refine s_ishl eX3_addMove_58 ?_
    refine s_iconst (v := 3) eX3_addMove_59 rfl ?_
    refine s_iconst (v := 2) eX3_addMove_60 rfl ?_
    refine s_iload eX3_addMove_61 rfl ?_
    refine s_imul eX3_addMove_63 ?_
    refine s_ishl eX3_addMove_64 ?_
    refine s_ior eX3_addMove_65 ?_
    refine n_callSv (As := [.ref 61, .int ((F7_put 60 120 (m 59 4) (((100 * a2) + (10 * a3)) + a4) m) 59 4), .int (((3 : Int32) <<< ((2 * a3) &&& (31 : Int32))) ||| ((3 : Int32) <<< ((2 * a4) &&& (31 : Int32))))]) eX3_addMove_66 kX7_put lX3_50 rfl rfl (Nat.le_of_ble_eq_true rfl) (Nat.le_of_ble_eq_true rfl) (Nat.le_of_ble_eq_true rfl) (uX7_put 61 120 ((F7_put 60 120 (m 59 4) (((100 * a2) + (10 * a3)) + a4) m) 59 4) (((3 : Int32) <<< ((2 * a3) &&& (31 : Int32))) ||| ((3 : Int32) <<< ((2 * a4) &&& (31 : Int32)))) ((F7_put 60 120 (m 59 4) (((100 * a2) + (10 * a3)) + a4) m)) shp_61) ?_
    refine cK3_addMove_69 g1 hg1 a2 a3 a4 ((F1_firstBank g1 a2 m) ^^^ (F1_secondBank g1 a2 m)) ((F7_put 61 120 ((F7_put 60 120 (m 59 4) (((100 * a2) + (10 * a3)) + a4) m) 59 4) (((3 : Int32) <<< ((2 * a3) &&& (31 : Int32))) ||| ((3 : Int32) <<< ((2 * a4) &&& (31 : Int32)))) (F7_put 60 120 (m 59 4) (((100 * a2) + (10 * a3)) + a4) m))) ?_
    exact ⟨rfl, by rw [E]⟩
  · skip
    rw [if_neg h1] at E
    exact s_vret eX3_addMove_9 rfl ⟨rfl, rfl, by rw [E]⟩
