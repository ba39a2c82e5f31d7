/-! X7_fits X7_nextSeed X7_drawn X7_season X7_keep X7_back X7_sheet X7_lay -/
theorem cK7_fits_86 (v1 v2 v3 : Int32) (m : ax_M) {P : Option Value → ax_M → Prop} (hD : HK7_fits_86 v1 v2 v3 m) (hP : P (some (.int (K7_fits_86 v1 v2 v3 m).1)) (K7_fits_86 v1 v2 v3 m).2) : ax_N 6 Y7_fits 86 [some (.ref 0), some (.int v1), some (.int v2), some (.int v3), some (.ref 20)] [] m P := by
  have E : K7_fits_86 v1 v2 v3 m = (if v3 = 0 then (F3_rowsFrom 0 v2 m, m) else (F3_stepOfFirstRow v2 (v3 - 10) m, m)) := rfl
  unfold HK7_fits_86 at hD
  refine s_iload_n eX7_fits_86 rfl rfl ?_
  refine s_if_ne eX7_fits_87 (fun h1 => ?_) (fun h1 => ?_)
  · skip
    rw [if_neg h1] at E
    have hD := hD h1
    refine s_aload_n eX7_fits_100 rfl rfl ?_
    refine s_getr (q := 59) eX7_fits_101 fX7_51 shp_0 rfl ?_
    refine s_iload_n eX7_fits_104 rfl rfl ?_
    refine s_iload_n eX7_fits_105 rfl rfl ?_
    refine s_bipush (v := 10) eX7_fits_106 rfl ?_
    refine s_isub eX7_fits_108 ?_
    have q2 := hD
    refine n_callVi (As := [.int v2, .int (v3 - 10)]) eX7_fits_109 kX3_stepOfFirstRow lX7_284 rfl rfl shp_59 rfl rfl (Nat.le_of_ble_eq_true rfl) (Nat.le_of_ble_eq_true rfl) (Nat.le_of_ble_eq_true rfl) (uX3_stepOfFirstRow v2 (v3 - 10) m q2) ?_
    rw [E] at hP
    exact s_iret eX7_fits_112 rfl ⟨rfl, hP⟩
  · skip
    rw [if_pos h1] at E
    refine s_aload_n eX7_fits_90 rfl rfl ?_
    refine s_getr (q := 59) eX7_fits_91 fX7_51 shp_0 rfl ?_
    refine s_iconst (v := 0) eX7_fits_94 rfl ?_
    refine s_iload_n eX7_fits_95 rfl rfl ?_
    refine n_callVi (As := [.int 0, .int v2]) eX7_fits_96 kX3_rowsFrom lX7_281 rfl rfl shp_59 rfl rfl (Nat.le_of_ble_eq_true rfl) (Nat.le_of_ble_eq_true rfl) (Nat.le_of_ble_eq_true rfl) (uX3_rowsFrom 0 v2 m) ?_
    rw [E] at hP
    exact s_iret eX7_fits_99 rfl ⟨rfl, hP⟩
theorem cK7_fits_86_1 (v1 v2 v3 : Int32) (m : ax_M) {P : Option Value → ax_M → Prop} (hD : HK7_fits_86_1 v1 v2 v3 m) (hP : P (some (.int (K7_fits_86_1 v1 v2 v3 m).1)) (K7_fits_86_1 v1 v2 v3 m).2) : ax_N 6 Y7_fits 86 [some (.ref 0), some (.int v1), some (.int v2), some (.int v3), some (.ref 29)] [] m P := by
  have E : K7_fits_86_1 v1 v2 v3 m = (if v3 = 0 then (F3_rowsFrom 0 v2 m, m) else (F3_stepOfFirstRow v2 (v3 - 10) m, m)) := rfl
  unfold HK7_fits_86_1 at hD
  refine s_iload_n eX7_fits_86 rfl rfl ?_
  refine s_if_ne eX7_fits_87 (fun h1 => ?_) (fun h1 => ?_)
  · skip
    rw [if_neg h1] at E
    have hD := hD h1
    refine s_aload_n eX7_fits_100 rfl rfl ?_
    refine s_getr (q := 59) eX7_fits_101 fX7_51 shp_0 rfl ?_
    refine s_iload_n eX7_fits_104 rfl rfl ?_
    refine s_iload_n eX7_fits_105 rfl rfl ?_
    refine s_bipush (v := 10) eX7_fits_106 rfl ?_
    refine s_isub eX7_fits_108 ?_
    have q2 := hD
    refine n_callVi (As := [.int v2, .int (v3 - 10)]) eX7_fits_109 kX3_stepOfFirstRow lX7_284 rfl rfl shp_59 rfl rfl (Nat.le_of_ble_eq_true rfl) (Nat.le_of_ble_eq_true rfl) (Nat.le_of_ble_eq_true rfl) (uX3_stepOfFirstRow v2 (v3 - 10) m q2) ?_
    rw [E] at hP
    exact s_iret eX7_fits_112 rfl ⟨rfl, hP⟩
  · skip
    rw [if_pos h1] at E
    refine s_aload_n eX7_fits_90 rfl rfl ?_
    refine s_getr (q := 59) eX7_fits_91 fX7_51 shp_0 rfl ?_
    refine s_iconst (v := 0) eX7_fits_94 rfl ?_
    refine s_iload_n eX7_fits_95 rfl rfl ?_
    refine n_callVi (As := [.int 0, .int v2]) eX7_fits_96 kX3_rowsFrom lX7_281 rfl rfl shp_59 rfl rfl (Nat.le_of_ble_eq_true rfl) (Nat.le_of_ble_eq_true rfl) (Nat.le_of_ble_eq_true rfl) (uX3_rowsFrom 0 v2 m) ?_
    rw [E] at hP
    exact s_iret eX7_fits_99 rfl ⟨rfl, hP⟩
theorem uX7_fits (a1 : Int32) (a2 : Int32) (a3 : Int32) (m : ax_M) (hD : D7_fits a1 a2 a3 m) : ax_NM 6 Y7_fits [.ref 0, .int a1, .int a2, .int a3] m (fun r m1 => r = some (.int (F7_fits a1 a2 a3 m).1) ∧ m1 = (F7_fits a1 a2 a3 m).2) := by
  have E : F7_fits a1 a2 a3 m = (if (F7_within a1 0 1 m) = 0 then ((-1), m) else (if (F7_within a2 0 4 m) = 0 then ((-1), m) else (if a3 = 0 then (if F7_isKept a1 m = 0 then ((-2), m) else (if a1 = 0 then (K7_fits_86 a1 a2 a3 (F3_countRows (F1_standing 1 (F3_survey 1 (F1_standing 20 m) m)) a2 (F3_survey 1 (F1_standing 20 m) m))) else (K7_fits_86_1 a1 a2 a3 (F3_countRows (F1_standing 1 (F3_survey 1 (F1_standing 29 m) m)) a2 (F3_survey 1 (F1_standing 29 m) m))))) else (if a3 < 10 then ((-1), m) else (if (a3 - 10) < a2 then (if F7_isKept a1 m = 0 then ((-2), m) else (if a1 = 0 then (K7_fits_86 a1 a2 a3 (F3_countRows (F1_standing 1 (F3_survey 1 (F1_standing 20 m) m)) a2 (F3_survey 1 (F1_standing 20 m) m))) else (K7_fits_86_1 a1 a2 a3 (F3_countRows (F1_standing 1 (F3_survey 1 (F1_standing 29 m) m)) a2 (F3_survey 1 (F1_standing 29 m) m))))) else ((-1), m)))))) := rfl
  unfold D7_fits at hD
  show ax_N 6 Y7_fits 0 [some (.ref 0), some (.int a1), some (.int a2), some (.int a3), none] [] m _
  refine s_iload_n eX7_fits_0 rfl rfl ?_
  refine s_iconst (v := 0) eX7_fits_1 rfl ?_
  refine s_iconst (v := 1) eX7_fits_2 rfl ?_
  refine n_callSi (As := [.int a1, .int 0, .int 1]) eX7_fits_3 kX7_within lX7_76 rfl rfl (Nat.le_of_ble_eq_true rfl) (Nat.le_of_ble_eq_true rfl) (Nat.le_of_ble_eq_true rfl) (uX7_within a1 0 1 m) ?_
  refine s_if_eq eX7_fits_6 (fun h1 => ?_) (fun h1 => ?_)
  · skip
    rw [if_pos h1] at E
    refine s_iconst (v := (-1)) eX7_fits_18 rfl ?_
    exact s_iret eX7_fits_19 rfl ⟨rfl, by rw [E], by rw [E]⟩
  · skip
    rw [if_neg h1] at E
    have hD := hD h1
    refine s_iload_n eX7_fits_9 rfl rfl ?_
    refine s_iconst (v := 0) eX7_fits_10 rfl ?_
    refine s_iconst (v := 4) eX7_fits_11 rfl ?_
    refine n_callSi (As := [.int a2, .int 0, .int 4]) eX7_fits_12 kX7_within lX7_76 rfl rfl (Nat.le_of_ble_eq_true rfl) (Nat.le_of_ble_eq_true rfl) (Nat.le_of_ble_eq_true rfl) (uX7_within a2 0 4 m) ?_
    refine s_if_ne eX7_fits_15 (fun h2 => ?_) (fun h2 => ?_)
    · skip
      rw [if_neg h2] at E
      have hD := hD h2
      refine s_iload_n eX7_fits_20 rfl rfl ?_
      refine s_if_eq eX7_fits_21 (fun h3 => ?_) (fun h3 => ?_)
      · skip
        rw [if_pos h3] at E
        have hD := hD.1 h3
        refine s_aload_n eX7_fits_40 rfl rfl ?_
        refine s_iload_n eX7_fits_41 rfl rfl ?_
        obtain ⟨q4, hD⟩ := hD
        refine n_imageAt eX7_fits_42 lX7_274 q4 (Nat.le_of_ble_eq_true rfl) (Nat.le_of_ble_eq_true rfl) (fun h5 => ?_) (fun h5 => ?_)
        · skip
          rw [if_pos h5] at E
          refine s_astoreN (ls' := [some (.ref 0), some (.int a1), some (.int a2), some (.int a3), some (.null)]) eX7_fits_45 rfl rfl ?_
          refine s_aloadN eX7_fits_47 rfl ?_
          refine s_ifnonnullN ⟨eX7_fits_49.1, eX7_fits_49.2.1⟩ ?_
          refine s_bipush (v := (-2)) eX7_fits_52 rfl ?_
          exact s_iret eX7_fits_54 rfl ⟨rfl, by rw [E], by rw [E]⟩
        · skip
          rw [if_neg h5] at E
          have hD := hD h5
          refine ⟨fun h6 => ?_, fun h6 => ?_⟩
          · skip
            rw [if_pos h6] at E
            have hD := hD.1 h6
            refine s_astore (ls' := [some (.ref 0), some (.int a1), some (.int a2), some (.int a3), some (.ref 20)]) eX7_fits_45 rfl rfl ?_
            refine s_aload eX7_fits_47 rfl ?_
            refine s_ifnonnull eX7_fits_49 ?_
            refine s_aload_n eX7_fits_55 rfl rfl ?_
            refine s_getr (q := 59) eX7_fits_56 fX7_51 shp_0 rfl ?_
            refine s_aload_n eX7_fits_59 rfl rfl ?_
            refine s_getr (q := 1) eX7_fits_60 fX7_10 shp_0 rfl ?_
            refine s_aload eX7_fits_63 rfl ?_
            obtain ⟨q7, hD⟩ := hD
            refine n_callVi (As := []) eX7_fits_65 kX1_standing lX7_235 rfl rfl shp_20 rfl rfl (Nat.le_of_ble_eq_true rfl) (Nat.le_of_ble_eq_true rfl) (Nat.le_of_ble_eq_true rfl) (uX1_standing 20 m isG_20 q7) ?_
            obtain ⟨q8, hD⟩ := hD
            refine n_callVv (As := [.ref 1, .int (F1_standing 20 m)]) eX7_fits_68 kX3_survey lX7_238 rfl rfl shp_59 rfl rfl (Nat.le_of_ble_eq_true rfl) (Nat.le_of_ble_eq_true rfl) (Nat.le_of_ble_eq_true rfl) (uX3_survey 1 (F1_standing 20 m) m isG_1 q8) ?_
            refine s_aload_n eX7_fits_71 rfl rfl ?_
            refine s_getr (q := 59) eX7_fits_72 fX7_51 shp_0 rfl ?_
            refine s_aload_n eX7_fits_75 rfl rfl ?_
            refine s_getr (q := 1) eX7_fits_76 fX7_10 shp_0 rfl ?_
            obtain ⟨q9, hD⟩ := hD
            refine n_callVi (As := []) eX7_fits_79 kX1_standing lX7_235 rfl rfl shp_1 rfl rfl (Nat.le_of_ble_eq_true rfl) (Nat.le_of_ble_eq_true rfl) (Nat.le_of_ble_eq_true rfl) (uX1_standing 1 ((F3_survey 1 (F1_standing 20 m) m)) isG_1 q9) ?_
            refine s_iload_n eX7_fits_82 rfl rfl ?_
            obtain ⟨q10, hD⟩ := hD
            refine n_callVv (As := [.int (F1_standing 1 (F3_survey 1 (F1_standing 20 m) m)), .int a2]) eX7_fits_83 kX3_countRows lX7_278 rfl rfl shp_59 rfl rfl (Nat.le_of_ble_eq_true rfl) (Nat.le_of_ble_eq_true rfl) (Nat.le_of_ble_eq_true rfl) (uX3_countRows (F1_standing 1 (F3_survey 1 (F1_standing 20 m) m)) a2 ((F3_survey 1 (F1_standing 20 m) m)) q10) ?_
            refine cK7_fits_86 a1 a2 a3 ((F3_countRows (F1_standing 1 (F3_survey 1 (F1_standing 20 m) m)) a2 (F3_survey 1 (F1_standing 20 m) m))) hD ?_
            exact ⟨by rw [E], by rw [E]⟩
          · skip
            rw [if_neg h6] at E
            have hD := hD.2 h6
            refine s_astore (ls' := [some (.ref 0), some (.int a1), some (.int a2), some (.int a3), some (.ref 29)]) eX7_fits_45 rfl rfl ?_
            refine s_aload eX7_fits_47 rfl ?_
            refine s_ifnonnull eX7_fits_49 ?_
            refine s_aload_n eX7_fits_55 rfl rfl ?_
            refine s_getr (q := 59) eX7_fits_56 fX7_51 shp_0 rfl ?_
            refine s_aload_n eX7_fits_59 rfl rfl ?_
            refine s_getr (q := 1) eX7_fits_60 fX7_10 shp_0 rfl ?_
            refine s_aload eX7_fits_63 rfl ?_
            obtain ⟨q11, hD⟩ := hD
            refine n_callVi (As := []) eX7_fits_65 kX1_standing lX7_235 rfl rfl shp_29 rfl rfl (Nat.le_of_ble_eq_true rfl) (Nat.le_of_ble_eq_true rfl) (Nat.le_of_ble_eq_true rfl) (uX1_standing 29 m isG_29 q11) ?_
            obtain ⟨q12, hD⟩ := hD
            refine n_callVv (As := [.ref 1, .int (F1_standing 29 m)]) eX7_fits_68 kX3_survey lX7_238 rfl rfl shp_59 rfl rfl (Nat.le_of_ble_eq_true rfl) (Nat.le_of_ble_eq_true rfl) (Nat.le_of_ble_eq_true rfl) (uX3_survey 1 (F1_standing 29 m) m isG_1 q12) ?_
            refine s_aload_n eX7_fits_71 rfl rfl ?_
            refine s_getr (q := 59) eX7_fits_72 fX7_51 shp_0 rfl ?_
            refine s_aload_n eX7_fits_75 rfl rfl ?_
            refine s_getr (q := 1) eX7_fits_76 fX7_10 shp_0 rfl ?_
            obtain ⟨q13, hD⟩ := hD
            refine n_callVi (As := []) eX7_fits_79 kX1_standing lX7_235 rfl rfl shp_1 rfl rfl (Nat.le_of_ble_eq_true rfl) (Nat.le_of_ble_eq_true rfl) (Nat.le_of_ble_eq_true rfl) (uX1_standing 1 ((F3_survey 1 (F1_standing 29 m) m)) isG_1 q13) ?_
            refine s_iload_n eX7_fits_82 rfl rfl ?_
            obtain ⟨q14, hD⟩ := hD
            refine n_callVv (As := [.int (F1_standing 1 (F3_survey 1 (F1_standing 29 m) m)), .int a2]) eX7_fits_83 kX3_countRows lX7_278 rfl rfl shp_59 rfl rfl (Nat.le_of_ble_eq_true rfl) (Nat.le_of_ble_eq_true rfl) (Nat.le_of_ble_eq_true rfl) (uX3_countRows (F1_standing 1 (F3_survey 1 (F1_standing 29 m) m)) a2 ((F3_survey 1 (F1_standing 29 m) m)) q14) ?_
            refine cK7_fits_86_1 a1 a2 a3 ((F3_countRows (F1_standing 1 (F3_survey 1 (F1_standing 29 m) m)) a2 (F3_survey 1 (F1_standing 29 m) m))) hD ?_
            exact ⟨by rw [E], by rw [E]⟩
      · skip
        rw [if_neg h3] at E
        have hD := hD.2 h3
        refine s_iload_n eX7_fits_24 rfl rfl ?_
        refine s_bipush (v := 10) eX7_fits_25 rfl ?_
        refine s_icmp_lt eX7_fits_27 (fun h15 => ?_) (fun h15 => ?_)
        · skip
          rw [if_pos h15] at E
          refine s_iconst (v := (-1)) eX7_fits_38 rfl ?_
          exact s_iret eX7_fits_39 rfl ⟨rfl, by rw [E], by rw [E]⟩
        · skip
          rw [if_neg h15] at E
          have hD := hD h15
          refine s_iload_n eX7_fits_30 rfl rfl ?_
          refine s_bipush (v := 10) eX7_fits_31 rfl ?_
          refine s_isub eX7_fits_33 ?_
          refine s_iload_n eX7_fits_34 rfl rfl ?_
          refine s_icmp_lt eX7_fits_35 (fun h16 => ?_) (fun h16 => ?_)
          · skip
            rw [if_pos h16] at E
            have hD := hD h16
            refine s_aload_n eX7_fits_40 rfl rfl ?_
            refine s_iload_n eX7_fits_41 rfl rfl ?_
            obtain ⟨q17, hD⟩ := hD
            refine n_imageAt eX7_fits_42 lX7_274 q17 (Nat.le_of_ble_eq_true rfl) (Nat.le_of_ble_eq_true rfl) (fun h18 => ?_) (fun h18 => ?_)
            · skip
              rw [if_pos h18] at E
              refine s_astoreN (ls' := [some (.ref 0), some (.int a1), some (.int a2), some (.int a3), some (.null)]) eX7_fits_45 rfl rfl ?_
              refine s_aloadN eX7_fits_47 rfl ?_
              refine s_ifnonnullN ⟨eX7_fits_49.1, eX7_fits_49.2.1⟩ ?_
              refine s_bipush (v := (-2)) eX7_fits_52 rfl ?_
              exact s_iret eX7_fits_54 rfl ⟨rfl, by rw [E], by rw [E]⟩
            · skip
              rw [if_neg h18] at E
              have hD := hD h18
              refine ⟨fun h19 => ?_, fun h19 => ?_⟩
              · skip
                rw [if_pos h19] at E
                have hD := hD.1 h19
                refine s_astore (ls' := [some (.ref 0), some (.int a1), some (.int a2), some (.int a3), some (.ref 20)]) eX7_fits_45 rfl rfl ?_
                refine s_aload eX7_fits_47 rfl ?_
                refine s_ifnonnull eX7_fits_49 ?_
                refine s_aload_n eX7_fits_55 rfl rfl ?_
                refine s_getr (q := 59) eX7_fits_56 fX7_51 shp_0 rfl ?_
                refine s_aload_n eX7_fits_59 rfl rfl ?_
                refine s_getr (q := 1) eX7_fits_60 fX7_10 shp_0 rfl ?_
                refine s_aload eX7_fits_63 rfl ?_
                obtain ⟨q20, hD⟩ := hD
                refine n_callVi (As := []) eX7_fits_65 kX1_standing lX7_235 rfl rfl shp_20 rfl rfl (Nat.le_of_ble_eq_true rfl) (Nat.le_of_ble_eq_true rfl) (Nat.le_of_ble_eq_true rfl) (uX1_standing 20 m isG_20 q20) ?_
                obtain ⟨q21, hD⟩ := hD
                refine n_callVv (As := [.ref 1, .int (F1_standing 20 m)]) eX7_fits_68 kX3_survey lX7_238 rfl rfl shp_59 rfl rfl (Nat.le_of_ble_eq_true rfl) (Nat.le_of_ble_eq_true rfl) (Nat.le_of_ble_eq_true rfl) (uX3_survey 1 (F1_standing 20 m) m isG_1 q21) ?_
                refine s_aload_n eX7_fits_71 rfl rfl ?_
                refine s_getr (q := 59) eX7_fits_72 fX7_51 shp_0 rfl ?_
                refine s_aload_n eX7_fits_75 rfl rfl ?_
                refine s_getr (q := 1) eX7_fits_76 fX7_10 shp_0 rfl ?_
                obtain ⟨q22, hD⟩ := hD
                refine n_callVi (As := []) eX7_fits_79 kX1_standing lX7_235 rfl rfl shp_1 rfl rfl (Nat.le_of_ble_eq_true rfl) (Nat.le_of_ble_eq_true rfl) (Nat.le_of_ble_eq_true rfl) (uX1_standing 1 ((F3_survey 1 (F1_standing 20 m) m)) isG_1 q22) ?_
                refine s_iload_n eX7_fits_82 rfl rfl ?_
                obtain ⟨q23, hD⟩ := hD
                refine n_callVv (As := [.int (F1_standing 1 (F3_survey 1 (F1_standing 20 m) m)), .int a2]) eX7_fits_83 kX3_countRows lX7_278 rfl rfl shp_59 rfl rfl (Nat.le_of_ble_eq_true rfl) (Nat.le_of_ble_eq_true rfl) (Nat.le_of_ble_eq_true rfl) (uX3_countRows (F1_standing 1 (F3_survey 1 (F1_standing 20 m) m)) a2 ((F3_survey 1 (F1_standing 20 m) m)) q23) ?_
                refine cK7_fits_86 a1 a2 a3 ((F3_countRows (F1_standing 1 (F3_survey 1 (F1_standing 20 m) m)) a2 (F3_survey 1 (F1_standing 20 m) m))) hD ?_
                exact ⟨by rw [E], by rw [E]⟩
              · skip
                rw [if_neg h19] at E
                have hD := hD.2 h19
                refine s_astore (ls' := [some (.ref 0), some (.int a1), some (.int a2), some (.int a3), some (.ref 29)]) eX7_fits_45 rfl rfl ?_
                refine s_aload eX7_fits_47 rfl ?_
                refine s_ifnonnull eX7_fits_49 ?_
                refine s_aload_n eX7_fits_55 rfl rfl ?_
                refine s_getr (q := 59) eX7_fits_56 fX7_51 shp_0 rfl ?_
                refine s_aload_n eX7_fits_59 rfl rfl ?_
                refine s_getr (q := 1) eX7_fits_60 fX7_10 shp_0 rfl ?_
                refine s_aload eX7_fits_63 rfl ?_
                obtain ⟨q24, hD⟩ := hD
                refine n_callVi (As := []) eX7_fits_65 kX1_standing lX7_235 rfl rfl shp_29 rfl rfl (Nat.le_of_ble_eq_true rfl) (Nat.le_of_ble_eq_true rfl) (Nat.le_of_ble_eq_true rfl) (uX1_standing 29 m isG_29 q24) ?_
                obtain ⟨q25, hD⟩ := hD
                refine n_callVv (As := [.ref 1, .int (F1_standing 29 m)]) eX7_fits_68 kX3_survey lX7_238 rfl rfl shp_59 rfl rfl (Nat.le_of_ble_eq_true rfl) (Nat.le_of_ble_eq_true rfl) (Nat.le_of_ble_eq_true rfl) (uX3_survey 1 (F1_standing 29 m) m isG_1 q25) ?_
                refine s_aload_n eX7_fits_71 rfl rfl ?_
                refine s_getr (q := 59) eX7_fits_72 fX7_51 shp_0 rfl ?_
                refine s_aload_n eX7_fits_75 rfl rfl ?_
                refine s_getr (q := 1) eX7_fits_76 fX7_10 shp_0 rfl ?_
                obtain ⟨q26, hD⟩ := hD
                refine n_callVi (As := []) eX7_fits_79 kX1_standing lX7_235 rfl rfl shp_1 rfl rfl (Nat.le_of_ble_eq_true rfl) (Nat.le_of_ble_eq_true rfl) (Nat.le_of_ble_eq_true rfl) (uX1_standing 1 ((F3_survey 1 (F1_standing 29 m) m)) isG_1 q26) ?_
                refine s_iload_n eX7_fits_82 rfl rfl ?_
                obtain ⟨q27, hD⟩ := hD
                refine n_callVv (As := [.int (F1_standing 1 (F3_survey 1 (F1_standing 29 m) m)), .int a2]) eX7_fits_83 kX3_countRows lX7_278 rfl rfl shp_59 rfl rfl (Nat.le_of_ble_eq_true rfl) (Nat.le_of_ble_eq_true rfl) (Nat.le_of_ble_eq_true rfl) (uX3_countRows (F1_standing 1 (F3_survey 1 (F1_standing 29 m) m)) a2 ((F3_survey 1 (F1_standing 29 m) m)) q27) ?_
                refine cK7_fits_86_1 a1 a2 a3 ((F3_countRows (F1_standing 1 (F3_survey 1 (F1_standing 29 m) m)) a2 (F3_survey 1 (F1_standing 29 m) m))) hD ?_
                exact ⟨by rw [E], by rw [E]⟩
          · skip
            rw [if_neg h16] at E
            refine s_iconst (v := (-1)) eX7_fits_38 rfl ?_
            exact s_iret eX7_fits_39 rfl ⟨rfl, by rw [E], by rw [E]⟩
    · skip
      rw [if_pos h2] at E
      refine s_iconst (v := (-1)) eX7_fits_18 rfl ?_
      exact s_iret eX7_fits_19 rfl ⟨rfl, by rw [E], by rw [E]⟩
theorem uX7_nextSeed (a0 : Int32) (m : ax_M) : ax_NM 0 Y7_nextSeed [.int a0] m (fun r m1 => r = some (.int (F7_nextSeed a0 m)) ∧ m1 = m) := by
  have E : F7_nextSeed a0 m = ((a0 * 1103515245) + 12345) := rfl
  show ax_N 0 Y7_nextSeed 0 [some (.int a0)] [] m _
  refine s_iload_n eX7_nextSeed_0 rfl rfl ?_
  refine s_ldcw eX7_nextSeed_1 qX7_296 ?_
  refine s_imul eX7_nextSeed_4 ?_
  refine s_sipush (v := 12345) eX7_nextSeed_5 rfl ?_
  refine s_iadd eX7_nextSeed_8 ?_
  exact s_iret eX7_nextSeed_9 rfl ⟨rfl, by rw [E], rfl⟩
theorem uX7_drawn (a0 : Int32) (a1 : Int32) (m : ax_M) (hD : D7_drawn a0 a1 m) : ax_NM 0 Y7_drawn [.int a0, .int a1] m (fun r m1 => r = some (.int (F7_drawn a0 a1 m)) ∧ m1 = m) := by
  have E : F7_drawn a0 a1 m = (if a1 ≤ 0 then 0 else ((((Int32.toUInt32 a0 >>> (Int32.toUInt32 16 &&& Int32.toUInt32 31)).toInt32) &&& 32767) - (((Int32.toUInt32 a0 >>> (Int32.toUInt32 16 &&& Int32.toUInt32 31)).toInt32) &&& 32767) / a1 * a1)) := rfl
  unfold D7_drawn at hD
  show ax_N 0 Y7_drawn 0 [some (.int a0), some (.int a1)] [] m _
  refine s_iload_n eX7_drawn_0 rfl rfl ?_
  refine s_if_le eX7_drawn_1 (fun h1 => ?_) (fun h1 => ?_)
  · skip
    rw [if_pos h1] at E
    refine s_iconst (v := 0) eX7_drawn_17 rfl ?_
    exact s_iret eX7_drawn_18 rfl ⟨rfl, by rw [E], rfl⟩
  · skip
    rw [if_neg h1] at E
    have hD := hD h1
    refine s_iload_n eX7_drawn_4 rfl rfl ?_
    refine s_bipush (v := 16) eX7_drawn_5 rfl ?_
    refine s_iushr eX7_drawn_7 ?_
    refine s_sipush (v := 32767) eX7_drawn_8 rfl ?_
    refine s_iand eX7_drawn_11 ?_
    refine s_iload_n eX7_drawn_12 rfl rfl ?_
    have q2 := hD
    refine s_irem eX7_drawn_13 q2 ?_
    refine s_goto eX7_drawn_14 ?_
    exact s_iret eX7_drawn_18 rfl ⟨rfl, by rw [E], rfl⟩
theorem clX7_season_64 {P : Option Value → ax_M → Prop} : ∀ (n : Nat) (v1 v2 v3 v4 v5 v6 : Int32) (m : ax_M), E7_season_64 n v1 v2 v3 v4 v5 v6 m → (ax_N 6 Y7_season 158 [some (.ref 0), some (.int v1), some (.int v2), some (.int v3), some (.int ((L7_season_64 n v1 v2 v3 v4 v5 v6 m).1)), some (.int ((L7_season_64 n v1 v2 v3 v4 v5 v6 m).2.1)), some (.int ((L7_season_64 n v1 v2 v3 v4 v5 v6 m).2.2.1)), none, none, none] [] ((L7_season_64 n v1 v2 v3 v4 v5 v6 m).2.2.2) P) → ax_N 6 Y7_season 64 [some (.ref 0), some (.int v1), some (.int v2), some (.int v3), some (.int v4), some (.int v5), some (.int v6), none, none, none] [] m P := by
  intro n
  induction n with
  | zero => intro v1 v2 v3 v4 v5 v6 m hD; exact absurd hD id
  | succ n ih =>
    intro v1 v2 v3 v4 v5 v6 m hD hx
    have E : L7_season_64 (n + 1) v1 v2 v3 v4 v5 v6 m = (if v2 ≤ v6 then (v4, v5, v6, m) else L7_season_64 n v1 v2 v3 (if ((F1_passesAndGoes 10 (F7_drawn (F7_nextSeed v5 m) (m 1 1) m) (F7_drawn (F7_nextSeed (F7_nextSeed v5 m) m) (m 1 2) m) (F7_drawn (F7_nextSeed (F7_nextSeed (F7_nextSeed v5 m) m) m) (m 1 2) m) m).1) = 0 then (v4 : Int32) else v4 + 1) (F7_nextSeed (F7_nextSeed (F7_nextSeed v5 m) m) m) (v6 + 1) (F1_passesAndGoes 10 (F7_drawn (F7_nextSeed v5 m) (m 1 1) m) (F7_drawn (F7_nextSeed (F7_nextSeed v5 m) m) (m 1 2) m) (F7_drawn (F7_nextSeed (F7_nextSeed (F7_nextSeed v5 m) m) m) (m 1 2) m) m).2) := by rw [L7_season_64]
    have hD : ((¬ (v2 ≤ v6) → ((D7_drawn (F7_nextSeed v5 m) (m 1 1) m) ∧ (D7_drawn (F7_nextSeed (F7_nextSeed v5 m) m) (m 1 2) m) ∧ (D7_drawn (F7_nextSeed (F7_nextSeed (F7_nextSeed v5 m) m) m) (m 1 2) m) ∧ (E7_season_64 n v1 v2 v3 (if ((F1_passesAndGoes 10 (F7_drawn (F7_nextSeed v5 m) (m 1 1) m) (F7_drawn (F7_nextSeed (F7_nextSeed v5 m) m) (m 1 2) m) (F7_drawn (F7_nextSeed (F7_nextSeed (F7_nextSeed v5 m) m) m) (m 1 2) m) m).1) = 0 then (v4 : Int32) else v4 + 1) (F7_nextSeed (F7_nextSeed (F7_nextSeed v5 m) m) m) (v6 + 1) (F1_passesAndGoes 10 (F7_drawn (F7_nextSeed v5 m) (m 1 1) m) (F7_drawn (F7_nextSeed (F7_nextSeed v5 m) m) (m 1 2) m) (F7_drawn (F7_nextSeed (F7_nextSeed (F7_nextSeed v5 m) m) m) (m 1 2) m) m).2)))) := hD
    refine s_iload eX7_season_64 rfl ?_
    refine s_iload_n eX7_season_66 rfl rfl ?_
    refine s_icmp_ge eX7_season_67 (fun h1 => ?_) (fun h1 => ?_)
    · skip
      rw [if_pos h1] at E
      rw [E] at hx
      exact hx
    · skip
      rw [if_neg h1] at E
      have hD := hD h1
      refine s_iload eX7_season_70 rfl ?_
      refine n_callSi (As := [.int v5]) eX7_season_72 kX7_nextSeed lX7_287 rfl rfl (Nat.le_of_ble_eq_true rfl) (Nat.le_of_ble_eq_true rfl) (Nat.le_of_ble_eq_true rfl) (uX7_nextSeed v5 m) ?_
      refine s_istore (ls' := [some (.ref 0), some (.int v1), some (.int v2), some (.int v3), some (.int v4), some (.int (F7_nextSeed v5 m)), some (.int v6), none, none, none]) eX7_season_75 rfl rfl ?_
      refine s_iload eX7_season_77 rfl ?_
      refine s_aload_n eX7_season_79 rfl rfl ?_
      refine s_getr (q := 1) eX7_season_80 fX7_10 shp_0 rfl ?_
      refine s_geti eX7_season_83 fX7_109 shp_1 rfl ?_
      obtain ⟨q2, hD⟩ := hD
      refine n_callSi (As := [.int (F7_nextSeed v5 m), .int (m 1 1)]) eX7_season_86 kX7_drawn lX7_290 rfl rfl (Nat.le_of_ble_eq_true rfl) (Nat.le_of_ble_eq_true rfl) (Nat.le_of_ble_eq_true rfl) (uX7_drawn (F7_nextSeed v5 m) (m 1 1) m q2) ?_
      refine s_istore (ls' := [some (.ref 0), some (.int v1), some (.int v2), some (.int v3), some (.int v4), some (.int (F7_nextSeed v5 m)), some (.int v6), some (.int (F7_drawn (F7_nextSeed v5 m) (m 1 1) m)), none, none]) eX7_season_89 rfl rfl ?_
      refine s_iload eX7_season_91 rfl ?_
      refine n_callSi (As := [.int (F7_nextSeed v5 m)]) eX7_season_93 kX7_nextSeed lX7_287 rfl rfl (Nat.le_of_ble_eq_true rfl) (Nat.le_of_ble_eq_true rfl) (Nat.le_of_ble_eq_true rfl) (uX7_nextSeed (F7_nextSeed v5 m) m) ?_
      refine s_istore (ls' := [some (.ref 0), some (.int v1), some (.int v2), some (.int v3), some (.int v4), some (.int (F7_nextSeed (F7_nextSeed v5 m) m)), some (.int v6), some (.int (F7_drawn (F7_nextSeed v5 m) (m 1 1) m)), none, none]) eX7_season_96 rfl rfl ?_
      refine s_iload eX7_season_98 rfl ?_
      refine s_aload_n eX7_season_100 rfl rfl ?_
      refine s_getr (q := 1) eX7_season_101 fX7_10 shp_0 rfl ?_
      refine s_geti eX7_season_104 fX7_112 shp_1 rfl ?_
      obtain ⟨q3, hD⟩ := hD
      refine n_callSi (As := [.int (F7_nextSeed (F7_nextSeed v5 m) m), .int (m 1 2)]) eX7_season_107 kX7_drawn lX7_290 rfl rfl (Nat.le_of_ble_eq_true rfl) (Nat.le_of_ble_eq_true rfl) (Nat.le_of_ble_eq_true rfl) (uX7_drawn (F7_nextSeed (F7_nextSeed v5 m) m) (m 1 2) m q3) ?_
      refine s_istore (ls' := [some (.ref 0), some (.int v1), some (.int v2), some (.int v3), some (.int v4), some (.int (F7_nextSeed (F7_nextSeed v5 m) m)), some (.int v6), some (.int (F7_drawn (F7_nextSeed v5 m) (m 1 1) m)), some (.int (F7_drawn (F7_nextSeed (F7_nextSeed v5 m) m) (m 1 2) m)), none]) eX7_season_110 rfl rfl ?_
      refine s_iload eX7_season_112 rfl ?_
      refine n_callSi (As := [.int (F7_nextSeed (F7_nextSeed v5 m) m)]) eX7_season_114 kX7_nextSeed lX7_287 rfl rfl (Nat.le_of_ble_eq_true rfl) (Nat.le_of_ble_eq_true rfl) (Nat.le_of_ble_eq_true rfl) (uX7_nextSeed (F7_nextSeed (F7_nextSeed v5 m) m) m) ?_
      refine s_istore (ls' := [some (.ref 0), some (.int v1), some (.int v2), some (.int v3), some (.int v4), some (.int (F7_nextSeed (F7_nextSeed (F7_nextSeed v5 m) m) m)), some (.int v6), some (.int (F7_drawn (F7_nextSeed v5 m) (m 1 1) m)), some (.int (F7_drawn (F7_nextSeed (F7_nextSeed v5 m) m) (m 1 2) m)), none]) eX7_season_117 rfl rfl ?_
      refine s_iload eX7_season_119 rfl ?_
      refine s_aload_n eX7_season_121 rfl rfl ?_
      refine s_getr (q := 1) eX7_season_122 fX7_10 shp_0 rfl ?_
      refine s_geti eX7_season_125 fX7_112 shp_1 rfl ?_
      obtain ⟨q4, hD⟩ := hD
      refine n_callSi (As := [.int (F7_nextSeed (F7_nextSeed (F7_nextSeed v5 m) m) m), .int (m 1 2)]) eX7_season_128 kX7_drawn lX7_290 rfl rfl (Nat.le_of_ble_eq_true rfl) (Nat.le_of_ble_eq_true rfl) (Nat.le_of_ble_eq_true rfl) (uX7_drawn (F7_nextSeed (F7_nextSeed (F7_nextSeed v5 m) m) m) (m 1 2) m q4) ?_
      refine s_istore (ls' := [some (.ref 0), some (.int v1), some (.int v2), some (.int v3), some (.int v4), some (.int (F7_nextSeed (F7_nextSeed (F7_nextSeed v5 m) m) m)), some (.int v6), some (.int (F7_drawn (F7_nextSeed v5 m) (m 1 1) m)), some (.int (F7_drawn (F7_nextSeed (F7_nextSeed v5 m) m) (m 1 2) m)), some (.int (F7_drawn (F7_nextSeed (F7_nextSeed (F7_nextSeed v5 m) m) m) (m 1 2) m))]) eX7_season_131 rfl rfl ?_
      refine s_aload_n eX7_season_133 rfl rfl ?_
      refine s_getr (q := 10) eX7_season_134 fX7_16 shp_0 rfl ?_
      refine s_iload eX7_season_137 rfl ?_
      refine s_iload eX7_season_139 rfl ?_
      refine s_iload eX7_season_141 rfl ?_
      refine n_callVi (As := [.int (F7_drawn (F7_nextSeed v5 m) (m 1 1) m), .int (F7_drawn (F7_nextSeed (F7_nextSeed v5 m) m) (m 1 2) m), .int (F7_drawn (F7_nextSeed (F7_nextSeed (F7_nextSeed v5 m) m) m) (m 1 2) m)]) eX7_season_143 kX1_passesAndGoes lX7_271 rfl rfl shp_10 rfl rfl (Nat.le_of_ble_eq_true rfl) (Nat.le_of_ble_eq_true rfl) (Nat.le_of_ble_eq_true rfl) (uX1_passesAndGoes 10 (F7_drawn (F7_nextSeed v5 m) (m 1 1) m) (F7_drawn (F7_nextSeed (F7_nextSeed v5 m) m) (m 1 2) m) (F7_drawn (F7_nextSeed (F7_nextSeed (F7_nextSeed v5 m) m) m) (m 1 2) m) m isG_10) ?_
      have J5 : ax_N 6 Y7_season 152 [some (.ref 0), some (.int v1), some (.int v2), some (.int v3), some (.int (if ((F1_passesAndGoes 10 (F7_drawn (F7_nextSeed v5 m) (m 1 1) m) (F7_drawn (F7_nextSeed (F7_nextSeed v5 m) m) (m 1 2) m) (F7_drawn (F7_nextSeed (F7_nextSeed (F7_nextSeed v5 m) m) m) (m 1 2) m) m).1) = 0 then (v4 : Int32) else v4 + 1)), some (.int (F7_nextSeed (F7_nextSeed (F7_nextSeed v5 m) m) m)), some (.int v6), some (.int (F7_drawn (F7_nextSeed v5 m) (m 1 1) m)), some (.int (F7_drawn (F7_nextSeed (F7_nextSeed v5 m) m) (m 1 2) m)), some (.int (F7_drawn (F7_nextSeed (F7_nextSeed (F7_nextSeed v5 m) m) m) (m 1 2) m))] [] ((F1_passesAndGoes 10 (F7_drawn (F7_nextSeed v5 m) (m 1 1) m) (F7_drawn (F7_nextSeed (F7_nextSeed v5 m) m) (m 1 2) m) (F7_drawn (F7_nextSeed (F7_nextSeed (F7_nextSeed v5 m) m) m) (m 1 2) m) m).2) P := by
        refine s_iinc (v := v6 + 1) (ls' := [some (.ref 0), some (.int v1), some (.int v2), some (.int v3), some (.int (if ((F1_passesAndGoes 10 (F7_drawn (F7_nextSeed v5 m) (m 1 1) m) (F7_drawn (F7_nextSeed (F7_nextSeed v5 m) m) (m 1 2) m) (F7_drawn (F7_nextSeed (F7_nextSeed (F7_nextSeed v5 m) m) m) (m 1 2) m) m).1) = 0 then (v4 : Int32) else v4 + 1)), some (.int (F7_nextSeed (F7_nextSeed (F7_nextSeed v5 m) m) m)), some (.int (v6 + 1)), some (.int (F7_drawn (F7_nextSeed v5 m) (m 1 1) m)), some (.int (F7_drawn (F7_nextSeed (F7_nextSeed v5 m) m) (m 1 2) m)), some (.int (F7_drawn (F7_nextSeed (F7_nextSeed (F7_nextSeed v5 m) m) m) (m 1 2) m))]) eX7_season_152 rfl rfl rfl rfl ?_
        refine s_goto eX7_season_155 ?_
        refine ax_forget (ls' := [some (.ref 0), some (.int v1), some (.int v2), some (.int v3), some (.int (if ((F1_passesAndGoes 10 (F7_drawn (F7_nextSeed v5 m) (m 1 1) m) (F7_drawn (F7_nextSeed (F7_nextSeed v5 m) m) (m 1 2) m) (F7_drawn (F7_nextSeed (F7_nextSeed (F7_nextSeed v5 m) m) m) (m 1 2) m) m).1) = 0 then (v4 : Int32) else v4 + 1)), some (.int (F7_nextSeed (F7_nextSeed (F7_nextSeed v5 m) m) m)), some (.int (v6 + 1)), none, none, none]) rfl ?_
        rw [E] at hx
        exact ih v1 v2 v3 (if ((F1_passesAndGoes 10 (F7_drawn (F7_nextSeed v5 m) (m 1 1) m) (F7_drawn (F7_nextSeed (F7_nextSeed v5 m) m) (m 1 2) m) (F7_drawn (F7_nextSeed (F7_nextSeed (F7_nextSeed v5 m) m) m) (m 1 2) m) m).1) = 0 then (v4 : Int32) else v4 + 1) (F7_nextSeed (F7_nextSeed (F7_nextSeed v5 m) m) m) (v6 + 1) ((F1_passesAndGoes 10 (F7_drawn (F7_nextSeed v5 m) (m 1 1) m) (F7_drawn (F7_nextSeed (F7_nextSeed v5 m) m) (m 1 2) m) (F7_drawn (F7_nextSeed (F7_nextSeed (F7_nextSeed v5 m) m) m) (m 1 2) m) m).2) hD hx
      refine s_if_eq eX7_season_146 (fun h6 => ?_) (fun h6 => ?_)
      · skip
        exact ax_eqN (by rw [show (if ((F1_passesAndGoes 10 (F7_drawn (F7_nextSeed v5 m) (m 1 1) m) (F7_drawn (F7_nextSeed (F7_nextSeed v5 m) m) (m 1 2) m) (F7_drawn (F7_nextSeed (F7_nextSeed (F7_nextSeed v5 m) m) m) (m 1 2) m) m).1) = 0 then (v4 : Int32) else v4 + 1 : Int32) = v4 by rw [if_pos h6]]) rfl rfl J5
      · skip
        refine s_iinc (v := v4 + 1) (ls' := [some (.ref 0), some (.int v1), some (.int v2), some (.int v3), some (.int (v4 + 1)), some (.int (F7_nextSeed (F7_nextSeed (F7_nextSeed v5 m) m) m)), some (.int v6), some (.int (F7_drawn (F7_nextSeed v5 m) (m 1 1) m)), some (.int (F7_drawn (F7_nextSeed (F7_nextSeed v5 m) m) (m 1 2) m)), some (.int (F7_drawn (F7_nextSeed (F7_nextSeed (F7_nextSeed v5 m) m) m) (m 1 2) m))]) eX7_season_149 rfl rfl rfl rfl ?_
        exact ax_eqN (by rw [show (if ((F1_passesAndGoes 10 (F7_drawn (F7_nextSeed v5 m) (m 1 1) m) (F7_drawn (F7_nextSeed (F7_nextSeed v5 m) m) (m 1 2) m) (F7_drawn (F7_nextSeed (F7_nextSeed (F7_nextSeed v5 m) m) m) (m 1 2) m) m).1) = 0 then (v4 : Int32) else v4 + 1 : Int32) = v4 + 1 by rw [if_neg h6]]) rfl rfl J5
theorem cK7_season_158 (v1 v2 v3 v4 v5 v6 : Int32) (m : ax_M) {P : Option Value → ax_M → Prop} (hD : HK7_season_158 v1 v2 v3 v4 v5 v6 m) (hP : P (some (.int (K7_season_158 v1 v2 v3 v4 v5 v6 m).1)) (K7_season_158 v1 v2 v3 v4 v5 v6 m).2) : ax_N 6 Y7_season 158 [some (.ref 0), some (.int v1), some (.int v2), some (.int v3), some (.int v4), some (.int v5), some (.int v6), none, none, none] [] m P := by
  have E : K7_season_158 v1 v2 v3 v4 v5 v6 m = (if v3 = 0 then (v4, m) else (F1_atGoals 10 m, m)) := rfl
  unfold HK7_season_158 at hD
  refine s_iload_n eX7_season_158 rfl rfl ?_
  refine s_if_ne eX7_season_159 (fun h1 => ?_) (fun h1 => ?_)
  · skip
    rw [if_neg h1] at E
    have hD := hD h1
    refine s_aload_n eX7_season_167 rfl rfl ?_
    refine s_getr (q := 10) eX7_season_168 fX7_16 shp_0 rfl ?_
    have q2 := hD
    refine n_callVi (As := []) eX7_season_171 kX1_atGoals lX7_293 rfl rfl shp_10 rfl rfl (Nat.le_of_ble_eq_true rfl) (Nat.le_of_ble_eq_true rfl) (Nat.le_of_ble_eq_true rfl) (uX1_atGoals 10 m isG_10 q2) ?_
    rw [E] at hP
    exact s_iret eX7_season_174 rfl ⟨rfl, hP⟩
  · skip
    rw [if_pos h1] at E
    refine s_iload eX7_season_162 rfl ?_
    refine s_goto eX7_season_164 ?_
    rw [E] at hP
    exact s_iret eX7_season_174 rfl ⟨rfl, hP⟩
theorem uX7_season (a1 : Int32) (a2 : Int32) (a3 : Int32) (m : ax_M) (hD : D7_season a1 a2 a3 m) : ax_NM 6 Y7_season [.ref 0, .int a1, .int a2, .int a3] m (fun r m1 => r = some (.int (F7_season a1 a2 a3 m).1) ∧ m1 = (F7_season a1 a2 a3 m).2) := by
  have E : F7_season a1 a2 a3 m = (if (F7_within a2 1 100 m) = 0 then ((-1), m) else (if (F7_within a3 0 1 m) = 0 then ((-1), m) else (if (m 1 1) ≤ 0 then ((-2), m) else (if 0 < (m 1 2) then (K7_season_158 a1 a2 a3 ((L7_season_64 130 a1 a2 a3 0 a1 0 (F1_copyFrom 10 1 m)).1) ((L7_season_64 130 a1 a2 a3 0 a1 0 (F1_copyFrom 10 1 m)).2.1) ((L7_season_64 130 a1 a2 a3 0 a1 0 (F1_copyFrom 10 1 m)).2.2.1) (L7_season_64 130 a1 a2 a3 0 a1 0 (F1_copyFrom 10 1 m)).2.2.2) else ((-2), m))))) := rfl
  unfold D7_season at hD
  show ax_N 6 Y7_season 0 [some (.ref 0), some (.int a1), some (.int a2), some (.int a3), none, none, none, none, none, none] [] m _
  refine s_iload_n eX7_season_0 rfl rfl ?_
  refine s_iconst (v := 1) eX7_season_1 rfl ?_
  refine s_bipush (v := 100) eX7_season_2 rfl ?_
  refine n_callSi (As := [.int a2, .int 1, .int 100]) eX7_season_4 kX7_within lX7_76 rfl rfl (Nat.le_of_ble_eq_true rfl) (Nat.le_of_ble_eq_true rfl) (Nat.le_of_ble_eq_true rfl) (uX7_within a2 1 100 m) ?_
  refine s_if_eq eX7_season_7 (fun h1 => ?_) (fun h1 => ?_)
  · skip
    rw [if_pos h1] at E
    refine s_iconst (v := (-1)) eX7_season_19 rfl ?_
    exact s_iret eX7_season_20 rfl ⟨rfl, by rw [E], by rw [E]⟩
  · skip
    rw [if_neg h1] at E
    have hD := hD h1
    refine s_iload_n eX7_season_10 rfl rfl ?_
    refine s_iconst (v := 0) eX7_season_11 rfl ?_
    refine s_iconst (v := 1) eX7_season_12 rfl ?_
    refine n_callSi (As := [.int a3, .int 0, .int 1]) eX7_season_13 kX7_within lX7_76 rfl rfl (Nat.le_of_ble_eq_true rfl) (Nat.le_of_ble_eq_true rfl) (Nat.le_of_ble_eq_true rfl) (uX7_within a3 0 1 m) ?_
    refine s_if_ne eX7_season_16 (fun h2 => ?_) (fun h2 => ?_)
    · skip
      rw [if_neg h2] at E
      have hD := hD h2
      refine s_aload_n eX7_season_21 rfl rfl ?_
      refine s_getr (q := 1) eX7_season_22 fX7_10 shp_0 rfl ?_
      refine s_geti eX7_season_25 fX7_109 shp_1 rfl ?_
      refine s_if_le eX7_season_28 (fun h3 => ?_) (fun h3 => ?_)
      · skip
        rw [if_pos h3] at E
        refine s_bipush (v := (-2)) eX7_season_41 rfl ?_
        exact s_iret eX7_season_43 rfl ⟨rfl, by rw [E], by rw [E]⟩
      · skip
        rw [if_neg h3] at E
        have hD := hD h3
        refine s_aload_n eX7_season_31 rfl rfl ?_
        refine s_getr (q := 1) eX7_season_32 fX7_10 shp_0 rfl ?_
        refine s_geti eX7_season_35 fX7_112 shp_1 rfl ?_
        refine s_if_gt eX7_season_38 (fun h4 => ?_) (fun h4 => ?_)
        · skip
          rw [if_pos h4] at E
          have hD := hD h4
          refine s_aload_n eX7_season_44 rfl rfl ?_
          refine s_getr (q := 10) eX7_season_45 fX7_16 shp_0 rfl ?_
          refine s_aload_n eX7_season_48 rfl rfl ?_
          refine s_getr (q := 1) eX7_season_49 fX7_10 shp_0 rfl ?_
          refine n_callVv (As := [.ref 1]) eX7_season_52 kX1_copyFrom lX7_96 rfl rfl shp_10 rfl rfl (Nat.le_of_ble_eq_true rfl) (Nat.le_of_ble_eq_true rfl) (Nat.le_of_ble_eq_true rfl) (uX1_copyFrom 10 1 m isG_10 isG_1) ?_
          refine s_iconst (v := 0) eX7_season_55 rfl ?_
          refine s_istore (ls' := [some (.ref 0), some (.int a1), some (.int a2), some (.int a3), some (.int 0), none, none, none, none, none]) eX7_season_56 rfl rfl ?_
          refine s_iload_n eX7_season_58 rfl rfl ?_
          refine s_istore (ls' := [some (.ref 0), some (.int a1), some (.int a2), some (.int a3), some (.int 0), some (.int a1), none, none, none, none]) eX7_season_59 rfl rfl ?_
          refine s_iconst (v := 0) eX7_season_61 rfl ?_
          refine s_istore (ls' := [some (.ref 0), some (.int a1), some (.int a2), some (.int a3), some (.int 0), some (.int a1), some (.int 0), none, none, none]) eX7_season_62 rfl rfl ?_
          obtain ⟨q5, hD⟩ := hD
          refine clX7_season_64 130 a1 a2 a3 0 a1 0 ((F1_copyFrom 10 1 m)) q5 ?_
          refine cK7_season_158 a1 a2 a3 ((L7_season_64 130 a1 a2 a3 0 a1 0 (F1_copyFrom 10 1 m)).1) ((L7_season_64 130 a1 a2 a3 0 a1 0 (F1_copyFrom 10 1 m)).2.1) ((L7_season_64 130 a1 a2 a3 0 a1 0 (F1_copyFrom 10 1 m)).2.2.1) ((L7_season_64 130 a1 a2 a3 0 a1 0 (F1_copyFrom 10 1 m)).2.2.2) hD ?_
          exact ⟨by rw [E], by rw [E]⟩
        · skip
          rw [if_neg h4] at E
          refine s_bipush (v := (-2)) eX7_season_41 rfl ?_
          exact s_iret eX7_season_43 rfl ⟨rfl, by rw [E], by rw [E]⟩
    · skip
      rw [if_pos h2] at E
      refine s_iconst (v := (-1)) eX7_season_19 rfl ?_
      exact s_iret eX7_season_20 rfl ⟨rfl, by rw [E], by rw [E]⟩
theorem cK7_keep_72 (v1 v2 : Int32) (m : ax_M) {P : Option Value → ax_M → Prop} (hP : P (some (.int (K7_keep_72 v1 v2 m).1)) (K7_keep_72 v1 v2 m).2) : ax_N 3 Y7_keep 72 [some (.ref 0), some (.int v1), some (.int v2)] [] m P := by
  have E : K7_keep_72 v1 v2 m = (v2, m) := rfl
  refine s_iload_n eX7_keep_72 rfl rfl ?_
  rw [E] at hP
  exact s_iret eX7_keep_73 rfl ⟨rfl, hP⟩
theorem uX7_keep (a1 : Int32) (m : ax_M) (hD : D7_keep a1 m) : ax_NM 3 Y7_keep [.ref 0, .int a1] m (fun r m1 => r = some (.int (F7_keep a1 m).1) ∧ m1 = (F7_keep a1 m).2) := by
  have E : F7_keep a1 m = (if (F7_within a1 0 1 m) = 0 then ((-1), m) else (K7_keep_72 a1 (if (F7_isKept a1 m) = 0 then (0 : Int32) else 1) (if 2 ≤ a1 then m else (if 2 ≤ a1 then m else (if a1 = 0 then (ax_up (F1_copyFrom 20 1 m) 38 (Int32.toNatClampNeg a1) 1) else (ax_up (F1_copyFrom 29 1 m) 38 (Int32.toNatClampNeg a1) 1)))))) := rfl
  unfold D7_keep at hD
  show ax_N 3 Y7_keep 0 [some (.ref 0), some (.int a1), none] [] m _
  refine s_iload_n eX7_keep_0 rfl rfl ?_
  refine s_iconst (v := 0) eX7_keep_1 rfl ?_
  refine s_iconst (v := 1) eX7_keep_2 rfl ?_
  refine n_callSi (As := [.int a1, .int 0, .int 1]) eX7_keep_3 kX7_within lX7_76 rfl rfl (Nat.le_of_ble_eq_true rfl) (Nat.le_of_ble_eq_true rfl) (Nat.le_of_ble_eq_true rfl) (uX7_within a1 0 1 m) ?_
  refine s_if_ne eX7_keep_6 (fun h1 => ?_) (fun h1 => ?_)
  · skip
    rw [if_neg h1] at E
    have hD := hD h1
    refine s_aload_n eX7_keep_11 rfl rfl ?_
    refine s_iload_n eX7_keep_12 rfl rfl ?_
    obtain ⟨q2, hD⟩ := hD
    refine n_callVi (As := [.int a1]) eX7_keep_13 kX7_isKept lX7_297 rfl rfl shp_0 rfl rfl (Nat.le_of_ble_eq_true rfl) (Nat.le_of_ble_eq_true rfl) (Nat.le_of_ble_eq_true rfl) (uX7_isKept a1 m q2) ?_
    have J3 : ax_N 3 Y7_keep 24 [some (.ref 0), some (.int a1), none] [.int (if (F7_isKept a1 m) = 0 then (0 : Int32) else 1)] m (fun r m1 => r = some (.int (F7_keep a1 m).1) ∧ m1 = (F7_keep a1 m).2) := by
      refine s_istore_n (ls' := [some (.ref 0), some (.int a1), some (.int (if (F7_isKept a1 m) = 0 then (0 : Int32) else 1))]) eX7_keep_24 rfl rfl rfl ?_
      refine s_iload_n eX7_keep_25 rfl rfl ?_
      refine s_aload_n eX7_keep_26 rfl rfl ?_
      refine s_getr (q := 19) eX7_keep_27 fX7_19 shp_0 rfl ?_
      refine s_alen (v := 2) eX7_keep_30 shp_19 rfl ?_
      have J4 : ax_N 3 Y7_keep 72 [some (.ref 0), some (.int a1), some (.int (if (F7_isKept a1 m) = 0 then (0 : Int32) else 1))] [] ((if 2 ≤ a1 then m else (if 2 ≤ a1 then m else (if a1 = 0 then (ax_up (F1_copyFrom 20 1 m) 38 (Int32.toNatClampNeg a1) 1) else (ax_up (F1_copyFrom 29 1 m) 38 (Int32.toNatClampNeg a1) 1))))) (fun r m1 => r = some (.int (F7_keep a1 m).1) ∧ m1 = (F7_keep a1 m).2) := by
        refine cK7_keep_72 a1 (if (F7_isKept a1 m) = 0 then (0 : Int32) else 1) ((if 2 ≤ a1 then m else (if 2 ≤ a1 then m else (if a1 = 0 then (ax_up (F1_copyFrom 20 1 m) 38 (Int32.toNatClampNeg a1) 1) else (ax_up (F1_copyFrom 29 1 m) 38 (Int32.toNatClampNeg a1) 1))))) ?_
        exact ⟨by rw [E], by rw [E]⟩
      refine s_icmp_ge eX7_keep_31 (fun h5 => ?_) (fun h5 => ?_)
      · skip
        exact ax_eqN rfl rfl (by rw [show ((if 2 ≤ a1 then m else (if 2 ≤ a1 then m else (if a1 = 0 then (ax_up (F1_copyFrom 20 1 m) 38 (Int32.toNatClampNeg a1) 1) else (ax_up (F1_copyFrom 29 1 m) 38 (Int32.toNatClampNeg a1) 1)))) : ax_M) = m by rw [if_pos h5]]) J4
      · skip
        have hD := hD h5
        refine s_aload_n eX7_keep_34 rfl rfl ?_
        refine s_getr (q := 19) eX7_keep_35 fX7_19 shp_0 rfl ?_
        refine s_iload_n eX7_keep_38 rfl rfl ?_
        obtain ⟨q6, hD⟩ := hD
        refine n_img eX7_keep_39 q6 (fun h7 => ?_) (fun h7 => ?_)
        · skip
          have hD := hD.1 h7
          refine s_ifnull ⟨eX7_keep_40.1, eX7_keep_40.2.1⟩ ?_
          refine s_iload_n eX7_keep_43 rfl rfl ?_
          refine s_aload_n eX7_keep_44 rfl rfl ?_
          refine s_getr (q := 38) eX7_keep_45 fX7_23 shp_0 rfl ?_
          refine s_alen (v := 2) eX7_keep_48 shp_38 rfl ?_
          refine s_icmp_ge eX7_keep_49 (fun h8 => ?_) (fun h8 => ?_)
          · skip
            exact absurd h8 h5
          · skip
            have hD := hD h8
            refine s_aload_n eX7_keep_52 rfl rfl ?_
            refine s_getr (q := 19) eX7_keep_53 fX7_19 shp_0 rfl ?_
            refine s_iload_n eX7_keep_56 rfl rfl ?_
            obtain ⟨q9, hD⟩ := hD
            refine n_img eX7_keep_57 q9 (fun h10 => ?_) (fun h10 => ?_)
            · skip
              have hD := hD.1 h10
              refine s_aload_n eX7_keep_58 rfl rfl ?_
              refine s_getr (q := 1) eX7_keep_59 fX7_10 shp_0 rfl ?_
              refine n_callVv (As := [.ref 1]) eX7_keep_62 kX1_copyFrom lX7_96 rfl rfl shp_20 rfl rfl (Nat.le_of_ble_eq_true rfl) (Nat.le_of_ble_eq_true rfl) (Nat.le_of_ble_eq_true rfl) (uX1_copyFrom 20 1 m isG_20 isG_1) ?_
              refine s_aload_n eX7_keep_65 rfl rfl ?_
              refine s_getr (q := 38) eX7_keep_66 fX7_23 shp_0 rfl ?_
              refine s_iload_n eX7_keep_69 rfl rfl ?_
              refine s_iconst (v := 1) eX7_keep_70 rfl ?_
              have q11 := hD
              refine s_zast (x' := 1) eX7_keep_71 shp_38 q11 rfl ?_
              exact ax_eqN rfl rfl (by rw [show ((if 2 ≤ a1 then m else (if 2 ≤ a1 then m else (if a1 = 0 then (ax_up (F1_copyFrom 20 1 m) 38 (Int32.toNatClampNeg a1) 1) else (ax_up (F1_copyFrom 29 1 m) 38 (Int32.toNatClampNeg a1) 1)))) : ax_M) = (ax_up (F1_copyFrom 20 1 m) 38 (Int32.toNatClampNeg a1) 1) by rw [if_neg h5, if_neg h8, if_pos h10]]) J4
            · skip
              exact absurd h7 h10
        · skip
          have hD := hD.2 h7
          refine s_ifnull ⟨eX7_keep_40.1, eX7_keep_40.2.1⟩ ?_
          refine s_iload_n eX7_keep_43 rfl rfl ?_
          refine s_aload_n eX7_keep_44 rfl rfl ?_
          refine s_getr (q := 38) eX7_keep_45 fX7_23 shp_0 rfl ?_
          refine s_alen (v := 2) eX7_keep_48 shp_38 rfl ?_
          refine s_icmp_ge eX7_keep_49 (fun h12 => ?_) (fun h12 => ?_)
          · skip
            exact absurd h12 h5
          · skip
            have hD := hD h12
            refine s_aload_n eX7_keep_52 rfl rfl ?_
            refine s_getr (q := 19) eX7_keep_53 fX7_19 shp_0 rfl ?_
            refine s_iload_n eX7_keep_56 rfl rfl ?_
            obtain ⟨q13, hD⟩ := hD
            refine n_img eX7_keep_57 q13 (fun h14 => ?_) (fun h14 => ?_)
            · skip
              exact absurd h14 h7
            · skip
              have hD := hD.2 h14
              refine s_aload_n eX7_keep_58 rfl rfl ?_
              refine s_getr (q := 1) eX7_keep_59 fX7_10 shp_0 rfl ?_
              refine n_callVv (As := [.ref 1]) eX7_keep_62 kX1_copyFrom lX7_96 rfl rfl shp_29 rfl rfl (Nat.le_of_ble_eq_true rfl) (Nat.le_of_ble_eq_true rfl) (Nat.le_of_ble_eq_true rfl) (uX1_copyFrom 29 1 m isG_29 isG_1) ?_
              refine s_aload_n eX7_keep_65 rfl rfl ?_
              refine s_getr (q := 38) eX7_keep_66 fX7_23 shp_0 rfl ?_
              refine s_iload_n eX7_keep_69 rfl rfl ?_
              refine s_iconst (v := 1) eX7_keep_70 rfl ?_
              have q15 := hD
              refine s_zast (x' := 1) eX7_keep_71 shp_38 q15 rfl ?_
              exact ax_eqN rfl rfl (by rw [show ((if 2 ≤ a1 then m else (if 2 ≤ a1 then m else (if a1 = 0 then (ax_up (F1_copyFrom 20 1 m) 38 (Int32.toNatClampNeg a1) 1) else (ax_up (F1_copyFrom 29 1 m) 38 (Int32.toNatClampNeg a1) 1)))) : ax_M) = (ax_up (F1_copyFrom 29 1 m) 38 (Int32.toNatClampNeg a1) 1) by rw [if_neg h5, if_neg h12, if_neg h14]]) J4
    refine s_if_eq eX7_keep_16 (fun h16 => ?_) (fun h16 => ?_)
    · skip
      refine s_iconst (v := 0) eX7_keep_23 rfl ?_
      exact ax_eqN rfl (by rw [show (if (F7_isKept a1 m) = 0 then (0 : Int32) else 1 : Int32) = 0 by rw [if_pos h16]]) rfl J3
    · skip
      refine s_iconst (v := 1) eX7_keep_19 rfl ?_
      refine s_goto eX7_keep_20 ?_
      exact ax_eqN rfl (by rw [show (if (F7_isKept a1 m) = 0 then (0 : Int32) else 1 : Int32) = 1 by rw [if_neg h16]]) rfl J3
  · skip
    rw [if_pos h1] at E
    refine s_iconst (v := (-1)) eX7_keep_9 rfl ?_
    exact s_iret eX7_keep_10 rfl ⟨rfl, by rw [E], by rw [E]⟩
theorem uX7_back (a1 : Int32) (m : ax_M) (hD : D7_back a1 m) : ax_NM 3 Y7_back [.ref 0, .int a1] m (fun r m1 => r = some (.int (F7_back a1 m).1) ∧ m1 = (F7_back a1 m).2) := by
  have E : F7_back a1 m = (if (F7_within a1 0 1 m) = 0 then ((-1), m) else (if F7_isKept a1 m = 0 then ((-2), m) else (if a1 = 0 then ((F1_copyFrom 1 20 m) 1 4, (F1_copyFrom 1 20 m)) else ((F1_copyFrom 1 29 m) 1 4, (F1_copyFrom 1 29 m))))) := rfl
  unfold D7_back at hD
  show ax_N 3 Y7_back 0 [some (.ref 0), some (.int a1), none] [] m _
  refine s_iload_n eX7_back_0 rfl rfl ?_
  refine s_iconst (v := 0) eX7_back_1 rfl ?_
  refine s_iconst (v := 1) eX7_back_2 rfl ?_
  refine n_callSi (As := [.int a1, .int 0, .int 1]) eX7_back_3 kX7_within lX7_76 rfl rfl (Nat.le_of_ble_eq_true rfl) (Nat.le_of_ble_eq_true rfl) (Nat.le_of_ble_eq_true rfl) (uX7_within a1 0 1 m) ?_
  refine s_if_ne eX7_back_6 (fun h1 => ?_) (fun h1 => ?_)
  · skip
    rw [if_neg h1] at E
    have hD := hD h1
    refine s_aload_n eX7_back_11 rfl rfl ?_
    refine s_iload_n eX7_back_12 rfl rfl ?_
    have q2 := hD
    refine n_imageAt eX7_back_13 lX7_274 q2 (Nat.le_of_ble_eq_true rfl) (Nat.le_of_ble_eq_true rfl) (fun h3 => ?_) (fun h3 => ?_)
    · skip
      rw [if_pos h3] at E
      refine s_astore_nN (ls' := [some (.ref 0), some (.int a1), some (.null)]) eX7_back_16 rfl rfl rfl ?_
      refine s_aload_nN eX7_back_17 rfl rfl ?_
      refine s_ifnonnullN ⟨eX7_back_18.1, eX7_back_18.2.1⟩ ?_
      refine s_bipush (v := (-2)) eX7_back_21 rfl ?_
      exact s_iret eX7_back_23 rfl ⟨rfl, by rw [E], by rw [E]⟩
    · skip
      rw [if_neg h3] at E
      refine ⟨fun h4 => ?_, fun h4 => ?_⟩
      · skip
        rw [if_pos h4] at E
        refine s_astore_n (ls' := [some (.ref 0), some (.int a1), some (.ref 20)]) eX7_back_16 rfl rfl rfl ?_
        refine s_aload_n eX7_back_17 rfl rfl ?_
        refine s_ifnonnull eX7_back_18 ?_
        refine s_aload_n eX7_back_24 rfl rfl ?_
        refine s_getr (q := 1) eX7_back_25 fX7_10 shp_0 rfl ?_
        refine s_aload_n eX7_back_28 rfl rfl ?_
        refine n_callVv (As := [.ref 20]) eX7_back_29 kX1_copyFrom lX7_96 rfl rfl shp_1 rfl rfl (Nat.le_of_ble_eq_true rfl) (Nat.le_of_ble_eq_true rfl) (Nat.le_of_ble_eq_true rfl) (uX1_copyFrom 1 20 m isG_1 isG_20) ?_
        refine s_aload_n eX7_back_32 rfl rfl ?_
        refine s_getr (q := 1) eX7_back_33 fX7_10 shp_0 rfl ?_
        refine s_geti eX7_back_36 fX7_118 shp_1 rfl ?_
        exact s_iret eX7_back_39 rfl ⟨rfl, by rw [E], by rw [E]⟩
      · skip
        rw [if_neg h4] at E
        refine s_astore_n (ls' := [some (.ref 0), some (.int a1), some (.ref 29)]) eX7_back_16 rfl rfl rfl ?_
        refine s_aload_n eX7_back_17 rfl rfl ?_
        refine s_ifnonnull eX7_back_18 ?_
        refine s_aload_n eX7_back_24 rfl rfl ?_
        refine s_getr (q := 1) eX7_back_25 fX7_10 shp_0 rfl ?_
        refine s_aload_n eX7_back_28 rfl rfl ?_
        refine n_callVv (As := [.ref 29]) eX7_back_29 kX1_copyFrom lX7_96 rfl rfl shp_1 rfl rfl (Nat.le_of_ble_eq_true rfl) (Nat.le_of_ble_eq_true rfl) (Nat.le_of_ble_eq_true rfl) (uX1_copyFrom 1 29 m isG_1 isG_29) ?_
        refine s_aload_n eX7_back_32 rfl rfl ?_
        refine s_getr (q := 1) eX7_back_33 fX7_10 shp_0 rfl ?_
        refine s_geti eX7_back_36 fX7_118 shp_1 rfl ?_
        exact s_iret eX7_back_39 rfl ⟨rfl, by rw [E], by rw [E]⟩
  · skip
    rw [if_pos h1] at E
    refine s_iconst (v := (-1)) eX7_back_9 rfl ?_
    exact s_iret eX7_back_10 rfl ⟨rfl, by rw [E], by rw [E]⟩
theorem uX7_sheet (a1 : Int32) (a2 : Int32) (a3 : Int32) (m : ax_M) (hD : D7_sheet a1 a2 a3 m) : ax_NM 2 Y7_sheet [.ref 0, .int a1, .int a2, .int a3] m (fun r m1 => r = some (.int (F7_sheet a1 a2 a3 m).1) ∧ m1 = (F7_sheet a1 a2 a3 m).2) := by
  have E : F7_sheet a1 a2 a3 m = (if (F7_within a1 0 3 m) = 0 then ((-1), m) else (if (F7_within a2 0 2 m) = 0 then ((-1), m) else (if a3 ≤ 40 then (if 0 ≤ a3 then (1, (F5_renew a1 a2 a3 m)) else ((-14), m)) else ((-1), m)))) := rfl
  unfold D7_sheet at hD
  show ax_N 2 Y7_sheet 0 [some (.ref 0), some (.int a1), some (.int a2), some (.int a3)] [] m _
  refine s_iload_n eX7_sheet_0 rfl rfl ?_
  refine s_iconst (v := 0) eX7_sheet_1 rfl ?_
  refine s_iconst (v := 3) eX7_sheet_2 rfl ?_
  refine n_callSi (As := [.int a1, .int 0, .int 3]) eX7_sheet_3 kX7_within lX7_76 rfl rfl (Nat.le_of_ble_eq_true rfl) (Nat.le_of_ble_eq_true rfl) (Nat.le_of_ble_eq_true rfl) (uX7_within a1 0 3 m) ?_
  refine s_if_eq eX7_sheet_6 (fun h1 => ?_) (fun h1 => ?_)
  · skip
    rw [if_pos h1] at E
    refine s_iconst (v := (-1)) eX7_sheet_24 rfl ?_
    exact s_iret eX7_sheet_25 rfl ⟨rfl, by rw [E], by rw [E]⟩
  · skip
    rw [if_neg h1] at E
    have hD := hD h1
    refine s_iload_n eX7_sheet_9 rfl rfl ?_
    refine s_iconst (v := 0) eX7_sheet_10 rfl ?_
    refine s_iconst (v := 2) eX7_sheet_11 rfl ?_
    refine n_callSi (As := [.int a2, .int 0, .int 2]) eX7_sheet_12 kX7_within lX7_76 rfl rfl (Nat.le_of_ble_eq_true rfl) (Nat.le_of_ble_eq_true rfl) (Nat.le_of_ble_eq_true rfl) (uX7_within a2 0 2 m) ?_
    refine s_if_eq eX7_sheet_15 (fun h2 => ?_) (fun h2 => ?_)
    · skip
      rw [if_pos h2] at E
      refine s_iconst (v := (-1)) eX7_sheet_24 rfl ?_
      exact s_iret eX7_sheet_25 rfl ⟨rfl, by rw [E], by rw [E]⟩
    · skip
      rw [if_neg h2] at E
      have hD := hD h2
      refine s_iload_n eX7_sheet_18 rfl rfl ?_
      refine s_bipush (v := 40) eX7_sheet_19 rfl ?_
      refine s_icmp_le eX7_sheet_21 (fun h3 => ?_) (fun h3 => ?_)
      · skip
        rw [if_pos h3] at E
        have hD := hD h3
        refine s_iload_n eX7_sheet_26 rfl rfl ?_
        refine s_if_ge eX7_sheet_27 (fun h4 => ?_) (fun h4 => ?_)
        · skip
          rw [if_pos h4] at E
          have hD := hD h4
          refine s_aload_n eX7_sheet_33 rfl rfl ?_
          refine s_getr (q := 70) eX7_sheet_34 fX7_58 shp_0 rfl ?_
          refine s_iload_n eX7_sheet_37 rfl rfl ?_
          refine s_iload_n eX7_sheet_38 rfl rfl ?_
          refine s_iload_n eX7_sheet_39 rfl rfl ?_
          have q5 := hD
          refine n_callVv (As := [.int a1, .int a2, .int a3]) eX7_sheet_40 kX5_renew lX7_300 rfl rfl shp_70 rfl rfl (Nat.le_of_ble_eq_true rfl) (Nat.le_of_ble_eq_true rfl) (Nat.le_of_ble_eq_true rfl) (uX5_renew a1 a2 a3 m q5) ?_
          refine s_iconst (v := 1) eX7_sheet_43 rfl ?_
          exact s_iret eX7_sheet_44 rfl ⟨rfl, by rw [E], by rw [E]⟩
        · skip
          rw [if_neg h4] at E
          refine s_bipush (v := (-14)) eX7_sheet_30 rfl ?_
          exact s_iret eX7_sheet_32 rfl ⟨rfl, by rw [E], by rw [E]⟩
      · skip
        rw [if_neg h3] at E
        refine s_iconst (v := (-1)) eX7_sheet_24 rfl ?_
        exact s_iret eX7_sheet_25 rfl ⟨rfl, by rw [E], by rw [E]⟩
theorem uX7_lay (a1 : Int32) (a2 : Int32) (a3 : Int32) (m : ax_M) : ax_NM 3 Y7_lay [.ref 0, .int a1, .int a2, .int a3] m (fun r m1 => r = some (.int (F7_lay a1 a2 a3 m).1) ∧ m1 = (F7_lay a1 a2 a3 m).2) := by
  have E : F7_lay a1 a2 a3 m = (if (F7_within a1 0 3 m) = 0 then ((-1), m) else (if (F5_faultAt a1 (F5_laneOf a1 m) a2 1 m) = 0 then (1, (F5_setCell a1 a2 a3 m)) else (((-10)) - (F5_faultAt a1 (F5_laneOf a1 m) a2 1 m), m))) := rfl
  show ax_N 3 Y7_lay 0 [some (.ref 0), some (.int a1), some (.int a2), some (.int a3), none] [] m _
  refine s_iload_n eX7_lay_0 rfl rfl ?_
  refine s_iconst (v := 0) eX7_lay_1 rfl ?_
  refine s_iconst (v := 3) eX7_lay_2 rfl ?_
  refine n_callSi (As := [.int a1, .int 0, .int 3]) eX7_lay_3 kX7_within lX7_76 rfl rfl (Nat.le_of_ble_eq_true rfl) (Nat.le_of_ble_eq_true rfl) (Nat.le_of_ble_eq_true rfl) (uX7_within a1 0 3 m) ?_
  refine s_if_ne eX7_lay_6 (fun h1 => ?_) (fun h1 => ?_)
  · skip
    rw [if_neg h1] at E
    refine s_aload_n eX7_lay_11 rfl rfl ?_
    refine s_getr (q := 70) eX7_lay_12 fX7_58 shp_0 rfl ?_
    refine s_iload_n eX7_lay_15 rfl rfl ?_
    refine s_aload_n eX7_lay_16 rfl rfl ?_
    refine s_getr (q := 70) eX7_lay_17 fX7_58 shp_0 rfl ?_
    refine s_iload_n eX7_lay_20 rfl rfl ?_
    refine n_callVi (As := [.int a1]) eX7_lay_21 kX5_laneOf lX7_303 rfl rfl shp_70 rfl rfl (Nat.le_of_ble_eq_true rfl) (Nat.le_of_ble_eq_true rfl) (Nat.le_of_ble_eq_true rfl) (uX5_laneOf a1 m) ?_
    refine s_iload_n eX7_lay_24 rfl rfl ?_
    refine s_iconst (v := 1) eX7_lay_25 rfl ?_
    refine n_callVi (As := [.int a1, .int (F5_laneOf a1 m), .int a2, .int 1]) eX7_lay_26 kX5_faultAt lX7_306 rfl rfl shp_70 rfl rfl (Nat.le_of_ble_eq_true rfl) (Nat.le_of_ble_eq_true rfl) (Nat.le_of_ble_eq_true rfl) (uX5_faultAt a1 (F5_laneOf a1 m) a2 1 m) ?_
    refine s_istore (ls' := [some (.ref 0), some (.int a1), some (.int a2), some (.int a3), some (.int (F5_faultAt a1 (F5_laneOf a1 m) a2 1 m))]) eX7_lay_29 rfl rfl ?_
    refine s_iload eX7_lay_31 rfl ?_
    refine s_if_eq eX7_lay_33 (fun h2 => ?_) (fun h2 => ?_)
    · skip
      rw [if_pos h2] at E
      refine s_aload_n eX7_lay_42 rfl rfl ?_
      refine s_getr (q := 70) eX7_lay_43 fX7_58 shp_0 rfl ?_
      refine s_iload_n eX7_lay_46 rfl rfl ?_
      refine s_iload_n eX7_lay_47 rfl rfl ?_
      refine s_iload_n eX7_lay_48 rfl rfl ?_
      refine n_callVv (As := [.int a1, .int a2, .int a3]) eX7_lay_49 kX5_setCell lX7_310 rfl rfl shp_70 rfl rfl (Nat.le_of_ble_eq_true rfl) (Nat.le_of_ble_eq_true rfl) (Nat.le_of_ble_eq_true rfl) (uX5_setCell a1 a2 a3 m) ?_
      refine s_iconst (v := 1) eX7_lay_52 rfl ?_
      exact s_iret eX7_lay_53 rfl ⟨rfl, by rw [E], by rw [E]⟩
    · skip
      rw [if_neg h2] at E
      refine s_bipush (v := (-10)) eX7_lay_36 rfl ?_
      refine s_iload eX7_lay_38 rfl ?_
      refine s_isub eX7_lay_40 ?_
      exact s_iret eX7_lay_41 rfl ⟨rfl, by rw [E], by rw [E]⟩
  · skip
    rw [if_pos h1] at E
    refine s_iconst (v := (-1)) eX7_lay_9 rfl ?_
    exact s_iret eX7_lay_10 rfl ⟨rfl, by rw [E], by rw [E]⟩
