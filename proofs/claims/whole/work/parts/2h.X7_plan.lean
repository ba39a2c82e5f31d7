/-! X7_plan X7_reach X7_ways X7_tell X7_forget X7_judge X7_late X7_isKept X7_fits X7_nextSeed X7_drawn -/
theorem uX7_plan (a1 : Int32) (m : ax_M) (hD : D7_plan a1 m) : ax_NM 6 Y7_plan [.ref 0, .int a1] m (fun r m1 => r = some (.int (F7_plan a1 m).1) ∧ m1 = (F7_plan a1 m).2) := by
  have E : F7_plan a1 m = (if a1 = 0 then (if 0 ≤ (F3_indexOf (F1_wished 1 (F3_survey 1 (F1_standing 1 m) m)) (F3_survey 1 (F1_standing 1 m) m)) then (if a1 = 0 then (F3_depthOf (F3_indexOf (F1_wished 1 (F3_survey 1 (F1_standing 1 m) m)) (F3_survey 1 (F1_standing 1 m) m)) (F3_survey 1 (F1_standing 1 m) m), (F3_survey 1 (F1_standing 1 m) m)) else (if (F3_depthOf (F3_indexOf (F1_wished 1 (F3_survey 1 (F1_standing 1 m) m)) (F3_survey 1 (F1_standing 1 m) m)) (F3_survey 1 (F1_standing 1 m) m)) ≤ (a1 - 10) then ((-4), (F3_survey 1 (F1_standing 1 m) m)) else (F3_stepTo (F3_indexOf (F1_wished 1 (F3_survey 1 (F1_standing 1 m) m)) (F3_survey 1 (F1_standing 1 m) m)) (a1 - 10) (F3_survey 1 (F1_standing 1 m) m), (F3_survey 1 (F1_standing 1 m) m)))) else ((-4), (F3_survey 1 (F1_standing 1 m) m))) else (if 10 ≤ a1 then (if 0 ≤ (F3_indexOf (F1_wished 1 (F3_survey 1 (F1_standing 1 m) m)) (F3_survey 1 (F1_standing 1 m) m)) then (if a1 = 0 then (F3_depthOf (F3_indexOf (F1_wished 1 (F3_survey 1 (F1_standing 1 m) m)) (F3_survey 1 (F1_standing 1 m) m)) (F3_survey 1 (F1_standing 1 m) m), (F3_survey 1 (F1_standing 1 m) m)) else (if (F3_depthOf (F3_indexOf (F1_wished 1 (F3_survey 1 (F1_standing 1 m) m)) (F3_survey 1 (F1_standing 1 m) m)) (F3_survey 1 (F1_standing 1 m) m)) ≤ (a1 - 10) then ((-4), (F3_survey 1 (F1_standing 1 m) m)) else (F3_stepTo (F3_indexOf (F1_wished 1 (F3_survey 1 (F1_standing 1 m) m)) (F3_survey 1 (F1_standing 1 m) m)) (a1 - 10) (F3_survey 1 (F1_standing 1 m) m), (F3_survey 1 (F1_standing 1 m) m)))) else ((-4), (F3_survey 1 (F1_standing 1 m) m))) else ((-1), m))) := rfl
  unfold D7_plan at hD
  show ax_N 6 Y7_plan 0 [some (.ref 0), some (.int a1), none, none] [] m _
  refine s_iload_n eX7_plan_0 rfl rfl ?_
  refine s_if_eq eX7_plan_1 (fun h1 => ?_) (fun h1 => ?_)
  · skip
    rw [if_pos h1] at E
    have hD := hD.1 h1
    refine s_aload_n eX7_plan_12 rfl rfl ?_
    refine s_getr (q := 59) eX7_plan_13 fX7_51 shp_0 rfl ?_
    refine s_aload_n eX7_plan_16 rfl rfl ?_
    refine s_getr (q := 1) eX7_plan_17 fX7_10 shp_0 rfl ?_
    refine s_aload_n eX7_plan_20 rfl rfl ?_
    refine s_getr (q := 1) eX7_plan_21 fX7_10 shp_0 rfl ?_
    obtain ⟨q2, hD⟩ := hD
    refine n_callVi (As := []) eX7_plan_24 kX1_standing lX7_235 rfl rfl shp_1 rfl rfl (Nat.le_of_ble_eq_true rfl) (Nat.le_of_ble_eq_true rfl) (Nat.le_of_ble_eq_true rfl) (uX1_standing 1 m isG_1 q2) ?_
    obtain ⟨q3, hD⟩ := hD
    refine n_callVv (As := [.ref 1, .int (F1_standing 1 m)]) eX7_plan_27 kX3_survey lX7_238 rfl rfl shp_59 rfl rfl (Nat.le_of_ble_eq_true rfl) (Nat.le_of_ble_eq_true rfl) (Nat.le_of_ble_eq_true rfl) (uX3_survey 1 (F1_standing 1 m) m isG_1 q3) ?_
    refine s_aload_n eX7_plan_30 rfl rfl ?_
    refine s_getr (q := 59) eX7_plan_31 fX7_51 shp_0 rfl ?_
    refine s_aload_n eX7_plan_34 rfl rfl ?_
    refine s_getr (q := 1) eX7_plan_35 fX7_10 shp_0 rfl ?_
    obtain ⟨q4, hD⟩ := hD
    refine n_callVi (As := []) eX7_plan_38 kX1_wished lX7_242 rfl rfl shp_1 rfl rfl (Nat.le_of_ble_eq_true rfl) (Nat.le_of_ble_eq_true rfl) (Nat.le_of_ble_eq_true rfl) (uX1_wished 1 ((F3_survey 1 (F1_standing 1 m) m)) isG_1 q4) ?_
    refine n_callVi (As := [.int (F1_wished 1 (F3_survey 1 (F1_standing 1 m) m))]) eX7_plan_41 kX3_indexOf lX7_245 rfl rfl shp_59 rfl rfl (Nat.le_of_ble_eq_true rfl) (Nat.le_of_ble_eq_true rfl) (Nat.le_of_ble_eq_true rfl) (uX3_indexOf (F1_wished 1 (F3_survey 1 (F1_standing 1 m) m)) ((F3_survey 1 (F1_standing 1 m) m))) ?_
    refine s_istore_n (ls' := [some (.ref 0), some (.int a1), some (.int (F3_indexOf (F1_wished 1 (F3_survey 1 (F1_standing 1 m) m)) (F3_survey 1 (F1_standing 1 m) m))), none]) eX7_plan_44 rfl rfl rfl ?_
    refine s_iload_n eX7_plan_45 rfl rfl ?_
    refine s_if_ge eX7_plan_46 (fun h5 => ?_) (fun h5 => ?_)
    · skip
      rw [if_pos h5] at E
      have hD := hD h5
      refine s_aload_n eX7_plan_52 rfl rfl ?_
      refine s_getr (q := 59) eX7_plan_53 fX7_51 shp_0 rfl ?_
      refine s_iload_n eX7_plan_56 rfl rfl ?_
      refine n_callVi (As := [.int (F3_indexOf (F1_wished 1 (F3_survey 1 (F1_standing 1 m) m)) (F3_survey 1 (F1_standing 1 m) m))]) eX7_plan_57 kX3_depthOf lX7_248 rfl rfl shp_59 rfl rfl (Nat.le_of_ble_eq_true rfl) (Nat.le_of_ble_eq_true rfl) (Nat.le_of_ble_eq_true rfl) (uX3_depthOf (F3_indexOf (F1_wished 1 (F3_survey 1 (F1_standing 1 m) m)) (F3_survey 1 (F1_standing 1 m) m)) ((F3_survey 1 (F1_standing 1 m) m))) ?_
      refine s_istore_n (ls' := [some (.ref 0), some (.int a1), some (.int (F3_indexOf (F1_wished 1 (F3_survey 1 (F1_standing 1 m) m)) (F3_survey 1 (F1_standing 1 m) m))), some (.int (F3_depthOf (F3_indexOf (F1_wished 1 (F3_survey 1 (F1_standing 1 m) m)) (F3_survey 1 (F1_standing 1 m) m)) (F3_survey 1 (F1_standing 1 m) m)))]) eX7_plan_60 rfl rfl rfl ?_
      refine s_iload_n eX7_plan_61 rfl rfl ?_
      refine s_if_ne eX7_plan_62 (fun h6 => ?_) (fun h6 => ?_)
      · skip
        exact absurd h1 h6
      · skip
        rw [if_pos h6] at E
        refine s_iload_n eX7_plan_65 rfl rfl ?_
        exact s_iret eX7_plan_66 rfl ⟨rfl, by rw [E], by rw [E]⟩
    · skip
      rw [if_neg h5] at E
      refine s_bipush (v := (-4)) eX7_plan_49 rfl ?_
      exact s_iret eX7_plan_51 rfl ⟨rfl, by rw [E], by rw [E]⟩
  · skip
    rw [if_neg h1] at E
    have hD := hD.2 h1
    refine s_iload_n eX7_plan_4 rfl rfl ?_
    refine s_bipush (v := 10) eX7_plan_5 rfl ?_
    refine s_icmp_ge eX7_plan_7 (fun h7 => ?_) (fun h7 => ?_)
    · skip
      rw [if_pos h7] at E
      have hD := hD h7
      refine s_aload_n eX7_plan_12 rfl rfl ?_
      refine s_getr (q := 59) eX7_plan_13 fX7_51 shp_0 rfl ?_
      refine s_aload_n eX7_plan_16 rfl rfl ?_
      refine s_getr (q := 1) eX7_plan_17 fX7_10 shp_0 rfl ?_
      refine s_aload_n eX7_plan_20 rfl rfl ?_
      refine s_getr (q := 1) eX7_plan_21 fX7_10 shp_0 rfl ?_
      obtain ⟨q8, hD⟩ := hD
      refine n_callVi (As := []) eX7_plan_24 kX1_standing lX7_235 rfl rfl shp_1 rfl rfl (Nat.le_of_ble_eq_true rfl) (Nat.le_of_ble_eq_true rfl) (Nat.le_of_ble_eq_true rfl) (uX1_standing 1 m isG_1 q8) ?_
      obtain ⟨q9, hD⟩ := hD
      refine n_callVv (As := [.ref 1, .int (F1_standing 1 m)]) eX7_plan_27 kX3_survey lX7_238 rfl rfl shp_59 rfl rfl (Nat.le_of_ble_eq_true rfl) (Nat.le_of_ble_eq_true rfl) (Nat.le_of_ble_eq_true rfl) (uX3_survey 1 (F1_standing 1 m) m isG_1 q9) ?_
      refine s_aload_n eX7_plan_30 rfl rfl ?_
      refine s_getr (q := 59) eX7_plan_31 fX7_51 shp_0 rfl ?_
      refine s_aload_n eX7_plan_34 rfl rfl ?_
      refine s_getr (q := 1) eX7_plan_35 fX7_10 shp_0 rfl ?_
      obtain ⟨q10, hD⟩ := hD
      refine n_callVi (As := []) eX7_plan_38 kX1_wished lX7_242 rfl rfl shp_1 rfl rfl (Nat.le_of_ble_eq_true rfl) (Nat.le_of_ble_eq_true rfl) (Nat.le_of_ble_eq_true rfl) (uX1_wished 1 ((F3_survey 1 (F1_standing 1 m) m)) isG_1 q10) ?_
      refine n_callVi (As := [.int (F1_wished 1 (F3_survey 1 (F1_standing 1 m) m))]) eX7_plan_41 kX3_indexOf lX7_245 rfl rfl shp_59 rfl rfl (Nat.le_of_ble_eq_true rfl) (Nat.le_of_ble_eq_true rfl) (Nat.le_of_ble_eq_true rfl) (uX3_indexOf (F1_wished 1 (F3_survey 1 (F1_standing 1 m) m)) ((F3_survey 1 (F1_standing 1 m) m))) ?_
      refine s_istore_n (ls' := [some (.ref 0), some (.int a1), some (.int (F3_indexOf (F1_wished 1 (F3_survey 1 (F1_standing 1 m) m)) (F3_survey 1 (F1_standing 1 m) m))), none]) eX7_plan_44 rfl rfl rfl ?_
      refine s_iload_n eX7_plan_45 rfl rfl ?_
      refine s_if_ge eX7_plan_46 (fun h11 => ?_) (fun h11 => ?_)
      · skip
        rw [if_pos h11] at E
        have hD := hD h11
        refine s_aload_n eX7_plan_52 rfl rfl ?_
        refine s_getr (q := 59) eX7_plan_53 fX7_51 shp_0 rfl ?_
        refine s_iload_n eX7_plan_56 rfl rfl ?_
        refine n_callVi (As := [.int (F3_indexOf (F1_wished 1 (F3_survey 1 (F1_standing 1 m) m)) (F3_survey 1 (F1_standing 1 m) m))]) eX7_plan_57 kX3_depthOf lX7_248 rfl rfl shp_59 rfl rfl (Nat.le_of_ble_eq_true rfl) (Nat.le_of_ble_eq_true rfl) (Nat.le_of_ble_eq_true rfl) (uX3_depthOf (F3_indexOf (F1_wished 1 (F3_survey 1 (F1_standing 1 m) m)) (F3_survey 1 (F1_standing 1 m) m)) ((F3_survey 1 (F1_standing 1 m) m))) ?_
        refine s_istore_n (ls' := [some (.ref 0), some (.int a1), some (.int (F3_indexOf (F1_wished 1 (F3_survey 1 (F1_standing 1 m) m)) (F3_survey 1 (F1_standing 1 m) m))), some (.int (F3_depthOf (F3_indexOf (F1_wished 1 (F3_survey 1 (F1_standing 1 m) m)) (F3_survey 1 (F1_standing 1 m) m)) (F3_survey 1 (F1_standing 1 m) m)))]) eX7_plan_60 rfl rfl rfl ?_
        refine s_iload_n eX7_plan_61 rfl rfl ?_
        refine s_if_ne eX7_plan_62 (fun h12 => ?_) (fun h12 => ?_)
        · skip
          rw [if_neg h12] at E
          have hD := hD h12
          refine s_iload_n eX7_plan_67 rfl rfl ?_
          refine s_bipush (v := 10) eX7_plan_68 rfl ?_
          refine s_isub eX7_plan_70 ?_
          refine s_iload_n eX7_plan_71 rfl rfl ?_
          refine s_icmp_ge eX7_plan_72 (fun h13 => ?_) (fun h13 => ?_)
          · skip
            rw [if_pos h13] at E
            refine s_bipush (v := (-4)) eX7_plan_90 rfl ?_
            exact s_iret eX7_plan_92 rfl ⟨rfl, by rw [E], by rw [E]⟩
          · skip
            rw [if_neg h13] at E
            have hD := hD h13
            refine s_aload_n eX7_plan_75 rfl rfl ?_
            refine s_getr (q := 59) eX7_plan_76 fX7_51 shp_0 rfl ?_
            refine s_iload_n eX7_plan_79 rfl rfl ?_
            refine s_iload_n eX7_plan_80 rfl rfl ?_
            refine s_bipush (v := 10) eX7_plan_81 rfl ?_
            refine s_isub eX7_plan_83 ?_
            have q14 := hD
            refine n_callVi (As := [.int (F3_indexOf (F1_wished 1 (F3_survey 1 (F1_standing 1 m) m)) (F3_survey 1 (F1_standing 1 m) m)), .int (a1 - 10)]) eX7_plan_84 kX3_stepTo lX7_251 rfl rfl shp_59 rfl rfl (Nat.le_of_ble_eq_true rfl) (Nat.le_of_ble_eq_true rfl) (Nat.le_of_ble_eq_true rfl) (uX3_stepTo (F3_indexOf (F1_wished 1 (F3_survey 1 (F1_standing 1 m) m)) (F3_survey 1 (F1_standing 1 m) m)) (a1 - 10) ((F3_survey 1 (F1_standing 1 m) m)) q14) ?_
            refine s_goto eX7_plan_87 ?_
            exact s_iret eX7_plan_92 rfl ⟨rfl, by rw [E], by rw [E]⟩
        · skip
          exact absurd h12 h1
      · skip
        rw [if_neg h11] at E
        refine s_bipush (v := (-4)) eX7_plan_49 rfl ?_
        exact s_iret eX7_plan_51 rfl ⟨rfl, by rw [E], by rw [E]⟩
    · skip
      rw [if_neg h7] at E
      refine s_iconst (v := (-1)) eX7_plan_10 rfl ?_
      exact s_iret eX7_plan_11 rfl ⟨rfl, by rw [E], by rw [E]⟩
theorem uX7_reach (a1 : Int32) (m : ax_M) (hD : D7_reach a1 m) : ax_NM 6 Y7_reach [.ref 0, .int a1] m (fun r m1 => r = some (.int (F7_reach a1 m).1) ∧ m1 = (F7_reach a1 m).2) := by
  have E : F7_reach a1 m = (if (F1_hasOne 1 a1 m) = 0 then ((-1), m) else (F3_banksOf a1 (F3_survey 1 (F1_standing 1 m) m), (F3_survey 1 (F1_standing 1 m) m))) := rfl
  unfold D7_reach at hD
  show ax_N 6 Y7_reach 0 [some (.ref 0), some (.int a1)] [] m _
  refine s_aload_n eX7_reach_0 rfl rfl ?_
  refine s_getr (q := 1) eX7_reach_1 fX7_10 shp_0 rfl ?_
  refine s_iload_n eX7_reach_4 rfl rfl ?_
  refine n_callVi (As := [.int a1]) eX7_reach_5 kX1_hasOne lX7_135 rfl rfl shp_1 rfl rfl (Nat.le_of_ble_eq_true rfl) (Nat.le_of_ble_eq_true rfl) (Nat.le_of_ble_eq_true rfl) (uX1_hasOne 1 a1 m isG_1) ?_
  refine s_if_ne eX7_reach_8 (fun h1 => ?_) (fun h1 => ?_)
  · skip
    rw [if_neg h1] at E
    have hD := hD h1
    refine s_aload_n eX7_reach_13 rfl rfl ?_
    refine s_getr (q := 59) eX7_reach_14 fX7_51 shp_0 rfl ?_
    refine s_aload_n eX7_reach_17 rfl rfl ?_
    refine s_getr (q := 1) eX7_reach_18 fX7_10 shp_0 rfl ?_
    refine s_aload_n eX7_reach_21 rfl rfl ?_
    refine s_getr (q := 1) eX7_reach_22 fX7_10 shp_0 rfl ?_
    obtain ⟨q2, hD⟩ := hD
    refine n_callVi (As := []) eX7_reach_25 kX1_standing lX7_235 rfl rfl shp_1 rfl rfl (Nat.le_of_ble_eq_true rfl) (Nat.le_of_ble_eq_true rfl) (Nat.le_of_ble_eq_true rfl) (uX1_standing 1 m isG_1 q2) ?_
    obtain ⟨q3, hD⟩ := hD
    refine n_callVv (As := [.ref 1, .int (F1_standing 1 m)]) eX7_reach_28 kX3_survey lX7_238 rfl rfl shp_59 rfl rfl (Nat.le_of_ble_eq_true rfl) (Nat.le_of_ble_eq_true rfl) (Nat.le_of_ble_eq_true rfl) (uX3_survey 1 (F1_standing 1 m) m isG_1 q3) ?_
    refine s_aload_n eX7_reach_31 rfl rfl ?_
    refine s_getr (q := 59) eX7_reach_32 fX7_51 shp_0 rfl ?_
    refine s_iload_n eX7_reach_35 rfl rfl ?_
    have q4 := hD
    refine n_callVi (As := [.int a1]) eX7_reach_36 kX3_banksOf lX7_254 rfl rfl shp_59 rfl rfl (Nat.le_of_ble_eq_true rfl) (Nat.le_of_ble_eq_true rfl) (Nat.le_of_ble_eq_true rfl) (uX3_banksOf a1 ((F3_survey 1 (F1_standing 1 m) m)) q4) ?_
    exact s_iret eX7_reach_39 rfl ⟨rfl, by rw [E], by rw [E]⟩
  · skip
    rw [if_pos h1] at E
    refine s_iconst (v := (-1)) eX7_reach_11 rfl ?_
    exact s_iret eX7_reach_12 rfl ⟨rfl, by rw [E], by rw [E]⟩
theorem uX7_ways (m : ax_M) (hD : D7_ways m) : ax_NM 6 Y7_ways [.ref 0] m (fun r m1 => r = some (.int (F7_ways m).1) ∧ m1 = (F7_ways m).2) := by
  have E : F7_ways m = ((F3_survey 1 (F1_standing 1 m) m) 59 10, (F3_survey 1 (F1_standing 1 m) m)) := rfl
  unfold D7_ways at hD
  show ax_N 6 Y7_ways 0 [some (.ref 0)] [] m _
  refine s_aload_n eX7_ways_0 rfl rfl ?_
  refine s_getr (q := 59) eX7_ways_1 fX7_51 shp_0 rfl ?_
  refine s_aload_n eX7_ways_4 rfl rfl ?_
  refine s_getr (q := 1) eX7_ways_5 fX7_10 shp_0 rfl ?_
  refine s_aload_n eX7_ways_8 rfl rfl ?_
  refine s_getr (q := 1) eX7_ways_9 fX7_10 shp_0 rfl ?_
  obtain ⟨q1, hD⟩ := hD
  refine n_callVi (As := []) eX7_ways_12 kX1_standing lX7_235 rfl rfl shp_1 rfl rfl (Nat.le_of_ble_eq_true rfl) (Nat.le_of_ble_eq_true rfl) (Nat.le_of_ble_eq_true rfl) (uX1_standing 1 m isG_1 q1) ?_
  have q2 := hD
  refine n_callVv (As := [.ref 1, .int (F1_standing 1 m)]) eX7_ways_15 kX3_survey lX7_238 rfl rfl shp_59 rfl rfl (Nat.le_of_ble_eq_true rfl) (Nat.le_of_ble_eq_true rfl) (Nat.le_of_ble_eq_true rfl) (uX3_survey 1 (F1_standing 1 m) m isG_1 q2) ?_
  refine s_aload_n eX7_ways_18 rfl rfl ?_
  refine s_getr (q := 59) eX7_ways_19 fX7_51 shp_0 rfl ?_
  refine s_geti eX7_ways_22 fX7_257 shp_59 rfl ?_
  exact s_iret eX7_ways_25 rfl ⟨rfl, by rw [E], by rw [E]⟩
theorem uX7_tell (a1 : Int32) (a2 : Int32) (a3 : Int32) (m : ax_M) : ax_NM 2 Y7_tell [.ref 0, .int a1, .int a2, .int a3] m (fun r m1 => r = some (.int (F7_tell a1 a2 a3 m).1) ∧ m1 = (F7_tell a1 a2 a3 m).2) := by
  have E : F7_tell a1 a2 a3 m = (if (F1_isAsked 1 a1 a2 a3 0 0 m) = 0 then ((-1), m) else (if (m 39 1) < 8 then ((F0_append 39 a1 a2 a3 m) 39 1, (F0_append 39 a1 a2 a3 m)) else ((-3), m))) := rfl
  show ax_N 2 Y7_tell 0 [some (.ref 0), some (.int a1), some (.int a2), some (.int a3)] [] m _
  refine s_aload_n eX7_tell_0 rfl rfl ?_
  refine s_getr (q := 1) eX7_tell_1 fX7_10 shp_0 rfl ?_
  refine s_iload_n eX7_tell_4 rfl rfl ?_
  refine s_iload_n eX7_tell_5 rfl rfl ?_
  refine s_iload_n eX7_tell_6 rfl rfl ?_
  refine s_iconst (v := 0) eX7_tell_7 rfl ?_
  refine s_iconst (v := 0) eX7_tell_8 rfl ?_
  refine n_callVi (As := [.int a1, .int a2, .int a3, .int 0, .int 0]) eX7_tell_9 kX1_isAsked lX7_186 rfl rfl shp_1 rfl rfl (Nat.le_of_ble_eq_true rfl) (Nat.le_of_ble_eq_true rfl) (Nat.le_of_ble_eq_true rfl) (uX1_isAsked 1 a1 a2 a3 0 0 m isG_1) ?_
  refine s_if_ne eX7_tell_12 (fun h1 => ?_) (fun h1 => ?_)
  · skip
    rw [if_neg h1] at E
    refine s_aload_n eX7_tell_17 rfl rfl ?_
    refine s_getr (q := 39) eX7_tell_18 fX7_30 shp_0 rfl ?_
    refine s_geti eX7_tell_21 fX7_258 shp_39 rfl ?_
    refine s_bipush (v := 8) eX7_tell_24 rfl ?_
    refine s_icmp_lt eX7_tell_26 (fun h2 => ?_) (fun h2 => ?_)
    · skip
      rw [if_pos h2] at E
      refine s_aload_n eX7_tell_32 rfl rfl ?_
      refine s_getr (q := 39) eX7_tell_33 fX7_30 shp_0 rfl ?_
      refine s_iload_n eX7_tell_36 rfl rfl ?_
      refine s_iload_n eX7_tell_37 rfl rfl ?_
      refine s_iload_n eX7_tell_38 rfl rfl ?_
      refine n_callVv (As := [.int a1, .int a2, .int a3]) eX7_tell_39 kX0_append lX7_259 rfl rfl shp_39 rfl rfl (Nat.le_of_ble_eq_true rfl) (Nat.le_of_ble_eq_true rfl) (Nat.le_of_ble_eq_true rfl) (uX0_append 39 a1 a2 a3 m isD_39) ?_
      refine s_aload_n eX7_tell_42 rfl rfl ?_
      refine s_getr (q := 39) eX7_tell_43 fX7_30 shp_0 rfl ?_
      refine s_geti eX7_tell_46 fX7_258 shp_39 rfl ?_
      exact s_iret eX7_tell_49 rfl ⟨rfl, by rw [E], by rw [E]⟩
    · skip
      rw [if_neg h2] at E
      refine s_bipush (v := (-3)) eX7_tell_29 rfl ?_
      exact s_iret eX7_tell_31 rfl ⟨rfl, by rw [E], by rw [E]⟩
  · skip
    rw [if_pos h1] at E
    refine s_iconst (v := (-1)) eX7_tell_15 rfl ?_
    exact s_iret eX7_tell_16 rfl ⟨rfl, by rw [E], by rw [E]⟩
theorem uX7_forget (a1 : Int32) (m : ax_M) : ax_NM 1 Y7_forget [.ref 0, .int a1] m (fun r m1 => r = some (.int (F7_forget a1 m).1) ∧ m1 = (F7_forget a1 m).2) := by
  have E : F7_forget a1 m = (if (F7_within a1 0 (m 39 1) m) = 0 then ((-1), m) else (m 39 1, (ax_up m 39 1 a1))) := rfl
  show ax_N 1 Y7_forget 0 [some (.ref 0), some (.int a1), none] [] m _
  refine s_iload_n eX7_forget_0 rfl rfl ?_
  refine s_iconst (v := 0) eX7_forget_1 rfl ?_
  refine s_aload_n eX7_forget_2 rfl rfl ?_
  refine s_getr (q := 39) eX7_forget_3 fX7_30 shp_0 rfl ?_
  refine s_geti eX7_forget_6 fX7_258 shp_39 rfl ?_
  refine n_callSi (As := [.int a1, .int 0, .int (m 39 1)]) eX7_forget_9 kX7_within lX7_76 rfl rfl (Nat.le_of_ble_eq_true rfl) (Nat.le_of_ble_eq_true rfl) (Nat.le_of_ble_eq_true rfl) (uX7_within a1 0 (m 39 1) m) ?_
  refine s_if_ne eX7_forget_12 (fun h1 => ?_) (fun h1 => ?_)
  · skip
    rw [if_neg h1] at E
    refine s_aload_n eX7_forget_17 rfl rfl ?_
    refine s_getr (q := 39) eX7_forget_18 fX7_30 shp_0 rfl ?_
    refine s_geti eX7_forget_21 fX7_258 shp_39 rfl ?_
    refine s_istore_n (ls' := [some (.ref 0), some (.int a1), some (.int (m 39 1))]) eX7_forget_24 rfl rfl rfl ?_
    refine s_aload_n eX7_forget_25 rfl rfl ?_
    refine s_getr (q := 39) eX7_forget_26 fX7_30 shp_0 rfl ?_
    refine s_iload_n eX7_forget_29 rfl rfl ?_
    refine s_puti eX7_forget_30 fX7_258 pX0_1 rfl rfl shp_39 rfl ?_
    refine s_iload_n eX7_forget_33 rfl rfl ?_
    exact s_iret eX7_forget_34 rfl ⟨rfl, by rw [E], by rw [E]⟩
  · skip
    rw [if_pos h1] at E
    refine s_iconst (v := (-1)) eX7_forget_15 rfl ?_
    exact s_iret eX7_forget_16 rfl ⟨rfl, by rw [E], by rw [E]⟩
theorem clX7_judge_13 {P : Option Value → ax_M → Prop} : ∀ (n : Nat) (v1 : Int32) (m : ax_M), E7_judge_13 n v1 m → (∀ r, (L7_judge_13 n v1 m).1 = some r → P (some (.int r)) (L7_judge_13 n v1 m).2.2) → ((L7_judge_13 n v1 m).1 = none → ax_N 6 Y7_judge 66 [some (.ref 0), some (.int ((L7_judge_13 n v1 m).2.1))] [] ((L7_judge_13 n v1 m).2.2) P) → ax_N 6 Y7_judge 13 [some (.ref 0), some (.int v1)] [] m P := by
  intro n
  induction n with
  | zero => intro v1 m hD; exact absurd hD id
  | succ n ih =>
    intro v1 m hD hr hx
    have E : L7_judge_13 (n + 1) v1 m = (if (m 39 1) ≤ v1 then (none, v1, m) else (if ((F1_passesAndGoes 10 (F0_bridgeAt 39 v1 m) (F0_aheadAt 39 v1 m) (F0_otherAt 39 v1 m) m).1) = 0 then (some v1, v1, (F1_passesAndGoes 10 (F0_bridgeAt 39 v1 m) (F0_aheadAt 39 v1 m) (F0_otherAt 39 v1 m) m).2) else L7_judge_13 n (v1 + 1) (F1_passesAndGoes 10 (F0_bridgeAt 39 v1 m) (F0_aheadAt 39 v1 m) (F0_otherAt 39 v1 m) m).2)) := by rw [L7_judge_13]
    have hD : ((¬ ((m 39 1) ≤ v1) → ((¬ (((F1_passesAndGoes 10 (F0_bridgeAt 39 v1 m) (F0_aheadAt 39 v1 m) (F0_otherAt 39 v1 m) m).1) = 0) → ((E7_judge_13 n (v1 + 1) (F1_passesAndGoes 10 (F0_bridgeAt 39 v1 m) (F0_aheadAt 39 v1 m) (F0_otherAt 39 v1 m) m).2)))))) := hD
    refine s_iload_n eX7_judge_13 rfl rfl ?_
    refine s_aload_n eX7_judge_14 rfl rfl ?_
    refine s_getr (q := 39) eX7_judge_15 fX7_30 shp_0 rfl ?_
    refine s_geti eX7_judge_18 fX7_258 shp_39 rfl ?_
    refine s_icmp_ge eX7_judge_21 (fun h1 => ?_) (fun h1 => ?_)
    · skip
      rw [if_pos h1] at E
      rw [E] at hx
      exact hx rfl
    · skip
      rw [if_neg h1] at E
      have hD := hD h1
      refine s_aload_n eX7_judge_24 rfl rfl ?_
      refine s_getr (q := 10) eX7_judge_25 fX7_16 shp_0 rfl ?_
      refine s_aload_n eX7_judge_28 rfl rfl ?_
      refine s_getr (q := 39) eX7_judge_29 fX7_30 shp_0 rfl ?_
      refine s_iload_n eX7_judge_32 rfl rfl ?_
      refine n_callVi (As := [.int v1]) eX7_judge_33 kX0_bridgeAt lX7_262 rfl rfl shp_39 rfl rfl (Nat.le_of_ble_eq_true rfl) (Nat.le_of_ble_eq_true rfl) (Nat.le_of_ble_eq_true rfl) (uX0_bridgeAt 39 v1 m isD_39) ?_
      refine s_aload_n eX7_judge_36 rfl rfl ?_
      refine s_getr (q := 39) eX7_judge_37 fX7_30 shp_0 rfl ?_
      refine s_iload_n eX7_judge_40 rfl rfl ?_
      refine n_callVi (As := [.int v1]) eX7_judge_41 kX0_aheadAt lX7_265 rfl rfl shp_39 rfl rfl (Nat.le_of_ble_eq_true rfl) (Nat.le_of_ble_eq_true rfl) (Nat.le_of_ble_eq_true rfl) (uX0_aheadAt 39 v1 m isD_39) ?_
      refine s_aload_n eX7_judge_44 rfl rfl ?_
      refine s_getr (q := 39) eX7_judge_45 fX7_30 shp_0 rfl ?_
      refine s_iload_n eX7_judge_48 rfl rfl ?_
      refine n_callVi (As := [.int v1]) eX7_judge_49 kX0_otherAt lX7_268 rfl rfl shp_39 rfl rfl (Nat.le_of_ble_eq_true rfl) (Nat.le_of_ble_eq_true rfl) (Nat.le_of_ble_eq_true rfl) (uX0_otherAt 39 v1 m isD_39) ?_
      refine n_callVi (As := [.int (F0_bridgeAt 39 v1 m), .int (F0_aheadAt 39 v1 m), .int (F0_otherAt 39 v1 m)]) eX7_judge_52 kX1_passesAndGoes lX7_271 rfl rfl shp_10 rfl rfl (Nat.le_of_ble_eq_true rfl) (Nat.le_of_ble_eq_true rfl) (Nat.le_of_ble_eq_true rfl) (uX1_passesAndGoes 10 (F0_bridgeAt 39 v1 m) (F0_aheadAt 39 v1 m) (F0_otherAt 39 v1 m) m isG_10) ?_
      refine s_if_ne eX7_judge_55 (fun h2 => ?_) (fun h2 => ?_)
      · skip
        rw [if_neg h2] at E
        have hD := hD h2
        refine s_iinc (v := v1 + 1) (ls' := [some (.ref 0), some (.int (v1 + 1))]) eX7_judge_60 rfl rfl rfl rfl ?_
        refine s_goto eX7_judge_63 ?_
        rw [E] at hr hx
        exact ih (v1 + 1) ((F1_passesAndGoes 10 (F0_bridgeAt 39 v1 m) (F0_aheadAt 39 v1 m) (F0_otherAt 39 v1 m) m).2) hD hr hx
      · skip
        rw [if_pos h2] at E
        refine s_iload_n eX7_judge_58 rfl rfl ?_
        rw [E] at hr
        exact s_iret eX7_judge_59 rfl ⟨rfl, hr _ rfl⟩
theorem uX7_judge (m : ax_M) (hD : D7_judge m) : ax_NM 6 Y7_judge [.ref 0] m (fun r m1 => r = some (.int (F7_judge m).1) ∧ m1 = (F7_judge m).2) := by
  have E : F7_judge m = (if (L7_judge_13 64 0 (F1_copyFrom 10 1 m)).1 = none then ((-4), (L7_judge_13 64 0 (F1_copyFrom 10 1 m)).2.2) else (((L7_judge_13 64 0 (F1_copyFrom 10 1 m)).1).getD 0, (L7_judge_13 64 0 (F1_copyFrom 10 1 m)).2.2)) := rfl
  unfold D7_judge at hD
  show ax_N 6 Y7_judge 0 [some (.ref 0), none] [] m _
  refine s_aload_n eX7_judge_0 rfl rfl ?_
  refine s_getr (q := 10) eX7_judge_1 fX7_16 shp_0 rfl ?_
  refine s_aload_n eX7_judge_4 rfl rfl ?_
  refine s_getr (q := 1) eX7_judge_5 fX7_10 shp_0 rfl ?_
  refine n_callVv (As := [.ref 1]) eX7_judge_8 kX1_copyFrom lX7_96 rfl rfl shp_10 rfl rfl (Nat.le_of_ble_eq_true rfl) (Nat.le_of_ble_eq_true rfl) (Nat.le_of_ble_eq_true rfl) (uX1_copyFrom 10 1 m isG_10 isG_1) ?_
  refine s_iconst (v := 0) eX7_judge_11 rfl ?_
  refine s_istore_n (ls' := [some (.ref 0), some (.int 0)]) eX7_judge_12 rfl rfl rfl ?_
  have q1 := hD
  refine clX7_judge_13 64 0 ((F1_copyFrom 10 1 m)) q1 (fun x2 h3 => ?_) (fun h3 => ?_)
  · skip
    rw [if_neg (by rw [h3]; exact fun hh => by cases hh), h3] at E
    exact ⟨by rw [E]; rfl, by rw [E]⟩
  · skip
    rw [if_pos h3] at E
    refine s_bipush (v := (-4)) eX7_judge_66 rfl ?_
    exact s_iret eX7_judge_68 rfl ⟨rfl, by rw [E], by rw [E]⟩
theorem clX7_late_28 {P : Option Value → ax_M → Prop} : ∀ (n : Nat) (v1 v2 v3 : Int32) (m : ax_M), E7_late_28 n v1 v2 v3 m → (ax_N 6 Y7_late 109 [some (.ref 0), some (.int v1), some (.int ((L7_late_28 n v1 v2 v3 m).1)), some (.int ((L7_late_28 n v1 v2 v3 m).2.1))] [] ((L7_late_28 n v1 v2 v3 m).2.2) P) → ax_N 6 Y7_late 28 [some (.ref 0), some (.int v1), some (.int v2), some (.int v3)] [] m P := by
  intro n
  induction n with
  | zero => intro v1 v2 v3 m hD; exact absurd hD id
  | succ n ih =>
    intro v1 v2 v3 m hD hx
    have E : L7_late_28 (n + 1) v1 v2 v3 m = (if (m 39 1) ≤ v3 then (v2, v3, m) else L7_late_28 n v1 (if (F0_aheadAt 39 v3 m) = v1 then (v2 : Int32) else if (F0_otherAt 39 v3 m) = v1 then (v2 : Int32) else if ((F1_passesAndGoes 10 (F0_bridgeAt 39 v3 m) (F0_aheadAt 39 v3 m) (F0_otherAt 39 v3 m) m).1) = 0 then (v2 : Int32) else v2 + 1) (v3 + 1) (if (F0_aheadAt 39 v3 m) = v1 then m else (if (F0_otherAt 39 v3 m) = v1 then m else (F1_passesAndGoes 10 (F0_bridgeAt 39 v3 m) (F0_aheadAt 39 v3 m) (F0_otherAt 39 v3 m) m).2))) := by rw [L7_late_28]
    have hD : ((¬ ((m 39 1) ≤ v3) → ((E7_late_28 n v1 (if (F0_aheadAt 39 v3 m) = v1 then (v2 : Int32) else if (F0_otherAt 39 v3 m) = v1 then (v2 : Int32) else if ((F1_passesAndGoes 10 (F0_bridgeAt 39 v3 m) (F0_aheadAt 39 v3 m) (F0_otherAt 39 v3 m) m).1) = 0 then (v2 : Int32) else v2 + 1) (v3 + 1) (if (F0_aheadAt 39 v3 m) = v1 then m else (if (F0_otherAt 39 v3 m) = v1 then m else (F1_passesAndGoes 10 (F0_bridgeAt 39 v3 m) (F0_aheadAt 39 v3 m) (F0_otherAt 39 v3 m) m).2)))))) := hD
    refine s_iload_n eX7_late_28 rfl rfl ?_
    refine s_aload_n eX7_late_29 rfl rfl ?_
    refine s_getr (q := 39) eX7_late_30 fX7_30 shp_0 rfl ?_
    refine s_geti eX7_late_33 fX7_258 shp_39 rfl ?_
    refine s_icmp_ge eX7_late_36 (fun h1 => ?_) (fun h1 => ?_)
    · skip
      rw [if_pos h1] at E
      rw [E] at hx
      exact hx
    · skip
      rw [if_neg h1] at E
      have hD := hD h1
      refine s_aload_n eX7_late_39 rfl rfl ?_
      refine s_getr (q := 39) eX7_late_40 fX7_30 shp_0 rfl ?_
      refine s_iload_n eX7_late_43 rfl rfl ?_
      refine n_callVi (As := [.int v3]) eX7_late_44 kX0_aheadAt lX7_265 rfl rfl shp_39 rfl rfl (Nat.le_of_ble_eq_true rfl) (Nat.le_of_ble_eq_true rfl) (Nat.le_of_ble_eq_true rfl) (uX0_aheadAt 39 v3 m isD_39) ?_
      refine s_iload_n eX7_late_47 rfl rfl ?_
      have J2 : ax_N 6 Y7_late 103 [some (.ref 0), some (.int v1), some (.int (if (F0_aheadAt 39 v3 m) = v1 then (v2 : Int32) else if (F0_otherAt 39 v3 m) = v1 then (v2 : Int32) else if ((F1_passesAndGoes 10 (F0_bridgeAt 39 v3 m) (F0_aheadAt 39 v3 m) (F0_otherAt 39 v3 m) m).1) = 0 then (v2 : Int32) else v2 + 1)), some (.int v3)] [] ((if (F0_aheadAt 39 v3 m) = v1 then m else (if (F0_otherAt 39 v3 m) = v1 then m else (F1_passesAndGoes 10 (F0_bridgeAt 39 v3 m) (F0_aheadAt 39 v3 m) (F0_otherAt 39 v3 m) m).2))) P := by
        refine s_iinc (v := v3 + 1) (ls' := [some (.ref 0), some (.int v1), some (.int (if (F0_aheadAt 39 v3 m) = v1 then (v2 : Int32) else if (F0_otherAt 39 v3 m) = v1 then (v2 : Int32) else if ((F1_passesAndGoes 10 (F0_bridgeAt 39 v3 m) (F0_aheadAt 39 v3 m) (F0_otherAt 39 v3 m) m).1) = 0 then (v2 : Int32) else v2 + 1)), some (.int (v3 + 1))]) eX7_late_103 rfl rfl rfl rfl ?_
        refine s_goto eX7_late_106 ?_
        rw [E] at hx
        exact ih v1 (if (F0_aheadAt 39 v3 m) = v1 then (v2 : Int32) else if (F0_otherAt 39 v3 m) = v1 then (v2 : Int32) else if ((F1_passesAndGoes 10 (F0_bridgeAt 39 v3 m) (F0_aheadAt 39 v3 m) (F0_otherAt 39 v3 m) m).1) = 0 then (v2 : Int32) else v2 + 1) (v3 + 1) ((if (F0_aheadAt 39 v3 m) = v1 then m else (if (F0_otherAt 39 v3 m) = v1 then m else (F1_passesAndGoes 10 (F0_bridgeAt 39 v3 m) (F0_aheadAt 39 v3 m) (F0_otherAt 39 v3 m) m).2))) hD hx
      refine s_icmp_eq eX7_late_48 (fun h3 => ?_) (fun h3 => ?_)
      · skip
        simpa only [if_pos h3] using J2
      · skip
        refine s_aload_n eX7_late_51 rfl rfl ?_
        refine s_getr (q := 39) eX7_late_52 fX7_30 shp_0 rfl ?_
        refine s_iload_n eX7_late_55 rfl rfl ?_
        refine n_callVi (As := [.int v3]) eX7_late_56 kX0_otherAt lX7_268 rfl rfl shp_39 rfl rfl (Nat.le_of_ble_eq_true rfl) (Nat.le_of_ble_eq_true rfl) (Nat.le_of_ble_eq_true rfl) (uX0_otherAt 39 v3 m isD_39) ?_
        refine s_iload_n eX7_late_59 rfl rfl ?_
        refine s_icmp_ne eX7_late_60 (fun h4 => ?_) (fun h4 => ?_)
        · skip
          refine s_aload_n eX7_late_66 rfl rfl ?_
          refine s_getr (q := 10) eX7_late_67 fX7_16 shp_0 rfl ?_
          refine s_aload_n eX7_late_70 rfl rfl ?_
          refine s_getr (q := 39) eX7_late_71 fX7_30 shp_0 rfl ?_
          refine s_iload_n eX7_late_74 rfl rfl ?_
          refine n_callVi (As := [.int v3]) eX7_late_75 kX0_bridgeAt lX7_262 rfl rfl shp_39 rfl rfl (Nat.le_of_ble_eq_true rfl) (Nat.le_of_ble_eq_true rfl) (Nat.le_of_ble_eq_true rfl) (uX0_bridgeAt 39 v3 m isD_39) ?_
          refine s_aload_n eX7_late_78 rfl rfl ?_
          refine s_getr (q := 39) eX7_late_79 fX7_30 shp_0 rfl ?_
          refine s_iload_n eX7_late_82 rfl rfl ?_
          refine n_callVi (As := [.int v3]) eX7_late_83 kX0_aheadAt lX7_265 rfl rfl shp_39 rfl rfl (Nat.le_of_ble_eq_true rfl) (Nat.le_of_ble_eq_true rfl) (Nat.le_of_ble_eq_true rfl) (uX0_aheadAt 39 v3 m isD_39) ?_
          refine s_aload_n eX7_late_86 rfl rfl ?_
          refine s_getr (q := 39) eX7_late_87 fX7_30 shp_0 rfl ?_
          refine s_iload_n eX7_late_90 rfl rfl ?_
          refine n_callVi (As := [.int v3]) eX7_late_91 kX0_otherAt lX7_268 rfl rfl shp_39 rfl rfl (Nat.le_of_ble_eq_true rfl) (Nat.le_of_ble_eq_true rfl) (Nat.le_of_ble_eq_true rfl) (uX0_otherAt 39 v3 m isD_39) ?_
          refine n_callVi (As := [.int (F0_bridgeAt 39 v3 m), .int (F0_aheadAt 39 v3 m), .int (F0_otherAt 39 v3 m)]) eX7_late_94 kX1_passesAndGoes lX7_271 rfl rfl shp_10 rfl rfl (Nat.le_of_ble_eq_true rfl) (Nat.le_of_ble_eq_true rfl) (Nat.le_of_ble_eq_true rfl) (uX1_passesAndGoes 10 (F0_bridgeAt 39 v3 m) (F0_aheadAt 39 v3 m) (F0_otherAt 39 v3 m) m isG_10) ?_
          refine s_if_eq eX7_late_97 (fun h5 => ?_) (fun h5 => ?_)
          · skip
            simpa only [if_neg h3, if_neg h4, if_pos h5] using J2
          · skip
            refine s_iinc (v := v2 + 1) (ls' := [some (.ref 0), some (.int v1), some (.int (v2 + 1)), some (.int v3)]) eX7_late_100 rfl rfl rfl rfl ?_
            simpa only [if_neg h3, if_neg h4, if_neg h5] using J2
        · skip
          refine s_goto eX7_late_63 ?_
          simpa only [if_neg h3, if_pos h4] using J2
theorem uX7_late (a1 : Int32) (m : ax_M) (hD : D7_late a1 m) : ax_NM 6 Y7_late [.ref 0, .int a1] m (fun r m1 => r = some (.int (F7_late a1 m).1) ∧ m1 = (F7_late a1 m).2) := by
  have E : F7_late a1 m = (if (F1_hasOne 1 a1 m) = 0 then ((-1), m) else ((L7_late_28 64 a1 0 0 (F1_copyFrom 10 1 m)).1, (L7_late_28 64 a1 0 0 (F1_copyFrom 10 1 m)).2.2)) := rfl
  unfold D7_late at hD
  show ax_N 6 Y7_late 0 [some (.ref 0), some (.int a1), none, none] [] m _
  refine s_aload_n eX7_late_0 rfl rfl ?_
  refine s_getr (q := 1) eX7_late_1 fX7_10 shp_0 rfl ?_
  refine s_iload_n eX7_late_4 rfl rfl ?_
  refine n_callVi (As := [.int a1]) eX7_late_5 kX1_hasOne lX7_135 rfl rfl shp_1 rfl rfl (Nat.le_of_ble_eq_true rfl) (Nat.le_of_ble_eq_true rfl) (Nat.le_of_ble_eq_true rfl) (uX1_hasOne 1 a1 m isG_1) ?_
  refine s_if_ne eX7_late_8 (fun h1 => ?_) (fun h1 => ?_)
  · skip
    rw [if_neg h1] at E
    have hD := hD h1
    refine s_aload_n eX7_late_13 rfl rfl ?_
    refine s_getr (q := 10) eX7_late_14 fX7_16 shp_0 rfl ?_
    refine s_aload_n eX7_late_17 rfl rfl ?_
    refine s_getr (q := 1) eX7_late_18 fX7_10 shp_0 rfl ?_
    refine n_callVv (As := [.ref 1]) eX7_late_21 kX1_copyFrom lX7_96 rfl rfl shp_10 rfl rfl (Nat.le_of_ble_eq_true rfl) (Nat.le_of_ble_eq_true rfl) (Nat.le_of_ble_eq_true rfl) (uX1_copyFrom 10 1 m isG_10 isG_1) ?_
    refine s_iconst (v := 0) eX7_late_24 rfl ?_
    refine s_istore_n (ls' := [some (.ref 0), some (.int a1), some (.int 0), none]) eX7_late_25 rfl rfl rfl ?_
    refine s_iconst (v := 0) eX7_late_26 rfl ?_
    refine s_istore_n (ls' := [some (.ref 0), some (.int a1), some (.int 0), some (.int 0)]) eX7_late_27 rfl rfl rfl ?_
    have q2 := hD
    refine clX7_late_28 64 a1 0 0 ((F1_copyFrom 10 1 m)) q2 ?_
    refine s_iload_n eX7_late_109 rfl rfl ?_
    exact s_iret eX7_late_110 rfl ⟨rfl, by rw [E], by rw [E]⟩
  · skip
    rw [if_pos h1] at E
    refine s_iconst (v := (-1)) eX7_late_11 rfl ?_
    exact s_iret eX7_late_12 rfl ⟨rfl, by rw [E], by rw [E]⟩
theorem uX7_isKept (a1 : Int32) (m : ax_M) (hD : D7_isKept a1 m) : ax_NM 0 Y7_isKept [.ref 0, .int a1] m (fun r m1 => r = some (.int (F7_isKept a1 m)) ∧ m1 = m) := by
  have E : F7_isKept a1 m = (if a1 < 0 then 0 else (if 2 ≤ a1 then 0 else (if (m 38 (Int32.toNatClampNeg a1)) = 0 then 0 else 1))) := rfl
  unfold D7_isKept at hD
  show ax_N 0 Y7_isKept 0 [some (.ref 0), some (.int a1)] [] m _
  refine s_iload_n eX7_isKept_0 rfl rfl ?_
  refine s_if_lt eX7_isKept_1 (fun h1 => ?_) (fun h1 => ?_)
  · skip
    rw [if_pos h1] at E
    refine s_iconst (v := 0) eX7_isKept_26 rfl ?_
    exact s_zret eX7_isKept_27 rfl (by first | exact Or.inl rfl | exact Or.inr rfl | (split <;> simp) | simp) ⟨rfl, by rw [E], rfl⟩
  · skip
    rw [if_neg h1] at E
    have hD := hD h1
    refine s_iload_n eX7_isKept_4 rfl rfl ?_
    refine s_aload_n eX7_isKept_5 rfl rfl ?_
    refine s_getr (q := 38) eX7_isKept_6 fX7_23 shp_0 rfl ?_
    refine s_alen (v := 2) eX7_isKept_9 shp_38 rfl ?_
    refine s_icmp_ge eX7_isKept_10 (fun h2 => ?_) (fun h2 => ?_)
    · skip
      rw [if_pos h2] at E
      refine s_iconst (v := 0) eX7_isKept_26 rfl ?_
      exact s_zret eX7_isKept_27 rfl (by first | exact Or.inl rfl | exact Or.inr rfl | (split <;> simp) | simp) ⟨rfl, by rw [E], rfl⟩
    · skip
      rw [if_neg h2] at E
      have hD := hD h2
      refine s_aload_n eX7_isKept_13 rfl rfl ?_
      refine s_getr (q := 38) eX7_isKept_14 fX7_23 shp_0 rfl ?_
      refine s_iload_n eX7_isKept_17 rfl rfl ?_
      have q3 := hD
      refine s_zald eX7_isKept_18 shp_38 q3 ?_
      refine s_if_eq eX7_isKept_19 (fun h4 => ?_) (fun h4 => ?_)
      · skip
        rw [if_pos h4] at E
        refine s_iconst (v := 0) eX7_isKept_26 rfl ?_
        exact s_zret eX7_isKept_27 rfl (by first | exact Or.inl rfl | exact Or.inr rfl | (split <;> simp) | simp) ⟨rfl, by rw [E], rfl⟩
      · skip
        rw [if_neg h4] at E
        refine s_iconst (v := 1) eX7_isKept_22 rfl ?_
        refine s_goto eX7_isKept_23 ?_
        exact s_zret eX7_isKept_27 rfl (by first | exact Or.inl rfl | exact Or.inr rfl | (split <;> simp) | simp) ⟨rfl, by rw [E], rfl⟩
theorem ax_kept {a1 : Int32} {m : ax_M} (h : ¬ F7_isKept a1 m = 0) : ¬ a1 < 0 ∧ ¬ 2 ≤ a1 := by
  unfold F7_isKept at h
  by_cases h1 : a1 < 0
  · rw [if_pos h1] at h; exact absurd rfl h
  · rw [if_neg h1] at h
    by_cases h2 : 2 ≤ a1
    · rw [if_pos h2] at h; exact absurd rfl h
    · exact ⟨h1, h2⟩
theorem uX7_imageAt (a1 : Int32) (m : ax_M) (hD : D7_isKept a1 m) : ax_NM 1 Y7_imageAt [.ref 0, .int a1] m (fun r m1 => r = some (F7_imageAt a1 m) ∧ m1 = m) := by
  show ax_N 1 Y7_imageAt 0 [some (.ref 0), some (.int a1)] [] m _
  have E : F7_imageAt a1 m = (if F7_isKept a1 m = 0 then .null else if a1 = 0 then .ref 20 else .ref 29) := rfl
  refine s_aload_n eX7_imageAt_0 rfl rfl ?_
  refine s_iload_n eX7_imageAt_1 rfl rfl ?_
  refine n_callVi (As := [.int a1]) eX7_imageAt_2 kX7_isKept lX7_297 rfl rfl shp_0 rfl rfl (Nat.le_of_ble_eq_true rfl) (Nat.le_of_ble_eq_true rfl) (Nat.le_of_ble_eq_true rfl) (uX7_isKept a1 m hD) ?_
  refine s_if_eq eX7_imageAt_5 (fun h => ?_) (fun h => ?_)
  · rw [if_pos h] at E
    refine s_null eX7_imageAt_26 ?_
    exact s_aret eX7_imageAt_27 rfl (Or.inl rfl) ⟨rfl, by rw [E], rfl⟩
  · rw [if_neg h] at E
    obtain ⟨h1, h2⟩ := ax_kept h
    refine s_iload_n eX7_imageAt_8 rfl rfl ?_
    refine s_aload_n eX7_imageAt_9 rfl rfl ?_
    refine s_getr (q := 19) eX7_imageAt_10 fX7_19 shp_0 rfl ?_
    refine s_alen (v := 2) eX7_imageAt_13 shp_19 rfl ?_
    refine s_icmp_ge eX7_imageAt_14 (fun h3 => absurd h3 h2) (fun _ => ?_)
    refine s_aload_n eX7_imageAt_17 rfl rfl ?_
    refine s_getr (q := 19) eX7_imageAt_18 fX7_19 shp_0 rfl ?_
    refine s_iload_n eX7_imageAt_21 rfl rfl ?_
    refine n_img eX7_imageAt_22 (ax_vp (n := 2) (by decide) h1 h2) (fun h4 => ?_) (fun h4 => ?_)
    · rw [if_pos h4] at E
      refine s_goto eX7_imageAt_23 ?_
      exact s_aret eX7_imageAt_27 rfl (Or.inr ⟨_, rfl⟩) ⟨rfl, by rw [E], rfl⟩
    · rw [if_neg h4] at E
      refine s_goto eX7_imageAt_23 ?_
      exact s_aret eX7_imageAt_27 rfl (Or.inr ⟨_, rfl⟩) ⟨rfl, by rw [E], rfl⟩
theorem n_imageAt {d : Nat} {y : ax_Y} {pc pc1 idx : Nat} {ls : ax_L} {st : List Value} {m : ax_M} {P : Option Value → ax_M → Prop} {a : Int32} (hd : ax_dc y pc (.invokevirtual idx) 3 pc1) (hm : ax_mv y.1.cls idx Y7_imageAt 1) (hD : D7_isKept a m) (hw : (st.map fun v => v.category).sum ≤ 8) (hdd : 2 ≤ d) (kt : F7_isKept a m = 0 → ax_N d y pc1 ls (.null :: st) m P) (kf : ¬ F7_isKept a m = 0 → (a = 0 → ax_N d y pc1 ls (.ref 20 :: st) m P) ∧ (¬ a = 0 → ax_N d y pc1 ls (.ref 29 :: st) m P)) : ax_N d y pc ls (.int a :: .ref 0 :: st) m P := by
  refine n_callVi (As := [.int a]) (v := F7_imageAt a m) hd kX7_imageAt hm rfl rfl shp_0 rfl rfl hw hdd (Nat.le_of_ble_eq_true rfl) (uX7_imageAt a m hD) ?_
  unfold F7_imageAt
  by_cases h : F7_isKept a m = 0
  · rw [if_pos h]; exact kt h
  · rw [if_neg h]
    by_cases h2 : a = 0
    · rw [if_pos h2]; exact (kf h).1 h2
    · rw [if_neg h2]; exact (kf h).2 h2
theorem cK7_fits_86 (v1 v2 v3 : Int32) (m : ax_M) {P : Option Value → ax_M → Prop} (hD : HK7_fits_86 v1 v2 v3 m) (hP : P (some (.int (K7_fits_86 v1 v2 v3 m).1)) (K7_fits_86 v1 v2 v3 m).2) : ax_N 6 Y7_fits 86 [some (.ref 0), some (.int v1), some (.int v2), some (.int v3), some (.ref 20)] [] m P := by
  have E : K7_fits_86 v1 v2 v3 m = (if v3 = 0 then (F3_rowsFrom 0 v2 m, m) else (F3_stepOfFirstRow v2 (v3 - 10) m, m)) := rfl
  unfold HK7_fits_86 at hD
  refine s_iload_n eX7_fits_86 rfl rfl ?_
  refine s_if_ne eX7_fits_87 (fun h1 => ?_) (fun h1 => ?_)
  · skip
    rw [if_neg h1] at E
    have hD := hD h1
    refine s_aload_n eX7_fits_100 rfl rfl ?_
    refine s_getr (q := 59) eX7_fits_101 fX7_51 shp_0 rfl ?_
    refine s_iload_n eX7_fits_104 rfl rfl ?_
    refine s_iload_n eX7_fits_105 rfl rfl ?_
    refine s_bipush (v := 10) eX7_fits_106 rfl ?_
    refine s_isub eX7_fits_108 ?_
    have q2 := hD
    refine n_callVi (As := [.int v2, .int (v3 - 10)]) eX7_fits_109 kX3_stepOfFirstRow lX7_284 rfl rfl shp_59 rfl rfl (Nat.le_of_ble_eq_true rfl) (Nat.le_of_ble_eq_true rfl) (Nat.le_of_ble_eq_true rfl) (uX3_stepOfFirstRow v2 (v3 - 10) m q2) ?_
    rw [E] at hP
    exact s_iret eX7_fits_112 rfl ⟨rfl, hP⟩
  · skip
    rw [if_pos h1] at E
    refine s_aload_n eX7_fits_90 rfl rfl ?_
    refine s_getr (q := 59) eX7_fits_91 fX7_51 shp_0 rfl ?_
    refine s_iconst (v := 0) eX7_fits_94 rfl ?_
    refine s_iload_n eX7_fits_95 rfl rfl ?_
    refine n_callVi (As := [.int 0, .int v2]) eX7_fits_96 kX3_rowsFrom lX7_281 rfl rfl shp_59 rfl rfl (Nat.le_of_ble_eq_true rfl) (Nat.le_of_ble_eq_true rfl) (Nat.le_of_ble_eq_true rfl) (uX3_rowsFrom 0 v2 m) ?_
    rw [E] at hP
    exact s_iret eX7_fits_99 rfl ⟨rfl, hP⟩
theorem cK7_fits_86_1 (v1 v2 v3 : Int32) (m : ax_M) {P : Option Value → ax_M → Prop} (hD : HK7_fits_86_1 v1 v2 v3 m) (hP : P (some (.int (K7_fits_86_1 v1 v2 v3 m).1)) (K7_fits_86_1 v1 v2 v3 m).2) : ax_N 6 Y7_fits 86 [some (.ref 0), some (.int v1), some (.int v2), some (.int v3), some (.ref 29)] [] m P := by
  have E : K7_fits_86_1 v1 v2 v3 m = (if v3 = 0 then (F3_rowsFrom 0 v2 m, m) else (F3_stepOfFirstRow v2 (v3 - 10) m, m)) := rfl
  unfold HK7_fits_86_1 at hD
  refine s_iload_n eX7_fits_86 rfl rfl ?_
  refine s_if_ne eX7_fits_87 (fun h1 => ?_) (fun h1 => ?_)
  · skip
    rw [if_neg h1] at E
    have hD := hD h1
    refine s_aload_n eX7_fits_100 rfl rfl ?_
    refine s_getr (q := 59) eX7_fits_101 fX7_51 shp_0 rfl ?_
    refine s_iload_n eX7_fits_104 rfl rfl ?_
    refine s_iload_n eX7_fits_105 rfl rfl ?_
    refine s_bipush (v := 10) eX7_fits_106 rfl ?_
    refine s_isub eX7_fits_108 ?_
    have q2 := hD
    refine n_callVi (As := [.int v2, .int (v3 - 10)]) eX7_fits_109 kX3_stepOfFirstRow lX7_284 rfl rfl shp_59 rfl rfl (Nat.le_of_ble_eq_true rfl) (Nat.le_of_ble_eq_true rfl) (Nat.le_of_ble_eq_true rfl) (uX3_stepOfFirstRow v2 (v3 - 10) m q2) ?_
    rw [E] at hP
    exact s_iret eX7_fits_112 rfl ⟨rfl, hP⟩
  · skip
    rw [if_pos h1] at E
    refine s_aload_n eX7_fits_90 rfl rfl ?_
    refine s_getr (q := 59) eX7_fits_91 fX7_51 shp_0 rfl ?_
    refine s_iconst (v := 0) eX7_fits_94 rfl ?_
    refine s_iload_n eX7_fits_95 rfl rfl ?_
    refine n_callVi (As := [.int 0, .int v2]) eX7_fits_96 kX3_rowsFrom lX7_281 rfl rfl shp_59 rfl rfl (Nat.le_of_ble_eq_true rfl) (Nat.le_of_ble_eq_true rfl) (Nat.le_of_ble_eq_true rfl) (uX3_rowsFrom 0 v2 m) ?_
    rw [E] at hP
    exact s_iret eX7_fits_99 rfl ⟨rfl, hP⟩
theorem uX7_fits (a1 : Int32) (a2 : Int32) (a3 : Int32) (m : ax_M) (hD : D7_fits a1 a2 a3 m) : ax_NM 6 Y7_fits [.ref 0, .int a1, .int a2, .int a3] m (fun r m1 => r = some (.int (F7_fits a1 a2 a3 m).1) ∧ m1 = (F7_fits a1 a2 a3 m).2) := by
  have E : F7_fits a1 a2 a3 m = (if (F7_within a1 0 1 m) = 0 then ((-1), m) else (if (F7_within a2 0 4 m) = 0 then ((-1), m) else (if a3 = 0 then (if F7_isKept a1 m = 0 then ((-2), m) else (if a1 = 0 then (K7_fits_86 a1 a2 a3 (F3_countRows (F1_standing 1 (F3_survey 1 (F1_standing 20 m) m)) a2 (F3_survey 1 (F1_standing 20 m) m))) else (K7_fits_86_1 a1 a2 a3 (F3_countRows (F1_standing 1 (F3_survey 1 (F1_standing 29 m) m)) a2 (F3_survey 1 (F1_standing 29 m) m))))) else (if a3 < 10 then ((-1), m) else (if (a3 - 10) < a2 then (if F7_isKept a1 m = 0 then ((-2), m) else (if a1 = 0 then (K7_fits_86 a1 a2 a3 (F3_countRows (F1_standing 1 (F3_survey 1 (F1_standing 20 m) m)) a2 (F3_survey 1 (F1_standing 20 m) m))) else (K7_fits_86_1 a1 a2 a3 (F3_countRows (F1_standing 1 (F3_survey 1 (F1_standing 29 m) m)) a2 (F3_survey 1 (F1_standing 29 m) m))))) else ((-1), m)))))) := rfl
  unfold D7_fits at hD
  show ax_N 6 Y7_fits 0 [some (.ref 0), some (.int a1), some (.int a2), some (.int a3), none] [] m _
  refine s_iload_n eX7_fits_0 rfl rfl ?_
  refine s_iconst (v := 0) eX7_fits_1 rfl ?_
  refine s_iconst (v := 1) eX7_fits_2 rfl ?_
  refine n_callSi (As := [.int a1, .int 0, .int 1]) eX7_fits_3 kX7_within lX7_76 rfl rfl (Nat.le_of_ble_eq_true rfl) (Nat.le_of_ble_eq_true rfl) (Nat.le_of_ble_eq_true rfl) (uX7_within a1 0 1 m) ?_
  refine s_if_eq eX7_fits_6 (fun h1 => ?_) (fun h1 => ?_)
  · skip
    rw [if_pos h1] at E
    refine s_iconst (v := (-1)) eX7_fits_18 rfl ?_
    exact s_iret eX7_fits_19 rfl ⟨rfl, by rw [E], by rw [E]⟩
  · skip
    rw [if_neg h1] at E
    have hD := hD h1
    refine s_iload_n eX7_fits_9 rfl rfl ?_
    refine s_iconst (v := 0) eX7_fits_10 rfl ?_
    refine s_iconst (v := 4) eX7_fits_11 rfl ?_
    refine n_callSi (As := [.int a2, .int 0, .int 4]) eX7_fits_12 kX7_within lX7_76 rfl rfl (Nat.le_of_ble_eq_true rfl) (Nat.le_of_ble_eq_true rfl) (Nat.le_of_ble_eq_true rfl) (uX7_within a2 0 4 m) ?_
    refine s_if_ne eX7_fits_15 (fun h2 => ?_) (fun h2 => ?_)
    · skip
      rw [if_neg h2] at E
      have hD := hD h2
      refine s_iload_n eX7_fits_20 rfl rfl ?_
      refine s_if_eq eX7_fits_21 (fun h3 => ?_) (fun h3 => ?_)
      · skip
        rw [if_pos h3] at E
        have hD := hD.1 h3
        refine s_aload_n eX7_fits_40 rfl rfl ?_
        refine s_iload_n eX7_fits_41 rfl rfl ?_
        obtain ⟨q4, hD⟩ := hD
        refine n_imageAt eX7_fits_42 lX7_274 q4 (Nat.le_of_ble_eq_true rfl) (Nat.le_of_ble_eq_true rfl) (fun h5 => ?_) (fun h5 => ?_)
        · skip
          rw [if_pos h5] at E
          refine s_astoreN (ls' := [some (.ref 0), some (.int a1), some (.int a2), some (.int a3), some (.null)]) eX7_fits_45 rfl rfl ?_
          refine s_aloadN eX7_fits_47 rfl ?_
          refine s_ifnonnullN ⟨eX7_fits_49.1, eX7_fits_49.2.1⟩ ?_
          refine s_bipush (v := (-2)) eX7_fits_52 rfl ?_
          exact s_iret eX7_fits_54 rfl ⟨rfl, by rw [E], by rw [E]⟩
        · skip
          rw [if_neg h5] at E
          have hD := hD h5
          refine ⟨fun h6 => ?_, fun h6 => ?_⟩
          · skip
            rw [if_pos h6] at E
            have hD := hD.1 h6
            refine s_astore (ls' := [some (.ref 0), some (.int a1), some (.int a2), some (.int a3), some (.ref 20)]) eX7_fits_45 rfl rfl ?_
            refine s_aload eX7_fits_47 rfl ?_
            refine s_ifnonnull eX7_fits_49 ?_
            refine s_aload_n eX7_fits_55 rfl rfl ?_
            refine s_getr (q := 59) eX7_fits_56 fX7_51 shp_0 rfl ?_
            refine s_aload_n eX7_fits_59 rfl rfl ?_
            refine s_getr (q := 1) eX7_fits_60 fX7_10 shp_0 rfl ?_
            refine s_aload eX7_fits_63 rfl ?_
            obtain ⟨q7, hD⟩ := hD
            refine n_callVi (As := []) eX7_fits_65 kX1_standing lX7_235 rfl rfl shp_20 rfl rfl (Nat.le_of_ble_eq_true rfl) (Nat.le_of_ble_eq_true rfl) (Nat.le_of_ble_eq_true rfl) (uX1_standing 20 m isG_20 q7) ?_
            obtain ⟨q8, hD⟩ := hD
            refine n_callVv (As := [.ref 1, .int (F1_standing 20 m)]) eX7_fits_68 kX3_survey lX7_238 rfl rfl shp_59 rfl rfl (Nat.le_of_ble_eq_true rfl) (Nat.le_of_ble_eq_true rfl) (Nat.le_of_ble_eq_true rfl) (uX3_survey 1 (F1_standing 20 m) m isG_1 q8) ?_
            refine s_aload_n eX7_fits_71 rfl rfl ?_
            refine s_getr (q := 59) eX7_fits_72 fX7_51 shp_0 rfl ?_
            refine s_aload_n eX7_fits_75 rfl rfl ?_
            refine s_getr (q := 1) eX7_fits_76 fX7_10 shp_0 rfl ?_
            obtain ⟨q9, hD⟩ := hD
            refine n_callVi (As := []) eX7_fits_79 kX1_standing lX7_235 rfl rfl shp_1 rfl rfl (Nat.le_of_ble_eq_true rfl) (Nat.le_of_ble_eq_true rfl) (Nat.le_of_ble_eq_true rfl) (uX1_standing 1 ((F3_survey 1 (F1_standing 20 m) m)) isG_1 q9) ?_
            refine s_iload_n eX7_fits_82 rfl rfl ?_
            obtain ⟨q10, hD⟩ := hD
            refine n_callVv (As := [.int (F1_standing 1 (F3_survey 1 (F1_standing 20 m) m)), .int a2]) eX7_fits_83 kX3_countRows lX7_278 rfl rfl shp_59 rfl rfl (Nat.le_of_ble_eq_true rfl) (Nat.le_of_ble_eq_true rfl) (Nat.le_of_ble_eq_true rfl) (uX3_countRows (F1_standing 1 (F3_survey 1 (F1_standing 20 m) m)) a2 ((F3_survey 1 (F1_standing 20 m) m)) q10) ?_
            refine cK7_fits_86 a1 a2 a3 ((F3_countRows (F1_standing 1 (F3_survey 1 (F1_standing 20 m) m)) a2 (F3_survey 1 (F1_standing 20 m) m))) hD ?_
            exact ⟨by rw [E], by rw [E]⟩
          · skip
            rw [if_neg h6] at E
            have hD := hD.2 h6
            refine s_astore (ls' := [some (.ref 0), some (.int a1), some (.int a2), some (.int a3), some (.ref 29)]) eX7_fits_45 rfl rfl ?_
            refine s_aload eX7_fits_47 rfl ?_
            refine s_ifnonnull eX7_fits_49 ?_
            refine s_aload_n eX7_fits_55 rfl rfl ?_
            refine s_getr (q := 59) eX7_fits_56 fX7_51 shp_0 rfl ?_
            refine s_aload_n eX7_fits_59 rfl rfl ?_
            refine s_getr (q := 1) eX7_fits_60 fX7_10 shp_0 rfl ?_
            refine s_aload eX7_fits_63 rfl ?_
            obtain ⟨q11, hD⟩ := hD
            refine n_callVi (As := []) eX7_fits_65 kX1_standing lX7_235 rfl rfl shp_29 rfl rfl (Nat.le_of_ble_eq_true rfl) (Nat.le_of_ble_eq_true rfl) (Nat.le_of_ble_eq_true rfl) (uX1_standing 29 m isG_29 q11) ?_
            obtain ⟨q12, hD⟩ := hD
            refine n_callVv (As := [.ref 1, .int (F1_standing 29 m)]) eX7_fits_68 kX3_survey lX7_238 rfl rfl shp_59 rfl rfl (Nat.le_of_ble_eq_true rfl) (Nat.le_of_ble_eq_true rfl) (Nat.le_of_ble_eq_true rfl) (uX3_survey 1 (F1_standing 29 m) m isG_1 q12) ?_
            refine s_aload_n eX7_fits_71 rfl rfl ?_
            refine s_getr (q := 59) eX7_fits_72 fX7_51 shp_0 rfl ?_
            refine s_aload_n eX7_fits_75 rfl rfl ?_
            refine s_getr (q := 1) eX7_fits_76 fX7_10 shp_0 rfl ?_
            obtain ⟨q13, hD⟩ := hD
            refine n_callVi (As := []) eX7_fits_79 kX1_standing lX7_235 rfl rfl shp_1 rfl rfl (Nat.le_of_ble_eq_true rfl) (Nat.le_of_ble_eq_true rfl) (Nat.le_of_ble_eq_true rfl) (uX1_standing 1 ((F3_survey 1 (F1_standing 29 m) m)) isG_1 q13) ?_
            refine s_iload_n eX7_fits_82 rfl rfl ?_
            obtain ⟨q14, hD⟩ := hD
            refine n_callVv (As := [.int (F1_standing 1 (F3_survey 1 (F1_standing 29 m) m)), .int a2]) eX7_fits_83 kX3_countRows lX7_278 rfl rfl shp_59 rfl rfl (Nat.le_of_ble_eq_true rfl) (Nat.le_of_ble_eq_true rfl) (Nat.le_of_ble_eq_true rfl) (uX3_countRows (F1_standing 1 (F3_survey 1 (F1_standing 29 m) m)) a2 ((F3_survey 1 (F1_standing 29 m) m)) q14) ?_
            refine cK7_fits_86_1 a1 a2 a3 ((F3_countRows (F1_standing 1 (F3_survey 1 (F1_standing 29 m) m)) a2 (F3_survey 1 (F1_standing 29 m) m))) hD ?_
            exact ⟨by rw [E], by rw [E]⟩
      · skip
        rw [if_neg h3] at E
        have hD := hD.2 h3
        refine s_iload_n eX7_fits_24 rfl rfl ?_
        refine s_bipush (v := 10) eX7_fits_25 rfl ?_
        refine s_icmp_lt eX7_fits_27 (fun h15 => ?_) (fun h15 => ?_)
        · skip
          rw [if_pos h15] at E
          refine s_iconst (v := (-1)) eX7_fits_38 rfl ?_
          exact s_iret eX7_fits_39 rfl ⟨rfl, by rw [E], by rw [E]⟩
        · skip
          rw [if_neg h15] at E
          have hD := hD h15
          refine s_iload_n eX7_fits_30 rfl rfl ?_
          refine s_bipush (v := 10) eX7_fits_31 rfl ?_
          refine s_isub eX7_fits_33 ?_
          refine s_iload_n eX7_fits_34 rfl rfl ?_
          refine s_icmp_lt eX7_fits_35 (fun h16 => ?_) (fun h16 => ?_)
          · skip
            rw [if_pos h16] at E
            have hD := hD h16
            refine s_aload_n eX7_fits_40 rfl rfl ?_
            refine s_iload_n eX7_fits_41 rfl rfl ?_
            obtain ⟨q17, hD⟩ := hD
            refine n_imageAt eX7_fits_42 lX7_274 q17 (Nat.le_of_ble_eq_true rfl) (Nat.le_of_ble_eq_true rfl) (fun h18 => ?_) (fun h18 => ?_)
            · skip
              rw [if_pos h18] at E
              refine s_astoreN (ls' := [some (.ref 0), some (.int a1), some (.int a2), some (.int a3), some (.null)]) eX7_fits_45 rfl rfl ?_
              refine s_aloadN eX7_fits_47 rfl ?_
              refine s_ifnonnullN ⟨eX7_fits_49.1, eX7_fits_49.2.1⟩ ?_
              refine s_bipush (v := (-2)) eX7_fits_52 rfl ?_
              exact s_iret eX7_fits_54 rfl ⟨rfl, by rw [E], by rw [E]⟩
            · skip
              rw [if_neg h18] at E
              have hD := hD h18
              refine ⟨fun h19 => ?_, fun h19 => ?_⟩
              · skip
                rw [if_pos h19] at E
                have hD := hD.1 h19
                refine s_astore (ls' := [some (.ref 0), some (.int a1), some (.int a2), some (.int a3), some (.ref 20)]) eX7_fits_45 rfl rfl ?_
                refine s_aload eX7_fits_47 rfl ?_
                refine s_ifnonnull eX7_fits_49 ?_
                refine s_aload_n eX7_fits_55 rfl rfl ?_
                refine s_getr (q := 59) eX7_fits_56 fX7_51 shp_0 rfl ?_
                refine s_aload_n eX7_fits_59 rfl rfl ?_
                refine s_getr (q := 1) eX7_fits_60 fX7_10 shp_0 rfl ?_
                refine s_aload eX7_fits_63 rfl ?_
                obtain ⟨q20, hD⟩ := hD
                refine n_callVi (As := []) eX7_fits_65 kX1_standing lX7_235 rfl rfl shp_20 rfl rfl (Nat.le_of_ble_eq_true rfl) (Nat.le_of_ble_eq_true rfl) (Nat.le_of_ble_eq_true rfl) (uX1_standing 20 m isG_20 q20) ?_
                obtain ⟨q21, hD⟩ := hD
                refine n_callVv (As := [.ref 1, .int (F1_standing 20 m)]) eX7_fits_68 kX3_survey lX7_238 rfl rfl shp_59 rfl rfl (Nat.le_of_ble_eq_true rfl) (Nat.le_of_ble_eq_true rfl) (Nat.le_of_ble_eq_true rfl) (uX3_survey 1 (F1_standing 20 m) m isG_1 q21) ?_
                refine s_aload_n eX7_fits_71 rfl rfl ?_
                refine s_getr (q := 59) eX7_fits_72 fX7_51 shp_0 rfl ?_
                refine s_aload_n eX7_fits_75 rfl rfl ?_
                refine s_getr (q := 1) eX7_fits_76 fX7_10 shp_0 rfl ?_
                obtain ⟨q22, hD⟩ := hD
                refine n_callVi (As := []) eX7_fits_79 kX1_standing lX7_235 rfl rfl shp_1 rfl rfl (Nat.le_of_ble_eq_true rfl) (Nat.le_of_ble_eq_true rfl) (Nat.le_of_ble_eq_true rfl) (uX1_standing 1 ((F3_survey 1 (F1_standing 20 m) m)) isG_1 q22) ?_
                refine s_iload_n eX7_fits_82 rfl rfl ?_
                obtain ⟨q23, hD⟩ := hD
                refine n_callVv (As := [.int (F1_standing 1 (F3_survey 1 (F1_standing 20 m) m)), .int a2]) eX7_fits_83 kX3_countRows lX7_278 rfl rfl shp_59 rfl rfl (Nat.le_of_ble_eq_true rfl) (Nat.le_of_ble_eq_true rfl) (Nat.le_of_ble_eq_true rfl) (uX3_countRows (F1_standing 1 (F3_survey 1 (F1_standing 20 m) m)) a2 ((F3_survey 1 (F1_standing 20 m) m)) q23) ?_
                refine cK7_fits_86 a1 a2 a3 ((F3_countRows (F1_standing 1 (F3_survey 1 (F1_standing 20 m) m)) a2 (F3_survey 1 (F1_standing 20 m) m))) hD ?_
                exact ⟨by rw [E], by rw [E]⟩
              · skip
                rw [if_neg h19] at E
                have hD := hD.2 h19
                refine s_astore (ls' := [some (.ref 0), some (.int a1), some (.int a2), some (.int a3), some (.ref 29)]) eX7_fits_45 rfl rfl ?_
                refine s_aload eX7_fits_47 rfl ?_
                refine s_ifnonnull eX7_fits_49 ?_
                refine s_aload_n eX7_fits_55 rfl rfl ?_
                refine s_getr (q := 59) eX7_fits_56 fX7_51 shp_0 rfl ?_
                refine s_aload_n eX7_fits_59 rfl rfl ?_
                refine s_getr (q := 1) eX7_fits_60 fX7_10 shp_0 rfl ?_
                refine s_aload eX7_fits_63 rfl ?_
                obtain ⟨q24, hD⟩ := hD
                refine n_callVi (As := []) eX7_fits_65 kX1_standing lX7_235 rfl rfl shp_29 rfl rfl (Nat.le_of_ble_eq_true rfl) (Nat.le_of_ble_eq_true rfl) (Nat.le_of_ble_eq_true rfl) (uX1_standing 29 m isG_29 q24) ?_
                obtain ⟨q25, hD⟩ := hD
                refine n_callVv (As := [.ref 1, .int (F1_standing 29 m)]) eX7_fits_68 kX3_survey lX7_238 rfl rfl shp_59 rfl rfl (Nat.le_of_ble_eq_true rfl) (Nat.le_of_ble_eq_true rfl) (Nat.le_of_ble_eq_true rfl) (uX3_survey 1 (F1_standing 29 m) m isG_1 q25) ?_
                refine s_aload_n eX7_fits_71 rfl rfl ?_
                refine s_getr (q := 59) eX7_fits_72 fX7_51 shp_0 rfl ?_
                refine s_aload_n eX7_fits_75 rfl rfl ?_
                refine s_getr (q := 1) eX7_fits_76 fX7_10 shp_0 rfl ?_
                obtain ⟨q26, hD⟩ := hD
                refine n_callVi (As := []) eX7_fits_79 kX1_standing lX7_235 rfl rfl shp_1 rfl rfl (Nat.le_of_ble_eq_true rfl) (Nat.le_of_ble_eq_true rfl) (Nat.le_of_ble_eq_true rfl) (uX1_standing 1 ((F3_survey 1 (F1_standing 29 m) m)) isG_1 q26) ?_
                refine s_iload_n eX7_fits_82 rfl rfl ?_
                obtain ⟨q27, hD⟩ := hD
                refine n_callVv (As := [.int (F1_standing 1 (F3_survey 1 (F1_standing 29 m) m)), .int a2]) eX7_fits_83 kX3_countRows lX7_278 rfl rfl shp_59 rfl rfl (Nat.le_of_ble_eq_true rfl) (Nat.le_of_ble_eq_true rfl) (Nat.le_of_ble_eq_true rfl) (uX3_countRows (F1_standing 1 (F3_survey 1 (F1_standing 29 m) m)) a2 ((F3_survey 1 (F1_standing 29 m) m)) q27) ?_
                refine cK7_fits_86_1 a1 a2 a3 ((F3_countRows (F1_standing 1 (F3_survey 1 (F1_standing 29 m) m)) a2 (F3_survey 1 (F1_standing 29 m) m))) hD ?_
                exact ⟨by rw [E], by rw [E]⟩
          · skip
            rw [if_neg h16] at E
            refine s_iconst (v := (-1)) eX7_fits_38 rfl ?_
            exact s_iret eX7_fits_39 rfl ⟨rfl, by rw [E], by rw [E]⟩
    · skip
      rw [if_pos h2] at E
      refine s_iconst (v := (-1)) eX7_fits_18 rfl ?_
      exact s_iret eX7_fits_19 rfl ⟨rfl, by rw [E], by rw [E]⟩
theorem uX7_nextSeed (a0 : Int32) (m : ax_M) : ax_NM 0 Y7_nextSeed [.int a0] m (fun r m1 => r = some (.int (F7_nextSeed a0 m)) ∧ m1 = m) := by
  have E : F7_nextSeed a0 m = ((a0 * 1103515245) + 12345) := rfl
  show ax_N 0 Y7_nextSeed 0 [some (.int a0)] [] m _
  refine s_iload_n eX7_nextSeed_0 rfl rfl ?_
  refine s_ldcw eX7_nextSeed_1 qX7_296 ?_
  refine s_imul eX7_nextSeed_4 ?_
  refine s_sipush (v := 12345) eX7_nextSeed_5 rfl ?_
  refine s_iadd eX7_nextSeed_8 ?_
  exact s_iret eX7_nextSeed_9 rfl ⟨rfl, by rw [E], rfl⟩
theorem uX7_drawn (a0 : Int32) (a1 : Int32) (m : ax_M) (hD : D7_drawn a0 a1 m) : ax_NM 0 Y7_drawn [.int a0, .int a1] m (fun r m1 => r = some (.int (F7_drawn a0 a1 m)) ∧ m1 = m) := by
  have E : F7_drawn a0 a1 m = (if a1 ≤ 0 then 0 else ((((Int32.toUInt32 a0 >>> (Int32.toUInt32 16 &&& Int32.toUInt32 31)).toInt32) &&& 32767) - (((Int32.toUInt32 a0 >>> (Int32.toUInt32 16 &&& Int32.toUInt32 31)).toInt32) &&& 32767) / a1 * a1)) := rfl
  unfold D7_drawn at hD
  show ax_N 0 Y7_drawn 0 [some (.int a0), some (.int a1)] [] m _
  refine s_iload_n eX7_drawn_0 rfl rfl ?_
  refine s_if_le eX7_drawn_1 (fun h1 => ?_) (fun h1 => ?_)
  · skip
    rw [if_pos h1] at E
    refine s_iconst (v := 0) eX7_drawn_17 rfl ?_
    exact s_iret eX7_drawn_18 rfl ⟨rfl, by rw [E], rfl⟩
  · skip
    rw [if_neg h1] at E
    have hD := hD h1
    refine s_iload_n eX7_drawn_4 rfl rfl ?_
    refine s_bipush (v := 16) eX7_drawn_5 rfl ?_
    refine s_iushr eX7_drawn_7 ?_
    refine s_sipush (v := 32767) eX7_drawn_8 rfl ?_
    refine s_iand eX7_drawn_11 ?_
    refine s_iload_n eX7_drawn_12 rfl rfl ?_
    have q2 := hD
    refine s_irem eX7_drawn_13 q2 ?_
    refine s_goto eX7_drawn_14 ?_
    exact s_iret eX7_drawn_18 rfl ⟨rfl, by rw [E], rfl⟩
