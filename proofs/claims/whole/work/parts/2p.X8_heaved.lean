/-! X8_heaved X8_worth X8_hire X8_codeNow X8_goalCode X8_stand X8_layAble X8_follows -/
theorem uX8_heaved (a1 : Int32) (a2 : Int32) (m : ax_M) (hD : D8_heaved a1 a2 m) : ax_NM 6 Y8_heaved [.ref 74, .int a1, .int a2] m (fun r m1 => r = some (.int (F8_heaved a1 a2 m).1) ∧ m1 = (F8_heaved a1 a2 m).2) := by
  have E : F8_heaved a1 a2 m = (if (F8_isBridge a1 m) = 0 then ((-1), m) else (if (F8_in (Int32.toInt64 a2) 0 1 m) = 0 then (if (F8_in (Int32.toInt64 a2) 10 (Int32.toInt64 (9 + (m 74 3))) m) = 0 then ((-1), m) else (if a2 = 0 then (F8_pairsOf ((F8_layPairs a1 0 ((-4)) 1 m).1) (F8_tracePairs a1 1 (F8_layPairs a1 0 ((-4)) 1 m).2), (F8_tracePairs a1 1 (F8_layPairs a1 0 ((-4)) 1 m).2)) else (if a2 = 1 then ((1000 * (F8_pairsOf ((F8_layPairs a1 0 ((-4)) 1 m).1) (F8_tracePairs a1 1 (F8_layPairs a1 0 ((-4)) 1 m).2))) - ((F8_layPairs a1 0 ((-4)) 1 m).1), (F8_tracePairs a1 1 (F8_layPairs a1 0 ((-4)) 1 m).2)) else ((F8_tracePairs a1 1 (F8_layPairs a1 0 ((-4)) 1 m).2) 86 (Int32.toNatClampNeg (a2 - 10)), (F8_tracePairs a1 1 (F8_layPairs a1 0 ((-4)) 1 m).2))))) else (if a2 = 0 then (F8_pairsOf ((F8_layPairs a1 0 ((-4)) 1 m).1) (F8_tracePairs a1 1 (F8_layPairs a1 0 ((-4)) 1 m).2), (F8_tracePairs a1 1 (F8_layPairs a1 0 ((-4)) 1 m).2)) else (if a2 = 1 then ((1000 * (F8_pairsOf ((F8_layPairs a1 0 ((-4)) 1 m).1) (F8_tracePairs a1 1 (F8_layPairs a1 0 ((-4)) 1 m).2))) - ((F8_layPairs a1 0 ((-4)) 1 m).1), (F8_tracePairs a1 1 (F8_layPairs a1 0 ((-4)) 1 m).2)) else ((F8_tracePairs a1 1 (F8_layPairs a1 0 ((-4)) 1 m).2) 86 (Int32.toNatClampNeg (a2 - 10)), (F8_tracePairs a1 1 (F8_layPairs a1 0 ((-4)) 1 m).2)))))) := rfl
  unfold D8_heaved at hD
  show ax_N 6 Y8_heaved 0 [some (.ref 74), some (.int a1), some (.int a2), none] [] m _
  refine s_aload_n eX8_heaved_0 rfl rfl ?_
  refine s_iload_n eX8_heaved_1 rfl rfl ?_
  refine n_callVi (As := [.int a1]) eX8_heaved_2 kX8_isBridge lX8_208 rfl rfl shp_74 rfl rfl (Nat.le_of_ble_eq_true rfl) (Nat.le_of_ble_eq_true rfl) (Nat.le_of_ble_eq_true rfl) (uX8_isBridge a1 m) ?_
  refine s_if_eq eX8_heaved_5 (fun h1 => ?_) (fun h1 => ?_)
  · skip
    rw [if_pos h1] at E
    refine s_iconst (v := (-1)) eX8_heaved_37 rfl ?_
    exact s_iret eX8_heaved_38 rfl ⟨rfl, by rw [E], by rw [E]⟩
  · skip
    rw [if_neg h1] at E
    have hD := hD h1
    refine s_iload_n eX8_heaved_8 rfl rfl ?_
    refine s_i2l eX8_heaved_9 ?_
    refine s_lconst (v := 0) eX8_heaved_10 rfl ?_
    refine s_lconst (v := 1) eX8_heaved_11 rfl ?_
    refine n_callSi (As := [.long (Int32.toInt64 a2), .long 0, .long 1]) eX8_heaved_12 kX8_in lX8_87 rfl rfl (Nat.le_of_ble_eq_true rfl) (Nat.le_of_ble_eq_true rfl) (Nat.le_of_ble_eq_true rfl) (uX8_in (Int32.toInt64 a2) 0 1 m) ?_
    refine s_if_ne eX8_heaved_15 (fun h2 => ?_) (fun h2 => ?_)
    · skip
      rw [if_neg h2] at E
      have hD := hD.2 h2
      refine s_aload_n eX8_heaved_39 rfl rfl ?_
      refine s_iload_n eX8_heaved_40 rfl rfl ?_
      refine s_iconst (v := 0) eX8_heaved_41 rfl ?_
      refine s_bipush (v := (-4)) eX8_heaved_42 rfl ?_
      refine s_iconst (v := 1) eX8_heaved_44 rfl ?_
      obtain ⟨q3, hD⟩ := hD
      refine n_callVi (As := [.int a1, .int 0, .int ((-4)), .int 1]) eX8_heaved_45 kX8_layPairs lX8_295 rfl rfl shp_74 rfl rfl (Nat.le_of_ble_eq_true rfl) (Nat.le_of_ble_eq_true rfl) (Nat.le_of_ble_eq_true rfl) (uX8_layPairs a1 0 ((-4)) 1 m q3) ?_
      refine s_istore_n (ls' := [some (.ref 74), some (.int a1), some (.int a2), some (.int ((F8_layPairs a1 0 ((-4)) 1 m).1))]) eX8_heaved_48 rfl rfl rfl ?_
      refine s_aload_n eX8_heaved_49 rfl rfl ?_
      refine s_iload_n eX8_heaved_50 rfl rfl ?_
      refine s_iconst (v := 1) eX8_heaved_51 rfl ?_
      obtain ⟨q4, hD⟩ := hD
      refine n_callVv (As := [.int a1, .int 1]) eX8_heaved_52 kX8_tracePairs lX8_298 rfl rfl shp_74 rfl rfl (Nat.le_of_ble_eq_true rfl) (Nat.le_of_ble_eq_true rfl) (Nat.le_of_ble_eq_true rfl) (uX8_tracePairs a1 1 ((F8_layPairs a1 0 ((-4)) 1 m).2) q4) ?_
      refine s_iload_n eX8_heaved_55 rfl rfl ?_
      refine s_if_ne eX8_heaved_56 (fun h5 => ?_) (fun h5 => ?_)
      · skip
        rw [if_neg h5] at E
        have hD := hD h5
        refine s_iload_n eX8_heaved_66 rfl rfl ?_
        refine s_iconst (v := 1) eX8_heaved_67 rfl ?_
        refine s_icmp_ne eX8_heaved_68 (fun h6 => ?_) (fun h6 => ?_)
        · skip
          rw [if_neg h6] at E
          have hD := hD h6
          refine s_aload_n eX8_heaved_84 rfl rfl ?_
          refine s_getr (q := 86) eX8_heaved_85 fX8_50 shp_74 rfl ?_
          refine s_iload_n eX8_heaved_88 rfl rfl ?_
          refine s_bipush (v := 10) eX8_heaved_89 rfl ?_
          refine s_isub eX8_heaved_91 ?_
          have q7 := hD
          refine s_iald eX8_heaved_92 shp_86 q7 ?_
          exact s_iret eX8_heaved_93 rfl ⟨rfl, by rw [E], by rw [E]⟩
        · skip
          rw [if_pos h6] at E
          refine s_sipush (v := 1000) eX8_heaved_71 rfl ?_
          refine s_iload_n eX8_heaved_74 rfl rfl ?_
          refine n_callSi (As := [.int ((F8_layPairs a1 0 ((-4)) 1 m).1)]) eX8_heaved_75 kX8_pairsOf lX8_302 rfl rfl (Nat.le_of_ble_eq_true rfl) (Nat.le_of_ble_eq_true rfl) (Nat.le_of_ble_eq_true rfl) (uX8_pairsOf ((F8_layPairs a1 0 ((-4)) 1 m).1) ((F8_tracePairs a1 1 (F8_layPairs a1 0 ((-4)) 1 m).2))) ?_
          refine s_imul eX8_heaved_78 ?_
          refine s_iload_n eX8_heaved_79 rfl rfl ?_
          refine s_isub eX8_heaved_80 ?_
          refine s_goto eX8_heaved_81 ?_
          exact s_iret eX8_heaved_93 rfl ⟨rfl, by rw [E], by rw [E]⟩
      · skip
        rw [if_pos h5] at E
        refine s_iload_n eX8_heaved_59 rfl rfl ?_
        refine n_callSi (As := [.int ((F8_layPairs a1 0 ((-4)) 1 m).1)]) eX8_heaved_60 kX8_pairsOf lX8_302 rfl rfl (Nat.le_of_ble_eq_true rfl) (Nat.le_of_ble_eq_true rfl) (Nat.le_of_ble_eq_true rfl) (uX8_pairsOf ((F8_layPairs a1 0 ((-4)) 1 m).1) ((F8_tracePairs a1 1 (F8_layPairs a1 0 ((-4)) 1 m).2))) ?_
        refine s_goto eX8_heaved_63 ?_
        exact s_iret eX8_heaved_93 rfl ⟨rfl, by rw [E], by rw [E]⟩
    · skip
      rw [if_pos h2] at E
      have hD := hD.1 h2
      refine s_iload_n eX8_heaved_18 rfl rfl ?_
      refine s_i2l eX8_heaved_19 ?_
      refine s_ldc2 eX8_heaved_20 qX8_293 ?_
      refine s_bipush (v := 9) eX8_heaved_23 rfl ?_
      refine s_aload_n eX8_heaved_25 rfl rfl ?_
      refine s_geti eX8_heaved_26 fX8_202 shp_74 rfl ?_
      refine s_iadd eX8_heaved_29 ?_
      refine s_i2l eX8_heaved_30 ?_
      refine n_callSi (As := [.long (Int32.toInt64 a2), .long 10, .long (Int32.toInt64 (9 + (m 74 3)))]) eX8_heaved_31 kX8_in lX8_87 rfl rfl (Nat.le_of_ble_eq_true rfl) (Nat.le_of_ble_eq_true rfl) (Nat.le_of_ble_eq_true rfl) (uX8_in (Int32.toInt64 a2) 10 (Int32.toInt64 (9 + (m 74 3))) m) ?_
      refine s_if_ne eX8_heaved_34 (fun h8 => ?_) (fun h8 => ?_)
      · skip
        rw [if_neg h8] at E
        have hD := hD h8
        refine s_aload_n eX8_heaved_39 rfl rfl ?_
        refine s_iload_n eX8_heaved_40 rfl rfl ?_
        refine s_iconst (v := 0) eX8_heaved_41 rfl ?_
        refine s_bipush (v := (-4)) eX8_heaved_42 rfl ?_
        refine s_iconst (v := 1) eX8_heaved_44 rfl ?_
        obtain ⟨q9, hD⟩ := hD
        refine n_callVi (As := [.int a1, .int 0, .int ((-4)), .int 1]) eX8_heaved_45 kX8_layPairs lX8_295 rfl rfl shp_74 rfl rfl (Nat.le_of_ble_eq_true rfl) (Nat.le_of_ble_eq_true rfl) (Nat.le_of_ble_eq_true rfl) (uX8_layPairs a1 0 ((-4)) 1 m q9) ?_
        refine s_istore_n (ls' := [some (.ref 74), some (.int a1), some (.int a2), some (.int ((F8_layPairs a1 0 ((-4)) 1 m).1))]) eX8_heaved_48 rfl rfl rfl ?_
        refine s_aload_n eX8_heaved_49 rfl rfl ?_
        refine s_iload_n eX8_heaved_50 rfl rfl ?_
        refine s_iconst (v := 1) eX8_heaved_51 rfl ?_
        obtain ⟨q10, hD⟩ := hD
        refine n_callVv (As := [.int a1, .int 1]) eX8_heaved_52 kX8_tracePairs lX8_298 rfl rfl shp_74 rfl rfl (Nat.le_of_ble_eq_true rfl) (Nat.le_of_ble_eq_true rfl) (Nat.le_of_ble_eq_true rfl) (uX8_tracePairs a1 1 ((F8_layPairs a1 0 ((-4)) 1 m).2) q10) ?_
        refine s_iload_n eX8_heaved_55 rfl rfl ?_
        refine s_if_ne eX8_heaved_56 (fun h11 => ?_) (fun h11 => ?_)
        · skip
          rw [if_neg h11] at E
          have hD := hD h11
          refine s_iload_n eX8_heaved_66 rfl rfl ?_
          refine s_iconst (v := 1) eX8_heaved_67 rfl ?_
          refine s_icmp_ne eX8_heaved_68 (fun h12 => ?_) (fun h12 => ?_)
          · skip
            rw [if_neg h12] at E
            have hD := hD h12
            refine s_aload_n eX8_heaved_84 rfl rfl ?_
            refine s_getr (q := 86) eX8_heaved_85 fX8_50 shp_74 rfl ?_
            refine s_iload_n eX8_heaved_88 rfl rfl ?_
            refine s_bipush (v := 10) eX8_heaved_89 rfl ?_
            refine s_isub eX8_heaved_91 ?_
            have q13 := hD
            refine s_iald eX8_heaved_92 shp_86 q13 ?_
            exact s_iret eX8_heaved_93 rfl ⟨rfl, by rw [E], by rw [E]⟩
          · skip
            rw [if_pos h12] at E
            refine s_sipush (v := 1000) eX8_heaved_71 rfl ?_
            refine s_iload_n eX8_heaved_74 rfl rfl ?_
            refine n_callSi (As := [.int ((F8_layPairs a1 0 ((-4)) 1 m).1)]) eX8_heaved_75 kX8_pairsOf lX8_302 rfl rfl (Nat.le_of_ble_eq_true rfl) (Nat.le_of_ble_eq_true rfl) (Nat.le_of_ble_eq_true rfl) (uX8_pairsOf ((F8_layPairs a1 0 ((-4)) 1 m).1) ((F8_tracePairs a1 1 (F8_layPairs a1 0 ((-4)) 1 m).2))) ?_
            refine s_imul eX8_heaved_78 ?_
            refine s_iload_n eX8_heaved_79 rfl rfl ?_
            refine s_isub eX8_heaved_80 ?_
            refine s_goto eX8_heaved_81 ?_
            exact s_iret eX8_heaved_93 rfl ⟨rfl, by rw [E], by rw [E]⟩
        · skip
          rw [if_pos h11] at E
          refine s_iload_n eX8_heaved_59 rfl rfl ?_
          refine n_callSi (As := [.int ((F8_layPairs a1 0 ((-4)) 1 m).1)]) eX8_heaved_60 kX8_pairsOf lX8_302 rfl rfl (Nat.le_of_ble_eq_true rfl) (Nat.le_of_ble_eq_true rfl) (Nat.le_of_ble_eq_true rfl) (uX8_pairsOf ((F8_layPairs a1 0 ((-4)) 1 m).1) ((F8_tracePairs a1 1 (F8_layPairs a1 0 ((-4)) 1 m).2))) ?_
          refine s_goto eX8_heaved_63 ?_
          exact s_iret eX8_heaved_93 rfl ⟨rfl, by rw [E], by rw [E]⟩
      · skip
        rw [if_pos h8] at E
        refine s_iconst (v := (-1)) eX8_heaved_37 rfl ?_
        exact s_iret eX8_heaved_38 rfl ⟨rfl, by rw [E], by rw [E]⟩
theorem cK8_worth_43 (v1 v2 v3 w0 w1 : Int32) (m : ax_M) {P : Option Value → ax_M → Prop} (hP : P (some (.int (K8_worth_43 v1 v2 v3 w0 w1 m).1)) (K8_worth_43 v1 v2 v3 w0 w1 m).2) : ax_N 6 Y8_worth 43 [some (.ref 74), some (.int v1), some (.int v2), some (.int v3)] [.int w0, .int w1] m P := by
  have E : K8_worth_43 v1 v2 v3 w0 w1 m = (w1 - (F8_pairsOf w0 m), m) := rfl
  refine n_callSi (As := [.int w0]) eX8_worth_43 kX8_pairsOf lX8_302 rfl rfl (Nat.le_of_ble_eq_true rfl) (Nat.le_of_ble_eq_true rfl) (Nat.le_of_ble_eq_true rfl) (uX8_pairsOf w0 m) ?_
  refine s_isub eX8_worth_46 ?_
  rw [E] at hP
  exact s_iret eX8_worth_47 rfl ⟨rfl, hP⟩
theorem uX8_worth (a1 : Int32) (a2 : Int32) (m : ax_M) (hD : D8_worth a1 a2 m) : ax_NM 6 Y8_worth [.ref 74, .int a1, .int a2] m (fun r m1 => r = some (.int (F8_worth a1 a2 m).1) ∧ m1 = (F8_worth a1 a2 m).2) := by
  have E : F8_worth a1 a2 m = (if (F8_isBridge a1 m) = 0 then ((-1), m) else (if (F8_isOne a2 m) = 0 then ((-1), m) else (K8_worth_43 a1 a2 (F8_pairsOf ((F8_layPairs a1 0 ((-4)) 0 m).1) (F8_layPairs a1 0 ((-4)) 0 m).2) ((F8_layPairs a1 ((1 : Int32) <<< (a2 &&& (31 : Int32))) ((-4)) 0 (F8_layPairs a1 0 ((-4)) 0 m).2).1) (F8_pairsOf ((F8_layPairs a1 0 ((-4)) 0 m).1) (F8_layPairs a1 0 ((-4)) 0 m).2) (F8_layPairs a1 ((1 : Int32) <<< (a2 &&& (31 : Int32))) ((-4)) 0 (F8_layPairs a1 0 ((-4)) 0 m).2).2))) := rfl
  unfold D8_worth at hD
  show ax_N 6 Y8_worth 0 [some (.ref 74), some (.int a1), some (.int a2), none] [] m _
  refine s_aload_n eX8_worth_0 rfl rfl ?_
  refine s_iload_n eX8_worth_1 rfl rfl ?_
  refine n_callVi (As := [.int a1]) eX8_worth_2 kX8_isBridge lX8_208 rfl rfl shp_74 rfl rfl (Nat.le_of_ble_eq_true rfl) (Nat.le_of_ble_eq_true rfl) (Nat.le_of_ble_eq_true rfl) (uX8_isBridge a1 m) ?_
  refine s_if_eq eX8_worth_5 (fun h1 => ?_) (fun h1 => ?_)
  · skip
    rw [if_pos h1] at E
    refine s_iconst (v := (-1)) eX8_worth_16 rfl ?_
    exact s_iret eX8_worth_17 rfl ⟨rfl, by rw [E], by rw [E]⟩
  · skip
    rw [if_neg h1] at E
    have hD := hD h1
    refine s_aload_n eX8_worth_8 rfl rfl ?_
    refine s_iload_n eX8_worth_9 rfl rfl ?_
    refine n_callVi (As := [.int a2]) eX8_worth_10 kX8_isOne lX8_212 rfl rfl shp_74 rfl rfl (Nat.le_of_ble_eq_true rfl) (Nat.le_of_ble_eq_true rfl) (Nat.le_of_ble_eq_true rfl) (uX8_isOne a2 m) ?_
    refine s_if_ne eX8_worth_13 (fun h2 => ?_) (fun h2 => ?_)
    · skip
      rw [if_neg h2] at E
      have hD := hD h2
      refine s_aload_n eX8_worth_18 rfl rfl ?_
      refine s_iload_n eX8_worth_19 rfl rfl ?_
      refine s_iconst (v := 0) eX8_worth_20 rfl ?_
      refine s_bipush (v := (-4)) eX8_worth_21 rfl ?_
      refine s_iconst (v := 0) eX8_worth_23 rfl ?_
      obtain ⟨q3, hD⟩ := hD
      refine n_callVi (As := [.int a1, .int 0, .int ((-4)), .int 0]) eX8_worth_24 kX8_layPairs lX8_295 rfl rfl shp_74 rfl rfl (Nat.le_of_ble_eq_true rfl) (Nat.le_of_ble_eq_true rfl) (Nat.le_of_ble_eq_true rfl) (uX8_layPairs a1 0 ((-4)) 0 m q3) ?_
      refine n_callSi (As := [.int ((F8_layPairs a1 0 ((-4)) 0 m).1)]) eX8_worth_27 kX8_pairsOf lX8_302 rfl rfl (Nat.le_of_ble_eq_true rfl) (Nat.le_of_ble_eq_true rfl) (Nat.le_of_ble_eq_true rfl) (uX8_pairsOf ((F8_layPairs a1 0 ((-4)) 0 m).1) ((F8_layPairs a1 0 ((-4)) 0 m).2)) ?_
      refine s_istore_n (ls' := [some (.ref 74), some (.int a1), some (.int a2), some (.int (F8_pairsOf ((F8_layPairs a1 0 ((-4)) 0 m).1) (F8_layPairs a1 0 ((-4)) 0 m).2))]) eX8_worth_30 rfl rfl rfl ?_
      refine s_iload_n eX8_worth_31 rfl rfl ?_
      refine s_aload_n eX8_worth_32 rfl rfl ?_
      refine s_iload_n eX8_worth_33 rfl rfl ?_
      refine s_iconst (v := 1) eX8_worth_34 rfl ?_
      refine s_iload_n eX8_worth_35 rfl rfl ?_
      refine s_ishl eX8_worth_36 ?_
      refine s_bipush (v := (-4)) eX8_worth_37 rfl ?_
      refine s_iconst (v := 0) eX8_worth_39 rfl ?_
      have q4 := hD
      refine n_callVi (As := [.int a1, .int ((1 : Int32) <<< (a2 &&& (31 : Int32))), .int ((-4)), .int 0]) eX8_worth_40 kX8_layPairs lX8_295 rfl rfl shp_74 rfl rfl (Nat.le_of_ble_eq_true rfl) (Nat.le_of_ble_eq_true rfl) (Nat.le_of_ble_eq_true rfl) (uX8_layPairs a1 ((1 : Int32) <<< (a2 &&& (31 : Int32))) ((-4)) 0 ((F8_layPairs a1 0 ((-4)) 0 m).2) q4) ?_
      refine cK8_worth_43 a1 a2 (F8_pairsOf ((F8_layPairs a1 0 ((-4)) 0 m).1) (F8_layPairs a1 0 ((-4)) 0 m).2) ((F8_layPairs a1 ((1 : Int32) <<< (a2 &&& (31 : Int32))) ((-4)) 0 (F8_layPairs a1 0 ((-4)) 0 m).2).1) (F8_pairsOf ((F8_layPairs a1 0 ((-4)) 0 m).1) (F8_layPairs a1 0 ((-4)) 0 m).2) ((F8_layPairs a1 ((1 : Int32) <<< (a2 &&& (31 : Int32))) ((-4)) 0 (F8_layPairs a1 0 ((-4)) 0 m).2).2) ?_
      exact ⟨by rw [E], by rw [E]⟩
    · skip
      rw [if_pos h2] at E
      refine s_iconst (v := (-1)) eX8_worth_16 rfl ?_
      exact s_iret eX8_worth_17 rfl ⟨rfl, by rw [E], by rw [E]⟩
theorem clX8_hire_55 {P : Option Value → ax_M → Prop} : ∀ (n : Nat) (v1 v2 v3 v4 v5 v6 : Int32) (m : ax_M), E8_hire_55 n v1 v2 v3 v4 v5 v6 m → (ax_N 6 Y8_hire 119 [some (.ref 74), some (.int v1), some (.int v2), some (.int v3), some (.int ((L8_hire_55 n v1 v2 v3 v4 v5 v6 m).1)), some (.int ((L8_hire_55 n v1 v2 v3 v4 v5 v6 m).2.1)), some (.int ((L8_hire_55 n v1 v2 v3 v4 v5 v6 m).2.2.1)), none] [] ((L8_hire_55 n v1 v2 v3 v4 v5 v6 m).2.2.2) P) → ax_N 6 Y8_hire 55 [some (.ref 74), some (.int v1), some (.int v2), some (.int v3), some (.int v4), some (.int v5), some (.int v6), none] [] m P := by
  intro n
  induction n with
  | zero => intro v1 v2 v3 v4 v5 v6 m hD; exact absurd hD id
  | succ n ih =>
    intro v1 v2 v3 v4 v5 v6 m hD hx
    have E : L8_hire_55 (n + 1) v1 v2 v3 v4 v5 v6 m = (if 100 ≤ v6 then (v4, v5, v6, m) else L8_hire_55 n v1 v2 v3 (if (F8_pairsOf ((F8_layPairs v1 0 v2 0 (ax_up m 74 32 v6)).1) (F8_layPairs v1 0 v2 0 (ax_up m 74 32 v6)).2) ≤ v4 then (v4 : Int32) else F8_pairsOf ((F8_layPairs v1 0 v2 0 (ax_up m 74 32 v6)).1) (F8_layPairs v1 0 v2 0 (ax_up m 74 32 v6)).2) (if (F8_pairsOf ((F8_layPairs v1 0 v2 0 (ax_up m 74 32 v6)).1) (F8_layPairs v1 0 v2 0 (ax_up m 74 32 v6)).2) ≤ v4 then (v5 : Int32) else v6) (v6 + 1) (F8_layPairs v1 0 v2 0 (ax_up m 74 32 v6)).2) := by rw [L8_hire_55]
    have hD : ((¬ (100 ≤ v6) → ((D8_layPairs v1 0 v2 0 (ax_up m 74 32 v6)) ∧ (E8_hire_55 n v1 v2 v3 (if (F8_pairsOf ((F8_layPairs v1 0 v2 0 (ax_up m 74 32 v6)).1) (F8_layPairs v1 0 v2 0 (ax_up m 74 32 v6)).2) ≤ v4 then (v4 : Int32) else F8_pairsOf ((F8_layPairs v1 0 v2 0 (ax_up m 74 32 v6)).1) (F8_layPairs v1 0 v2 0 (ax_up m 74 32 v6)).2) (if (F8_pairsOf ((F8_layPairs v1 0 v2 0 (ax_up m 74 32 v6)).1) (F8_layPairs v1 0 v2 0 (ax_up m 74 32 v6)).2) ≤ v4 then (v5 : Int32) else v6) (v6 + 1) (F8_layPairs v1 0 v2 0 (ax_up m 74 32 v6)).2)))) := hD
    refine s_iload eX8_hire_55 rfl ?_
    refine s_bipush (v := 100) eX8_hire_57 rfl ?_
    refine s_icmp_ge eX8_hire_59 (fun h1 => ?_) (fun h1 => ?_)
    · skip
      rw [if_pos h1] at E
      rw [E] at hx
      exact hx
    · skip
      rw [if_neg h1] at E
      have hD := hD h1
      refine s_aload_n eX8_hire_62 rfl rfl ?_
      refine s_iload eX8_hire_63 rfl ?_
      refine s_puti eX8_hire_65 fX8_230 pX8_32 rfl rfl shp_74 rfl ?_
      refine s_aload_n eX8_hire_68 rfl rfl ?_
      refine s_iload_n eX8_hire_69 rfl rfl ?_
      refine s_iconst (v := 0) eX8_hire_70 rfl ?_
      refine s_iload_n eX8_hire_71 rfl rfl ?_
      refine s_iconst (v := 0) eX8_hire_72 rfl ?_
      obtain ⟨q2, hD⟩ := hD
      refine n_callVi (As := [.int v1, .int 0, .int v2, .int 0]) eX8_hire_73 kX8_layPairs lX8_295 rfl rfl shp_74 rfl rfl (Nat.le_of_ble_eq_true rfl) (Nat.le_of_ble_eq_true rfl) (Nat.le_of_ble_eq_true rfl) (uX8_layPairs v1 0 v2 0 ((ax_up m 74 32 v6)) q2) ?_
      refine n_callSi (As := [.int ((F8_layPairs v1 0 v2 0 (ax_up m 74 32 v6)).1)]) eX8_hire_76 kX8_pairsOf lX8_302 rfl rfl (Nat.le_of_ble_eq_true rfl) (Nat.le_of_ble_eq_true rfl) (Nat.le_of_ble_eq_true rfl) (uX8_pairsOf ((F8_layPairs v1 0 v2 0 (ax_up m 74 32 v6)).1) ((F8_layPairs v1 0 v2 0 (ax_up m 74 32 v6)).2)) ?_
      refine s_istore (ls' := [some (.ref 74), some (.int v1), some (.int v2), some (.int v3), some (.int v4), some (.int v5), some (.int v6), some (.int (F8_pairsOf ((F8_layPairs v1 0 v2 0 (ax_up m 74 32 v6)).1) (F8_layPairs v1 0 v2 0 (ax_up m 74 32 v6)).2))]) eX8_hire_79 rfl rfl ?_
      refine s_iload eX8_hire_81 rfl ?_
      refine s_iload eX8_hire_83 rfl ?_
      have J3 : ax_N 6 Y8_hire 95 [some (.ref 74), some (.int v1), some (.int v2), some (.int v3), some (.int v4), some (.int v5), some (.int v6), some (.int (F8_pairsOf ((F8_layPairs v1 0 v2 0 (ax_up m 74 32 v6)).1) (F8_layPairs v1 0 v2 0 (ax_up m 74 32 v6)).2))] [.int (if (F8_pairsOf ((F8_layPairs v1 0 v2 0 (ax_up m 74 32 v6)).1) (F8_layPairs v1 0 v2 0 (ax_up m 74 32 v6)).2) ≤ v4 then (v5 : Int32) else v6)] ((F8_layPairs v1 0 v2 0 (ax_up m 74 32 v6)).2) P := by
        refine s_istore (ls' := [some (.ref 74), some (.int v1), some (.int v2), some (.int v3), some (.int v4), some (.int (if (F8_pairsOf ((F8_layPairs v1 0 v2 0 (ax_up m 74 32 v6)).1) (F8_layPairs v1 0 v2 0 (ax_up m 74 32 v6)).2) ≤ v4 then (v5 : Int32) else v6)), some (.int v6), some (.int (F8_pairsOf ((F8_layPairs v1 0 v2 0 (ax_up m 74 32 v6)).1) (F8_layPairs v1 0 v2 0 (ax_up m 74 32 v6)).2))]) eX8_hire_95 rfl rfl ?_
        refine s_iload eX8_hire_97 rfl ?_
        refine s_iload eX8_hire_99 rfl ?_
        have J4 : ax_N 6 Y8_hire 111 [some (.ref 74), some (.int v1), some (.int v2), some (.int v3), some (.int v4), some (.int (if (F8_pairsOf ((F8_layPairs v1 0 v2 0 (ax_up m 74 32 v6)).1) (F8_layPairs v1 0 v2 0 (ax_up m 74 32 v6)).2) ≤ v4 then (v5 : Int32) else v6)), some (.int v6), some (.int (F8_pairsOf ((F8_layPairs v1 0 v2 0 (ax_up m 74 32 v6)).1) (F8_layPairs v1 0 v2 0 (ax_up m 74 32 v6)).2))] [.int (if (F8_pairsOf ((F8_layPairs v1 0 v2 0 (ax_up m 74 32 v6)).1) (F8_layPairs v1 0 v2 0 (ax_up m 74 32 v6)).2) ≤ v4 then (v4 : Int32) else F8_pairsOf ((F8_layPairs v1 0 v2 0 (ax_up m 74 32 v6)).1) (F8_layPairs v1 0 v2 0 (ax_up m 74 32 v6)).2)] ((F8_layPairs v1 0 v2 0 (ax_up m 74 32 v6)).2) P := by
          refine s_istore (ls' := [some (.ref 74), some (.int v1), some (.int v2), some (.int v3), some (.int (if (F8_pairsOf ((F8_layPairs v1 0 v2 0 (ax_up m 74 32 v6)).1) (F8_layPairs v1 0 v2 0 (ax_up m 74 32 v6)).2) ≤ v4 then (v4 : Int32) else F8_pairsOf ((F8_layPairs v1 0 v2 0 (ax_up m 74 32 v6)).1) (F8_layPairs v1 0 v2 0 (ax_up m 74 32 v6)).2)), some (.int (if (F8_pairsOf ((F8_layPairs v1 0 v2 0 (ax_up m 74 32 v6)).1) (F8_layPairs v1 0 v2 0 (ax_up m 74 32 v6)).2) ≤ v4 then (v5 : Int32) else v6)), some (.int v6), some (.int (F8_pairsOf ((F8_layPairs v1 0 v2 0 (ax_up m 74 32 v6)).1) (F8_layPairs v1 0 v2 0 (ax_up m 74 32 v6)).2))]) eX8_hire_111 rfl rfl ?_
          refine s_iinc (v := v6 + 1) (ls' := [some (.ref 74), some (.int v1), some (.int v2), some (.int v3), some (.int (if (F8_pairsOf ((F8_layPairs v1 0 v2 0 (ax_up m 74 32 v6)).1) (F8_layPairs v1 0 v2 0 (ax_up m 74 32 v6)).2) ≤ v4 then (v4 : Int32) else F8_pairsOf ((F8_layPairs v1 0 v2 0 (ax_up m 74 32 v6)).1) (F8_layPairs v1 0 v2 0 (ax_up m 74 32 v6)).2)), some (.int (if (F8_pairsOf ((F8_layPairs v1 0 v2 0 (ax_up m 74 32 v6)).1) (F8_layPairs v1 0 v2 0 (ax_up m 74 32 v6)).2) ≤ v4 then (v5 : Int32) else v6)), some (.int (v6 + 1)), some (.int (F8_pairsOf ((F8_layPairs v1 0 v2 0 (ax_up m 74 32 v6)).1) (F8_layPairs v1 0 v2 0 (ax_up m 74 32 v6)).2))]) eX8_hire_113 rfl rfl rfl rfl ?_
          refine s_goto eX8_hire_116 ?_
          refine ax_forget (ls' := [some (.ref 74), some (.int v1), some (.int v2), some (.int v3), some (.int (if (F8_pairsOf ((F8_layPairs v1 0 v2 0 (ax_up m 74 32 v6)).1) (F8_layPairs v1 0 v2 0 (ax_up m 74 32 v6)).2) ≤ v4 then (v4 : Int32) else F8_pairsOf ((F8_layPairs v1 0 v2 0 (ax_up m 74 32 v6)).1) (F8_layPairs v1 0 v2 0 (ax_up m 74 32 v6)).2)), some (.int (if (F8_pairsOf ((F8_layPairs v1 0 v2 0 (ax_up m 74 32 v6)).1) (F8_layPairs v1 0 v2 0 (ax_up m 74 32 v6)).2) ≤ v4 then (v5 : Int32) else v6)), some (.int (v6 + 1)), none]) rfl ?_
          rw [E] at hx
          exact ih v1 v2 v3 (if (F8_pairsOf ((F8_layPairs v1 0 v2 0 (ax_up m 74 32 v6)).1) (F8_layPairs v1 0 v2 0 (ax_up m 74 32 v6)).2) ≤ v4 then (v4 : Int32) else F8_pairsOf ((F8_layPairs v1 0 v2 0 (ax_up m 74 32 v6)).1) (F8_layPairs v1 0 v2 0 (ax_up m 74 32 v6)).2) (if (F8_pairsOf ((F8_layPairs v1 0 v2 0 (ax_up m 74 32 v6)).1) (F8_layPairs v1 0 v2 0 (ax_up m 74 32 v6)).2) ≤ v4 then (v5 : Int32) else v6) (v6 + 1) ((F8_layPairs v1 0 v2 0 (ax_up m 74 32 v6)).2) hD hx
        refine s_icmp_le eX8_hire_101 (fun h5 => ?_) (fun h5 => ?_)
        · skip
          refine s_iload eX8_hire_109 rfl ?_
          exact ax_eqN rfl (by rw [show (if (F8_pairsOf ((F8_layPairs v1 0 v2 0 (ax_up m 74 32 v6)).1) (F8_layPairs v1 0 v2 0 (ax_up m 74 32 v6)).2) ≤ v4 then (v4 : Int32) else F8_pairsOf ((F8_layPairs v1 0 v2 0 (ax_up m 74 32 v6)).1) (F8_layPairs v1 0 v2 0 (ax_up m 74 32 v6)).2 : Int32) = v4 by rw [if_pos h5]]) rfl J4
        · skip
          refine s_iload eX8_hire_104 rfl ?_
          refine s_goto eX8_hire_106 ?_
          exact ax_eqN rfl (by rw [show (if (F8_pairsOf ((F8_layPairs v1 0 v2 0 (ax_up m 74 32 v6)).1) (F8_layPairs v1 0 v2 0 (ax_up m 74 32 v6)).2) ≤ v4 then (v4 : Int32) else F8_pairsOf ((F8_layPairs v1 0 v2 0 (ax_up m 74 32 v6)).1) (F8_layPairs v1 0 v2 0 (ax_up m 74 32 v6)).2 : Int32) = F8_pairsOf ((F8_layPairs v1 0 v2 0 (ax_up m 74 32 v6)).1) (F8_layPairs v1 0 v2 0 (ax_up m 74 32 v6)).2 by rw [if_neg h5]]) rfl J4
      refine s_icmp_le eX8_hire_85 (fun h6 => ?_) (fun h6 => ?_)
      · skip
        refine s_iload eX8_hire_93 rfl ?_
        exact ax_eqN rfl (by rw [show (if (F8_pairsOf ((F8_layPairs v1 0 v2 0 (ax_up m 74 32 v6)).1) (F8_layPairs v1 0 v2 0 (ax_up m 74 32 v6)).2) ≤ v4 then (v5 : Int32) else v6 : Int32) = v5 by rw [if_pos h6]]) rfl J3
      · skip
        refine s_iload eX8_hire_88 rfl ?_
        refine s_goto eX8_hire_90 ?_
        exact ax_eqN rfl (by rw [show (if (F8_pairsOf ((F8_layPairs v1 0 v2 0 (ax_up m 74 32 v6)).1) (F8_layPairs v1 0 v2 0 (ax_up m 74 32 v6)).2) ≤ v4 then (v5 : Int32) else v6 : Int32) = v6 by rw [if_neg h6]]) rfl J3
theorem cK8_hire_119 (v1 v2 v3 v4 v5 v6 : Int32) (m : ax_M) {P : Option Value → ax_M → Prop} (hP : P (some (.int (K8_hire_119 v1 v2 v3 v4 v5 v6 m).1)) (K8_hire_119 v1 v2 v3 v4 v5 v6 m).2) : ax_N 6 Y8_hire 119 [some (.ref 74), some (.int v1), some (.int v2), some (.int v3), some (.int v4), some (.int v5), some (.int v6), none] [] m P := by
  have E : K8_hire_119 v1 v2 v3 v4 v5 v6 m = (if v3 = 0 then (v5, m) else (v4, m)) := rfl
  refine s_iload_n eX8_hire_119 rfl rfl ?_
  refine s_if_ne eX8_hire_120 (fun h1 => ?_) (fun h1 => ?_)
  · skip
    rw [if_neg h1] at E
    refine s_iload eX8_hire_128 rfl ?_
    rw [E] at hP
    exact s_iret eX8_hire_130 rfl ⟨rfl, hP⟩
  · skip
    rw [if_pos h1] at E
    refine s_iload eX8_hire_123 rfl ?_
    refine s_goto eX8_hire_125 ?_
    rw [E] at hP
    exact s_iret eX8_hire_130 rfl ⟨rfl, hP⟩
theorem uX8_hire (a1 : Int32) (a2 : Int32) (a3 : Int32) (m : ax_M) (hD : D8_hire a1 a2 a3 m) : ax_NM 6 Y8_hire [.ref 74, .int a1, .int a2, .int a3] m (fun r m1 => r = some (.int (F8_hire a1 a2 a3 m).1) ∧ m1 = (F8_hire a1 a2 a3 m).2) := by
  have E : F8_hire a1 a2 a3 m = (if (F8_isBridge a1 m) = 0 then ((-1), m) else (if (F8_in (Int32.toInt64 a2) 0 1 m) = 0 then ((-1), m) else (if (F8_in (Int32.toInt64 a3) 0 1 m) = 0 then ((-1), m) else (K8_hire_119 a1 a2 a3 ((L8_hire_55 130 a1 a2 a3 ((-4)) ((-4)) 1 (ax_up m 74 33 (m 76 (Int32.toNatClampNeg ((2 * a1) + a2))))).1) ((L8_hire_55 130 a1 a2 a3 ((-4)) ((-4)) 1 (ax_up m 74 33 (m 76 (Int32.toNatClampNeg ((2 * a1) + a2))))).2.1) ((L8_hire_55 130 a1 a2 a3 ((-4)) ((-4)) 1 (ax_up m 74 33 (m 76 (Int32.toNatClampNeg ((2 * a1) + a2))))).2.2.1) (L8_hire_55 130 a1 a2 a3 ((-4)) ((-4)) 1 (ax_up m 74 33 (m 76 (Int32.toNatClampNeg ((2 * a1) + a2))))).2.2.2)))) := rfl
  unfold D8_hire at hD
  show ax_N 6 Y8_hire 0 [some (.ref 74), some (.int a1), some (.int a2), some (.int a3), none, none, none, none] [] m _
  refine s_aload_n eX8_hire_0 rfl rfl ?_
  refine s_iload_n eX8_hire_1 rfl rfl ?_
  refine n_callVi (As := [.int a1]) eX8_hire_2 kX8_isBridge lX8_208 rfl rfl shp_74 rfl rfl (Nat.le_of_ble_eq_true rfl) (Nat.le_of_ble_eq_true rfl) (Nat.le_of_ble_eq_true rfl) (uX8_isBridge a1 m) ?_
  refine s_if_eq eX8_hire_5 (fun h1 => ?_) (fun h1 => ?_)
  · skip
    rw [if_pos h1] at E
    refine s_iconst (v := (-1)) eX8_hire_28 rfl ?_
    exact s_iret eX8_hire_29 rfl ⟨rfl, by rw [E], by rw [E]⟩
  · skip
    rw [if_neg h1] at E
    have hD := hD h1
    refine s_iload_n eX8_hire_8 rfl rfl ?_
    refine s_i2l eX8_hire_9 ?_
    refine s_lconst (v := 0) eX8_hire_10 rfl ?_
    refine s_lconst (v := 1) eX8_hire_11 rfl ?_
    refine n_callSi (As := [.long (Int32.toInt64 a2), .long 0, .long 1]) eX8_hire_12 kX8_in lX8_87 rfl rfl (Nat.le_of_ble_eq_true rfl) (Nat.le_of_ble_eq_true rfl) (Nat.le_of_ble_eq_true rfl) (uX8_in (Int32.toInt64 a2) 0 1 m) ?_
    refine s_if_eq eX8_hire_15 (fun h2 => ?_) (fun h2 => ?_)
    · skip
      rw [if_pos h2] at E
      refine s_iconst (v := (-1)) eX8_hire_28 rfl ?_
      exact s_iret eX8_hire_29 rfl ⟨rfl, by rw [E], by rw [E]⟩
    · skip
      rw [if_neg h2] at E
      have hD := hD h2
      refine s_iload_n eX8_hire_18 rfl rfl ?_
      refine s_i2l eX8_hire_19 ?_
      refine s_lconst (v := 0) eX8_hire_20 rfl ?_
      refine s_lconst (v := 1) eX8_hire_21 rfl ?_
      refine n_callSi (As := [.long (Int32.toInt64 a3), .long 0, .long 1]) eX8_hire_22 kX8_in lX8_87 rfl rfl (Nat.le_of_ble_eq_true rfl) (Nat.le_of_ble_eq_true rfl) (Nat.le_of_ble_eq_true rfl) (uX8_in (Int32.toInt64 a3) 0 1 m) ?_
      refine s_if_ne eX8_hire_25 (fun h3 => ?_) (fun h3 => ?_)
      · skip
        rw [if_neg h3] at E
        have hD := hD h3
        refine s_bipush (v := (-4)) eX8_hire_30 rfl ?_
        refine s_istore (ls' := [some (.ref 74), some (.int a1), some (.int a2), some (.int a3), some (.int ((-4))), none, none, none]) eX8_hire_32 rfl rfl ?_
        refine s_bipush (v := (-4)) eX8_hire_34 rfl ?_
        refine s_istore (ls' := [some (.ref 74), some (.int a1), some (.int a2), some (.int a3), some (.int ((-4))), some (.int ((-4))), none, none]) eX8_hire_36 rfl rfl ?_
        refine s_aload_n eX8_hire_38 rfl rfl ?_
        refine s_aload_n eX8_hire_39 rfl rfl ?_
        refine s_getr (q := 76) eX8_hire_40 fX8_13 shp_74 rfl ?_
        refine s_iconst (v := 2) eX8_hire_43 rfl ?_
        refine s_iload_n eX8_hire_44 rfl rfl ?_
        refine s_imul eX8_hire_45 ?_
        refine s_iload_n eX8_hire_46 rfl rfl ?_
        refine s_iadd eX8_hire_47 ?_
        obtain ⟨q4, hD⟩ := hD
        refine s_iald eX8_hire_48 shp_76 q4 ?_
        refine s_puti eX8_hire_49 fX8_233 pX8_33 rfl rfl shp_74 rfl ?_
        refine s_iconst (v := 1) eX8_hire_52 rfl ?_
        refine s_istore (ls' := [some (.ref 74), some (.int a1), some (.int a2), some (.int a3), some (.int ((-4))), some (.int ((-4))), some (.int 1), none]) eX8_hire_53 rfl rfl ?_
        have q5 := hD
        refine clX8_hire_55 130 a1 a2 a3 ((-4)) ((-4)) 1 ((ax_up m 74 33 (m 76 (Int32.toNatClampNeg ((2 * a1) + a2))))) q5 ?_
        refine cK8_hire_119 a1 a2 a3 ((L8_hire_55 130 a1 a2 a3 ((-4)) ((-4)) 1 (ax_up m 74 33 (m 76 (Int32.toNatClampNeg ((2 * a1) + a2))))).1) ((L8_hire_55 130 a1 a2 a3 ((-4)) ((-4)) 1 (ax_up m 74 33 (m 76 (Int32.toNatClampNeg ((2 * a1) + a2))))).2.1) ((L8_hire_55 130 a1 a2 a3 ((-4)) ((-4)) 1 (ax_up m 74 33 (m 76 (Int32.toNatClampNeg ((2 * a1) + a2))))).2.2.1) ((L8_hire_55 130 a1 a2 a3 ((-4)) ((-4)) 1 (ax_up m 74 33 (m 76 (Int32.toNatClampNeg ((2 * a1) + a2))))).2.2.2) ?_
        exact ⟨by rw [E], by rw [E]⟩
      · skip
        rw [if_pos h3] at E
        refine s_iconst (v := (-1)) eX8_hire_28 rfl ?_
        exact s_iret eX8_hire_29 rfl ⟨rfl, by rw [E], by rw [E]⟩
theorem clX8_codeNow_4 {P : Option Value → ax_M → Prop} : ∀ (n : Nat) (v1 v2 : Int32) (m : ax_M), E8_codeNow_4 n v1 v2 m → (ax_N 1 Y8_codeNow 30 [some (.ref 74), some (.int ((L8_codeNow_4 n v1 v2 m).1)), some (.int ((L8_codeNow_4 n v1 v2 m).2))] [] m P) → ax_N 1 Y8_codeNow 4 [some (.ref 74), some (.int v1), some (.int v2)] [] m P := by
  intro n
  induction n with
  | zero => intro v1 v2 m hD; exact absurd hD id
  | succ n ih =>
    intro v1 v2 m hD hx
    have E : L8_codeNow_4 (n + 1) v1 v2 m = (if (m 74 3) ≤ v2 then (v1, v2) else L8_codeNow_4 n (v1 ||| ((F8_bankOf v2 m) <<< ((2 * v2) &&& (31 : Int32)))) (v2 + 1) m) := by rw [L8_codeNow_4]
    have hD : ((¬ ((m 74 3) ≤ v2) → ((D8_bankOf v2 m) ∧ (E8_codeNow_4 n (v1 ||| ((F8_bankOf v2 m) <<< ((2 * v2) &&& (31 : Int32)))) (v2 + 1) m)))) := hD
    refine s_iload_n eX8_codeNow_4 rfl rfl ?_
    refine s_aload_n eX8_codeNow_5 rfl rfl ?_
    refine s_geti eX8_codeNow_6 fX8_202 shp_74 rfl ?_
    refine s_icmp_ge eX8_codeNow_9 (fun h1 => ?_) (fun h1 => ?_)
    · skip
      rw [if_pos h1] at E
      rw [E] at hx
      exact hx
    · skip
      rw [if_neg h1] at E
      have hD := hD h1
      refine s_iload_n eX8_codeNow_12 rfl rfl ?_
      refine s_aload_n eX8_codeNow_13 rfl rfl ?_
      refine s_iload_n eX8_codeNow_14 rfl rfl ?_
      obtain ⟨q2, hD⟩ := hD
      refine n_callVi (As := [.int v2]) eX8_codeNow_15 kX8_bankOf lX8_239 rfl rfl shp_74 rfl rfl (Nat.le_of_ble_eq_true rfl) (Nat.le_of_ble_eq_true rfl) (Nat.le_of_ble_eq_true rfl) (uX8_bankOf v2 m q2) ?_
      refine s_iconst (v := 2) eX8_codeNow_18 rfl ?_
      refine s_iload_n eX8_codeNow_19 rfl rfl ?_
      refine s_imul eX8_codeNow_20 ?_
      refine s_ishl eX8_codeNow_21 ?_
      refine s_ior eX8_codeNow_22 ?_
      refine s_istore_n (ls' := [some (.ref 74), some (.int (v1 ||| ((F8_bankOf v2 m) <<< ((2 * v2) &&& (31 : Int32))))), some (.int v2)]) eX8_codeNow_23 rfl rfl rfl ?_
      refine s_iinc (v := v2 + 1) (ls' := [some (.ref 74), some (.int (v1 ||| ((F8_bankOf v2 m) <<< ((2 * v2) &&& (31 : Int32))))), some (.int (v2 + 1))]) eX8_codeNow_24 rfl rfl rfl rfl ?_
      refine s_goto eX8_codeNow_27 ?_
      rw [E] at hx
      exact ih (v1 ||| ((F8_bankOf v2 m) <<< ((2 * v2) &&& (31 : Int32)))) (v2 + 1) m hD hx
theorem uX8_codeNow (m : ax_M) (hD : D8_codeNow m) : ax_NM 1 Y8_codeNow [.ref 74] m (fun r m1 => r = some (.int (F8_codeNow m)) ∧ m1 = m) := by
  have E : F8_codeNow m = ((L8_codeNow_4 64 0 0 m).1) := rfl
  unfold D8_codeNow at hD
  show ax_N 1 Y8_codeNow 0 [some (.ref 74), none, none] [] m _
  refine s_iconst (v := 0) eX8_codeNow_0 rfl ?_
  refine s_istore_n (ls' := [some (.ref 74), some (.int 0), none]) eX8_codeNow_1 rfl rfl rfl ?_
  refine s_iconst (v := 0) eX8_codeNow_2 rfl ?_
  refine s_istore_n (ls' := [some (.ref 74), some (.int 0), some (.int 0)]) eX8_codeNow_3 rfl rfl rfl ?_
  have q1 := hD
  refine clX8_codeNow_4 64 0 0 m q1 ?_
  refine s_iload_n eX8_codeNow_30 rfl rfl ?_
  exact s_iret eX8_codeNow_31 rfl ⟨rfl, by rw [E], rfl⟩
theorem clX8_goalCode_4 {P : Option Value → ax_M → Prop} : ∀ (n : Nat) (v1 v2 : Int32) (m : ax_M), E8_goalCode_4 n v1 v2 m → (ax_N 0 Y8_goalCode 35 [some (.ref 74), some (.int ((L8_goalCode_4 n v1 v2 m).1)), some (.int ((L8_goalCode_4 n v1 v2 m).2))] [] m P) → ax_N 0 Y8_goalCode 4 [some (.ref 74), some (.int v1), some (.int v2)] [] m P := by
  intro n
  induction n with
  | zero => intro v1 v2 m hD; exact absurd hD id
  | succ n ih =>
    intro v1 v2 m hD hx
    have E : L8_goalCode_4 (n + 1) v1 v2 m = (if (m 74 3) ≤ v2 then (v1, v2) else L8_goalCode_4 n (v1 ||| ((m 75 (Int32.toNatClampNeg ((4 * v2) + 3))) <<< ((2 * v2) &&& (31 : Int32)))) (v2 + 1) m) := by rw [L8_goalCode_4]
    have hD : ((¬ ((m 74 3) ≤ v2) → ((vp_in ((4 * v2) + 3) 132) ∧ (E8_goalCode_4 n (v1 ||| ((m 75 (Int32.toNatClampNeg ((4 * v2) + 3))) <<< ((2 * v2) &&& (31 : Int32)))) (v2 + 1) m)))) := hD
    refine s_iload_n eX8_goalCode_4 rfl rfl ?_
    refine s_aload_n eX8_goalCode_5 rfl rfl ?_
    refine s_geti eX8_goalCode_6 fX8_202 shp_74 rfl ?_
    refine s_icmp_ge eX8_goalCode_9 (fun h1 => ?_) (fun h1 => ?_)
    · skip
      rw [if_pos h1] at E
      rw [E] at hx
      exact hx
    · skip
      rw [if_neg h1] at E
      have hD := hD h1
      refine s_iload_n eX8_goalCode_12 rfl rfl ?_
      refine s_aload_n eX8_goalCode_13 rfl rfl ?_
      refine s_getr (q := 75) eX8_goalCode_14 fX8_7 shp_74 rfl ?_
      refine s_iconst (v := 4) eX8_goalCode_17 rfl ?_
      refine s_iload_n eX8_goalCode_18 rfl rfl ?_
      refine s_imul eX8_goalCode_19 ?_
      refine s_iconst (v := 3) eX8_goalCode_20 rfl ?_
      refine s_iadd eX8_goalCode_21 ?_
      obtain ⟨q2, hD⟩ := hD
      refine s_iald eX8_goalCode_22 shp_75 q2 ?_
      refine s_iconst (v := 2) eX8_goalCode_23 rfl ?_
      refine s_iload_n eX8_goalCode_24 rfl rfl ?_
      refine s_imul eX8_goalCode_25 ?_
      refine s_ishl eX8_goalCode_26 ?_
      refine s_ior eX8_goalCode_27 ?_
      refine s_istore_n (ls' := [some (.ref 74), some (.int (v1 ||| ((m 75 (Int32.toNatClampNeg ((4 * v2) + 3))) <<< ((2 * v2) &&& (31 : Int32))))), some (.int v2)]) eX8_goalCode_28 rfl rfl rfl ?_
      refine s_iinc (v := v2 + 1) (ls' := [some (.ref 74), some (.int (v1 ||| ((m 75 (Int32.toNatClampNeg ((4 * v2) + 3))) <<< ((2 * v2) &&& (31 : Int32))))), some (.int (v2 + 1))]) eX8_goalCode_29 rfl rfl rfl rfl ?_
      refine s_goto eX8_goalCode_32 ?_
      rw [E] at hx
      exact ih (v1 ||| ((m 75 (Int32.toNatClampNeg ((4 * v2) + 3))) <<< ((2 * v2) &&& (31 : Int32)))) (v2 + 1) m hD hx
theorem uX8_goalCode (m : ax_M) (hD : D8_goalCode m) : ax_NM 0 Y8_goalCode [.ref 74] m (fun r m1 => r = some (.int (F8_goalCode m)) ∧ m1 = m) := by
  have E : F8_goalCode m = ((L8_goalCode_4 64 0 0 m).1) := rfl
  unfold D8_goalCode at hD
  show ax_N 0 Y8_goalCode 0 [some (.ref 74), none, none] [] m _
  refine s_iconst (v := 0) eX8_goalCode_0 rfl ?_
  refine s_istore_n (ls' := [some (.ref 74), some (.int 0), none]) eX8_goalCode_1 rfl rfl rfl ?_
  refine s_iconst (v := 0) eX8_goalCode_2 rfl ?_
  refine s_istore_n (ls' := [some (.ref 74), some (.int 0), some (.int 0)]) eX8_goalCode_3 rfl rfl rfl ?_
  have q1 := hD
  refine clX8_goalCode_4 64 0 0 m q1 ?_
  refine s_iload_n eX8_goalCode_35 rfl rfl ?_
  exact s_iret eX8_goalCode_36 rfl ⟨rfl, by rw [E], rfl⟩
theorem clX8_stand_2 {P : Option Value → ax_M → Prop} : ∀ (n : Nat) (v1 v2 : Int32) (m : ax_M), E8_stand_2 n v1 v2 m → (ax_N 0 Y8_stand 33 [some (.ref 74), some (.int v1), some (.int ((L8_stand_2 n v1 v2 m).1))] [] ((L8_stand_2 n v1 v2 m).2) P) → ax_N 0 Y8_stand 2 [some (.ref 74), some (.int v1), some (.int v2)] [] m P := by
  intro n
  induction n with
  | zero => intro v1 v2 m hD; exact absurd hD id
  | succ n ih =>
    intro v1 v2 m hD hx
    have E : L8_stand_2 (n + 1) v1 v2 m = (if (m 74 3) ≤ v2 then (v2, m) else L8_stand_2 n v1 (v2 + 1) (ax_up m 75 (Int32.toNatClampNeg ((4 * v2) + 2)) ((v1 >>> ((2 * v2) &&& (31 : Int32))) &&& 3))) := by rw [L8_stand_2]
    have hD : ((¬ ((m 74 3) ≤ v2) → ((vp_in ((4 * v2) + 2) 132) ∧ (E8_stand_2 n v1 (v2 + 1) (ax_up m 75 (Int32.toNatClampNeg ((4 * v2) + 2)) ((v1 >>> ((2 * v2) &&& (31 : Int32))) &&& 3)))))) := hD
    refine s_iload_n eX8_stand_2 rfl rfl ?_
    refine s_aload_n eX8_stand_3 rfl rfl ?_
    refine s_geti eX8_stand_4 fX8_202 shp_74 rfl ?_
    refine s_icmp_ge eX8_stand_7 (fun h1 => ?_) (fun h1 => ?_)
    · skip
      rw [if_pos h1] at E
      rw [E] at hx
      exact hx
    · skip
      rw [if_neg h1] at E
      have hD := hD h1
      refine s_aload_n eX8_stand_10 rfl rfl ?_
      refine s_getr (q := 75) eX8_stand_11 fX8_7 shp_74 rfl ?_
      refine s_iconst (v := 4) eX8_stand_14 rfl ?_
      refine s_iload_n eX8_stand_15 rfl rfl ?_
      refine s_imul eX8_stand_16 ?_
      refine s_iconst (v := 2) eX8_stand_17 rfl ?_
      refine s_iadd eX8_stand_18 ?_
      refine s_iload_n eX8_stand_19 rfl rfl ?_
      refine s_iconst (v := 2) eX8_stand_20 rfl ?_
      refine s_iload_n eX8_stand_21 rfl rfl ?_
      refine s_imul eX8_stand_22 ?_
      refine s_ishr eX8_stand_23 ?_
      refine s_iconst (v := 3) eX8_stand_24 rfl ?_
      refine s_iand eX8_stand_25 ?_
      obtain ⟨q2, hD⟩ := hD
      refine s_iast eX8_stand_26 shp_75 q2 ?_
      refine s_iinc (v := v2 + 1) (ls' := [some (.ref 74), some (.int v1), some (.int (v2 + 1))]) eX8_stand_27 rfl rfl rfl rfl ?_
      refine s_goto eX8_stand_30 ?_
      rw [E] at hx
      exact ih v1 (v2 + 1) ((ax_up m 75 (Int32.toNatClampNeg ((4 * v2) + 2)) ((v1 >>> ((2 * v2) &&& (31 : Int32))) &&& 3))) hD hx
theorem uX8_stand (a1 : Int32) (m : ax_M) (hD : D8_stand a1 m) : ax_NM 0 Y8_stand [.ref 74, .int a1] m (fun r m1 => r = none ∧ m1 = F8_stand a1 m) := by
  have E : F8_stand a1 m = (L8_stand_2 64 a1 0 m).2 := rfl
  unfold D8_stand at hD
  show ax_N 0 Y8_stand 0 [some (.ref 74), some (.int a1), none] [] m _
  refine s_iconst (v := 0) eX8_stand_0 rfl ?_
  refine s_istore_n (ls' := [some (.ref 74), some (.int a1), some (.int 0)]) eX8_stand_1 rfl rfl rfl ?_
  have q1 := hD
  refine clX8_stand_2 64 a1 0 m q1 ?_
  exact s_vret eX8_stand_33 rfl ⟨rfl, rfl, by rw [E]⟩
theorem clX8_layAble_2 {P : Option Value → ax_M → Prop} : ∀ (n : Nat) (v1 : Int32) (m : ax_M), E8_layAble_2 n v1 m → (ax_N 3 Y8_layAble 80 [some (.ref 74), some (.int ((L8_layAble_2 n v1 m).1)), none, none, none] [] ((L8_layAble_2 n v1 m).2) P) → ax_N 3 Y8_layAble 2 [some (.ref 74), some (.int v1), none, none, none] [] m P := by
  intro n
  induction n with
  | zero => intro v1 m hD; exact absurd hD id
  | succ n ih =>
    intro v1 m hD hx
    have E : L8_layAble_2 (n + 1) v1 m = (if 400 ≤ v1 then (v1, m) else L8_layAble_2 n (v1 + 1) (ax_up m 91 (Int32.toNatClampNeg v1) (if (F8_areTwo (v1 / 100) ((v1 / 10) - (v1 / 10) / 10 * 10) (v1 - v1 / 10 * 10) m) = 0 then (0 : Int32) else if (F8_mayGo (v1 / 100) ((v1 / 10) - (v1 / 10) / 10 * 10) (v1 - v1 / 10 * 10) m) = 0 then (0 : Int32) else if (F8_isLevel (v1 / 100) ((v1 / 10) - (v1 / 10) / 10 * 10) (v1 - v1 / 10 * 10) 0 0 m) = 0 then (0 : Int32) else 1))) := by rw [L8_layAble_2]
    have hD : ((¬ (400 ≤ v1) → ((¬ ((F8_areTwo (v1 / 100) ((v1 / 10) - (v1 / 10) / 10 * 10) (v1 - v1 / 10 * 10) m) = 0) → ((D8_mayGo (v1 / 100) ((v1 / 10) - (v1 / 10) / 10 * 10) (v1 - v1 / 10 * 10) m) ∧ (¬ ((F8_mayGo (v1 / 100) ((v1 / 10) - (v1 / 10) / 10 * 10) (v1 - v1 / 10 * 10) m) = 0) → ((D8_isLevel (v1 / 100) ((v1 / 10) - (v1 / 10) / 10 * 10) (v1 - v1 / 10 * 10) 0 0 m))))) ∧ (vp_in v1 400) ∧ (E8_layAble_2 n (v1 + 1) (ax_up m 91 (Int32.toNatClampNeg v1) (if (F8_areTwo (v1 / 100) ((v1 / 10) - (v1 / 10) / 10 * 10) (v1 - v1 / 10 * 10) m) = 0 then (0 : Int32) else if (F8_mayGo (v1 / 100) ((v1 / 10) - (v1 / 10) / 10 * 10) (v1 - v1 / 10 * 10) m) = 0 then (0 : Int32) else if (F8_isLevel (v1 / 100) ((v1 / 10) - (v1 / 10) / 10 * 10) (v1 - v1 / 10 * 10) 0 0 m) = 0 then (0 : Int32) else 1)))))) := hD
    refine s_iload_n eX8_layAble_2 rfl rfl ?_
    refine s_sipush (v := 400) eX8_layAble_3 rfl ?_
    refine s_icmp_ge eX8_layAble_6 (fun h1 => ?_) (fun h1 => ?_)
    · skip
      rw [if_pos h1] at E
      rw [E] at hx
      exact hx
    · skip
      rw [if_neg h1] at E
      have hD := hD h1
      refine s_iload_n eX8_layAble_9 rfl rfl ?_
      refine s_bipush (v := 100) eX8_layAble_10 rfl ?_
      refine s_idiv eX8_layAble_12 (by decide) ?_
      refine s_istore_n (ls' := [some (.ref 74), some (.int v1), some (.int (v1 / 100)), none, none]) eX8_layAble_13 rfl rfl rfl ?_
      refine s_iload_n eX8_layAble_14 rfl rfl ?_
      refine s_bipush (v := 10) eX8_layAble_15 rfl ?_
      refine s_idiv eX8_layAble_17 (by decide) ?_
      refine s_bipush (v := 10) eX8_layAble_18 rfl ?_
      refine s_irem eX8_layAble_20 (by decide) ?_
      refine s_istore_n (ls' := [some (.ref 74), some (.int v1), some (.int (v1 / 100)), some (.int ((v1 / 10) - (v1 / 10) / 10 * 10)), none]) eX8_layAble_21 rfl rfl rfl ?_
      refine s_iload_n eX8_layAble_22 rfl rfl ?_
      refine s_bipush (v := 10) eX8_layAble_23 rfl ?_
      refine s_irem eX8_layAble_25 (by decide) ?_
      refine s_istore (ls' := [some (.ref 74), some (.int v1), some (.int (v1 / 100)), some (.int ((v1 / 10) - (v1 / 10) / 10 * 10)), some (.int (v1 - v1 / 10 * 10))]) eX8_layAble_26 rfl rfl ?_
      refine s_aload_n eX8_layAble_28 rfl rfl ?_
      refine s_getr (q := 91) eX8_layAble_29 fX8_65 shp_74 rfl ?_
      refine s_iload_n eX8_layAble_32 rfl rfl ?_
      refine s_aload_n eX8_layAble_33 rfl rfl ?_
      refine s_iload_n eX8_layAble_34 rfl rfl ?_
      refine s_iload_n eX8_layAble_35 rfl rfl ?_
      refine s_iload eX8_layAble_36 rfl ?_
      refine n_callVi (As := [.int (v1 / 100), .int ((v1 / 10) - (v1 / 10) / 10 * 10), .int (v1 - v1 / 10 * 10)]) eX8_layAble_38 kX8_areTwo lX8_259 rfl rfl shp_74 rfl rfl (Nat.le_of_ble_eq_true rfl) (Nat.le_of_ble_eq_true rfl) (Nat.le_of_ble_eq_true rfl) (uX8_areTwo (v1 / 100) ((v1 / 10) - (v1 / 10) / 10 * 10) (v1 - v1 / 10 * 10) m) ?_
      obtain ⟨s2, hD⟩ := hD
      have J3 : ax_N 3 Y8_layAble 73 [some (.ref 74), some (.int v1), some (.int (v1 / 100)), some (.int ((v1 / 10) - (v1 / 10) / 10 * 10)), some (.int (v1 - v1 / 10 * 10))] [.int (if (F8_areTwo (v1 / 100) ((v1 / 10) - (v1 / 10) / 10 * 10) (v1 - v1 / 10 * 10) m) = 0 then (0 : Int32) else if (F8_mayGo (v1 / 100) ((v1 / 10) - (v1 / 10) / 10 * 10) (v1 - v1 / 10 * 10) m) = 0 then (0 : Int32) else if (F8_isLevel (v1 / 100) ((v1 / 10) - (v1 / 10) / 10 * 10) (v1 - v1 / 10 * 10) 0 0 m) = 0 then (0 : Int32) else 1), .int v1, .ref 91] m P := by
        obtain ⟨q4, hD⟩ := hD
        refine s_iast eX8_layAble_73 shp_91 q4 ?_
        refine s_iinc (v := v1 + 1) (ls' := [some (.ref 74), some (.int (v1 + 1)), some (.int (v1 / 100)), some (.int ((v1 / 10) - (v1 / 10) / 10 * 10)), some (.int (v1 - v1 / 10 * 10))]) eX8_layAble_74 rfl rfl rfl rfl ?_
        refine s_goto eX8_layAble_77 ?_
        refine ax_forget (ls' := [some (.ref 74), some (.int (v1 + 1)), none, none, none]) rfl ?_
        rw [E] at hx
        exact ih (v1 + 1) ((ax_up m 91 (Int32.toNatClampNeg v1) (if (F8_areTwo (v1 / 100) ((v1 / 10) - (v1 / 10) / 10 * 10) (v1 - v1 / 10 * 10) m) = 0 then (0 : Int32) else if (F8_mayGo (v1 / 100) ((v1 / 10) - (v1 / 10) / 10 * 10) (v1 - v1 / 10 * 10) m) = 0 then (0 : Int32) else if (F8_isLevel (v1 / 100) ((v1 / 10) - (v1 / 10) / 10 * 10) (v1 - v1 / 10 * 10) 0 0 m) = 0 then (0 : Int32) else 1))) hD hx
      have hD := s2
      refine s_if_eq eX8_layAble_41 (fun h5 => ?_) (fun h5 => ?_)
      · skip
        refine s_iconst (v := 0) eX8_layAble_72 rfl ?_
        exact ax_eqN rfl (by rw [show (if (F8_areTwo (v1 / 100) ((v1 / 10) - (v1 / 10) / 10 * 10) (v1 - v1 / 10 * 10) m) = 0 then (0 : Int32) else if (F8_mayGo (v1 / 100) ((v1 / 10) - (v1 / 10) / 10 * 10) (v1 - v1 / 10 * 10) m) = 0 then (0 : Int32) else if (F8_isLevel (v1 / 100) ((v1 / 10) - (v1 / 10) / 10 * 10) (v1 - v1 / 10 * 10) 0 0 m) = 0 then (0 : Int32) else 1 : Int32) = 0 by rw [if_pos h5]]) rfl J3
      · skip
        have hD := hD h5
        refine s_aload_n eX8_layAble_44 rfl rfl ?_
        refine s_iload_n eX8_layAble_45 rfl rfl ?_
        refine s_iload_n eX8_layAble_46 rfl rfl ?_
        refine s_iload eX8_layAble_47 rfl ?_
        obtain ⟨q6, hD⟩ := hD
        refine n_callVi (As := [.int (v1 / 100), .int ((v1 / 10) - (v1 / 10) / 10 * 10), .int (v1 - v1 / 10 * 10)]) eX8_layAble_49 kX8_mayGo lX8_249 rfl rfl shp_74 rfl rfl (Nat.le_of_ble_eq_true rfl) (Nat.le_of_ble_eq_true rfl) (Nat.le_of_ble_eq_true rfl) (uX8_mayGo (v1 / 100) ((v1 / 10) - (v1 / 10) / 10 * 10) (v1 - v1 / 10 * 10) m q6) ?_
        refine s_if_eq eX8_layAble_52 (fun h7 => ?_) (fun h7 => ?_)
        · skip
          refine s_iconst (v := 0) eX8_layAble_72 rfl ?_
          exact ax_eqN rfl (by rw [show (if (F8_areTwo (v1 / 100) ((v1 / 10) - (v1 / 10) / 10 * 10) (v1 - v1 / 10 * 10) m) = 0 then (0 : Int32) else if (F8_mayGo (v1 / 100) ((v1 / 10) - (v1 / 10) / 10 * 10) (v1 - v1 / 10 * 10) m) = 0 then (0 : Int32) else if (F8_isLevel (v1 / 100) ((v1 / 10) - (v1 / 10) / 10 * 10) (v1 - v1 / 10 * 10) 0 0 m) = 0 then (0 : Int32) else 1 : Int32) = 0 by rw [if_neg h5, if_pos h7]]) rfl J3
        · skip
          have hD := hD h7
          refine s_aload_n eX8_layAble_55 rfl rfl ?_
          refine s_iload_n eX8_layAble_56 rfl rfl ?_
          refine s_iload_n eX8_layAble_57 rfl rfl ?_
          refine s_iload eX8_layAble_58 rfl ?_
          refine s_iconst (v := 0) eX8_layAble_60 rfl ?_
          refine s_iconst (v := 0) eX8_layAble_61 rfl ?_
          have q8 := hD
          refine n_callVi (As := [.int (v1 / 100), .int ((v1 / 10) - (v1 / 10) / 10 * 10), .int (v1 - v1 / 10 * 10), .int 0, .int 0]) eX8_layAble_62 kX8_isLevel lX8_255 rfl rfl shp_74 rfl rfl (Nat.le_of_ble_eq_true rfl) (Nat.le_of_ble_eq_true rfl) (Nat.le_of_ble_eq_true rfl) (uX8_isLevel (v1 / 100) ((v1 / 10) - (v1 / 10) / 10 * 10) (v1 - v1 / 10 * 10) 0 0 m q8) ?_
          refine s_if_eq eX8_layAble_65 (fun h9 => ?_) (fun h9 => ?_)
          · skip
            refine s_iconst (v := 0) eX8_layAble_72 rfl ?_
            exact ax_eqN rfl (by rw [show (if (F8_areTwo (v1 / 100) ((v1 / 10) - (v1 / 10) / 10 * 10) (v1 - v1 / 10 * 10) m) = 0 then (0 : Int32) else if (F8_mayGo (v1 / 100) ((v1 / 10) - (v1 / 10) / 10 * 10) (v1 - v1 / 10 * 10) m) = 0 then (0 : Int32) else if (F8_isLevel (v1 / 100) ((v1 / 10) - (v1 / 10) / 10 * 10) (v1 - v1 / 10 * 10) 0 0 m) = 0 then (0 : Int32) else 1 : Int32) = 0 by rw [if_neg h5, if_neg h7, if_pos h9]]) rfl J3
          · skip
            refine s_iconst (v := 1) eX8_layAble_68 rfl ?_
            refine s_goto eX8_layAble_69 ?_
            exact ax_eqN rfl (by rw [show (if (F8_areTwo (v1 / 100) ((v1 / 10) - (v1 / 10) / 10 * 10) (v1 - v1 / 10 * 10) m) = 0 then (0 : Int32) else if (F8_mayGo (v1 / 100) ((v1 / 10) - (v1 / 10) / 10 * 10) (v1 - v1 / 10 * 10) m) = 0 then (0 : Int32) else if (F8_isLevel (v1 / 100) ((v1 / 10) - (v1 / 10) / 10 * 10) (v1 - v1 / 10 * 10) 0 0 m) = 0 then (0 : Int32) else 1 : Int32) = 1 by rw [if_neg h5, if_neg h7, if_neg h9]]) rfl J3
theorem uX8_layAble (m : ax_M) (hD : D8_layAble m) : ax_NM 3 Y8_layAble [.ref 74] m (fun r m1 => r = none ∧ m1 = F8_layAble m) := by
  have E : F8_layAble m = (L8_layAble_2 420 0 m).2 := rfl
  unfold D8_layAble at hD
  show ax_N 3 Y8_layAble 0 [some (.ref 74), none, none, none, none] [] m _
  refine s_iconst (v := 0) eX8_layAble_0 rfl ?_
  refine s_istore_n (ls' := [some (.ref 74), some (.int 0), none, none, none]) eX8_layAble_1 rfl rfl rfl ?_
  have q1 := hD
  refine clX8_layAble_2 420 0 m q1 ?_
  exact s_vret eX8_layAble_80 rfl ⟨rfl, rfl, by rw [E]⟩
theorem uX8_follows (a1 : Int32) (a2 : Int32) (m : ax_M) (hD : D8_follows a1 a2 m) : ax_NM 0 Y8_follows [.ref 74, .int a1, .int a2] m (fun r m1 => r = some (.int (F8_follows a1 a2 m)) ∧ m1 = m) := by
  have E : F8_follows a1 a2 m = (if (m 91 (Int32.toNatClampNeg a2)) = 0 then ((-4)) else (if (if ((a1 >>> ((2 * ((a2 / 10) - (a2 / 10) / 10 * 10)) &&& (31 : Int32))) &&& 3) = (m 76 (Int32.toNatClampNeg (2 * (a2 / 100)))) then (if ((a1 >>> ((2 * (a2 - a2 / 10 * 10)) &&& (31 : Int32))) &&& 3) = (m 76 (Int32.toNatClampNeg ((2 * (a2 / 100)) + 1))) then (1 : Int32) else 0 : Int32) else 0) = 0 then ((-4)) else ((((a1 &&& (((3 : Int32) <<< ((2 * ((a2 / 10) - (a2 / 10) / 10 * 10)) &&& (31 : Int32))) ^^^ ((-1)))) &&& (((3 : Int32) <<< ((2 * (a2 - a2 / 10 * 10)) &&& (31 : Int32))) ^^^ ((-1)))) ||| ((m 76 (Int32.toNatClampNeg ((2 * (a2 / 100)) + 1))) <<< ((2 * ((a2 / 10) - (a2 / 10) / 10 * 10)) &&& (31 : Int32)))) ||| ((m 76 (Int32.toNatClampNeg (2 * (a2 / 100)))) <<< ((2 * (a2 - a2 / 10 * 10)) &&& (31 : Int32)))))) := rfl
  unfold D8_follows at hD
  show ax_N 0 Y8_follows 0 [some (.ref 74), some (.int a1), some (.int a2), none, none, none, none] [] m _
  refine s_aload_n eX8_follows_0 rfl rfl ?_
  refine s_getr (q := 91) eX8_follows_1 fX8_65 shp_74 rfl ?_
  refine s_iload_n eX8_follows_4 rfl rfl ?_
  obtain ⟨q1, hD⟩ := hD
  refine s_iald eX8_follows_5 shp_91 q1 ?_
  refine s_if_ne eX8_follows_6 (fun h2 => ?_) (fun h2 => ?_)
  · skip
    rw [if_neg h2] at E
    have hD := hD h2
    refine s_iload_n eX8_follows_12 rfl rfl ?_
    refine s_bipush (v := 100) eX8_follows_13 rfl ?_
    refine s_idiv eX8_follows_15 (by decide) ?_
    refine s_istore_n (ls' := [some (.ref 74), some (.int a1), some (.int a2), some (.int (a2 / 100)), none, none, none]) eX8_follows_16 rfl rfl rfl ?_
    refine s_iload_n eX8_follows_17 rfl rfl ?_
    refine s_bipush (v := 10) eX8_follows_18 rfl ?_
    refine s_idiv eX8_follows_20 (by decide) ?_
    refine s_bipush (v := 10) eX8_follows_21 rfl ?_
    refine s_irem eX8_follows_23 (by decide) ?_
    refine s_istore (ls' := [some (.ref 74), some (.int a1), some (.int a2), some (.int (a2 / 100)), some (.int ((a2 / 10) - (a2 / 10) / 10 * 10)), none, none]) eX8_follows_24 rfl rfl ?_
    refine s_iload_n eX8_follows_26 rfl rfl ?_
    refine s_bipush (v := 10) eX8_follows_27 rfl ?_
    refine s_irem eX8_follows_29 (by decide) ?_
    refine s_istore (ls' := [some (.ref 74), some (.int a1), some (.int a2), some (.int (a2 / 100)), some (.int ((a2 / 10) - (a2 / 10) / 10 * 10)), some (.int (a2 - a2 / 10 * 10)), none]) eX8_follows_30 rfl rfl ?_
    refine s_iload_n eX8_follows_32 rfl rfl ?_
    refine s_iconst (v := 2) eX8_follows_33 rfl ?_
    refine s_iload eX8_follows_34 rfl ?_
    refine s_imul eX8_follows_36 ?_
    refine s_ishr eX8_follows_37 ?_
    refine s_iconst (v := 3) eX8_follows_38 rfl ?_
    refine s_iand eX8_follows_39 ?_
    refine s_aload_n eX8_follows_40 rfl rfl ?_
    refine s_getr (q := 76) eX8_follows_41 fX8_13 shp_74 rfl ?_
    refine s_iconst (v := 2) eX8_follows_44 rfl ?_
    refine s_iload_n eX8_follows_45 rfl rfl ?_
    refine s_imul eX8_follows_46 ?_
    obtain ⟨q3, hD⟩ := hD
    refine s_iald eX8_follows_47 shp_76 q3 ?_
    obtain ⟨s4, hD⟩ := hD
    have J5 : ax_N 0 Y8_follows 77 [some (.ref 74), some (.int a1), some (.int a2), some (.int (a2 / 100)), some (.int ((a2 / 10) - (a2 / 10) / 10 * 10)), some (.int (a2 - a2 / 10 * 10)), none] [.int (if ((a1 >>> ((2 * ((a2 / 10) - (a2 / 10) / 10 * 10)) &&& (31 : Int32))) &&& 3) = (m 76 (Int32.toNatClampNeg (2 * (a2 / 100)))) then (if ((a1 >>> ((2 * (a2 - a2 / 10 * 10)) &&& (31 : Int32))) &&& 3) = (m 76 (Int32.toNatClampNeg ((2 * (a2 / 100)) + 1))) then (1 : Int32) else 0 : Int32) else 0)] m (fun r m1 => r = some (.int (F8_follows a1 a2 m)) ∧ m1 = m) := by
      refine s_istore (ls' := [some (.ref 74), some (.int a1), some (.int a2), some (.int (a2 / 100)), some (.int ((a2 / 10) - (a2 / 10) / 10 * 10)), some (.int (a2 - a2 / 10 * 10)), some (.int (if ((a1 >>> ((2 * ((a2 / 10) - (a2 / 10) / 10 * 10)) &&& (31 : Int32))) &&& 3) = (m 76 (Int32.toNatClampNeg (2 * (a2 / 100)))) then (if ((a1 >>> ((2 * (a2 - a2 / 10 * 10)) &&& (31 : Int32))) &&& 3) = (m 76 (Int32.toNatClampNeg ((2 * (a2 / 100)) + 1))) then (1 : Int32) else 0 : Int32) else 0))]) eX8_follows_77 rfl rfl ?_
      refine s_iload eX8_follows_79 rfl ?_
      refine s_if_eq eX8_follows_81 (fun h6 => ?_) (fun h6 => ?_)
      · skip
        rw [if_pos h6] at E
        refine s_bipush (v := (-4)) eX8_follows_136 rfl ?_
        exact s_iret eX8_follows_138 rfl ⟨rfl, by rw [E], rfl⟩
      · skip
        rw [if_neg h6] at E
        have hD := hD h6
        refine s_iload_n eX8_follows_84 rfl rfl ?_
        refine s_iconst (v := 3) eX8_follows_85 rfl ?_
        refine s_iconst (v := 2) eX8_follows_86 rfl ?_
        refine s_iload eX8_follows_87 rfl ?_
        refine s_imul eX8_follows_89 ?_
        refine s_ishl eX8_follows_90 ?_
        refine s_iconst (v := (-1)) eX8_follows_91 rfl ?_
        refine s_ixor eX8_follows_92 ?_
        refine s_iand eX8_follows_93 ?_
        refine s_iconst (v := 3) eX8_follows_94 rfl ?_
        refine s_iconst (v := 2) eX8_follows_95 rfl ?_
        refine s_iload eX8_follows_96 rfl ?_
        refine s_imul eX8_follows_98 ?_
        refine s_ishl eX8_follows_99 ?_
        refine s_iconst (v := (-1)) eX8_follows_100 rfl ?_
        refine s_ixor eX8_follows_101 ?_
        refine s_iand eX8_follows_102 ?_
        refine s_aload_n eX8_follows_103 rfl rfl ?_
        refine s_getr (q := 76) eX8_follows_104 fX8_13 shp_74 rfl ?_
        refine s_iconst (v := 2) eX8_follows_107 rfl ?_
        refine s_iload_n eX8_follows_108 rfl rfl ?_
        refine s_imul eX8_follows_109 ?_
        refine s_iconst (v := 1) eX8_follows_110 rfl ?_
        refine s_iadd eX8_follows_111 ?_
        obtain ⟨q7, hD⟩ := hD
        refine s_iald eX8_follows_112 shp_76 q7 ?_
        refine s_iconst (v := 2) eX8_follows_113 rfl ?_
        refine s_iload eX8_follows_114 rfl ?_
        refine s_imul eX8_follows_116 ?_
        refine s_ishl eX8_follows_117 ?_
        refine s_ior eX8_follows_118 ?_
        refine s_aload_n eX8_follows_119 rfl rfl ?_
        refine s_getr (q := 76) eX8_follows_120 fX8_13 shp_74 rfl ?_
        refine s_iconst (v := 2) eX8_follows_123 rfl ?_
        refine s_iload_n eX8_follows_124 rfl rfl ?_
        refine s_imul eX8_follows_125 ?_
        have q8 := hD
        refine s_iald eX8_follows_126 shp_76 q8 ?_
        refine s_iconst (v := 2) eX8_follows_127 rfl ?_
        refine s_iload eX8_follows_128 rfl ?_
        refine s_imul eX8_follows_130 ?_
        refine s_ishl eX8_follows_131 ?_
        refine s_ior eX8_follows_132 ?_
        refine s_goto eX8_follows_133 ?_
        exact s_iret eX8_follows_138 rfl ⟨rfl, by rw [E], rfl⟩
    have hD := s4
    refine s_icmp_ne eX8_follows_48 (fun h9 => ?_) (fun h9 => ?_)
    · skip
      refine s_iconst (v := 0) eX8_follows_76 rfl ?_
      exact ax_eqN rfl (by rw [show (if ((a1 >>> ((2 * ((a2 / 10) - (a2 / 10) / 10 * 10)) &&& (31 : Int32))) &&& 3) = (m 76 (Int32.toNatClampNeg (2 * (a2 / 100)))) then (if ((a1 >>> ((2 * (a2 - a2 / 10 * 10)) &&& (31 : Int32))) &&& 3) = (m 76 (Int32.toNatClampNeg ((2 * (a2 / 100)) + 1))) then (1 : Int32) else 0 : Int32) else 0 : Int32) = 0 by rw [if_neg h9]]) rfl J5
    · skip
      have hD := hD h9
      refine s_iload_n eX8_follows_51 rfl rfl ?_
      refine s_iconst (v := 2) eX8_follows_52 rfl ?_
      refine s_iload eX8_follows_53 rfl ?_
      refine s_imul eX8_follows_55 ?_
      refine s_ishr eX8_follows_56 ?_
      refine s_iconst (v := 3) eX8_follows_57 rfl ?_
      refine s_iand eX8_follows_58 ?_
      refine s_aload_n eX8_follows_59 rfl rfl ?_
      refine s_getr (q := 76) eX8_follows_60 fX8_13 shp_74 rfl ?_
      refine s_iconst (v := 2) eX8_follows_63 rfl ?_
      refine s_iload_n eX8_follows_64 rfl rfl ?_
      refine s_imul eX8_follows_65 ?_
      refine s_iconst (v := 1) eX8_follows_66 rfl ?_
      refine s_iadd eX8_follows_67 ?_
      have q10 := hD
      refine s_iald eX8_follows_68 shp_76 q10 ?_
      refine s_icmp_ne eX8_follows_69 (fun h11 => ?_) (fun h11 => ?_)
      · skip
        refine s_iconst (v := 0) eX8_follows_76 rfl ?_
        exact ax_eqN rfl (by rw [show (if ((a1 >>> ((2 * ((a2 / 10) - (a2 / 10) / 10 * 10)) &&& (31 : Int32))) &&& 3) = (m 76 (Int32.toNatClampNeg (2 * (a2 / 100)))) then (if ((a1 >>> ((2 * (a2 - a2 / 10 * 10)) &&& (31 : Int32))) &&& 3) = (m 76 (Int32.toNatClampNeg ((2 * (a2 / 100)) + 1))) then (1 : Int32) else 0 : Int32) else 0 : Int32) = 0 by rw [if_pos h9, if_neg h11]]) rfl J5
      · skip
        refine s_iconst (v := 1) eX8_follows_72 rfl ?_
        refine s_goto eX8_follows_73 ?_
        exact ax_eqN rfl (by rw [show (if ((a1 >>> ((2 * ((a2 / 10) - (a2 / 10) / 10 * 10)) &&& (31 : Int32))) &&& 3) = (m 76 (Int32.toNatClampNeg (2 * (a2 / 100)))) then (if ((a1 >>> ((2 * (a2 - a2 / 10 * 10)) &&& (31 : Int32))) &&& 3) = (m 76 (Int32.toNatClampNeg ((2 * (a2 / 100)) + 1))) then (1 : Int32) else 0 : Int32) else 0 : Int32) = 1 by rw [if_pos h9, if_pos h11]]) rfl J5
  · skip
    rw [if_pos h2] at E
    refine s_bipush (v := (-4)) eX8_follows_9 rfl ?_
    exact s_iret eX8_follows_11 rfl ⟨rfl, by rw [E], rfl⟩
