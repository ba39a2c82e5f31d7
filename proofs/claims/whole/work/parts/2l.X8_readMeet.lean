/-! X8_readMeet X8_readOnce X8_readLine X8_beginsText X8_text X8_fault X8_isBank X8_isBridge X8_isOne X8_areTwo X8_rule -/
theorem cK8_readMeet_102 (v1 w0 w1 : Int32) (m : ax_M) {P : Option Value → ax_M → Prop} (hD : HK8_readMeet_102 v1 w0 w1 m) (hP : P none (K8_readMeet_102 v1 w0 w1 m)) : ax_N 4 Y8_readMeet 102 [some (.ref 74), some (.int v1)] [.int w0, .int w1, .ref 80] m P := by
  have E : K8_readMeet_102 v1 w0 w1 m = (ax_up (ax_up m 80 (Int32.toNatClampNeg w1) w0) 74 13 (((ax_up m 80 (Int32.toNatClampNeg w1) w0) 74 13) + 1)) := rfl
  unfold HK8_readMeet_102 at hD
  have q1 := hD
  refine s_iast eX8_readMeet_102 shp_80 q1 ?_
  refine s_aload_n eX8_readMeet_103 rfl rfl ?_
  refine s_dup eX8_readMeet_104 rfl ?_
  refine s_geti eX8_readMeet_105 fX8_155 shp_74 rfl ?_
  refine s_iconst (v := 1) eX8_readMeet_108 rfl ?_
  refine s_iadd eX8_readMeet_109 ?_
  refine s_puti eX8_readMeet_110 fX8_155 pX8_13 rfl rfl shp_74 rfl ?_
  rw [E] at hP
  exact s_vret eX8_readMeet_113 rfl ⟨rfl, hP⟩
theorem cK8_readMeet_71 (v1 : Int32) (m : ax_M) {P : Option Value → ax_M → Prop} (hD : HK8_readMeet_71 v1 m) (hP : P none (K8_readMeet_71 v1 m)) : ax_N 4 Y8_readMeet 71 [some (.ref 74), some (.int v1)] [] m P := by
  have E : K8_readMeet_71 v1 m = (K8_readMeet_102 v1 ((F8_oneOf ((1 : Int32) <<< ((m 80 (Int32.toNatClampNeg ((3 * (m 74 13)) + 1))) &&& (31 : Int32))) m).1) ((3 * (m 74 13)) + 2) (F8_oneOf ((1 : Int32) <<< ((m 80 (Int32.toNatClampNeg ((3 * (m 74 13)) + 1))) &&& (31 : Int32))) m).2) := rfl
  unfold HK8_readMeet_71 at hD
  refine s_aload_n eX8_readMeet_71 rfl rfl ?_
  refine s_getr (q := 80) eX8_readMeet_72 fX8_32 shp_74 rfl ?_
  refine s_iconst (v := 3) eX8_readMeet_75 rfl ?_
  refine s_aload_n eX8_readMeet_76 rfl rfl ?_
  refine s_geti eX8_readMeet_77 fX8_155 shp_74 rfl ?_
  refine s_imul eX8_readMeet_80 ?_
  refine s_iconst (v := 2) eX8_readMeet_81 rfl ?_
  refine s_iadd eX8_readMeet_82 ?_
  refine s_aload_n eX8_readMeet_83 rfl rfl ?_
  refine s_iconst (v := 1) eX8_readMeet_84 rfl ?_
  refine s_aload_n eX8_readMeet_85 rfl rfl ?_
  refine s_getr (q := 80) eX8_readMeet_86 fX8_32 shp_74 rfl ?_
  refine s_iconst (v := 3) eX8_readMeet_89 rfl ?_
  refine s_aload_n eX8_readMeet_90 rfl rfl ?_
  refine s_geti eX8_readMeet_91 fX8_155 shp_74 rfl ?_
  refine s_imul eX8_readMeet_94 ?_
  refine s_iconst (v := 1) eX8_readMeet_95 rfl ?_
  refine s_iadd eX8_readMeet_96 ?_
  obtain ⟨q1, hD⟩ := hD
  refine s_iald eX8_readMeet_97 shp_80 q1 ?_
  refine s_ishl eX8_readMeet_98 ?_
  obtain ⟨q2, hD⟩ := hD
  refine n_callVi (As := [.int ((1 : Int32) <<< ((m 80 (Int32.toNatClampNeg ((3 * (m 74 13)) + 1))) &&& (31 : Int32)))]) eX8_readMeet_99 kX8_oneOf lX8_161 rfl rfl shp_74 rfl rfl (Nat.le_of_ble_eq_true rfl) (Nat.le_of_ble_eq_true rfl) (Nat.le_of_ble_eq_true rfl) (uX8_oneOf ((1 : Int32) <<< ((m 80 (Int32.toNatClampNeg ((3 * (m 74 13)) + 1))) &&& (31 : Int32))) m q2) ?_
  refine cK8_readMeet_102 v1 ((F8_oneOf ((1 : Int32) <<< ((m 80 (Int32.toNatClampNeg ((3 * (m 74 13)) + 1))) &&& (31 : Int32))) m).1) ((3 * (m 74 13)) + 2) ((F8_oneOf ((1 : Int32) <<< ((m 80 (Int32.toNatClampNeg ((3 * (m 74 13)) + 1))) &&& (31 : Int32))) m).2) hD ?_
  rw [E] at hP
  exact hP
theorem cK8_readMeet_53 (v1 : Int32) (m : ax_M) {P : Option Value → ax_M → Prop} (hD : HK8_readMeet_53 v1 m) (hP : P none (K8_readMeet_53 v1 m)) : ax_N 4 Y8_readMeet 53 [some (.ref 74), some (.int v1)] [] m P := by
  have E : K8_readMeet_53 v1 m = (K8_readMeet_71 v1 (ax_up (F8_oneOf 0 m).2 80 (Int32.toNatClampNeg ((3 * (m 74 13)) + 1)) ((F8_oneOf 0 m).1))) := rfl
  unfold HK8_readMeet_53 at hD
  refine s_aload_n eX8_readMeet_53 rfl rfl ?_
  refine s_getr (q := 80) eX8_readMeet_54 fX8_32 shp_74 rfl ?_
  refine s_iconst (v := 3) eX8_readMeet_57 rfl ?_
  refine s_aload_n eX8_readMeet_58 rfl rfl ?_
  refine s_geti eX8_readMeet_59 fX8_155 shp_74 rfl ?_
  refine s_imul eX8_readMeet_62 ?_
  refine s_iconst (v := 1) eX8_readMeet_63 rfl ?_
  refine s_iadd eX8_readMeet_64 ?_
  refine s_aload_n eX8_readMeet_65 rfl rfl ?_
  refine s_iconst (v := 0) eX8_readMeet_66 rfl ?_
  obtain ⟨q1, hD⟩ := hD
  refine n_callVi (As := [.int 0]) eX8_readMeet_67 kX8_oneOf lX8_161 rfl rfl shp_74 rfl rfl (Nat.le_of_ble_eq_true rfl) (Nat.le_of_ble_eq_true rfl) (Nat.le_of_ble_eq_true rfl) (uX8_oneOf 0 m q1) ?_
  obtain ⟨q2, hD⟩ := hD
  refine s_iast eX8_readMeet_70 shp_80 q2 ?_
  refine cK8_readMeet_71 v1 ((ax_up (F8_oneOf 0 m).2 80 (Int32.toNatClampNeg ((3 * (m 74 13)) + 1)) ((F8_oneOf 0 m).1))) hD ?_
  rw [E] at hP
  exact hP
theorem cK8_readMeet_38 (v1 w0 : Int32) (m : ax_M) {P : Option Value → ax_M → Prop} (hD : HK8_readMeet_38 v1 w0 m) (hP : P none (K8_readMeet_38 v1 w0 m)) : ax_N 4 Y8_readMeet 38 [some (.ref 74), some (.int v1)] [.int w0, .ref 74] m P := by
  have E : K8_readMeet_38 v1 w0 m = (K8_readMeet_53 v1 (ax_up (ax_up m 74 19 w0) 80 (Int32.toNatClampNeg (3 * ((ax_up m 74 19 w0) 74 13))) v1)) := rfl
  unfold HK8_readMeet_38 at hD
  refine s_puti eX8_readMeet_38 fX8_158 pX8_19 rfl rfl shp_74 rfl ?_
  refine s_aload_n eX8_readMeet_41 rfl rfl ?_
  refine s_getr (q := 80) eX8_readMeet_42 fX8_32 shp_74 rfl ?_
  refine s_iconst (v := 3) eX8_readMeet_45 rfl ?_
  refine s_aload_n eX8_readMeet_46 rfl rfl ?_
  refine s_geti eX8_readMeet_47 fX8_155 shp_74 rfl ?_
  refine s_imul eX8_readMeet_50 ?_
  refine s_iload_n eX8_readMeet_51 rfl rfl ?_
  obtain ⟨q1, hD⟩ := hD
  refine s_iast eX8_readMeet_52 shp_80 q1 ?_
  refine cK8_readMeet_53 v1 ((ax_up (ax_up m 74 19 w0) 80 (Int32.toNatClampNeg (3 * ((ax_up m 74 19 w0) 74 13))) v1)) hD ?_
  rw [E] at hP
  exact hP
theorem uX8_readMeet (m : ax_M) (hD : D8_readMeet m) : ax_NM 4 Y8_readMeet [.ref 74] m (fun r m1 => r = none ∧ m1 = F8_readMeet m) := by
  have E : F8_readMeet m = (if ((F8_hasRoom (m 74 13) 8 m).1) = 0 then (F8_hasRoom (m 74 13) 8 m).2 else (K8_readMeet_38 ((F8_other 0 3 0 (F8_hasRoom (m 74 13) 8 m).2).1) (if ((F8_other 0 3 0 (F8_hasRoom (m 74 13) 8 m).2).1) ≤ ((F8_other 0 3 0 (F8_hasRoom (m 74 13) 8 m).2).2 74 19) then ((F8_other 0 3 0 (F8_hasRoom (m 74 13) 8 m).2).2 74 19 : Int32) else (F8_other 0 3 0 (F8_hasRoom (m 74 13) 8 m).2).1) (F8_other 0 3 0 (F8_hasRoom (m 74 13) 8 m).2).2)) := rfl
  unfold D8_readMeet at hD
  show ax_N 4 Y8_readMeet 0 [some (.ref 74), none] [] m _
  refine s_aload_n eX8_readMeet_0 rfl rfl ?_
  refine s_aload_n eX8_readMeet_1 rfl rfl ?_
  refine s_geti eX8_readMeet_2 fX8_155 shp_74 rfl ?_
  refine s_bipush (v := 8) eX8_readMeet_5 rfl ?_
  obtain ⟨q1, hD⟩ := hD
  refine n_callVi (As := [.int (m 74 13), .int 8]) eX8_readMeet_7 kX8_hasRoom lX8_141 rfl rfl shp_74 rfl rfl (Nat.le_of_ble_eq_true rfl) (Nat.le_of_ble_eq_true rfl) (Nat.le_of_ble_eq_true rfl) (uX8_hasRoom (m 74 13) 8 m q1) ?_
  refine s_if_eq eX8_readMeet_10 (fun h2 => ?_) (fun h2 => ?_)
  · skip
    rw [if_pos h2] at E
    exact s_vret eX8_readMeet_113 rfl ⟨rfl, rfl, by rw [E]⟩
  · skip
    rw [if_neg h2] at E
    have hD := hD h2
    refine s_aload_n eX8_readMeet_13 rfl rfl ?_
    refine s_iconst (v := 0) eX8_readMeet_14 rfl ?_
    refine s_iconst (v := 3) eX8_readMeet_15 rfl ?_
    refine s_iconst (v := 0) eX8_readMeet_16 rfl ?_
    obtain ⟨q3, hD⟩ := hD
    refine n_callVi (As := [.int 0, .int 3, .int 0]) eX8_readMeet_17 kX8_other lX8_128 rfl rfl shp_74 rfl rfl (Nat.le_of_ble_eq_true rfl) (Nat.le_of_ble_eq_true rfl) (Nat.le_of_ble_eq_true rfl) (uX8_other 0 3 0 ((F8_hasRoom (m 74 13) 8 m).2) q3) ?_
    refine s_istore_n (ls' := [some (.ref 74), some (.int ((F8_other 0 3 0 (F8_hasRoom (m 74 13) 8 m).2).1))]) eX8_readMeet_20 rfl rfl rfl ?_
    refine s_aload_n eX8_readMeet_21 rfl rfl ?_
    refine s_iload_n eX8_readMeet_22 rfl rfl ?_
    refine s_aload_n eX8_readMeet_23 rfl rfl ?_
    refine s_geti eX8_readMeet_24 fX8_158 shp_74 rfl ?_
    have J4 : ax_N 4 Y8_readMeet 38 [some (.ref 74), some (.int ((F8_other 0 3 0 (F8_hasRoom (m 74 13) 8 m).2).1))] [.int (if ((F8_other 0 3 0 (F8_hasRoom (m 74 13) 8 m).2).1) ≤ ((F8_other 0 3 0 (F8_hasRoom (m 74 13) 8 m).2).2 74 19) then ((F8_other 0 3 0 (F8_hasRoom (m 74 13) 8 m).2).2 74 19 : Int32) else (F8_other 0 3 0 (F8_hasRoom (m 74 13) 8 m).2).1), .ref 74] ((F8_other 0 3 0 (F8_hasRoom (m 74 13) 8 m).2).2) (fun r m1 => r = none ∧ m1 = F8_readMeet m) := by
      refine cK8_readMeet_38 ((F8_other 0 3 0 (F8_hasRoom (m 74 13) 8 m).2).1) (if ((F8_other 0 3 0 (F8_hasRoom (m 74 13) 8 m).2).1) ≤ ((F8_other 0 3 0 (F8_hasRoom (m 74 13) 8 m).2).2 74 19) then ((F8_other 0 3 0 (F8_hasRoom (m 74 13) 8 m).2).2 74 19 : Int32) else (F8_other 0 3 0 (F8_hasRoom (m 74 13) 8 m).2).1) ((F8_other 0 3 0 (F8_hasRoom (m 74 13) 8 m).2).2) hD ?_
      exact ⟨rfl, by rw [E]⟩
    refine s_icmp_le eX8_readMeet_27 (fun h5 => ?_) (fun h5 => ?_)
    · skip
      refine s_aload_n eX8_readMeet_34 rfl rfl ?_
      refine s_geti eX8_readMeet_35 fX8_158 shp_74 rfl ?_
      exact ax_eqN rfl (by rw [show (if ((F8_other 0 3 0 (F8_hasRoom (m 74 13) 8 m).2).1) ≤ ((F8_other 0 3 0 (F8_hasRoom (m 74 13) 8 m).2).2 74 19) then ((F8_other 0 3 0 (F8_hasRoom (m 74 13) 8 m).2).2 74 19 : Int32) else (F8_other 0 3 0 (F8_hasRoom (m 74 13) 8 m).2).1 : Int32) = (F8_other 0 3 0 (F8_hasRoom (m 74 13) 8 m).2).2 74 19 by rw [if_pos h5]]) rfl J4
    · skip
      refine s_iload_n eX8_readMeet_30 rfl rfl ?_
      refine s_goto eX8_readMeet_31 ?_
      exact ax_eqN rfl (by rw [show (if ((F8_other 0 3 0 (F8_hasRoom (m 74 13) 8 m).2).1) ≤ ((F8_other 0 3 0 (F8_hasRoom (m 74 13) 8 m).2).2 74 19) then ((F8_other 0 3 0 (F8_hasRoom (m 74 13) 8 m).2).2 74 19 : Int32) else (F8_other 0 3 0 (F8_hasRoom (m 74 13) 8 m).2).1 : Int32) = (F8_other 0 3 0 (F8_hasRoom (m 74 13) 8 m).2).1 by rw [if_neg h5]]) rfl J4
theorem cK8_readOnce_48 (v1 : Int32) (m : ax_M) {P : Option Value → ax_M → Prop} (hP : P none (K8_readOnce_48 v1 m)) : ax_N 3 Y8_readOnce 48 [some (.ref 74), some (.int v1)] [] m P := by
  have E : K8_readOnce_48 v1 m = m := rfl
  refine s_goto eX8_readOnce_48 ?_
  rw [E] at hP
  exact s_vret eX8_readOnce_63 rfl ⟨rfl, hP⟩
theorem cK8_readOnce_29 (v1 : Int32) (m : ax_M) {P : Option Value → ax_M → Prop} (hD : HK8_readOnce_29 v1 m) (hP : P none (K8_readOnce_29 v1 m)) : ax_N 3 Y8_readOnce 29 [some (.ref 74), some (.int v1)] [] m P := by
  have E : K8_readOnce_29 v1 m = (if v1 = 0 then (K8_readOnce_48 v1 (ax_up (F8_other 2 4 0 (F8_step m)).2 74 14 ((F8_other 2 4 0 (F8_step m)).1))) else (ax_up (F8_other 1 9 0 (F8_step m)).2 74 15 ((F8_other 1 9 0 (F8_step m)).1))) := rfl
  unfold HK8_readOnce_29 at hD
  refine s_aload_n eX8_readOnce_29 rfl rfl ?_
  obtain ⟨q1, hD⟩ := hD
  refine n_callVv (As := []) eX8_readOnce_30 kX8_step lX8_125 rfl rfl shp_74 rfl rfl (Nat.le_of_ble_eq_true rfl) (Nat.le_of_ble_eq_true rfl) (Nat.le_of_ble_eq_true rfl) (uX8_step m q1) ?_
  refine s_iload_n eX8_readOnce_33 rfl rfl ?_
  refine s_if_ne eX8_readOnce_34 (fun h2 => ?_) (fun h2 => ?_)
  · skip
    rw [if_neg h2] at E
    have hD := hD.2 h2
    refine s_aload_n eX8_readOnce_51 rfl rfl ?_
    refine s_aload_n eX8_readOnce_52 rfl rfl ?_
    refine s_iconst (v := 1) eX8_readOnce_53 rfl ?_
    refine s_bipush (v := 9) eX8_readOnce_54 rfl ?_
    refine s_iconst (v := 0) eX8_readOnce_56 rfl ?_
    have q3 := hD
    refine n_callVi (As := [.int 1, .int 9, .int 0]) eX8_readOnce_57 kX8_other lX8_128 rfl rfl shp_74 rfl rfl (Nat.le_of_ble_eq_true rfl) (Nat.le_of_ble_eq_true rfl) (Nat.le_of_ble_eq_true rfl) (uX8_other 1 9 0 ((F8_step m)) q3) ?_
    refine s_puti eX8_readOnce_60 fX8_170 pX8_15 rfl rfl shp_74 rfl ?_
    rw [E] at hP
    exact s_vret eX8_readOnce_63 rfl ⟨rfl, hP⟩
  · skip
    rw [if_pos h2] at E
    have hD := hD.1 h2
    refine s_aload_n eX8_readOnce_37 rfl rfl ?_
    refine s_aload_n eX8_readOnce_38 rfl rfl ?_
    refine s_iconst (v := 2) eX8_readOnce_39 rfl ?_
    refine s_iconst (v := 4) eX8_readOnce_40 rfl ?_
    refine s_iconst (v := 0) eX8_readOnce_41 rfl ?_
    have q4 := hD
    refine n_callVi (As := [.int 2, .int 4, .int 0]) eX8_readOnce_42 kX8_other lX8_128 rfl rfl shp_74 rfl rfl (Nat.le_of_ble_eq_true rfl) (Nat.le_of_ble_eq_true rfl) (Nat.le_of_ble_eq_true rfl) (uX8_other 2 4 0 ((F8_step m)) q4) ?_
    refine s_puti eX8_readOnce_45 fX8_167 pX8_14 rfl rfl shp_74 rfl ?_
    refine cK8_readOnce_48 v1 ((ax_up (F8_other 2 4 0 (F8_step m)).2 74 14 ((F8_other 2 4 0 (F8_step m)).1))) ?_
    rw [E] at hP
    exact hP
theorem cK8_readOnce_17 (v1 : Int32) (m : ax_M) {P : Option Value → ax_M → Prop} (hD : HK8_readOnce_17 v1 m) (hP : P none (K8_readOnce_17 v1 m)) : ax_N 3 Y8_readOnce 17 [some (.ref 74), some (.int v1)] [] m P := by
  have E : K8_readOnce_17 v1 m = (K8_readOnce_29 v1 (ax_up m 74 16 ((m 74 16) ||| ((1 : Int32) <<< (v1 &&& (31 : Int32)))))) := rfl
  unfold HK8_readOnce_17 at hD
  refine s_aload_n eX8_readOnce_17 rfl rfl ?_
  refine s_dup eX8_readOnce_18 rfl ?_
  refine s_geti eX8_readOnce_19 fX8_164 shp_74 rfl ?_
  refine s_iconst (v := 1) eX8_readOnce_22 rfl ?_
  refine s_iload_n eX8_readOnce_23 rfl rfl ?_
  refine s_ishl eX8_readOnce_24 ?_
  refine s_ior eX8_readOnce_25 ?_
  refine s_puti eX8_readOnce_26 fX8_164 pX8_16 rfl rfl shp_74 rfl ?_
  refine cK8_readOnce_29 v1 ((ax_up m 74 16 ((m 74 16) ||| ((1 : Int32) <<< (v1 &&& (31 : Int32)))))) hD ?_
  rw [E] at hP
  exact hP
theorem uX8_readOnce (a1 : Int32) (m : ax_M) (hD : D8_readOnce a1 m) : ax_NM 3 Y8_readOnce [.ref 74, .int a1] m (fun r m1 => r = none ∧ m1 = F8_readOnce a1 m) := by
  have E : F8_readOnce a1 m = (K8_readOnce_17 a1 (if (((m 74 16) >>> (a1 &&& (31 : Int32))) &&& 1) = 1 then (F8_fails 4 m) else m)) := rfl
  unfold D8_readOnce at hD
  show ax_N 3 Y8_readOnce 0 [some (.ref 74), some (.int a1)] [] m _
  refine s_aload_n eX8_readOnce_0 rfl rfl ?_
  refine s_geti eX8_readOnce_1 fX8_164 shp_74 rfl ?_
  refine s_iload_n eX8_readOnce_4 rfl rfl ?_
  refine s_ishr eX8_readOnce_5 ?_
  refine s_iconst (v := 1) eX8_readOnce_6 rfl ?_
  refine s_iand eX8_readOnce_7 ?_
  refine s_iconst (v := 1) eX8_readOnce_8 rfl ?_
  have J1 : ax_N 3 Y8_readOnce 17 [some (.ref 74), some (.int a1)] [] ((if (((m 74 16) >>> (a1 &&& (31 : Int32))) &&& 1) = 1 then (F8_fails 4 m) else m)) (fun r m1 => r = none ∧ m1 = F8_readOnce a1 m) := by
    refine cK8_readOnce_17 a1 ((if (((m 74 16) >>> (a1 &&& (31 : Int32))) &&& 1) = 1 then (F8_fails 4 m) else m)) hD ?_
    exact ⟨rfl, by rw [E]⟩
  refine s_icmp_ne eX8_readOnce_9 (fun h2 => ?_) (fun h2 => ?_)
  · skip
    exact ax_eqN rfl rfl (by rw [show ((if (((m 74 16) >>> (a1 &&& (31 : Int32))) &&& 1) = 1 then (F8_fails 4 m) else m) : ax_M) = m by rw [if_neg h2]]) J1
  · skip
    refine s_aload_n eX8_readOnce_12 rfl rfl ?_
    refine s_iconst (v := 4) eX8_readOnce_13 rfl ?_
    refine n_callVv (As := [.int 4]) eX8_readOnce_14 kX8_fails lX8_121 rfl rfl shp_74 rfl rfl (Nat.le_of_ble_eq_true rfl) (Nat.le_of_ble_eq_true rfl) (Nat.le_of_ble_eq_true rfl) (uX8_fails 4 m) ?_
    exact ax_eqN rfl rfl (by rw [show ((if (((m 74 16) >>> (a1 &&& (31 : Int32))) &&& 1) = 1 then (F8_fails 4 m) else m) : ax_M) = (F8_fails 4 m) by rw [if_pos h2]]) J1
theorem cK8_readLine_134 (v1 : Int32) (m : ax_M) {P : Option Value → ax_M → Prop} (hD : HK8_readLine_134 v1 m) (hP : P none (K8_readLine_134 v1 m)) : ax_N 5 Y8_readLine 134 [some (.ref 74), some (.int v1), none] [] m P := by
  have E : K8_readLine_134 v1 m = (F8_step m) := rfl
  unfold HK8_readLine_134 at hD
  refine s_aload_n eX8_readLine_134 rfl rfl ?_
  have q1 := hD
  refine n_callVv (As := []) eX8_readLine_135 kX8_step lX8_125 rfl rfl shp_74 rfl rfl (Nat.le_of_ble_eq_true rfl) (Nat.le_of_ble_eq_true rfl) (Nat.le_of_ble_eq_true rfl) (uX8_step m q1) ?_
  rw [E] at hP
  exact s_vret eX8_readLine_138 rfl ⟨rfl, hP⟩
theorem cK8_readLine_114 (v1 : Int32) (m : ax_M) {P : Option Value → ax_M → Prop} (hD : HK8_readLine_114 v1 m) (hP : P none (K8_readLine_114 v1 m)) : ax_N 5 Y8_readLine 114 [some (.ref 74), some (.int v1), none] [] m P := by
  have E : K8_readLine_114 v1 m = (K8_readLine_134 v1 (if (m 74 24) = 0 then (if (m 74 28) = 3 then m else (F8_fails 2 m)) else m)) := rfl
  unfold HK8_readLine_114 at hD
  refine s_aload_n eX8_readLine_114 rfl rfl ?_
  refine s_geti eX8_readLine_115 fX8_91 shp_74 rfl ?_
  have J1 : ax_N 5 Y8_readLine 134 [some (.ref 74), some (.int v1), none] [] ((if (m 74 24) = 0 then (if (m 74 28) = 3 then m else (F8_fails 2 m)) else m)) P := by
    refine cK8_readLine_134 v1 ((if (m 74 24) = 0 then (if (m 74 28) = 3 then m else (F8_fails 2 m)) else m)) hD ?_
    rw [E] at hP
    exact hP
  refine s_if_ne eX8_readLine_118 (fun h2 => ?_) (fun h2 => ?_)
  · skip
    exact ax_eqN rfl rfl (by rw [show ((if (m 74 24) = 0 then (if (m 74 28) = 3 then m else (F8_fails 2 m)) else m) : ax_M) = m by rw [if_neg h2]]) J1
  · skip
    refine s_aload_n eX8_readLine_121 rfl rfl ?_
    refine s_geti eX8_readLine_122 fX8_100 shp_74 rfl ?_
    refine s_iconst (v := 3) eX8_readLine_125 rfl ?_
    refine s_icmp_eq eX8_readLine_126 (fun h3 => ?_) (fun h3 => ?_)
    · skip
      exact ax_eqN rfl rfl (by rw [show ((if (m 74 24) = 0 then (if (m 74 28) = 3 then m else (F8_fails 2 m)) else m) : ax_M) = m by rw [if_pos h2, if_pos h3]]) J1
    · skip
      refine s_aload_n eX8_readLine_129 rfl rfl ?_
      refine s_iconst (v := 2) eX8_readLine_130 rfl ?_
      refine n_callVv (As := [.int 2]) eX8_readLine_131 kX8_fails lX8_121 rfl rfl shp_74 rfl rfl (Nat.le_of_ble_eq_true rfl) (Nat.le_of_ble_eq_true rfl) (Nat.le_of_ble_eq_true rfl) (uX8_fails 2 m) ?_
      exact ax_eqN rfl rfl (by rw [show ((if (m 74 24) = 0 then (if (m 74 28) = 3 then m else (F8_fails 2 m)) else m) : ax_M) = (F8_fails 2 m) by rw [if_pos h2, if_neg h3]]) J1
theorem uX8_readLine (m : ax_M) (hD : D8_readLine m) : ax_NM 5 Y8_readLine [.ref 74] m (fun r m1 => r = none ∧ m1 = F8_readLine m) := by
  have E : F8_readLine m = (if (F8_in (Int32.toInt64 (F8_nameHere m)) 0 5 m) = 0 then (F8_fails 2 m) else (K8_readLine_114 (F8_nameHere m) (if (F8_nameHere m) = 3 then (F8_readBridge m) else (if (F8_nameHere m) = 4 then (F8_readOne m) else (if (F8_nameHere m) = 5 then (F8_readMeet m) else (if (F8_nameHere m) = 2 then (ax_up (F8_other 1 20 0 (ax_up (F8_bank ((F8_step m) 74 17) (F8_step m)).2 74 17 (((F8_bank ((F8_step m) 74 17) (F8_step m)).2 74 17) ||| ((1 : Int32) <<< (((F8_bank ((F8_step m) 74 17) (F8_step m)).1) &&& (31 : Int32)))))).2 78 (Int32.toNatClampNeg (24 + ((F8_bank ((F8_step m) 74 17) (F8_step m)).1))) ((F8_other 1 20 0 (ax_up (F8_bank ((F8_step m) 74 17) (F8_step m)).2 74 17 (((F8_bank ((F8_step m) 74 17) (F8_step m)).2 74 17) ||| ((1 : Int32) <<< (((F8_bank ((F8_step m) 74 17) (F8_step m)).1) &&& (31 : Int32)))))).1)) else (F8_readOnce (F8_nameHere m) m))))))) := rfl
  unfold D8_readLine at hD
  show ax_N 5 Y8_readLine 0 [some (.ref 74), none, none] [] m _
  refine s_aload_n eX8_readLine_0 rfl rfl ?_
  obtain ⟨q1, hD⟩ := hD
  refine n_callVi (As := []) eX8_readLine_1 kX8_nameHere lX8_151 rfl rfl shp_74 rfl rfl (Nat.le_of_ble_eq_true rfl) (Nat.le_of_ble_eq_true rfl) (Nat.le_of_ble_eq_true rfl) (uX8_nameHere m q1) ?_
  refine s_istore_n (ls' := [some (.ref 74), some (.int (F8_nameHere m)), none]) eX8_readLine_4 rfl rfl rfl ?_
  refine s_iload_n eX8_readLine_5 rfl rfl ?_
  refine s_i2l eX8_readLine_6 ?_
  refine s_lconst (v := 0) eX8_readLine_7 rfl ?_
  refine s_ldc2 eX8_readLine_8 qX8_173 ?_
  refine n_callSi (As := [.long (Int32.toInt64 (F8_nameHere m)), .long 0, .long 5]) eX8_readLine_11 kX8_in lX8_87 rfl rfl (Nat.le_of_ble_eq_true rfl) (Nat.le_of_ble_eq_true rfl) (Nat.le_of_ble_eq_true rfl) (uX8_in (Int32.toInt64 (F8_nameHere m)) 0 5 m) ?_
  refine s_if_ne eX8_readLine_14 (fun h2 => ?_) (fun h2 => ?_)
  · skip
    rw [if_neg h2] at E
    have hD := hD h2
    refine s_iload_n eX8_readLine_23 rfl rfl ?_
    refine s_iconst (v := 3) eX8_readLine_24 rfl ?_
    obtain ⟨s3, hD⟩ := hD
    have J4 : ax_N 5 Y8_readLine 114 [some (.ref 74), some (.int (F8_nameHere m)), none] [] ((if (F8_nameHere m) = 3 then (F8_readBridge m) else (if (F8_nameHere m) = 4 then (F8_readOne m) else (if (F8_nameHere m) = 5 then (F8_readMeet m) else (if (F8_nameHere m) = 2 then (ax_up (F8_other 1 20 0 (ax_up (F8_bank ((F8_step m) 74 17) (F8_step m)).2 74 17 (((F8_bank ((F8_step m) 74 17) (F8_step m)).2 74 17) ||| ((1 : Int32) <<< (((F8_bank ((F8_step m) 74 17) (F8_step m)).1) &&& (31 : Int32)))))).2 78 (Int32.toNatClampNeg (24 + ((F8_bank ((F8_step m) 74 17) (F8_step m)).1))) ((F8_other 1 20 0 (ax_up (F8_bank ((F8_step m) 74 17) (F8_step m)).2 74 17 (((F8_bank ((F8_step m) 74 17) (F8_step m)).2 74 17) ||| ((1 : Int32) <<< (((F8_bank ((F8_step m) 74 17) (F8_step m)).1) &&& (31 : Int32)))))).1)) else (F8_readOnce (F8_nameHere m) m)))))) (fun r m1 => r = none ∧ m1 = F8_readLine m) := by
      refine cK8_readLine_114 (F8_nameHere m) ((if (F8_nameHere m) = 3 then (F8_readBridge m) else (if (F8_nameHere m) = 4 then (F8_readOne m) else (if (F8_nameHere m) = 5 then (F8_readMeet m) else (if (F8_nameHere m) = 2 then (ax_up (F8_other 1 20 0 (ax_up (F8_bank ((F8_step m) 74 17) (F8_step m)).2 74 17 (((F8_bank ((F8_step m) 74 17) (F8_step m)).2 74 17) ||| ((1 : Int32) <<< (((F8_bank ((F8_step m) 74 17) (F8_step m)).1) &&& (31 : Int32)))))).2 78 (Int32.toNatClampNeg (24 + ((F8_bank ((F8_step m) 74 17) (F8_step m)).1))) ((F8_other 1 20 0 (ax_up (F8_bank ((F8_step m) 74 17) (F8_step m)).2 74 17 (((F8_bank ((F8_step m) 74 17) (F8_step m)).2 74 17) ||| ((1 : Int32) <<< (((F8_bank ((F8_step m) 74 17) (F8_step m)).1) &&& (31 : Int32)))))).1)) else (F8_readOnce (F8_nameHere m) m)))))) hD ?_
      exact ⟨rfl, by rw [E]⟩
    have hD := s3
    refine s_icmp_ne eX8_readLine_25 (fun h5 => ?_) (fun h5 => ?_)
    · skip
      have hD := hD.2 h5
      refine s_iload_n eX8_readLine_35 rfl rfl ?_
      refine s_iconst (v := 4) eX8_readLine_36 rfl ?_
      refine s_icmp_ne eX8_readLine_37 (fun h6 => ?_) (fun h6 => ?_)
      · skip
        have hD := hD.2 h6
        refine s_iload_n eX8_readLine_47 rfl rfl ?_
        refine s_iconst (v := 5) eX8_readLine_48 rfl ?_
        refine s_icmp_ne eX8_readLine_49 (fun h7 => ?_) (fun h7 => ?_)
        · skip
          have hD := hD.2 h7
          refine s_iload_n eX8_readLine_59 rfl rfl ?_
          refine s_iconst (v := 2) eX8_readLine_60 rfl ?_
          refine s_icmp_ne eX8_readLine_61 (fun h8 => ?_) (fun h8 => ?_)
          · skip
            have hD := hD.2 h8
            refine s_aload_n eX8_readLine_109 rfl rfl ?_
            refine s_iload_n eX8_readLine_110 rfl rfl ?_
            have q9 := hD
            refine n_callVv (As := [.int (F8_nameHere m)]) eX8_readLine_111 kX8_readOnce lX8_187 rfl rfl shp_74 rfl rfl (Nat.le_of_ble_eq_true rfl) (Nat.le_of_ble_eq_true rfl) (Nat.le_of_ble_eq_true rfl) (uX8_readOnce (F8_nameHere m) m q9) ?_
            exact ax_eqN rfl rfl (by rw [show ((if (F8_nameHere m) = 3 then (F8_readBridge m) else (if (F8_nameHere m) = 4 then (F8_readOne m) else (if (F8_nameHere m) = 5 then (F8_readMeet m) else (if (F8_nameHere m) = 2 then (ax_up (F8_other 1 20 0 (ax_up (F8_bank ((F8_step m) 74 17) (F8_step m)).2 74 17 (((F8_bank ((F8_step m) 74 17) (F8_step m)).2 74 17) ||| ((1 : Int32) <<< (((F8_bank ((F8_step m) 74 17) (F8_step m)).1) &&& (31 : Int32)))))).2 78 (Int32.toNatClampNeg (24 + ((F8_bank ((F8_step m) 74 17) (F8_step m)).1))) ((F8_other 1 20 0 (ax_up (F8_bank ((F8_step m) 74 17) (F8_step m)).2 74 17 (((F8_bank ((F8_step m) 74 17) (F8_step m)).2 74 17) ||| ((1 : Int32) <<< (((F8_bank ((F8_step m) 74 17) (F8_step m)).1) &&& (31 : Int32)))))).1)) else (F8_readOnce (F8_nameHere m) m))))) : ax_M) = (F8_readOnce (F8_nameHere m) m) by rw [if_neg h5, if_neg h6, if_neg h7, if_neg h8]]) J4
          · skip
            have hD := hD.1 h8
            refine s_aload_n eX8_readLine_64 rfl rfl ?_
            obtain ⟨q10, hD⟩ := hD
            refine n_callVv (As := []) eX8_readLine_65 kX8_step lX8_125 rfl rfl shp_74 rfl rfl (Nat.le_of_ble_eq_true rfl) (Nat.le_of_ble_eq_true rfl) (Nat.le_of_ble_eq_true rfl) (uX8_step m q10) ?_
            refine s_aload_n eX8_readLine_68 rfl rfl ?_
            refine s_aload_n eX8_readLine_69 rfl rfl ?_
            refine s_geti eX8_readLine_70 fX8_184 shp_74 rfl ?_
            obtain ⟨q11, hD⟩ := hD
            refine n_callVi (As := [.int ((F8_step m) 74 17)]) eX8_readLine_73 kX8_bank lX8_145 rfl rfl shp_74 rfl rfl (Nat.le_of_ble_eq_true rfl) (Nat.le_of_ble_eq_true rfl) (Nat.le_of_ble_eq_true rfl) (uX8_bank ((F8_step m) 74 17) ((F8_step m)) q11) ?_
            refine s_istore_n (ls' := [some (.ref 74), some (.int (F8_nameHere m)), some (.int ((F8_bank ((F8_step m) 74 17) (F8_step m)).1))]) eX8_readLine_76 rfl rfl rfl ?_
            refine s_aload_n eX8_readLine_77 rfl rfl ?_
            refine s_dup eX8_readLine_78 rfl ?_
            refine s_geti eX8_readLine_79 fX8_184 shp_74 rfl ?_
            refine s_iconst (v := 1) eX8_readLine_82 rfl ?_
            refine s_iload_n eX8_readLine_83 rfl rfl ?_
            refine s_ishl eX8_readLine_84 ?_
            refine s_ior eX8_readLine_85 ?_
            refine s_puti eX8_readLine_86 fX8_184 pX8_17 rfl rfl shp_74 rfl ?_
            refine s_aload_n eX8_readLine_89 rfl rfl ?_
            refine s_getr (q := 78) eX8_readLine_90 fX8_26 shp_74 rfl ?_
            refine s_bipush (v := 24) eX8_readLine_93 rfl ?_
            refine s_iload_n eX8_readLine_95 rfl rfl ?_
            refine s_iadd eX8_readLine_96 ?_
            refine s_aload_n eX8_readLine_97 rfl rfl ?_
            refine s_iconst (v := 1) eX8_readLine_98 rfl ?_
            refine s_bipush (v := 20) eX8_readLine_99 rfl ?_
            refine s_iconst (v := 0) eX8_readLine_101 rfl ?_
            obtain ⟨q12, hD⟩ := hD
            refine n_callVi (As := [.int 1, .int 20, .int 0]) eX8_readLine_102 kX8_other lX8_128 rfl rfl shp_74 rfl rfl (Nat.le_of_ble_eq_true rfl) (Nat.le_of_ble_eq_true rfl) (Nat.le_of_ble_eq_true rfl) (uX8_other 1 20 0 ((ax_up (F8_bank ((F8_step m) 74 17) (F8_step m)).2 74 17 (((F8_bank ((F8_step m) 74 17) (F8_step m)).2 74 17) ||| ((1 : Int32) <<< (((F8_bank ((F8_step m) 74 17) (F8_step m)).1) &&& (31 : Int32)))))) q12) ?_
            have q13 := hD
            refine s_iast eX8_readLine_105 shp_78 q13 ?_
            refine s_goto eX8_readLine_106 ?_
            refine ax_forget (ls' := [some (.ref 74), some (.int (F8_nameHere m)), none]) rfl ?_
            exact ax_eqN rfl rfl (by rw [show ((if (F8_nameHere m) = 3 then (F8_readBridge m) else (if (F8_nameHere m) = 4 then (F8_readOne m) else (if (F8_nameHere m) = 5 then (F8_readMeet m) else (if (F8_nameHere m) = 2 then (ax_up (F8_other 1 20 0 (ax_up (F8_bank ((F8_step m) 74 17) (F8_step m)).2 74 17 (((F8_bank ((F8_step m) 74 17) (F8_step m)).2 74 17) ||| ((1 : Int32) <<< (((F8_bank ((F8_step m) 74 17) (F8_step m)).1) &&& (31 : Int32)))))).2 78 (Int32.toNatClampNeg (24 + ((F8_bank ((F8_step m) 74 17) (F8_step m)).1))) ((F8_other 1 20 0 (ax_up (F8_bank ((F8_step m) 74 17) (F8_step m)).2 74 17 (((F8_bank ((F8_step m) 74 17) (F8_step m)).2 74 17) ||| ((1 : Int32) <<< (((F8_bank ((F8_step m) 74 17) (F8_step m)).1) &&& (31 : Int32)))))).1)) else (F8_readOnce (F8_nameHere m) m))))) : ax_M) = (ax_up (F8_other 1 20 0 (ax_up (F8_bank ((F8_step m) 74 17) (F8_step m)).2 74 17 (((F8_bank ((F8_step m) 74 17) (F8_step m)).2 74 17) ||| ((1 : Int32) <<< (((F8_bank ((F8_step m) 74 17) (F8_step m)).1) &&& (31 : Int32)))))).2 78 (Int32.toNatClampNeg (24 + ((F8_bank ((F8_step m) 74 17) (F8_step m)).1))) ((F8_other 1 20 0 (ax_up (F8_bank ((F8_step m) 74 17) (F8_step m)).2 74 17 (((F8_bank ((F8_step m) 74 17) (F8_step m)).2 74 17) ||| ((1 : Int32) <<< (((F8_bank ((F8_step m) 74 17) (F8_step m)).1) &&& (31 : Int32)))))).1)) by rw [if_neg h5, if_neg h6, if_neg h7, if_pos h8]]) J4
        · skip
          have hD := hD.1 h7
          refine s_aload_n eX8_readLine_52 rfl rfl ?_
          have q14 := hD
          refine n_callVv (As := []) eX8_readLine_53 kX8_readMeet lX8_181 rfl rfl shp_74 rfl rfl (Nat.le_of_ble_eq_true rfl) (Nat.le_of_ble_eq_true rfl) (Nat.le_of_ble_eq_true rfl) (uX8_readMeet m q14) ?_
          refine s_goto eX8_readLine_56 ?_
          exact ax_eqN rfl rfl (by rw [show ((if (F8_nameHere m) = 3 then (F8_readBridge m) else (if (F8_nameHere m) = 4 then (F8_readOne m) else (if (F8_nameHere m) = 5 then (F8_readMeet m) else (if (F8_nameHere m) = 2 then (ax_up (F8_other 1 20 0 (ax_up (F8_bank ((F8_step m) 74 17) (F8_step m)).2 74 17 (((F8_bank ((F8_step m) 74 17) (F8_step m)).2 74 17) ||| ((1 : Int32) <<< (((F8_bank ((F8_step m) 74 17) (F8_step m)).1) &&& (31 : Int32)))))).2 78 (Int32.toNatClampNeg (24 + ((F8_bank ((F8_step m) 74 17) (F8_step m)).1))) ((F8_other 1 20 0 (ax_up (F8_bank ((F8_step m) 74 17) (F8_step m)).2 74 17 (((F8_bank ((F8_step m) 74 17) (F8_step m)).2 74 17) ||| ((1 : Int32) <<< (((F8_bank ((F8_step m) 74 17) (F8_step m)).1) &&& (31 : Int32)))))).1)) else (F8_readOnce (F8_nameHere m) m))))) : ax_M) = (F8_readMeet m) by rw [if_neg h5, if_neg h6, if_pos h7]]) J4
      · skip
        have hD := hD.1 h6
        refine s_aload_n eX8_readLine_40 rfl rfl ?_
        have q15 := hD
        refine n_callVv (As := []) eX8_readLine_41 kX8_readOne lX8_178 rfl rfl shp_74 rfl rfl (Nat.le_of_ble_eq_true rfl) (Nat.le_of_ble_eq_true rfl) (Nat.le_of_ble_eq_true rfl) (uX8_readOne m q15) ?_
        refine s_goto eX8_readLine_44 ?_
        exact ax_eqN rfl rfl (by rw [show ((if (F8_nameHere m) = 3 then (F8_readBridge m) else (if (F8_nameHere m) = 4 then (F8_readOne m) else (if (F8_nameHere m) = 5 then (F8_readMeet m) else (if (F8_nameHere m) = 2 then (ax_up (F8_other 1 20 0 (ax_up (F8_bank ((F8_step m) 74 17) (F8_step m)).2 74 17 (((F8_bank ((F8_step m) 74 17) (F8_step m)).2 74 17) ||| ((1 : Int32) <<< (((F8_bank ((F8_step m) 74 17) (F8_step m)).1) &&& (31 : Int32)))))).2 78 (Int32.toNatClampNeg (24 + ((F8_bank ((F8_step m) 74 17) (F8_step m)).1))) ((F8_other 1 20 0 (ax_up (F8_bank ((F8_step m) 74 17) (F8_step m)).2 74 17 (((F8_bank ((F8_step m) 74 17) (F8_step m)).2 74 17) ||| ((1 : Int32) <<< (((F8_bank ((F8_step m) 74 17) (F8_step m)).1) &&& (31 : Int32)))))).1)) else (F8_readOnce (F8_nameHere m) m))))) : ax_M) = (F8_readOne m) by rw [if_neg h5, if_pos h6]]) J4
    · skip
      have hD := hD.1 h5
      refine s_aload_n eX8_readLine_28 rfl rfl ?_
      have q16 := hD
      refine n_callVv (As := []) eX8_readLine_29 kX8_readBridge lX8_175 rfl rfl shp_74 rfl rfl (Nat.le_of_ble_eq_true rfl) (Nat.le_of_ble_eq_true rfl) (Nat.le_of_ble_eq_true rfl) (uX8_readBridge m q16) ?_
      refine s_goto eX8_readLine_32 ?_
      exact ax_eqN rfl rfl (by rw [show ((if (F8_nameHere m) = 3 then (F8_readBridge m) else (if (F8_nameHere m) = 4 then (F8_readOne m) else (if (F8_nameHere m) = 5 then (F8_readMeet m) else (if (F8_nameHere m) = 2 then (ax_up (F8_other 1 20 0 (ax_up (F8_bank ((F8_step m) 74 17) (F8_step m)).2 74 17 (((F8_bank ((F8_step m) 74 17) (F8_step m)).2 74 17) ||| ((1 : Int32) <<< (((F8_bank ((F8_step m) 74 17) (F8_step m)).1) &&& (31 : Int32)))))).2 78 (Int32.toNatClampNeg (24 + ((F8_bank ((F8_step m) 74 17) (F8_step m)).1))) ((F8_other 1 20 0 (ax_up (F8_bank ((F8_step m) 74 17) (F8_step m)).2 74 17 (((F8_bank ((F8_step m) 74 17) (F8_step m)).2 74 17) ||| ((1 : Int32) <<< (((F8_bank ((F8_step m) 74 17) (F8_step m)).1) &&& (31 : Int32)))))).1)) else (F8_readOnce (F8_nameHere m) m))))) : ax_M) = (F8_readBridge m) by rw [if_pos h5]]) J4
  · skip
    rw [if_pos h2] at E
    refine s_aload_n eX8_readLine_17 rfl rfl ?_
    refine s_iconst (v := 2) eX8_readLine_18 rfl ?_
    refine n_callVv (As := [.int 2]) eX8_readLine_19 kX8_fails lX8_121 rfl rfl shp_74 rfl rfl (Nat.le_of_ble_eq_true rfl) (Nat.le_of_ble_eq_true rfl) (Nat.le_of_ble_eq_true rfl) (uX8_fails 2 m) ?_
    exact s_vret eX8_readLine_22 rfl ⟨rfl, rfl, by rw [E]⟩
theorem clX8_beginsText_62 {P : Option Value → ax_M → Prop} : ∀ (n : Nat) (v1 : Int32) (m : ax_M), E8_beginsText_62 n v1 m → (ax_N 0 Y8_beginsText 81 [some (.ref 74), some (.int ((L8_beginsText_62 n v1 m).1))] [] ((L8_beginsText_62 n v1 m).2) P) → ax_N 0 Y8_beginsText 62 [some (.ref 74), some (.int v1)] [] m P := by
  intro n
  induction n with
  | zero => intro v1 m hD; exact absurd hD id
  | succ n ih =>
    intro v1 m hD hx
    have E : L8_beginsText_62 (n + 1) v1 m = (if 33 ≤ v1 then (v1, m) else L8_beginsText_62 n (v1 + 1) (ax_up m 78 (Int32.toNatClampNeg v1) 0)) := by rw [L8_beginsText_62]
    have hD : ((¬ (33 ≤ v1) → ((vp_in v1 33) ∧ (E8_beginsText_62 n (v1 + 1) (ax_up m 78 (Int32.toNatClampNeg v1) 0))))) := hD
    refine s_iload_n eX8_beginsText_62 rfl rfl ?_
    refine s_bipush (v := 33) eX8_beginsText_63 rfl ?_
    refine s_icmp_ge eX8_beginsText_65 (fun h1 => ?_) (fun h1 => ?_)
    · skip
      rw [if_pos h1] at E
      rw [E] at hx
      exact hx
    · skip
      rw [if_neg h1] at E
      have hD := hD h1
      refine s_aload_n eX8_beginsText_68 rfl rfl ?_
      refine s_getr (q := 78) eX8_beginsText_69 fX8_26 shp_74 rfl ?_
      refine s_iload_n eX8_beginsText_72 rfl rfl ?_
      refine s_iconst (v := 0) eX8_beginsText_73 rfl ?_
      obtain ⟨q2, hD⟩ := hD
      refine s_iast eX8_beginsText_74 shp_78 q2 ?_
      refine s_iinc (v := v1 + 1) (ls' := [some (.ref 74), some (.int (v1 + 1))]) eX8_beginsText_75 rfl rfl rfl rfl ?_
      refine s_goto eX8_beginsText_78 ?_
      rw [E] at hx
      exact ih (v1 + 1) ((ax_up m 78 (Int32.toNatClampNeg v1) 0)) hD hx
theorem cK8_beginsText_60 (m : ax_M) {P : Option Value → ax_M → Prop} (hD : HK8_beginsText_60  m) (hP : P none (K8_beginsText_60 m)) : ax_N 0 Y8_beginsText 60 [some (.ref 74), none] [] m P := by
  have E : K8_beginsText_60 m = (L8_beginsText_62 64 0 m).2 := rfl
  unfold HK8_beginsText_60 at hD
  refine s_iconst (v := 0) eX8_beginsText_60 rfl ?_
  refine s_istore_n (ls' := [some (.ref 74), some (.int 0)]) eX8_beginsText_61 rfl rfl rfl ?_
  have q1 := hD
  refine clX8_beginsText_62 64 0 m q1 ?_
  rw [E] at hP
  exact s_vret eX8_beginsText_81 rfl ⟨rfl, hP⟩
theorem cK8_beginsText_40 (m : ax_M) {P : Option Value → ax_M → Prop} (hD : HK8_beginsText_40  m) (hP : P none (K8_beginsText_40 m)) : ax_N 0 Y8_beginsText 40 [some (.ref 74), none] [] m P := by
  have E : K8_beginsText_40 m = (K8_beginsText_60 (ax_up (ax_up (ax_up (ax_up m 74 17 0) 74 18 ((-1))) 74 19 ((-1))) 74 20 ((-1)))) := rfl
  unfold HK8_beginsText_40 at hD
  refine s_aload_n eX8_beginsText_40 rfl rfl ?_
  refine s_iconst (v := 0) eX8_beginsText_41 rfl ?_
  refine s_puti eX8_beginsText_42 fX8_184 pX8_17 rfl rfl shp_74 rfl ?_
  refine s_aload_n eX8_beginsText_45 rfl rfl ?_
  refine s_iconst (v := (-1)) eX8_beginsText_46 rfl ?_
  refine s_puti eX8_beginsText_47 fX8_132 pX8_18 rfl rfl shp_74 rfl ?_
  refine s_aload_n eX8_beginsText_50 rfl rfl ?_
  refine s_iconst (v := (-1)) eX8_beginsText_51 rfl ?_
  refine s_puti eX8_beginsText_52 fX8_158 pX8_19 rfl rfl shp_74 rfl ?_
  refine s_aload_n eX8_beginsText_55 rfl rfl ?_
  refine s_iconst (v := (-1)) eX8_beginsText_56 rfl ?_
  refine s_puti eX8_beginsText_57 fX8_135 pX8_20 rfl rfl shp_74 rfl ?_
  refine cK8_beginsText_60 ((ax_up (ax_up (ax_up (ax_up m 74 17 0) 74 18 ((-1))) 74 19 ((-1))) 74 20 ((-1)))) hD ?_
  rw [E] at hP
  exact hP
theorem cK8_beginsText_20 (m : ax_M) {P : Option Value → ax_M → Prop} (hD : HK8_beginsText_20  m) (hP : P none (K8_beginsText_20 m)) : ax_N 0 Y8_beginsText 20 [some (.ref 74), none] [] m P := by
  have E : K8_beginsText_20 m = (K8_beginsText_40 (ax_up (ax_up (ax_up (ax_up m 74 13 0) 74 14 2) 74 15 3) 74 16 0)) := rfl
  unfold HK8_beginsText_20 at hD
  refine s_aload_n eX8_beginsText_20 rfl rfl ?_
  refine s_iconst (v := 0) eX8_beginsText_21 rfl ?_
  refine s_puti eX8_beginsText_22 fX8_155 pX8_13 rfl rfl shp_74 rfl ?_
  refine s_aload_n eX8_beginsText_25 rfl rfl ?_
  refine s_iconst (v := 2) eX8_beginsText_26 rfl ?_
  refine s_puti eX8_beginsText_27 fX8_167 pX8_14 rfl rfl shp_74 rfl ?_
  refine s_aload_n eX8_beginsText_30 rfl rfl ?_
  refine s_iconst (v := 3) eX8_beginsText_31 rfl ?_
  refine s_puti eX8_beginsText_32 fX8_170 pX8_15 rfl rfl shp_74 rfl ?_
  refine s_aload_n eX8_beginsText_35 rfl rfl ?_
  refine s_iconst (v := 0) eX8_beginsText_36 rfl ?_
  refine s_puti eX8_beginsText_37 fX8_164 pX8_16 rfl rfl shp_74 rfl ?_
  refine cK8_beginsText_40 ((ax_up (ax_up (ax_up (ax_up m 74 13 0) 74 14 2) 74 15 3) 74 16 0)) hD ?_
  rw [E] at hP
  exact hP
theorem uX8_beginsText (m : ax_M) (hD : D8_beginsText m) : ax_NM 0 Y8_beginsText [.ref 74] m (fun r m1 => r = none ∧ m1 = F8_beginsText m) := by
  have E : F8_beginsText m = (K8_beginsText_20 (ax_up (ax_up (ax_up (ax_up m 74 24 0) 74 26 0) 74 11 0) 74 12 0)) := rfl
  unfold D8_beginsText at hD
  show ax_N 0 Y8_beginsText 0 [some (.ref 74), none] [] m _
  refine s_aload_n eX8_beginsText_0 rfl rfl ?_
  refine s_iconst (v := 0) eX8_beginsText_1 rfl ?_
  refine s_puti eX8_beginsText_2 fX8_91 pX8_24 rfl rfl shp_74 rfl ?_
  refine s_aload_n eX8_beginsText_5 rfl rfl ?_
  refine s_iconst (v := 0) eX8_beginsText_6 rfl ?_
  refine s_puti eX8_beginsText_7 fX8_103 pX8_26 rfl rfl shp_74 rfl ?_
  refine s_aload_n eX8_beginsText_10 rfl rfl ?_
  refine s_iconst (v := 0) eX8_beginsText_11 rfl ?_
  refine s_puti eX8_beginsText_12 fX8_138 pX8_11 rfl rfl shp_74 rfl ?_
  refine s_aload_n eX8_beginsText_15 rfl rfl ?_
  refine s_iconst (v := 0) eX8_beginsText_16 rfl ?_
  refine s_puti eX8_beginsText_17 fX8_148 pX8_12 rfl rfl shp_74 rfl ?_
  refine cK8_beginsText_20 ((ax_up (ax_up (ax_up (ax_up m 74 24 0) 74 26 0) 74 11 0) 74 12 0)) hD ?_
  exact ⟨rfl, by rw [E]⟩
theorem clX8_text_10 {P : Option Value → ax_M → Prop} : ∀ (n : Nat) (v1 : Int32) (m : ax_M), E8_text_10 n v1 m → (ax_N 6 Y8_text 34 [some (.ref 74), some (.int ((L8_text_10 n v1 m).1)), none] [] ((L8_text_10 n v1 m).2) P) → ax_N 6 Y8_text 10 [some (.ref 74), some (.int v1), none] [] m P := by
  intro n
  induction n with
  | zero => intro v1 m hD; exact absurd hD id
  | succ n ih =>
    intro v1 m hD hx
    have E : L8_text_10 (n + 1) v1 m = (if (m 74 24) = 0 then (if (m 74 28) = 0 then (v1, m) else L8_text_10 n (v1 + 1) (F8_readLine m)) else (v1, m)) := by rw [L8_text_10]
    have hD : ((((m 74 24) = 0) → ((¬ ((m 74 28) = 0) → ((D8_readLine m) ∧ (E8_text_10 n (v1 + 1) (F8_readLine m))))))) := hD
    refine s_aload_n eX8_text_10 rfl rfl ?_
    refine s_geti eX8_text_11 fX8_91 shp_74 rfl ?_
    refine s_if_ne eX8_text_14 (fun h1 => ?_) (fun h1 => ?_)
    · skip
      rw [if_neg h1] at E
      rw [E] at hx
      exact hx
    · skip
      rw [if_pos h1] at E
      have hD := hD h1
      refine s_aload_n eX8_text_17 rfl rfl ?_
      refine s_geti eX8_text_18 fX8_100 shp_74 rfl ?_
      refine s_if_eq eX8_text_21 (fun h2 => ?_) (fun h2 => ?_)
      · skip
        rw [if_pos h2] at E
        rw [E] at hx
        exact hx
      · skip
        rw [if_neg h2] at E
        have hD := hD h2
        refine s_aload_n eX8_text_24 rfl rfl ?_
        obtain ⟨q3, hD⟩ := hD
        refine n_callVv (As := []) eX8_text_25 kX8_readLine lX8_193 rfl rfl shp_74 rfl rfl (Nat.le_of_ble_eq_true rfl) (Nat.le_of_ble_eq_true rfl) (Nat.le_of_ble_eq_true rfl) (uX8_readLine m q3) ?_
        refine s_iinc (v := v1 + 1) (ls' := [some (.ref 74), some (.int (v1 + 1)), none]) eX8_text_28 rfl rfl rfl rfl ?_
        refine s_goto eX8_text_31 ?_
        rw [E] at hx
        exact ih (v1 + 1) ((F8_readLine m)) hD hx
theorem clX8_text_110 {P : Option Value → ax_M → Prop} : ∀ (n : Nat) (v1 v2 : Int32) (m : ax_M), E8_text_110 n v1 v2 m → (ax_N 6 Y8_text 134 [some (.ref 74), some (.int v1), some (.int ((L8_text_110 n v1 v2 m).1))] [] ((L8_text_110 n v1 v2 m).2) P) → ax_N 6 Y8_text 110 [some (.ref 74), some (.int v1), some (.int v2)] [] m P := by
  intro n
  induction n with
  | zero => intro v1 v2 m hD; exact absurd hD id
  | succ n ih =>
    intro v1 v2 m hD hx
    have E : L8_text_110 (n + 1) v1 v2 m = (if 33 ≤ v2 then (v2, m) else L8_text_110 n v1 (v2 + 1) (ax_up m 75 (Int32.toNatClampNeg v2) (m 78 (Int32.toNatClampNeg v2)))) := by rw [L8_text_110]
    have hD : ((¬ (33 ≤ v2) → ((vp_in v2 33) ∧ (vp_in v2 132) ∧ (E8_text_110 n v1 (v2 + 1) (ax_up m 75 (Int32.toNatClampNeg v2) (m 78 (Int32.toNatClampNeg v2))))))) := hD
    refine s_iload_n eX8_text_110 rfl rfl ?_
    refine s_bipush (v := 33) eX8_text_111 rfl ?_
    refine s_icmp_ge eX8_text_113 (fun h1 => ?_) (fun h1 => ?_)
    · skip
      rw [if_pos h1] at E
      rw [E] at hx
      exact hx
    · skip
      rw [if_neg h1] at E
      have hD := hD h1
      refine s_aload_n eX8_text_116 rfl rfl ?_
      refine s_getr (q := 75) eX8_text_117 fX8_7 shp_74 rfl ?_
      refine s_iload_n eX8_text_120 rfl rfl ?_
      refine s_aload_n eX8_text_121 rfl rfl ?_
      refine s_getr (q := 78) eX8_text_122 fX8_26 shp_74 rfl ?_
      refine s_iload_n eX8_text_125 rfl rfl ?_
      obtain ⟨q2, hD⟩ := hD
      refine s_iald eX8_text_126 shp_78 q2 ?_
      obtain ⟨q3, hD⟩ := hD
      refine s_iast eX8_text_127 shp_75 q3 ?_
      refine s_iinc (v := v2 + 1) (ls' := [some (.ref 74), some (.int v1), some (.int (v2 + 1))]) eX8_text_128 rfl rfl rfl rfl ?_
      refine s_goto eX8_text_131 ?_
      rw [E] at hx
      exact ih v1 (v2 + 1) ((ax_up m 75 (Int32.toNatClampNeg v2) (m 78 (Int32.toNatClampNeg v2)))) hD hx
theorem clX8_text_136 {P : Option Value → ax_M → Prop} : ∀ (n : Nat) (v1 v2 : Int32) (m : ax_M), E8_text_136 n v1 v2 m → (ax_N 6 Y8_text 178 [some (.ref 74), some (.int v1), some (.int ((L8_text_136 n v1 v2 m).1))] [] ((L8_text_136 n v1 v2 m).2) P) → ax_N 6 Y8_text 136 [some (.ref 74), some (.int v1), some (.int v2)] [] m P := by
  intro n
  induction n with
  | zero => intro v1 v2 m hD; exact absurd hD id
  | succ n ih =>
    intro v1 v2 m hD hx
    have E : L8_text_136 (n + 1) v1 v2 m = (if 24 ≤ v2 then (v2, m) else L8_text_136 n v1 (v2 + 1) (ax_up (ax_up m 77 (Int32.toNatClampNeg v2) (m 80 (Int32.toNatClampNeg v2))) 76 (Int32.toNatClampNeg (v2 - v2 / 8 * 8)) ((ax_up m 77 (Int32.toNatClampNeg v2) (m 80 (Int32.toNatClampNeg v2))) 79 (Int32.toNatClampNeg (v2 - v2 / 8 * 8))))) := by rw [L8_text_136]
    have hD : ((¬ (24 ≤ v2) → ((vp_in v2 24) ∧ (vp_in v2 24) ∧ (vp_in (v2 - v2 / 8 * 8) 8) ∧ (vp_in (v2 - v2 / 8 * 8) 8) ∧ (E8_text_136 n v1 (v2 + 1) (ax_up (ax_up m 77 (Int32.toNatClampNeg v2) (m 80 (Int32.toNatClampNeg v2))) 76 (Int32.toNatClampNeg (v2 - v2 / 8 * 8)) ((ax_up m 77 (Int32.toNatClampNeg v2) (m 80 (Int32.toNatClampNeg v2))) 79 (Int32.toNatClampNeg (v2 - v2 / 8 * 8)))))))) := hD
    refine s_iload_n eX8_text_136 rfl rfl ?_
    refine s_bipush (v := 24) eX8_text_137 rfl ?_
    refine s_icmp_ge eX8_text_139 (fun h1 => ?_) (fun h1 => ?_)
    · skip
      rw [if_pos h1] at E
      rw [E] at hx
      exact hx
    · skip
      rw [if_neg h1] at E
      have hD := hD h1
      refine s_aload_n eX8_text_142 rfl rfl ?_
      refine s_getr (q := 77) eX8_text_143 fX8_23 shp_74 rfl ?_
      refine s_iload_n eX8_text_146 rfl rfl ?_
      refine s_aload_n eX8_text_147 rfl rfl ?_
      refine s_getr (q := 80) eX8_text_148 fX8_32 shp_74 rfl ?_
      refine s_iload_n eX8_text_151 rfl rfl ?_
      obtain ⟨q2, hD⟩ := hD
      refine s_iald eX8_text_152 shp_80 q2 ?_
      obtain ⟨q3, hD⟩ := hD
      refine s_iast eX8_text_153 shp_77 q3 ?_
      refine s_aload_n eX8_text_154 rfl rfl ?_
      refine s_getr (q := 76) eX8_text_155 fX8_13 shp_74 rfl ?_
      refine s_iload_n eX8_text_158 rfl rfl ?_
      refine s_bipush (v := 8) eX8_text_159 rfl ?_
      refine s_irem eX8_text_161 (by decide) ?_
      refine s_aload_n eX8_text_162 rfl rfl ?_
      refine s_getr (q := 79) eX8_text_163 fX8_29 shp_74 rfl ?_
      refine s_iload_n eX8_text_166 rfl rfl ?_
      refine s_bipush (v := 8) eX8_text_167 rfl ?_
      refine s_irem eX8_text_169 (by decide) ?_
      obtain ⟨q4, hD⟩ := hD
      refine s_iald eX8_text_170 shp_79 q4 ?_
      obtain ⟨q5, hD⟩ := hD
      refine s_iast eX8_text_171 shp_76 q5 ?_
      refine s_iinc (v := v2 + 1) (ls' := [some (.ref 74), some (.int v1), some (.int (v2 + 1))]) eX8_text_172 rfl rfl rfl rfl ?_
      refine s_goto eX8_text_175 ?_
      rw [E] at hx
      exact ih v1 (v2 + 1) ((ax_up (ax_up m 77 (Int32.toNatClampNeg v2) (m 80 (Int32.toNatClampNeg v2))) 76 (Int32.toNatClampNeg (v2 - v2 / 8 * 8)) ((ax_up m 77 (Int32.toNatClampNeg v2) (m 80 (Int32.toNatClampNeg v2))) 79 (Int32.toNatClampNeg (v2 - v2 / 8 * 8))))) hD hx
theorem cK8_text_232 (v1 v2 : Int32) (m : ax_M) {P : Option Value → ax_M → Prop} (hP : P (some (.int (K8_text_232 v1 v2 m).1)) (K8_text_232 v1 v2 m).2) : ax_N 6 Y8_text 232 [some (.ref 74), some (.int v1), some (.int v2)] [] m P := by
  have E : K8_text_232 v1 v2 m = (v1, m) := rfl
  refine s_iload_n eX8_text_232 rfl rfl ?_
  rw [E] at hP
  exact s_iret eX8_text_233 rfl ⟨rfl, hP⟩
theorem cK8_text_218 (v1 v2 : Int32) (m : ax_M) {P : Option Value → ax_M → Prop} (hP : P (some (.int (K8_text_218 v1 v2 m).1)) (K8_text_218 v1 v2 m).2) : ax_N 6 Y8_text 218 [some (.ref 74), some (.int v1), some (.int v2)] [] m P := by
  have E : K8_text_218 v1 v2 m = (K8_text_232 v1 v2 (ax_up (ax_up m 93 (Int32.toNatClampNeg 0) 0) 93 (Int32.toNatClampNeg 1) 0)) := rfl
  refine s_aload_n eX8_text_218 rfl rfl ?_
  refine s_getr (q := 93) eX8_text_219 fX8_71 shp_74 rfl ?_
  refine s_iconst (v := 0) eX8_text_222 rfl ?_
  refine s_iconst (v := 0) eX8_text_223 rfl ?_
  refine s_zast (x' := 0) eX8_text_224 shp_93 (by unfold vp_in; decide) rfl ?_
  refine s_aload_n eX8_text_225 rfl rfl ?_
  refine s_getr (q := 93) eX8_text_226 fX8_71 shp_74 rfl ?_
  refine s_iconst (v := 1) eX8_text_229 rfl ?_
  refine s_iconst (v := 0) eX8_text_230 rfl ?_
  refine s_zast (x' := 0) eX8_text_231 shp_93 (by unfold vp_in; decide) rfl ?_
  refine cK8_text_232 v1 v2 ((ax_up (ax_up m 93 (Int32.toNatClampNeg 0) 0) 93 (Int32.toNatClampNeg 1) 0)) ?_
  rw [E] at hP
  exact hP
theorem cK8_text_202 (v1 v2 : Int32) (m : ax_M) {P : Option Value → ax_M → Prop} (hP : P (some (.int (K8_text_202 v1 v2 m).1)) (K8_text_202 v1 v2 m).2) : ax_N 6 Y8_text 202 [some (.ref 74), some (.int v1), some (.int v2)] [] m P := by
  have E : K8_text_202 v1 v2 m = (K8_text_218 v1 v2 (ax_up (ax_up m 74 4 (m 74 14)) 74 5 ((ax_up m 74 4 (m 74 14)) 74 15))) := rfl
  refine s_aload_n eX8_text_202 rfl rfl ?_
  refine s_aload_n eX8_text_203 rfl rfl ?_
  refine s_geti eX8_text_204 fX8_167 shp_74 rfl ?_
  refine s_puti eX8_text_207 fX8_16 pX8_4 rfl rfl shp_74 rfl ?_
  refine s_aload_n eX8_text_210 rfl rfl ?_
  refine s_aload_n eX8_text_211 rfl rfl ?_
  refine s_geti eX8_text_212 fX8_170 shp_74 rfl ?_
  refine s_puti eX8_text_215 fX8_20 pX8_5 rfl rfl shp_74 rfl ?_
  refine cK8_text_218 v1 v2 ((ax_up (ax_up m 74 4 (m 74 14)) 74 5 ((ax_up m 74 4 (m 74 14)) 74 15))) ?_
  rw [E] at hP
  exact hP
theorem cK8_text_186 (v1 v2 : Int32) (m : ax_M) {P : Option Value → ax_M → Prop} (hP : P (some (.int (K8_text_186 v1 v2 m).1)) (K8_text_186 v1 v2 m).2) : ax_N 6 Y8_text 186 [some (.ref 74), some (.int v1), some (.int v2)] [] m P := by
  have E : K8_text_186 v1 v2 m = (K8_text_202 v1 v2 (ax_up (ax_up m 74 3 (m 74 12)) 74 7 ((ax_up m 74 3 (m 74 12)) 74 13))) := rfl
  refine s_aload_n eX8_text_186 rfl rfl ?_
  refine s_aload_n eX8_text_187 rfl rfl ?_
  refine s_geti eX8_text_188 fX8_148 shp_74 rfl ?_
  refine s_puti eX8_text_191 fX8_202 pX8_3 rfl rfl shp_74 rfl ?_
  refine s_aload_n eX8_text_194 rfl rfl ?_
  refine s_aload_n eX8_text_195 rfl rfl ?_
  refine s_geti eX8_text_196 fX8_155 shp_74 rfl ?_
  refine s_puti eX8_text_199 fX8_205 pX8_7 rfl rfl shp_74 rfl ?_
  refine cK8_text_202 v1 v2 ((ax_up (ax_up m 74 3 (m 74 12)) 74 7 ((ax_up m 74 3 (m 74 12)) 74 13))) ?_
  rw [E] at hP
  exact hP
theorem cK8_text_134 (v1 v2 : Int32) (m : ax_M) {P : Option Value → ax_M → Prop} (hD : HK8_text_134 v1 v2 m) (hP : P (some (.int (K8_text_134 v1 v2 m).1)) (K8_text_134 v1 v2 m).2) : ax_N 6 Y8_text 134 [some (.ref 74), some (.int v1), some (.int v2)] [] m P := by
  have E : K8_text_134 v1 v2 m = (K8_text_186 v1 ((L8_text_136 330 v1 0 m).1) (ax_up (L8_text_136 330 v1 0 m).2 74 2 ((L8_text_136 330 v1 0 m).2 74 11))) := rfl
  unfold HK8_text_134 at hD
  refine s_iconst (v := 0) eX8_text_134 rfl ?_
  refine s_istore_n (ls' := [some (.ref 74), some (.int v1), some (.int 0)]) eX8_text_135 rfl rfl rfl ?_
  have q1 := hD
  refine clX8_text_136 330 v1 0 m q1 ?_
  refine s_aload_n eX8_text_178 rfl rfl ?_
  refine s_aload_n eX8_text_179 rfl rfl ?_
  refine s_geti eX8_text_180 fX8_138 shp_74 rfl ?_
  refine s_puti eX8_text_183 fX8_199 pX8_2 rfl rfl shp_74 rfl ?_
  refine cK8_text_186 v1 ((L8_text_136 330 v1 0 m).1) ((ax_up (L8_text_136 330 v1 0 m).2 74 2 ((L8_text_136 330 v1 0 m).2 74 11))) ?_
  rw [E] at hP
  exact hP
theorem cK8_text_80 (v1 : Int32) (m : ax_M) {P : Option Value → ax_M → Prop} (hD : HK8_text_80 v1 m) (hP : P (some (.int (K8_text_80 v1 m).1)) (K8_text_80 v1 m).2) : ax_N 6 Y8_text 80 [some (.ref 74), some (.int v1), none] [] m P := by
  have E : K8_text_80 v1 m = (if ((ax_up (ax_up m 74 22 0) 74 23 ((ax_up m 74 22 0) 74 24)) 74 24) ≤ 0 then (K8_text_134 v1 ((L8_text_110 330 v1 0 (ax_up (ax_up m 74 22 0) 74 23 ((ax_up m 74 22 0) 74 24))).1) (L8_text_110 330 v1 0 (ax_up (ax_up m 74 22 0) 74 23 ((ax_up m 74 22 0) 74 24))).2) else (((-10)) - ((ax_up (ax_up m 74 22 0) 74 23 ((ax_up m 74 22 0) 74 24)) 74 25), (ax_up (ax_up m 74 22 0) 74 23 ((ax_up m 74 22 0) 74 24)))) := rfl
  unfold HK8_text_80 at hD
  refine s_aload_n eX8_text_80 rfl rfl ?_
  refine s_iconst (v := 0) eX8_text_81 rfl ?_
  refine s_puti eX8_text_82 fX8_84 pX8_22 rfl rfl shp_74 rfl ?_
  refine s_aload_n eX8_text_85 rfl rfl ?_
  refine s_aload_n eX8_text_86 rfl rfl ?_
  refine s_geti eX8_text_87 fX8_91 shp_74 rfl ?_
  refine s_puti eX8_text_90 fX8_196 pX8_23 rfl rfl shp_74 rfl ?_
  refine s_aload_n eX8_text_93 rfl rfl ?_
  refine s_geti eX8_text_94 fX8_91 shp_74 rfl ?_
  refine s_if_le eX8_text_97 (fun h1 => ?_) (fun h1 => ?_)
  · skip
    rw [if_pos h1] at E
    have hD := hD h1
    refine s_iconst (v := 0) eX8_text_108 rfl ?_
    refine s_istore_n (ls' := [some (.ref 74), some (.int v1), some (.int 0)]) eX8_text_109 rfl rfl rfl ?_
    obtain ⟨q2, hD⟩ := hD
    refine clX8_text_110 330 v1 0 ((ax_up (ax_up m 74 22 0) 74 23 ((ax_up m 74 22 0) 74 24))) q2 ?_
    refine cK8_text_134 v1 ((L8_text_110 330 v1 0 (ax_up (ax_up m 74 22 0) 74 23 ((ax_up m 74 22 0) 74 24))).1) ((L8_text_110 330 v1 0 (ax_up (ax_up m 74 22 0) 74 23 ((ax_up m 74 22 0) 74 24))).2) hD ?_
    rw [E] at hP
    exact hP
  · skip
    rw [if_neg h1] at E
    refine s_bipush (v := (-10)) eX8_text_100 rfl ?_
    refine s_aload_n eX8_text_102 rfl rfl ?_
    refine s_geti eX8_text_103 fX8_97 shp_74 rfl ?_
    refine s_isub eX8_text_106 ?_
    rw [E] at hP
    exact s_iret eX8_text_107 rfl ⟨rfl, hP⟩
theorem uX8_text (m : ax_M) (hD : D8_text m) : ax_NM 6 Y8_text [.ref 74] m (fun r m1 => r = some (.int (F8_text m).1) ∧ m1 = (F8_text m).2) := by
  have E : F8_text m = (K8_text_80 ((L8_text_10 330 0 (F8_step (F8_beginsText m))).1) (if ((L8_text_10 330 0 (F8_step (F8_beginsText m))).2 74 24) = 0 then (if ((L8_text_10 330 0 (F8_step (F8_beginsText m))).2 74 14) ≤ ((L8_text_10 330 0 (F8_step (F8_beginsText m))).2 74 18) then (F8_fails 6 (L8_text_10 330 0 (F8_step (F8_beginsText m))).2) else (if ((L8_text_10 330 0 (F8_step (F8_beginsText m))).2 74 11) ≤ ((L8_text_10 330 0 (F8_step (F8_beginsText m))).2 74 19) then (F8_fails 6 (L8_text_10 330 0 (F8_step (F8_beginsText m))).2) else (if ((L8_text_10 330 0 (F8_step (F8_beginsText m))).2 74 20) < ((L8_text_10 330 0 (F8_step (F8_beginsText m))).2 74 12) then (L8_text_10 330 0 (F8_step (F8_beginsText m))).2 else (F8_fails 6 (L8_text_10 330 0 (F8_step (F8_beginsText m))).2)))) else (L8_text_10 330 0 (F8_step (F8_beginsText m))).2)) := rfl
  unfold D8_text at hD
  show ax_N 6 Y8_text 0 [some (.ref 74), none, none] [] m _
  refine s_aload_n eX8_text_0 rfl rfl ?_
  obtain ⟨q1, hD⟩ := hD
  refine n_callVv (As := []) eX8_text_1 kX8_beginsText lX8_190 rfl rfl shp_74 rfl rfl (Nat.le_of_ble_eq_true rfl) (Nat.le_of_ble_eq_true rfl) (Nat.le_of_ble_eq_true rfl) (uX8_beginsText m q1) ?_
  refine s_iconst (v := 0) eX8_text_4 rfl ?_
  refine s_istore_n (ls' := [some (.ref 74), some (.int 0), none]) eX8_text_5 rfl rfl rfl ?_
  refine s_aload_n eX8_text_6 rfl rfl ?_
  obtain ⟨q2, hD⟩ := hD
  refine n_callVv (As := []) eX8_text_7 kX8_step lX8_125 rfl rfl shp_74 rfl rfl (Nat.le_of_ble_eq_true rfl) (Nat.le_of_ble_eq_true rfl) (Nat.le_of_ble_eq_true rfl) (uX8_step ((F8_beginsText m)) q2) ?_
  obtain ⟨q3, hD⟩ := hD
  refine clX8_text_10 330 0 ((F8_step (F8_beginsText m))) q3 ?_
  refine s_aload_n eX8_text_34 rfl rfl ?_
  refine s_geti eX8_text_35 fX8_91 shp_74 rfl ?_
  have J4 : ax_N 6 Y8_text 80 [some (.ref 74), some (.int ((L8_text_10 330 0 (F8_step (F8_beginsText m))).1)), none] [] ((if ((L8_text_10 330 0 (F8_step (F8_beginsText m))).2 74 24) = 0 then (if ((L8_text_10 330 0 (F8_step (F8_beginsText m))).2 74 14) ≤ ((L8_text_10 330 0 (F8_step (F8_beginsText m))).2 74 18) then (F8_fails 6 (L8_text_10 330 0 (F8_step (F8_beginsText m))).2) else (if ((L8_text_10 330 0 (F8_step (F8_beginsText m))).2 74 11) ≤ ((L8_text_10 330 0 (F8_step (F8_beginsText m))).2 74 19) then (F8_fails 6 (L8_text_10 330 0 (F8_step (F8_beginsText m))).2) else (if ((L8_text_10 330 0 (F8_step (F8_beginsText m))).2 74 20) < ((L8_text_10 330 0 (F8_step (F8_beginsText m))).2 74 12) then (L8_text_10 330 0 (F8_step (F8_beginsText m))).2 else (F8_fails 6 (L8_text_10 330 0 (F8_step (F8_beginsText m))).2)))) else (L8_text_10 330 0 (F8_step (F8_beginsText m))).2)) (fun r m1 => r = some (.int (F8_text m).1) ∧ m1 = (F8_text m).2) := by
    refine cK8_text_80 ((L8_text_10 330 0 (F8_step (F8_beginsText m))).1) ((if ((L8_text_10 330 0 (F8_step (F8_beginsText m))).2 74 24) = 0 then (if ((L8_text_10 330 0 (F8_step (F8_beginsText m))).2 74 14) ≤ ((L8_text_10 330 0 (F8_step (F8_beginsText m))).2 74 18) then (F8_fails 6 (L8_text_10 330 0 (F8_step (F8_beginsText m))).2) else (if ((L8_text_10 330 0 (F8_step (F8_beginsText m))).2 74 11) ≤ ((L8_text_10 330 0 (F8_step (F8_beginsText m))).2 74 19) then (F8_fails 6 (L8_text_10 330 0 (F8_step (F8_beginsText m))).2) else (if ((L8_text_10 330 0 (F8_step (F8_beginsText m))).2 74 20) < ((L8_text_10 330 0 (F8_step (F8_beginsText m))).2 74 12) then (L8_text_10 330 0 (F8_step (F8_beginsText m))).2 else (F8_fails 6 (L8_text_10 330 0 (F8_step (F8_beginsText m))).2)))) else (L8_text_10 330 0 (F8_step (F8_beginsText m))).2)) hD ?_
    exact ⟨by rw [E], by rw [E]⟩
  refine s_if_ne eX8_text_38 (fun h5 => ?_) (fun h5 => ?_)
  · skip
    exact ax_eqN rfl rfl (by rw [show ((if ((L8_text_10 330 0 (F8_step (F8_beginsText m))).2 74 24) = 0 then (if ((L8_text_10 330 0 (F8_step (F8_beginsText m))).2 74 14) ≤ ((L8_text_10 330 0 (F8_step (F8_beginsText m))).2 74 18) then (F8_fails 6 (L8_text_10 330 0 (F8_step (F8_beginsText m))).2) else (if ((L8_text_10 330 0 (F8_step (F8_beginsText m))).2 74 11) ≤ ((L8_text_10 330 0 (F8_step (F8_beginsText m))).2 74 19) then (F8_fails 6 (L8_text_10 330 0 (F8_step (F8_beginsText m))).2) else (if ((L8_text_10 330 0 (F8_step (F8_beginsText m))).2 74 20) < ((L8_text_10 330 0 (F8_step (F8_beginsText m))).2 74 12) then (L8_text_10 330 0 (F8_step (F8_beginsText m))).2 else (F8_fails 6 (L8_text_10 330 0 (F8_step (F8_beginsText m))).2)))) else (L8_text_10 330 0 (F8_step (F8_beginsText m))).2) : ax_M) = (L8_text_10 330 0 (F8_step (F8_beginsText m))).2 by rw [if_neg h5]]) J4
  · skip
    refine s_aload_n eX8_text_41 rfl rfl ?_
    refine s_geti eX8_text_42 fX8_132 shp_74 rfl ?_
    refine s_aload_n eX8_text_45 rfl rfl ?_
    refine s_geti eX8_text_46 fX8_167 shp_74 rfl ?_
    refine s_icmp_ge eX8_text_49 (fun h6 => ?_) (fun h6 => ?_)
    · skip
      refine s_aload_n eX8_text_74 rfl rfl ?_
      refine s_bipush (v := 6) eX8_text_75 rfl ?_
      refine n_callVv (As := [.int 6]) eX8_text_77 kX8_fails lX8_121 rfl rfl shp_74 rfl rfl (Nat.le_of_ble_eq_true rfl) (Nat.le_of_ble_eq_true rfl) (Nat.le_of_ble_eq_true rfl) (uX8_fails 6 ((L8_text_10 330 0 (F8_step (F8_beginsText m))).2)) ?_
      exact ax_eqN rfl rfl (by rw [show ((if ((L8_text_10 330 0 (F8_step (F8_beginsText m))).2 74 24) = 0 then (if ((L8_text_10 330 0 (F8_step (F8_beginsText m))).2 74 14) ≤ ((L8_text_10 330 0 (F8_step (F8_beginsText m))).2 74 18) then (F8_fails 6 (L8_text_10 330 0 (F8_step (F8_beginsText m))).2) else (if ((L8_text_10 330 0 (F8_step (F8_beginsText m))).2 74 11) ≤ ((L8_text_10 330 0 (F8_step (F8_beginsText m))).2 74 19) then (F8_fails 6 (L8_text_10 330 0 (F8_step (F8_beginsText m))).2) else (if ((L8_text_10 330 0 (F8_step (F8_beginsText m))).2 74 20) < ((L8_text_10 330 0 (F8_step (F8_beginsText m))).2 74 12) then (L8_text_10 330 0 (F8_step (F8_beginsText m))).2 else (F8_fails 6 (L8_text_10 330 0 (F8_step (F8_beginsText m))).2)))) else (L8_text_10 330 0 (F8_step (F8_beginsText m))).2) : ax_M) = (F8_fails 6 (L8_text_10 330 0 (F8_step (F8_beginsText m))).2) by rw [if_pos h5, if_pos h6]]) J4
    · skip
      refine s_aload_n eX8_text_52 rfl rfl ?_
      refine s_geti eX8_text_53 fX8_158 shp_74 rfl ?_
      refine s_aload_n eX8_text_56 rfl rfl ?_
      refine s_geti eX8_text_57 fX8_138 shp_74 rfl ?_
      refine s_icmp_ge eX8_text_60 (fun h7 => ?_) (fun h7 => ?_)
      · skip
        refine s_aload_n eX8_text_74 rfl rfl ?_
        refine s_bipush (v := 6) eX8_text_75 rfl ?_
        refine n_callVv (As := [.int 6]) eX8_text_77 kX8_fails lX8_121 rfl rfl shp_74 rfl rfl (Nat.le_of_ble_eq_true rfl) (Nat.le_of_ble_eq_true rfl) (Nat.le_of_ble_eq_true rfl) (uX8_fails 6 ((L8_text_10 330 0 (F8_step (F8_beginsText m))).2)) ?_
        exact ax_eqN rfl rfl (by rw [show ((if ((L8_text_10 330 0 (F8_step (F8_beginsText m))).2 74 24) = 0 then (if ((L8_text_10 330 0 (F8_step (F8_beginsText m))).2 74 14) ≤ ((L8_text_10 330 0 (F8_step (F8_beginsText m))).2 74 18) then (F8_fails 6 (L8_text_10 330 0 (F8_step (F8_beginsText m))).2) else (if ((L8_text_10 330 0 (F8_step (F8_beginsText m))).2 74 11) ≤ ((L8_text_10 330 0 (F8_step (F8_beginsText m))).2 74 19) then (F8_fails 6 (L8_text_10 330 0 (F8_step (F8_beginsText m))).2) else (if ((L8_text_10 330 0 (F8_step (F8_beginsText m))).2 74 20) < ((L8_text_10 330 0 (F8_step (F8_beginsText m))).2 74 12) then (L8_text_10 330 0 (F8_step (F8_beginsText m))).2 else (F8_fails 6 (L8_text_10 330 0 (F8_step (F8_beginsText m))).2)))) else (L8_text_10 330 0 (F8_step (F8_beginsText m))).2) : ax_M) = (F8_fails 6 (L8_text_10 330 0 (F8_step (F8_beginsText m))).2) by rw [if_pos h5, if_neg h6, if_pos h7]]) J4
      · skip
        refine s_aload_n eX8_text_63 rfl rfl ?_
        refine s_geti eX8_text_64 fX8_135 shp_74 rfl ?_
        refine s_aload_n eX8_text_67 rfl rfl ?_
        refine s_geti eX8_text_68 fX8_148 shp_74 rfl ?_
        refine s_icmp_lt eX8_text_71 (fun h8 => ?_) (fun h8 => ?_)
        · skip
          exact ax_eqN rfl rfl (by rw [show ((if ((L8_text_10 330 0 (F8_step (F8_beginsText m))).2 74 24) = 0 then (if ((L8_text_10 330 0 (F8_step (F8_beginsText m))).2 74 14) ≤ ((L8_text_10 330 0 (F8_step (F8_beginsText m))).2 74 18) then (F8_fails 6 (L8_text_10 330 0 (F8_step (F8_beginsText m))).2) else (if ((L8_text_10 330 0 (F8_step (F8_beginsText m))).2 74 11) ≤ ((L8_text_10 330 0 (F8_step (F8_beginsText m))).2 74 19) then (F8_fails 6 (L8_text_10 330 0 (F8_step (F8_beginsText m))).2) else (if ((L8_text_10 330 0 (F8_step (F8_beginsText m))).2 74 20) < ((L8_text_10 330 0 (F8_step (F8_beginsText m))).2 74 12) then (L8_text_10 330 0 (F8_step (F8_beginsText m))).2 else (F8_fails 6 (L8_text_10 330 0 (F8_step (F8_beginsText m))).2)))) else (L8_text_10 330 0 (F8_step (F8_beginsText m))).2) : ax_M) = (L8_text_10 330 0 (F8_step (F8_beginsText m))).2 by rw [if_pos h5, if_neg h6, if_neg h7, if_pos h8]]) J4
        · skip
          refine s_aload_n eX8_text_74 rfl rfl ?_
          refine s_bipush (v := 6) eX8_text_75 rfl ?_
          refine n_callVv (As := [.int 6]) eX8_text_77 kX8_fails lX8_121 rfl rfl shp_74 rfl rfl (Nat.le_of_ble_eq_true rfl) (Nat.le_of_ble_eq_true rfl) (Nat.le_of_ble_eq_true rfl) (uX8_fails 6 ((L8_text_10 330 0 (F8_step (F8_beginsText m))).2)) ?_
          exact ax_eqN rfl rfl (by rw [show ((if ((L8_text_10 330 0 (F8_step (F8_beginsText m))).2 74 24) = 0 then (if ((L8_text_10 330 0 (F8_step (F8_beginsText m))).2 74 14) ≤ ((L8_text_10 330 0 (F8_step (F8_beginsText m))).2 74 18) then (F8_fails 6 (L8_text_10 330 0 (F8_step (F8_beginsText m))).2) else (if ((L8_text_10 330 0 (F8_step (F8_beginsText m))).2 74 11) ≤ ((L8_text_10 330 0 (F8_step (F8_beginsText m))).2 74 19) then (F8_fails 6 (L8_text_10 330 0 (F8_step (F8_beginsText m))).2) else (if ((L8_text_10 330 0 (F8_step (F8_beginsText m))).2 74 20) < ((L8_text_10 330 0 (F8_step (F8_beginsText m))).2 74 12) then (L8_text_10 330 0 (F8_step (F8_beginsText m))).2 else (F8_fails 6 (L8_text_10 330 0 (F8_step (F8_beginsText m))).2)))) else (L8_text_10 330 0 (F8_step (F8_beginsText m))).2) : ax_M) = (F8_fails 6 (L8_text_10 330 0 (F8_step (F8_beginsText m))).2) by rw [if_pos h5, if_neg h6, if_neg h7, if_neg h8]]) J4
theorem uX8_fault (m : ax_M) : ax_NM 0 Y8_fault [.ref 74] m (fun r m1 => r = some (.int (F8_fault m)) ∧ m1 = m) := by
  have E : F8_fault m = (m 74 23) := rfl
  show ax_N 0 Y8_fault 0 [some (.ref 74)] [] m _
  refine s_aload_n eX8_fault_0 rfl rfl ?_
  refine s_geti eX8_fault_1 fX8_196 shp_74 rfl ?_
  exact s_iret eX8_fault_4 rfl ⟨rfl, by rw [E], rfl⟩
theorem uX8_isBank (a1 : Int32) (m : ax_M) : ax_NM 1 Y8_isBank [.ref 74, .int a1] m (fun r m1 => r = some (.int (F8_isBank a1 m)) ∧ m1 = m) := by
  have E : F8_isBank a1 m = (F8_in (Int32.toInt64 a1) 0 (Int32.toInt64 ((m 74 4) - 1)) m) := rfl
  show ax_N 1 Y8_isBank 0 [some (.ref 74), some (.int a1)] [] m _
  refine s_iload_n eX8_isBank_0 rfl rfl ?_
  refine s_i2l eX8_isBank_1 ?_
  refine s_lconst (v := 0) eX8_isBank_2 rfl ?_
  refine s_aload_n eX8_isBank_3 rfl rfl ?_
  refine s_geti eX8_isBank_4 fX8_16 shp_74 rfl ?_
  refine s_iconst (v := 1) eX8_isBank_7 rfl ?_
  refine s_isub eX8_isBank_8 ?_
  refine s_i2l eX8_isBank_9 ?_
  refine n_callSi (As := [.long (Int32.toInt64 a1), .long 0, .long (Int32.toInt64 ((m 74 4) - 1))]) eX8_isBank_10 kX8_in lX8_87 rfl rfl (Nat.le_of_ble_eq_true rfl) (Nat.le_of_ble_eq_true rfl) (Nat.le_of_ble_eq_true rfl) (uX8_in (Int32.toInt64 a1) 0 (Int32.toInt64 ((m 74 4) - 1)) m) ?_
  exact s_zret eX8_isBank_13 rfl (b8_in ..) ⟨rfl, by rw [E], rfl⟩
theorem uX8_isBridge (a1 : Int32) (m : ax_M) : ax_NM 1 Y8_isBridge [.ref 74, .int a1] m (fun r m1 => r = some (.int (F8_isBridge a1 m)) ∧ m1 = m) := by
  have E : F8_isBridge a1 m = (F8_in (Int32.toInt64 a1) 0 (Int32.toInt64 ((m 74 2) - 1)) m) := rfl
  show ax_N 1 Y8_isBridge 0 [some (.ref 74), some (.int a1)] [] m _
  refine s_iload_n eX8_isBridge_0 rfl rfl ?_
  refine s_i2l eX8_isBridge_1 ?_
  refine s_lconst (v := 0) eX8_isBridge_2 rfl ?_
  refine s_aload_n eX8_isBridge_3 rfl rfl ?_
  refine s_geti eX8_isBridge_4 fX8_199 shp_74 rfl ?_
  refine s_iconst (v := 1) eX8_isBridge_7 rfl ?_
  refine s_isub eX8_isBridge_8 ?_
  refine s_i2l eX8_isBridge_9 ?_
  refine n_callSi (As := [.long (Int32.toInt64 a1), .long 0, .long (Int32.toInt64 ((m 74 2) - 1))]) eX8_isBridge_10 kX8_in lX8_87 rfl rfl (Nat.le_of_ble_eq_true rfl) (Nat.le_of_ble_eq_true rfl) (Nat.le_of_ble_eq_true rfl) (uX8_in (Int32.toInt64 a1) 0 (Int32.toInt64 ((m 74 2) - 1)) m) ?_
  exact s_zret eX8_isBridge_13 rfl (b8_in ..) ⟨rfl, by rw [E], rfl⟩
theorem uX8_isOne (a1 : Int32) (m : ax_M) : ax_NM 1 Y8_isOne [.ref 74, .int a1] m (fun r m1 => r = some (.int (F8_isOne a1 m)) ∧ m1 = m) := by
  have E : F8_isOne a1 m = (F8_in (Int32.toInt64 a1) 0 (Int32.toInt64 ((m 74 3) - 1)) m) := rfl
  show ax_N 1 Y8_isOne 0 [some (.ref 74), some (.int a1)] [] m _
  refine s_iload_n eX8_isOne_0 rfl rfl ?_
  refine s_i2l eX8_isOne_1 ?_
  refine s_lconst (v := 0) eX8_isOne_2 rfl ?_
  refine s_aload_n eX8_isOne_3 rfl rfl ?_
  refine s_geti eX8_isOne_4 fX8_202 shp_74 rfl ?_
  refine s_iconst (v := 1) eX8_isOne_7 rfl ?_
  refine s_isub eX8_isOne_8 ?_
  refine s_i2l eX8_isOne_9 ?_
  refine n_callSi (As := [.long (Int32.toInt64 a1), .long 0, .long (Int32.toInt64 ((m 74 3) - 1))]) eX8_isOne_10 kX8_in lX8_87 rfl rfl (Nat.le_of_ble_eq_true rfl) (Nat.le_of_ble_eq_true rfl) (Nat.le_of_ble_eq_true rfl) (uX8_in (Int32.toInt64 a1) 0 (Int32.toInt64 ((m 74 3) - 1)) m) ?_
  exact s_zret eX8_isOne_13 rfl (b8_in ..) ⟨rfl, by rw [E], rfl⟩
theorem uX8_areTwo (a1 : Int32) (a2 : Int32) (a3 : Int32) (m : ax_M) : ax_NM 2 Y8_areTwo [.ref 74, .int a1, .int a2, .int a3] m (fun r m1 => r = some (.int (F8_areTwo a1 a2 a3 m)) ∧ m1 = m) := by
  have E : F8_areTwo a1 a2 a3 m = (if (F8_isBridge a1 m) = 0 then 0 else (if (F8_isOne a2 m) = 0 then 0 else (if (F8_isOne a3 m) = 0 then 0 else (if a2 = a3 then 0 else 1)))) := rfl
  show ax_N 2 Y8_areTwo 0 [some (.ref 74), some (.int a1), some (.int a2), some (.int a3)] [] m _
  refine s_aload_n eX8_areTwo_0 rfl rfl ?_
  refine s_iload_n eX8_areTwo_1 rfl rfl ?_
  refine n_callVi (As := [.int a1]) eX8_areTwo_2 kX8_isBridge lX8_208 rfl rfl shp_74 rfl rfl (Nat.le_of_ble_eq_true rfl) (Nat.le_of_ble_eq_true rfl) (Nat.le_of_ble_eq_true rfl) (uX8_isBridge a1 m) ?_
  refine s_if_eq eX8_areTwo_5 (fun h1 => ?_) (fun h1 => ?_)
  · skip
    rw [if_pos h1] at E
    refine s_iconst (v := 0) eX8_areTwo_33 rfl ?_
    exact s_zret eX8_areTwo_34 rfl (by first | exact Or.inl rfl | exact Or.inr rfl | (split <;> simp) | simp) ⟨rfl, by rw [E], rfl⟩
  · skip
    rw [if_neg h1] at E
    refine s_aload_n eX8_areTwo_8 rfl rfl ?_
    refine s_iload_n eX8_areTwo_9 rfl rfl ?_
    refine n_callVi (As := [.int a2]) eX8_areTwo_10 kX8_isOne lX8_212 rfl rfl shp_74 rfl rfl (Nat.le_of_ble_eq_true rfl) (Nat.le_of_ble_eq_true rfl) (Nat.le_of_ble_eq_true rfl) (uX8_isOne a2 m) ?_
    refine s_if_eq eX8_areTwo_13 (fun h2 => ?_) (fun h2 => ?_)
    · skip
      rw [if_pos h2] at E
      refine s_iconst (v := 0) eX8_areTwo_33 rfl ?_
      exact s_zret eX8_areTwo_34 rfl (by first | exact Or.inl rfl | exact Or.inr rfl | (split <;> simp) | simp) ⟨rfl, by rw [E], rfl⟩
    · skip
      rw [if_neg h2] at E
      refine s_aload_n eX8_areTwo_16 rfl rfl ?_
      refine s_iload_n eX8_areTwo_17 rfl rfl ?_
      refine n_callVi (As := [.int a3]) eX8_areTwo_18 kX8_isOne lX8_212 rfl rfl shp_74 rfl rfl (Nat.le_of_ble_eq_true rfl) (Nat.le_of_ble_eq_true rfl) (Nat.le_of_ble_eq_true rfl) (uX8_isOne a3 m) ?_
      refine s_if_eq eX8_areTwo_21 (fun h3 => ?_) (fun h3 => ?_)
      · skip
        rw [if_pos h3] at E
        refine s_iconst (v := 0) eX8_areTwo_33 rfl ?_
        exact s_zret eX8_areTwo_34 rfl (by first | exact Or.inl rfl | exact Or.inr rfl | (split <;> simp) | simp) ⟨rfl, by rw [E], rfl⟩
      · skip
        rw [if_neg h3] at E
        refine s_iload_n eX8_areTwo_24 rfl rfl ?_
        refine s_iload_n eX8_areTwo_25 rfl rfl ?_
        refine s_icmp_eq eX8_areTwo_26 (fun h4 => ?_) (fun h4 => ?_)
        · skip
          rw [if_pos h4] at E
          refine s_iconst (v := 0) eX8_areTwo_33 rfl ?_
          exact s_zret eX8_areTwo_34 rfl (by first | exact Or.inl rfl | exact Or.inr rfl | (split <;> simp) | simp) ⟨rfl, by rw [E], rfl⟩
        · skip
          rw [if_neg h4] at E
          refine s_iconst (v := 1) eX8_areTwo_29 rfl ?_
          refine s_goto eX8_areTwo_30 ?_
          exact s_zret eX8_areTwo_34 rfl (by first | exact Or.inl rfl | exact Or.inr rfl | (split <;> simp) | simp) ⟨rfl, by rw [E], rfl⟩
theorem uX8_rule (a1 : Int32) (m : ax_M) : ax_NM 0 Y8_rule [.ref 74, .int a1] m (fun r m1 => r = some (.int (F8_rule a1 m)) ∧ m1 = m) := by
  have E : F8_rule a1 m = (if a1 = 0 then (m 74 4) else (if a1 = 1 then (m 74 2) else (if a1 = 2 then (m 74 3) else (if a1 = 3 then (m 74 5) else (if a1 = 4 then (m 75 (Int32.toNatClampNeg 32)) else ((-1))))))) := rfl
  show ax_N 0 Y8_rule 0 [some (.ref 74), some (.int a1)] [] m _
  refine s_iload_n eX8_rule_0 rfl rfl ?_
  by_cases h1 : a1 = 0
  · skip
    refine s_tabIn (off := 35) (tgt := 36) ⟨eX8_rule_1.1, eX8_rule_1.2, by decide⟩ (by rw [h1]; decide) (by rw [h1]; decide) (by rw [h1]; rfl) ?_
    rw [if_pos h1] at E
    refine s_aload_n eX8_rule_36 rfl rfl ?_
    refine s_geti eX8_rule_37 fX8_16 shp_74 rfl ?_
    exact s_iret eX8_rule_40 rfl ⟨rfl, by rw [E], rfl⟩
  rw [if_neg h1] at E
  by_cases h2 : a1 = 1
  · skip
    refine s_tabIn (off := 40) (tgt := 41) ⟨eX8_rule_1.1, eX8_rule_1.2, by decide⟩ (by rw [h2]; decide) (by rw [h2]; decide) (by rw [h2]; rfl) ?_
    rw [if_pos h2] at E
    refine s_aload_n eX8_rule_41 rfl rfl ?_
    refine s_geti eX8_rule_42 fX8_199 shp_74 rfl ?_
    exact s_iret eX8_rule_45 rfl ⟨rfl, by rw [E], rfl⟩
  rw [if_neg h2] at E
  by_cases h3 : a1 = 2
  · skip
    refine s_tabIn (off := 45) (tgt := 46) ⟨eX8_rule_1.1, eX8_rule_1.2, by decide⟩ (by rw [h3]; decide) (by rw [h3]; decide) (by rw [h3]; rfl) ?_
    rw [if_pos h3] at E
    refine s_aload_n eX8_rule_46 rfl rfl ?_
    refine s_geti eX8_rule_47 fX8_202 shp_74 rfl ?_
    exact s_iret eX8_rule_50 rfl ⟨rfl, by rw [E], rfl⟩
  rw [if_neg h3] at E
  by_cases h4 : a1 = 3
  · skip
    refine s_tabIn (off := 50) (tgt := 51) ⟨eX8_rule_1.1, eX8_rule_1.2, by decide⟩ (by rw [h4]; decide) (by rw [h4]; decide) (by rw [h4]; rfl) ?_
    rw [if_pos h4] at E
    refine s_aload_n eX8_rule_51 rfl rfl ?_
    refine s_geti eX8_rule_52 fX8_20 shp_74 rfl ?_
    exact s_iret eX8_rule_55 rfl ⟨rfl, by rw [E], rfl⟩
  rw [if_neg h4] at E
  by_cases h5 : a1 = 4
  · skip
    refine s_tabIn (off := 55) (tgt := 56) ⟨eX8_rule_1.1, eX8_rule_1.2, by decide⟩ (by rw [h5]; decide) (by rw [h5]; decide) (by rw [h5]; rfl) ?_
    rw [if_pos h5] at E
    refine s_aload_n eX8_rule_56 rfl rfl ?_
    refine s_getr (q := 75) eX8_rule_57 fX8_7 shp_74 rfl ?_
    refine s_bipush (v := 32) eX8_rule_60 rfl ?_
    refine s_iald eX8_rule_62 shp_75 (by unfold vp_in; decide) ?_
    exact s_iret eX8_rule_63 rfl ⟨rfl, by rw [E], rfl⟩
  rw [if_neg h5] at E
  refine s_tabOut (tgt := 64) ⟨eX8_rule_1.1, eX8_rule_1.2, by decide⟩ (ax_swout 4 (by decide) (fun k hk => by
    rcases (show k = 0 ∨ k = 1 ∨ k = 2 ∨ k = 3 ∨ k = 4 by omega) with rfl | rfl | rfl | rfl | rfl
    · exact h1
    · exact h2
    · exact h3
    · exact h4
    · exact h5)) ?_
  refine s_iconst (v := (-1)) eX8_rule_64 rfl ?_
  exact s_iret eX8_rule_65 rfl ⟨rfl, by rw [E], rfl⟩
