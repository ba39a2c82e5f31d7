/-! X8_bridge X8_one X8_stones X8_heap X8_play X8_weigh X8_send X8_feast X8_kindOf X8_weightOf X8_bankOf X8_carries X8_isPair X8_mayGo X8_isLevel X8_canCross X8_can -/
theorem uX8_bridge (a1 : Int32) (a2 : Int32) (m : ax_M) (hD : D8_bridge a1 a2 m) : ax_NM 2 Y8_bridge [.ref 74, .int a1, .int a2] m (fun r m1 => r = some (.int (F8_bridge a1 a2 m)) ∧ m1 = m) := by
  have E : F8_bridge a1 a2 m = (if (F8_isBridge a1 m) = 0 then ((-1)) else (if (F8_in (Int32.toInt64 a2) 0 2 m) = 0 then ((-1)) else (if a2 = 2 then (m 75 (Int32.toNatClampNeg (28 + a1))) else (m 76 (Int32.toNatClampNeg ((2 * a1) + a2)))))) := rfl
  unfold D8_bridge at hD
  show ax_N 2 Y8_bridge 0 [some (.ref 74), some (.int a1), some (.int a2)] [] m _
  refine s_aload_n eX8_bridge_0 rfl rfl ?_
  refine s_iload_n eX8_bridge_1 rfl rfl ?_
  refine n_callVi (As := [.int a1]) eX8_bridge_2 kX8_isBridge lX8_208 rfl rfl shp_74 rfl rfl (Nat.le_of_ble_eq_true rfl) (Nat.le_of_ble_eq_true rfl) (Nat.le_of_ble_eq_true rfl) (uX8_isBridge a1 m) ?_
  refine s_if_eq eX8_bridge_5 (fun h1 => ?_) (fun h1 => ?_)
  · skip
    rw [if_pos h1] at E
    refine s_iconst (v := (-1)) eX8_bridge_50 rfl ?_
    exact s_iret eX8_bridge_51 rfl ⟨rfl, by rw [E], rfl⟩
  · skip
    rw [if_neg h1] at E
    have hD := hD h1
    refine s_iload_n eX8_bridge_8 rfl rfl ?_
    refine s_i2l eX8_bridge_9 ?_
    refine s_lconst (v := 0) eX8_bridge_10 rfl ?_
    refine s_ldc2 eX8_bridge_11 qX8_215 ?_
    refine n_callSi (As := [.long (Int32.toInt64 a2), .long 0, .long 2]) eX8_bridge_14 kX8_in lX8_87 rfl rfl (Nat.le_of_ble_eq_true rfl) (Nat.le_of_ble_eq_true rfl) (Nat.le_of_ble_eq_true rfl) (uX8_in (Int32.toInt64 a2) 0 2 m) ?_
    refine s_if_eq eX8_bridge_17 (fun h2 => ?_) (fun h2 => ?_)
    · skip
      rw [if_pos h2] at E
      refine s_iconst (v := (-1)) eX8_bridge_50 rfl ?_
      exact s_iret eX8_bridge_51 rfl ⟨rfl, by rw [E], rfl⟩
    · skip
      rw [if_neg h2] at E
      have hD := hD h2
      refine s_iload_n eX8_bridge_20 rfl rfl ?_
      refine s_iconst (v := 2) eX8_bridge_21 rfl ?_
      refine s_icmp_ne eX8_bridge_22 (fun h3 => ?_) (fun h3 => ?_)
      · skip
        rw [if_neg h3] at E
        have hD := hD.2 h3
        refine s_aload_n eX8_bridge_37 rfl rfl ?_
        refine s_getr (q := 76) eX8_bridge_38 fX8_13 shp_74 rfl ?_
        refine s_iconst (v := 2) eX8_bridge_41 rfl ?_
        refine s_iload_n eX8_bridge_42 rfl rfl ?_
        refine s_imul eX8_bridge_43 ?_
        refine s_iload_n eX8_bridge_44 rfl rfl ?_
        refine s_iadd eX8_bridge_45 ?_
        have q4 := hD
        refine s_iald eX8_bridge_46 shp_76 q4 ?_
        refine s_goto eX8_bridge_47 ?_
        exact s_iret eX8_bridge_51 rfl ⟨rfl, by rw [E], rfl⟩
      · skip
        rw [if_pos h3] at E
        have hD := hD.1 h3
        refine s_aload_n eX8_bridge_25 rfl rfl ?_
        refine s_getr (q := 75) eX8_bridge_26 fX8_7 shp_74 rfl ?_
        refine s_bipush (v := 28) eX8_bridge_29 rfl ?_
        refine s_iload_n eX8_bridge_31 rfl rfl ?_
        refine s_iadd eX8_bridge_32 ?_
        have q5 := hD
        refine s_iald eX8_bridge_33 shp_75 q5 ?_
        refine s_goto eX8_bridge_34 ?_
        exact s_iret eX8_bridge_51 rfl ⟨rfl, by rw [E], rfl⟩
theorem uX8_one (a1 : Int32) (a2 : Int32) (m : ax_M) (hD : D8_one a1 a2 m) : ax_NM 2 Y8_one [.ref 74, .int a1, .int a2] m (fun r m1 => r = some (.int (F8_one a1 a2 m)) ∧ m1 = m) := by
  have E : F8_one a1 a2 m = (if (F8_isOne a1 m) = 0 then ((-1)) else (if (F8_in (Int32.toInt64 a2) 0 3 m) = 0 then ((-1)) else (m 75 (Int32.toNatClampNeg ((4 * a1) + a2))))) := rfl
  unfold D8_one at hD
  show ax_N 2 Y8_one 0 [some (.ref 74), some (.int a1), some (.int a2)] [] m _
  refine s_aload_n eX8_one_0 rfl rfl ?_
  refine s_iload_n eX8_one_1 rfl rfl ?_
  refine n_callVi (As := [.int a1]) eX8_one_2 kX8_isOne lX8_212 rfl rfl shp_74 rfl rfl (Nat.le_of_ble_eq_true rfl) (Nat.le_of_ble_eq_true rfl) (Nat.le_of_ble_eq_true rfl) (uX8_isOne a1 m) ?_
  refine s_if_eq eX8_one_5 (fun h1 => ?_) (fun h1 => ?_)
  · skip
    rw [if_pos h1] at E
    refine s_iconst (v := (-1)) eX8_one_33 rfl ?_
    exact s_iret eX8_one_34 rfl ⟨rfl, by rw [E], rfl⟩
  · skip
    rw [if_neg h1] at E
    have hD := hD h1
    refine s_iload_n eX8_one_8 rfl rfl ?_
    refine s_i2l eX8_one_9 ?_
    refine s_lconst (v := 0) eX8_one_10 rfl ?_
    refine s_ldc2 eX8_one_11 qX8_217 ?_
    refine n_callSi (As := [.long (Int32.toInt64 a2), .long 0, .long 3]) eX8_one_14 kX8_in lX8_87 rfl rfl (Nat.le_of_ble_eq_true rfl) (Nat.le_of_ble_eq_true rfl) (Nat.le_of_ble_eq_true rfl) (uX8_in (Int32.toInt64 a2) 0 3 m) ?_
    refine s_if_eq eX8_one_17 (fun h2 => ?_) (fun h2 => ?_)
    · skip
      rw [if_pos h2] at E
      refine s_iconst (v := (-1)) eX8_one_33 rfl ?_
      exact s_iret eX8_one_34 rfl ⟨rfl, by rw [E], rfl⟩
    · skip
      rw [if_neg h2] at E
      have hD := hD h2
      refine s_aload_n eX8_one_20 rfl rfl ?_
      refine s_getr (q := 75) eX8_one_21 fX8_7 shp_74 rfl ?_
      refine s_iconst (v := 4) eX8_one_24 rfl ?_
      refine s_iload_n eX8_one_25 rfl rfl ?_
      refine s_imul eX8_one_26 ?_
      refine s_iload_n eX8_one_27 rfl rfl ?_
      refine s_iadd eX8_one_28 ?_
      have q3 := hD
      refine s_iald eX8_one_29 shp_75 q3 ?_
      refine s_goto eX8_one_30 ?_
      exact s_iret eX8_one_34 rfl ⟨rfl, by rw [E], rfl⟩
theorem uX8_stones (a1 : Int32) (m : ax_M) (hD : D8_stones a1 m) : ax_NM 2 Y8_stones [.ref 74, .int a1] m (fun r m1 => r = some (.int (F8_stones a1 m)) ∧ m1 = m) := by
  have E : F8_stones a1 m = (if (F8_isBank a1 m) = 0 then ((-1)) else (m 75 (Int32.toNatClampNeg (24 + a1)))) := rfl
  unfold D8_stones at hD
  show ax_N 2 Y8_stones 0 [some (.ref 74), some (.int a1)] [] m _
  refine s_aload_n eX8_stones_0 rfl rfl ?_
  refine s_iload_n eX8_stones_1 rfl rfl ?_
  refine n_callVi (As := [.int a1]) eX8_stones_2 kX8_isBank lX8_219 rfl rfl shp_74 rfl rfl (Nat.le_of_ble_eq_true rfl) (Nat.le_of_ble_eq_true rfl) (Nat.le_of_ble_eq_true rfl) (uX8_isBank a1 m) ?_
  refine s_if_eq eX8_stones_5 (fun h1 => ?_) (fun h1 => ?_)
  · skip
    rw [if_pos h1] at E
    refine s_iconst (v := (-1)) eX8_stones_20 rfl ?_
    exact s_iret eX8_stones_21 rfl ⟨rfl, by rw [E], rfl⟩
  · skip
    rw [if_neg h1] at E
    have hD := hD h1
    refine s_aload_n eX8_stones_8 rfl rfl ?_
    refine s_getr (q := 75) eX8_stones_9 fX8_7 shp_74 rfl ?_
    refine s_bipush (v := 24) eX8_stones_12 rfl ?_
    refine s_iload_n eX8_stones_14 rfl rfl ?_
    refine s_iadd eX8_stones_15 ?_
    have q2 := hD
    refine s_iald eX8_stones_16 shp_75 q2 ?_
    refine s_goto eX8_stones_17 ?_
    exact s_iret eX8_stones_21 rfl ⟨rfl, by rw [E], rfl⟩
theorem uX8_heap (a1 : Int32) (a2 : Int32) (m : ax_M) (hD : D8_heap a1 a2 m) : ax_NM 2 Y8_heap [.ref 74, .int a1, .int a2] m (fun r m1 => r = some (.int (F8_heap a1 a2 m).1) ∧ m1 = (F8_heap a1 a2 m).2) := by
  have E : F8_heap a1 a2 m = (if (F8_isBank a1 m) = 0 then ((-1), m) else (if (F8_in (Int32.toInt64 a2) 0 20 m) = 0 then ((-1), m) else (m 75 (Int32.toNatClampNeg (24 + a1)), (ax_up m 75 (Int32.toNatClampNeg (24 + a1)) a2)))) := rfl
  unfold D8_heap at hD
  show ax_N 2 Y8_heap 0 [some (.ref 74), some (.int a1), some (.int a2), none] [] m _
  refine s_aload_n eX8_heap_0 rfl rfl ?_
  refine s_iload_n eX8_heap_1 rfl rfl ?_
  refine n_callVi (As := [.int a1]) eX8_heap_2 kX8_isBank lX8_219 rfl rfl shp_74 rfl rfl (Nat.le_of_ble_eq_true rfl) (Nat.le_of_ble_eq_true rfl) (Nat.le_of_ble_eq_true rfl) (uX8_isBank a1 m) ?_
  refine s_if_eq eX8_heap_5 (fun h1 => ?_) (fun h1 => ?_)
  · skip
    rw [if_pos h1] at E
    refine s_iconst (v := (-1)) eX8_heap_20 rfl ?_
    exact s_iret eX8_heap_21 rfl ⟨rfl, by rw [E], by rw [E]⟩
  · skip
    rw [if_neg h1] at E
    have hD := hD h1
    refine s_iload_n eX8_heap_8 rfl rfl ?_
    refine s_i2l eX8_heap_9 ?_
    refine s_lconst (v := 0) eX8_heap_10 rfl ?_
    refine s_ldc2 eX8_heap_11 qX8_222 ?_
    refine n_callSi (As := [.long (Int32.toInt64 a2), .long 0, .long 20]) eX8_heap_14 kX8_in lX8_87 rfl rfl (Nat.le_of_ble_eq_true rfl) (Nat.le_of_ble_eq_true rfl) (Nat.le_of_ble_eq_true rfl) (uX8_in (Int32.toInt64 a2) 0 20 m) ?_
    refine s_if_ne eX8_heap_17 (fun h2 => ?_) (fun h2 => ?_)
    · skip
      rw [if_neg h2] at E
      have hD := hD h2
      refine s_aload_n eX8_heap_22 rfl rfl ?_
      refine s_getr (q := 75) eX8_heap_23 fX8_7 shp_74 rfl ?_
      refine s_bipush (v := 24) eX8_heap_26 rfl ?_
      refine s_iload_n eX8_heap_28 rfl rfl ?_
      refine s_iadd eX8_heap_29 ?_
      obtain ⟨q3, hD⟩ := hD
      refine s_iald eX8_heap_30 shp_75 q3 ?_
      refine s_istore_n (ls' := [some (.ref 74), some (.int a1), some (.int a2), some (.int (m 75 (Int32.toNatClampNeg (24 + a1))))]) eX8_heap_31 rfl rfl rfl ?_
      refine s_aload_n eX8_heap_32 rfl rfl ?_
      refine s_getr (q := 75) eX8_heap_33 fX8_7 shp_74 rfl ?_
      refine s_bipush (v := 24) eX8_heap_36 rfl ?_
      refine s_iload_n eX8_heap_38 rfl rfl ?_
      refine s_iadd eX8_heap_39 ?_
      refine s_iload_n eX8_heap_40 rfl rfl ?_
      have q4 := hD
      refine s_iast eX8_heap_41 shp_75 q4 ?_
      refine s_iload_n eX8_heap_42 rfl rfl ?_
      exact s_iret eX8_heap_43 rfl ⟨rfl, by rw [E], by rw [E]⟩
    · skip
      rw [if_pos h2] at E
      refine s_iconst (v := (-1)) eX8_heap_20 rfl ?_
      exact s_iret eX8_heap_21 rfl ⟨rfl, by rw [E], by rw [E]⟩
theorem uX8_play (a1 : Int32) (a2 : Int32) (m : ax_M) (hD : D8_play a1 a2 m) : ax_NM 2 Y8_play [.ref 74, .int a1, .int a2] m (fun r m1 => r = some (.int (F8_play a1 a2 m).1) ∧ m1 = (F8_play a1 a2 m).2) := by
  have E : F8_play a1 a2 m = (if (F8_isBridge a1 m) = 0 then ((-1), m) else (if (F8_in (Int32.toInt64 a2) 0 20 m) = 0 then ((-1), m) else (m 75 (Int32.toNatClampNeg (28 + a1)), (ax_up m 75 (Int32.toNatClampNeg (28 + a1)) a2)))) := rfl
  unfold D8_play at hD
  show ax_N 2 Y8_play 0 [some (.ref 74), some (.int a1), some (.int a2), none] [] m _
  refine s_aload_n eX8_play_0 rfl rfl ?_
  refine s_iload_n eX8_play_1 rfl rfl ?_
  refine n_callVi (As := [.int a1]) eX8_play_2 kX8_isBridge lX8_208 rfl rfl shp_74 rfl rfl (Nat.le_of_ble_eq_true rfl) (Nat.le_of_ble_eq_true rfl) (Nat.le_of_ble_eq_true rfl) (uX8_isBridge a1 m) ?_
  refine s_if_eq eX8_play_5 (fun h1 => ?_) (fun h1 => ?_)
  · skip
    rw [if_pos h1] at E
    refine s_iconst (v := (-1)) eX8_play_20 rfl ?_
    exact s_iret eX8_play_21 rfl ⟨rfl, by rw [E], by rw [E]⟩
  · skip
    rw [if_neg h1] at E
    have hD := hD h1
    refine s_iload_n eX8_play_8 rfl rfl ?_
    refine s_i2l eX8_play_9 ?_
    refine s_lconst (v := 0) eX8_play_10 rfl ?_
    refine s_ldc2 eX8_play_11 qX8_222 ?_
    refine n_callSi (As := [.long (Int32.toInt64 a2), .long 0, .long 20]) eX8_play_14 kX8_in lX8_87 rfl rfl (Nat.le_of_ble_eq_true rfl) (Nat.le_of_ble_eq_true rfl) (Nat.le_of_ble_eq_true rfl) (uX8_in (Int32.toInt64 a2) 0 20 m) ?_
    refine s_if_ne eX8_play_17 (fun h2 => ?_) (fun h2 => ?_)
    · skip
      rw [if_neg h2] at E
      have hD := hD h2
      refine s_aload_n eX8_play_22 rfl rfl ?_
      refine s_getr (q := 75) eX8_play_23 fX8_7 shp_74 rfl ?_
      refine s_bipush (v := 28) eX8_play_26 rfl ?_
      refine s_iload_n eX8_play_28 rfl rfl ?_
      refine s_iadd eX8_play_29 ?_
      obtain ⟨q3, hD⟩ := hD
      refine s_iald eX8_play_30 shp_75 q3 ?_
      refine s_istore_n (ls' := [some (.ref 74), some (.int a1), some (.int a2), some (.int (m 75 (Int32.toNatClampNeg (28 + a1))))]) eX8_play_31 rfl rfl rfl ?_
      refine s_aload_n eX8_play_32 rfl rfl ?_
      refine s_getr (q := 75) eX8_play_33 fX8_7 shp_74 rfl ?_
      refine s_bipush (v := 28) eX8_play_36 rfl ?_
      refine s_iload_n eX8_play_38 rfl rfl ?_
      refine s_iadd eX8_play_39 ?_
      refine s_iload_n eX8_play_40 rfl rfl ?_
      have q4 := hD
      refine s_iast eX8_play_41 shp_75 q4 ?_
      refine s_iload_n eX8_play_42 rfl rfl ?_
      exact s_iret eX8_play_43 rfl ⟨rfl, by rw [E], by rw [E]⟩
    · skip
      rw [if_pos h2] at E
      refine s_iconst (v := (-1)) eX8_play_20 rfl ?_
      exact s_iret eX8_play_21 rfl ⟨rfl, by rw [E], by rw [E]⟩
theorem uX8_weigh (a1 : Int32) (a2 : Int32) (m : ax_M) (hD : D8_weigh a1 a2 m) : ax_NM 2 Y8_weigh [.ref 74, .int a1, .int a2] m (fun r m1 => r = some (.int (F8_weigh a1 a2 m).1) ∧ m1 = (F8_weigh a1 a2 m).2) := by
  have E : F8_weigh a1 a2 m = (if (F8_isOne a1 m) = 0 then ((-1), m) else (if (F8_in (Int32.toInt64 a2) 1 99 m) = 0 then ((-1), m) else (m 75 (Int32.toNatClampNeg ((4 * a1) + 1)), (ax_up m 75 (Int32.toNatClampNeg ((4 * a1) + 1)) a2)))) := rfl
  unfold D8_weigh at hD
  show ax_N 2 Y8_weigh 0 [some (.ref 74), some (.int a1), some (.int a2), none] [] m _
  refine s_aload_n eX8_weigh_0 rfl rfl ?_
  refine s_iload_n eX8_weigh_1 rfl rfl ?_
  refine n_callVi (As := [.int a1]) eX8_weigh_2 kX8_isOne lX8_212 rfl rfl shp_74 rfl rfl (Nat.le_of_ble_eq_true rfl) (Nat.le_of_ble_eq_true rfl) (Nat.le_of_ble_eq_true rfl) (uX8_isOne a1 m) ?_
  refine s_if_eq eX8_weigh_5 (fun h1 => ?_) (fun h1 => ?_)
  · skip
    rw [if_pos h1] at E
    refine s_iconst (v := (-1)) eX8_weigh_20 rfl ?_
    exact s_iret eX8_weigh_21 rfl ⟨rfl, by rw [E], by rw [E]⟩
  · skip
    rw [if_neg h1] at E
    have hD := hD h1
    refine s_iload_n eX8_weigh_8 rfl rfl ?_
    refine s_i2l eX8_weigh_9 ?_
    refine s_lconst (v := 1) eX8_weigh_10 rfl ?_
    refine s_ldc2 eX8_weigh_11 qX8_224 ?_
    refine n_callSi (As := [.long (Int32.toInt64 a2), .long 1, .long 99]) eX8_weigh_14 kX8_in lX8_87 rfl rfl (Nat.le_of_ble_eq_true rfl) (Nat.le_of_ble_eq_true rfl) (Nat.le_of_ble_eq_true rfl) (uX8_in (Int32.toInt64 a2) 1 99 m) ?_
    refine s_if_ne eX8_weigh_17 (fun h2 => ?_) (fun h2 => ?_)
    · skip
      rw [if_neg h2] at E
      have hD := hD h2
      refine s_aload_n eX8_weigh_22 rfl rfl ?_
      refine s_getr (q := 75) eX8_weigh_23 fX8_7 shp_74 rfl ?_
      refine s_iconst (v := 4) eX8_weigh_26 rfl ?_
      refine s_iload_n eX8_weigh_27 rfl rfl ?_
      refine s_imul eX8_weigh_28 ?_
      refine s_iconst (v := 1) eX8_weigh_29 rfl ?_
      refine s_iadd eX8_weigh_30 ?_
      obtain ⟨q3, hD⟩ := hD
      refine s_iald eX8_weigh_31 shp_75 q3 ?_
      refine s_istore_n (ls' := [some (.ref 74), some (.int a1), some (.int a2), some (.int (m 75 (Int32.toNatClampNeg ((4 * a1) + 1))))]) eX8_weigh_32 rfl rfl rfl ?_
      refine s_aload_n eX8_weigh_33 rfl rfl ?_
      refine s_getr (q := 75) eX8_weigh_34 fX8_7 shp_74 rfl ?_
      refine s_iconst (v := 4) eX8_weigh_37 rfl ?_
      refine s_iload_n eX8_weigh_38 rfl rfl ?_
      refine s_imul eX8_weigh_39 ?_
      refine s_iconst (v := 1) eX8_weigh_40 rfl ?_
      refine s_iadd eX8_weigh_41 ?_
      refine s_iload_n eX8_weigh_42 rfl rfl ?_
      have q4 := hD
      refine s_iast eX8_weigh_43 shp_75 q4 ?_
      refine s_iload_n eX8_weigh_44 rfl rfl ?_
      exact s_iret eX8_weigh_45 rfl ⟨rfl, by rw [E], by rw [E]⟩
    · skip
      rw [if_pos h2] at E
      refine s_iconst (v := (-1)) eX8_weigh_20 rfl ?_
      exact s_iret eX8_weigh_21 rfl ⟨rfl, by rw [E], by rw [E]⟩
theorem cK8_send_60 (v1 v2 v3 v4 : Int32) (m : ax_M) {P : Option Value → ax_M → Prop} (hP : P (some (.int (K8_send_60 v1 v2 v3 v4 m).1)) (K8_send_60 v1 v2 v3 v4 m).2) : ax_N 2 Y8_send 60 [some (.ref 74), some (.int v1), some (.int v2), some (.int v3), some (.int v4)] [] m P := by
  have E : K8_send_60 v1 v2 v3 v4 m = (v4, m) := rfl
  refine s_iload eX8_send_60 rfl ?_
  rw [E] at hP
  exact s_iret eX8_send_62 rfl ⟨rfl, hP⟩
theorem uX8_send (a1 : Int32) (a2 : Int32) (a3 : Int32) (m : ax_M) (hD : D8_send a1 a2 a3 m) : ax_NM 2 Y8_send [.ref 74, .int a1, .int a2, .int a3] m (fun r m1 => r = some (.int (F8_send a1 a2 a3 m).1) ∧ m1 = (F8_send a1 a2 a3 m).2) := by
  have E : F8_send a1 a2 a3 m = (if (F8_isOne a1 m) = 0 then ((-1), m) else (if (F8_isBank a2 m) = 0 then ((-1), m) else (if (F8_isBank a3 m) = 0 then ((-1), m) else (K8_send_60 a1 a2 a3 (m 75 (Int32.toNatClampNeg ((4 * a1) + 2))) (ax_up (ax_up m 75 (Int32.toNatClampNeg ((4 * a1) + 2)) a2) 75 (Int32.toNatClampNeg ((4 * a1) + 3)) a3))))) := rfl
  unfold D8_send at hD
  show ax_N 2 Y8_send 0 [some (.ref 74), some (.int a1), some (.int a2), some (.int a3), none] [] m _
  refine s_aload_n eX8_send_0 rfl rfl ?_
  refine s_iload_n eX8_send_1 rfl rfl ?_
  refine n_callVi (As := [.int a1]) eX8_send_2 kX8_isOne lX8_212 rfl rfl shp_74 rfl rfl (Nat.le_of_ble_eq_true rfl) (Nat.le_of_ble_eq_true rfl) (Nat.le_of_ble_eq_true rfl) (uX8_isOne a1 m) ?_
  refine s_if_eq eX8_send_5 (fun h1 => ?_) (fun h1 => ?_)
  · skip
    rw [if_pos h1] at E
    refine s_iconst (v := (-1)) eX8_send_24 rfl ?_
    exact s_iret eX8_send_25 rfl ⟨rfl, by rw [E], by rw [E]⟩
  · skip
    rw [if_neg h1] at E
    have hD := hD h1
    refine s_aload_n eX8_send_8 rfl rfl ?_
    refine s_iload_n eX8_send_9 rfl rfl ?_
    refine n_callVi (As := [.int a2]) eX8_send_10 kX8_isBank lX8_219 rfl rfl shp_74 rfl rfl (Nat.le_of_ble_eq_true rfl) (Nat.le_of_ble_eq_true rfl) (Nat.le_of_ble_eq_true rfl) (uX8_isBank a2 m) ?_
    refine s_if_eq eX8_send_13 (fun h2 => ?_) (fun h2 => ?_)
    · skip
      rw [if_pos h2] at E
      refine s_iconst (v := (-1)) eX8_send_24 rfl ?_
      exact s_iret eX8_send_25 rfl ⟨rfl, by rw [E], by rw [E]⟩
    · skip
      rw [if_neg h2] at E
      have hD := hD h2
      refine s_aload_n eX8_send_16 rfl rfl ?_
      refine s_iload_n eX8_send_17 rfl rfl ?_
      refine n_callVi (As := [.int a3]) eX8_send_18 kX8_isBank lX8_219 rfl rfl shp_74 rfl rfl (Nat.le_of_ble_eq_true rfl) (Nat.le_of_ble_eq_true rfl) (Nat.le_of_ble_eq_true rfl) (uX8_isBank a3 m) ?_
      refine s_if_ne eX8_send_21 (fun h3 => ?_) (fun h3 => ?_)
      · skip
        rw [if_neg h3] at E
        have hD := hD h3
        refine s_aload_n eX8_send_26 rfl rfl ?_
        refine s_getr (q := 75) eX8_send_27 fX8_7 shp_74 rfl ?_
        refine s_iconst (v := 4) eX8_send_30 rfl ?_
        refine s_iload_n eX8_send_31 rfl rfl ?_
        refine s_imul eX8_send_32 ?_
        refine s_iconst (v := 2) eX8_send_33 rfl ?_
        refine s_iadd eX8_send_34 ?_
        obtain ⟨q4, hD⟩ := hD
        refine s_iald eX8_send_35 shp_75 q4 ?_
        refine s_istore (ls' := [some (.ref 74), some (.int a1), some (.int a2), some (.int a3), some (.int (m 75 (Int32.toNatClampNeg ((4 * a1) + 2))))]) eX8_send_36 rfl rfl ?_
        refine s_aload_n eX8_send_38 rfl rfl ?_
        refine s_getr (q := 75) eX8_send_39 fX8_7 shp_74 rfl ?_
        refine s_iconst (v := 4) eX8_send_42 rfl ?_
        refine s_iload_n eX8_send_43 rfl rfl ?_
        refine s_imul eX8_send_44 ?_
        refine s_iconst (v := 2) eX8_send_45 rfl ?_
        refine s_iadd eX8_send_46 ?_
        refine s_iload_n eX8_send_47 rfl rfl ?_
        obtain ⟨q5, hD⟩ := hD
        refine s_iast eX8_send_48 shp_75 q5 ?_
        refine s_aload_n eX8_send_49 rfl rfl ?_
        refine s_getr (q := 75) eX8_send_50 fX8_7 shp_74 rfl ?_
        refine s_iconst (v := 4) eX8_send_53 rfl ?_
        refine s_iload_n eX8_send_54 rfl rfl ?_
        refine s_imul eX8_send_55 ?_
        refine s_iconst (v := 3) eX8_send_56 rfl ?_
        refine s_iadd eX8_send_57 ?_
        refine s_iload_n eX8_send_58 rfl rfl ?_
        have q6 := hD
        refine s_iast eX8_send_59 shp_75 q6 ?_
        refine cK8_send_60 a1 a2 a3 (m 75 (Int32.toNatClampNeg ((4 * a1) + 2))) ((ax_up (ax_up m 75 (Int32.toNatClampNeg ((4 * a1) + 2)) a2) 75 (Int32.toNatClampNeg ((4 * a1) + 3)) a3)) ?_
        exact ⟨by rw [E], by rw [E]⟩
      · skip
        rw [if_pos h3] at E
        refine s_iconst (v := (-1)) eX8_send_24 rfl ?_
        exact s_iret eX8_send_25 rfl ⟨rfl, by rw [E], by rw [E]⟩
theorem clX8_feast_29 {P : Option Value → ax_M → Prop} : ∀ (n : Nat) (v1 v2 v3 v4 : Int32) (m : ax_M), E8_feast_29 n v1 v2 v3 v4 m → (ax_N 2 Y8_feast 112 [some (.ref 74), some (.int v1), some (.int v2), some (.int ((L8_feast_29 n v1 v2 v3 v4 m).1)), some (.int ((L8_feast_29 n v1 v2 v3 v4 m).2.1)), none] [] ((L8_feast_29 n v1 v2 v3 v4 m).2.2) P) → ax_N 2 Y8_feast 29 [some (.ref 74), some (.int v1), some (.int v2), some (.int v3), some (.int v4), none] [] m P := by
  intro n
  induction n with
  | zero => intro v1 v2 v3 v4 m hD; exact absurd hD id
  | succ n ih =>
    intro v1 v2 v3 v4 m hD hx
    have E : L8_feast_29 (n + 1) v1 v2 v3 v4 m = (if (m 74 3) ≤ v4 then (v3, v4, m) else L8_feast_29 n v1 v2 (if (m 75 (Int32.toNatClampNeg ((4 * v4) + 2))) = v1 then (v3 + 1 : Int32) else v3) (v4 + 1) (if (m 75 (Int32.toNatClampNeg ((4 * v4) + 2))) = v1 then (ax_up m 75 (Int32.toNatClampNeg ((4 * v4) + 1)) (if 1 ≤ ((m 75 (Int32.toNatClampNeg ((4 * v4) + 1))) + v2) then (if ((m 75 (Int32.toNatClampNeg ((4 * v4) + 1))) + v2) ≤ 99 then ((m 75 (Int32.toNatClampNeg ((4 * v4) + 1))) + v2 : Int32) else 99 : Int32) else 1)) else m)) := by rw [L8_feast_29]
    have hD : ((¬ ((m 74 3) ≤ v4) → ((vp_in ((4 * v4) + 2) 132) ∧ (((m 75 (Int32.toNatClampNeg ((4 * v4) + 2))) = v1) → ((vp_in ((4 * v4) + 1) 132) ∧ (vp_in ((4 * v4) + 1) 132))) ∧ (E8_feast_29 n v1 v2 (if (m 75 (Int32.toNatClampNeg ((4 * v4) + 2))) = v1 then (v3 + 1 : Int32) else v3) (v4 + 1) (if (m 75 (Int32.toNatClampNeg ((4 * v4) + 2))) = v1 then (ax_up m 75 (Int32.toNatClampNeg ((4 * v4) + 1)) (if 1 ≤ ((m 75 (Int32.toNatClampNeg ((4 * v4) + 1))) + v2) then (if ((m 75 (Int32.toNatClampNeg ((4 * v4) + 1))) + v2) ≤ 99 then ((m 75 (Int32.toNatClampNeg ((4 * v4) + 1))) + v2 : Int32) else 99 : Int32) else 1)) else m))))) := hD
    refine s_iload eX8_feast_29 rfl ?_
    refine s_aload_n eX8_feast_31 rfl rfl ?_
    refine s_geti eX8_feast_32 fX8_202 shp_74 rfl ?_
    refine s_icmp_ge eX8_feast_35 (fun h1 => ?_) (fun h1 => ?_)
    · skip
      rw [if_pos h1] at E
      rw [E] at hx
      exact hx
    · skip
      rw [if_neg h1] at E
      have hD := hD h1
      refine s_aload_n eX8_feast_38 rfl rfl ?_
      refine s_getr (q := 75) eX8_feast_39 fX8_7 shp_74 rfl ?_
      refine s_iconst (v := 4) eX8_feast_42 rfl ?_
      refine s_iload eX8_feast_43 rfl ?_
      refine s_imul eX8_feast_45 ?_
      refine s_iconst (v := 2) eX8_feast_46 rfl ?_
      refine s_iadd eX8_feast_47 ?_
      obtain ⟨q2, hD⟩ := hD
      refine s_iald eX8_feast_48 shp_75 q2 ?_
      refine s_iload_n eX8_feast_49 rfl rfl ?_
      obtain ⟨s3, hD⟩ := hD
      have J4 : ax_N 2 Y8_feast 106 [some (.ref 74), some (.int v1), some (.int v2), some (.int (if (m 75 (Int32.toNatClampNeg ((4 * v4) + 2))) = v1 then (v3 + 1 : Int32) else v3)), some (.int v4), none] [] ((if (m 75 (Int32.toNatClampNeg ((4 * v4) + 2))) = v1 then (ax_up m 75 (Int32.toNatClampNeg ((4 * v4) + 1)) (if 1 ≤ ((m 75 (Int32.toNatClampNeg ((4 * v4) + 1))) + v2) then (if ((m 75 (Int32.toNatClampNeg ((4 * v4) + 1))) + v2) ≤ 99 then ((m 75 (Int32.toNatClampNeg ((4 * v4) + 1))) + v2 : Int32) else 99 : Int32) else 1)) else m)) P := by
        refine s_iinc (v := v4 + 1) (ls' := [some (.ref 74), some (.int v1), some (.int v2), some (.int (if (m 75 (Int32.toNatClampNeg ((4 * v4) + 2))) = v1 then (v3 + 1 : Int32) else v3)), some (.int (v4 + 1)), none]) eX8_feast_106 rfl rfl rfl rfl ?_
        refine s_goto eX8_feast_109 ?_
        rw [E] at hx
        exact ih v1 v2 (if (m 75 (Int32.toNatClampNeg ((4 * v4) + 2))) = v1 then (v3 + 1 : Int32) else v3) (v4 + 1) ((if (m 75 (Int32.toNatClampNeg ((4 * v4) + 2))) = v1 then (ax_up m 75 (Int32.toNatClampNeg ((4 * v4) + 1)) (if 1 ≤ ((m 75 (Int32.toNatClampNeg ((4 * v4) + 1))) + v2) then (if ((m 75 (Int32.toNatClampNeg ((4 * v4) + 1))) + v2) ≤ 99 then ((m 75 (Int32.toNatClampNeg ((4 * v4) + 1))) + v2 : Int32) else 99 : Int32) else 1)) else m)) hD hx
      have hD := s3
      refine s_icmp_ne eX8_feast_50 (fun h5 => ?_) (fun h5 => ?_)
      · skip
        exact ax_eqN (by rw [show (if (m 75 (Int32.toNatClampNeg ((4 * v4) + 2))) = v1 then (v3 + 1 : Int32) else v3 : Int32) = v3 by rw [if_neg h5]]) rfl (by rw [show ((if (m 75 (Int32.toNatClampNeg ((4 * v4) + 2))) = v1 then (ax_up m 75 (Int32.toNatClampNeg ((4 * v4) + 1)) (if 1 ≤ ((m 75 (Int32.toNatClampNeg ((4 * v4) + 1))) + v2) then (if ((m 75 (Int32.toNatClampNeg ((4 * v4) + 1))) + v2) ≤ 99 then ((m 75 (Int32.toNatClampNeg ((4 * v4) + 1))) + v2 : Int32) else 99 : Int32) else 1)) else m) : ax_M) = m by rw [if_neg h5]]) J4
      · skip
        have hD := hD h5
        refine s_aload_n eX8_feast_53 rfl rfl ?_
        refine s_getr (q := 75) eX8_feast_54 fX8_7 shp_74 rfl ?_
        refine s_iconst (v := 4) eX8_feast_57 rfl ?_
        refine s_iload eX8_feast_58 rfl ?_
        refine s_imul eX8_feast_60 ?_
        refine s_iconst (v := 1) eX8_feast_61 rfl ?_
        refine s_iadd eX8_feast_62 ?_
        obtain ⟨q6, hD⟩ := hD
        refine s_iald eX8_feast_63 shp_75 q6 ?_
        refine s_iload_n eX8_feast_64 rfl rfl ?_
        refine s_iadd eX8_feast_65 ?_
        refine s_istore (ls' := [some (.ref 74), some (.int v1), some (.int v2), some (.int v3), some (.int v4), some (.int ((m 75 (Int32.toNatClampNeg ((4 * v4) + 1))) + v2))]) eX8_feast_66 rfl rfl ?_
        refine s_aload_n eX8_feast_68 rfl rfl ?_
        refine s_getr (q := 75) eX8_feast_69 fX8_7 shp_74 rfl ?_
        refine s_iconst (v := 4) eX8_feast_72 rfl ?_
        refine s_iload eX8_feast_73 rfl ?_
        refine s_imul eX8_feast_75 ?_
        refine s_iconst (v := 1) eX8_feast_76 rfl ?_
        refine s_iadd eX8_feast_77 ?_
        refine s_iload eX8_feast_78 rfl ?_
        refine s_iconst (v := 1) eX8_feast_80 rfl ?_
        have J7 : ax_N 2 Y8_feast 102 [some (.ref 74), some (.int v1), some (.int v2), some (.int v3), some (.int v4), some (.int ((m 75 (Int32.toNatClampNeg ((4 * v4) + 1))) + v2))] [.int (if 1 ≤ ((m 75 (Int32.toNatClampNeg ((4 * v4) + 1))) + v2) then (if ((m 75 (Int32.toNatClampNeg ((4 * v4) + 1))) + v2) ≤ 99 then ((m 75 (Int32.toNatClampNeg ((4 * v4) + 1))) + v2 : Int32) else 99 : Int32) else 1), .int ((4 * v4) + 1), .ref 75] m P := by
          have q8 := hD
          refine s_iast eX8_feast_102 shp_75 q8 ?_
          refine s_iinc (v := v3 + 1) (ls' := [some (.ref 74), some (.int v1), some (.int v2), some (.int (v3 + 1)), some (.int v4), some (.int ((m 75 (Int32.toNatClampNeg ((4 * v4) + 1))) + v2))]) eX8_feast_103 rfl rfl rfl rfl ?_
          refine ax_forget (ls' := [some (.ref 74), some (.int v1), some (.int v2), some (.int (v3 + 1)), some (.int v4), none]) rfl ?_
          exact ax_eqN (by rw [show (if (m 75 (Int32.toNatClampNeg ((4 * v4) + 2))) = v1 then (v3 + 1 : Int32) else v3 : Int32) = v3 + 1 by rw [if_pos h5]]) rfl (by rw [show ((if (m 75 (Int32.toNatClampNeg ((4 * v4) + 2))) = v1 then (ax_up m 75 (Int32.toNatClampNeg ((4 * v4) + 1)) (if 1 ≤ ((m 75 (Int32.toNatClampNeg ((4 * v4) + 1))) + v2) then (if ((m 75 (Int32.toNatClampNeg ((4 * v4) + 1))) + v2) ≤ 99 then ((m 75 (Int32.toNatClampNeg ((4 * v4) + 1))) + v2 : Int32) else 99 : Int32) else 1)) else m) : ax_M) = (ax_up m 75 (Int32.toNatClampNeg ((4 * v4) + 1)) (if 1 ≤ ((m 75 (Int32.toNatClampNeg ((4 * v4) + 1))) + v2) then (if ((m 75 (Int32.toNatClampNeg ((4 * v4) + 1))) + v2) ≤ 99 then ((m 75 (Int32.toNatClampNeg ((4 * v4) + 1))) + v2 : Int32) else 99 : Int32) else 1)) by rw [if_pos h5]]) J4
        refine s_icmp_ge eX8_feast_81 (fun h9 => ?_) (fun h9 => ?_)
        · skip
          refine s_iload eX8_feast_88 rfl ?_
          refine s_bipush (v := 99) eX8_feast_90 rfl ?_
          refine s_icmp_le eX8_feast_92 (fun h10 => ?_) (fun h10 => ?_)
          · skip
            refine s_iload eX8_feast_100 rfl ?_
            exact ax_eqN rfl (by rw [show (if 1 ≤ ((m 75 (Int32.toNatClampNeg ((4 * v4) + 1))) + v2) then (if ((m 75 (Int32.toNatClampNeg ((4 * v4) + 1))) + v2) ≤ 99 then ((m 75 (Int32.toNatClampNeg ((4 * v4) + 1))) + v2 : Int32) else 99 : Int32) else 1 : Int32) = (m 75 (Int32.toNatClampNeg ((4 * v4) + 1))) + v2 by rw [if_pos h9, if_pos h10]]) rfl J7
          · skip
            refine s_bipush (v := 99) eX8_feast_95 rfl ?_
            refine s_goto eX8_feast_97 ?_
            exact ax_eqN rfl (by rw [show (if 1 ≤ ((m 75 (Int32.toNatClampNeg ((4 * v4) + 1))) + v2) then (if ((m 75 (Int32.toNatClampNeg ((4 * v4) + 1))) + v2) ≤ 99 then ((m 75 (Int32.toNatClampNeg ((4 * v4) + 1))) + v2 : Int32) else 99 : Int32) else 1 : Int32) = 99 by rw [if_pos h9, if_neg h10]]) rfl J7
        · skip
          refine s_iconst (v := 1) eX8_feast_84 rfl ?_
          refine s_goto eX8_feast_85 ?_
          exact ax_eqN rfl (by rw [show (if 1 ≤ ((m 75 (Int32.toNatClampNeg ((4 * v4) + 1))) + v2) then (if ((m 75 (Int32.toNatClampNeg ((4 * v4) + 1))) + v2) ≤ 99 then ((m 75 (Int32.toNatClampNeg ((4 * v4) + 1))) + v2 : Int32) else 99 : Int32) else 1 : Int32) = 1 by rw [if_neg h9]]) rfl J7
theorem uX8_feast (a1 : Int32) (a2 : Int32) (m : ax_M) (hD : D8_feast a1 a2 m) : ax_NM 2 Y8_feast [.ref 74, .int a1, .int a2] m (fun r m1 => r = some (.int (F8_feast a1 a2 m).1) ∧ m1 = (F8_feast a1 a2 m).2) := by
  have E : F8_feast a1 a2 m = (if (F8_isBank a1 m) = 0 then ((-1), m) else (if (F8_in (Int32.toInt64 a2) ((-9)) 9 m) = 0 then ((-1), m) else ((L8_feast_29 64 a1 a2 0 0 m).1, (L8_feast_29 64 a1 a2 0 0 m).2.2))) := rfl
  unfold D8_feast at hD
  show ax_N 2 Y8_feast 0 [some (.ref 74), some (.int a1), some (.int a2), none, none, none] [] m _
  refine s_aload_n eX8_feast_0 rfl rfl ?_
  refine s_iload_n eX8_feast_1 rfl rfl ?_
  refine n_callVi (As := [.int a1]) eX8_feast_2 kX8_isBank lX8_219 rfl rfl shp_74 rfl rfl (Nat.le_of_ble_eq_true rfl) (Nat.le_of_ble_eq_true rfl) (Nat.le_of_ble_eq_true rfl) (uX8_isBank a1 m) ?_
  refine s_if_eq eX8_feast_5 (fun h1 => ?_) (fun h1 => ?_)
  · skip
    rw [if_pos h1] at E
    refine s_iconst (v := (-1)) eX8_feast_22 rfl ?_
    exact s_iret eX8_feast_23 rfl ⟨rfl, by rw [E], by rw [E]⟩
  · skip
    rw [if_neg h1] at E
    have hD := hD h1
    refine s_iload_n eX8_feast_8 rfl rfl ?_
    refine s_i2l eX8_feast_9 ?_
    refine s_ldc2 eX8_feast_10 qX8_226 ?_
    refine s_ldc2 eX8_feast_13 qX8_228 ?_
    refine n_callSi (As := [.long (Int32.toInt64 a2), .long ((-9)), .long 9]) eX8_feast_16 kX8_in lX8_87 rfl rfl (Nat.le_of_ble_eq_true rfl) (Nat.le_of_ble_eq_true rfl) (Nat.le_of_ble_eq_true rfl) (uX8_in (Int32.toInt64 a2) ((-9)) 9 m) ?_
    refine s_if_ne eX8_feast_19 (fun h2 => ?_) (fun h2 => ?_)
    · skip
      rw [if_neg h2] at E
      have hD := hD h2
      refine s_iconst (v := 0) eX8_feast_24 rfl ?_
      refine s_istore_n (ls' := [some (.ref 74), some (.int a1), some (.int a2), some (.int 0), none, none]) eX8_feast_25 rfl rfl rfl ?_
      refine s_iconst (v := 0) eX8_feast_26 rfl ?_
      refine s_istore (ls' := [some (.ref 74), some (.int a1), some (.int a2), some (.int 0), some (.int 0), none]) eX8_feast_27 rfl rfl ?_
      have q3 := hD
      refine clX8_feast_29 64 a1 a2 0 0 m q3 ?_
      refine s_iload_n eX8_feast_112 rfl rfl ?_
      exact s_iret eX8_feast_113 rfl ⟨rfl, by rw [E], by rw [E]⟩
    · skip
      rw [if_pos h2] at E
      refine s_iconst (v := (-1)) eX8_feast_22 rfl ?_
      exact s_iret eX8_feast_23 rfl ⟨rfl, by rw [E], by rw [E]⟩
theorem uX8_kindOf (a1 : Int32) (m : ax_M) (hD : D8_kindOf a1 m) : ax_NM 0 Y8_kindOf [.ref 74, .int a1] m (fun r m1 => r = some (.int (F8_kindOf a1 m)) ∧ m1 = m) := by
  have E : F8_kindOf a1 m = (if a1 = 6 then 0 else (m 75 (Int32.toNatClampNeg (4 * a1)))) := rfl
  unfold D8_kindOf at hD
  show ax_N 0 Y8_kindOf 0 [some (.ref 74), some (.int a1)] [] m _
  refine s_iload_n eX8_kindOf_0 rfl rfl ?_
  refine s_bipush (v := 6) eX8_kindOf_1 rfl ?_
  refine s_icmp_ne eX8_kindOf_3 (fun h1 => ?_) (fun h1 => ?_)
  · skip
    rw [if_neg h1] at E
    have hD := hD h1
    refine s_aload_n eX8_kindOf_10 rfl rfl ?_
    refine s_getr (q := 75) eX8_kindOf_11 fX8_7 shp_74 rfl ?_
    refine s_iconst (v := 4) eX8_kindOf_14 rfl ?_
    refine s_iload_n eX8_kindOf_15 rfl rfl ?_
    refine s_imul eX8_kindOf_16 ?_
    have q2 := hD
    refine s_iald eX8_kindOf_17 shp_75 q2 ?_
    exact s_iret eX8_kindOf_18 rfl ⟨rfl, by rw [E], rfl⟩
  · skip
    rw [if_pos h1] at E
    refine s_iconst (v := 0) eX8_kindOf_6 rfl ?_
    refine s_goto eX8_kindOf_7 ?_
    exact s_iret eX8_kindOf_18 rfl ⟨rfl, by rw [E], rfl⟩
theorem uX8_weightOf (a1 : Int32) (m : ax_M) (hD : D8_weightOf a1 m) : ax_NM 0 Y8_weightOf [.ref 74, .int a1] m (fun r m1 => r = some (.int (F8_weightOf a1 m)) ∧ m1 = m) := by
  have E : F8_weightOf a1 m = (if a1 = 6 then (m 74 32) else (m 75 (Int32.toNatClampNeg ((4 * a1) + 1)))) := rfl
  unfold D8_weightOf at hD
  show ax_N 0 Y8_weightOf 0 [some (.ref 74), some (.int a1)] [] m _
  refine s_iload_n eX8_weightOf_0 rfl rfl ?_
  refine s_bipush (v := 6) eX8_weightOf_1 rfl ?_
  refine s_icmp_ne eX8_weightOf_3 (fun h1 => ?_) (fun h1 => ?_)
  · skip
    rw [if_neg h1] at E
    have hD := hD h1
    refine s_aload_n eX8_weightOf_13 rfl rfl ?_
    refine s_getr (q := 75) eX8_weightOf_14 fX8_7 shp_74 rfl ?_
    refine s_iconst (v := 4) eX8_weightOf_17 rfl ?_
    refine s_iload_n eX8_weightOf_18 rfl rfl ?_
    refine s_imul eX8_weightOf_19 ?_
    refine s_iconst (v := 1) eX8_weightOf_20 rfl ?_
    refine s_iadd eX8_weightOf_21 ?_
    have q2 := hD
    refine s_iald eX8_weightOf_22 shp_75 q2 ?_
    exact s_iret eX8_weightOf_23 rfl ⟨rfl, by rw [E], rfl⟩
  · skip
    rw [if_pos h1] at E
    refine s_aload_n eX8_weightOf_6 rfl rfl ?_
    refine s_geti eX8_weightOf_7 fX8_230 shp_74 rfl ?_
    refine s_goto eX8_weightOf_10 ?_
    exact s_iret eX8_weightOf_23 rfl ⟨rfl, by rw [E], rfl⟩
theorem uX8_bankOf (a1 : Int32) (m : ax_M) (hD : D8_bankOf a1 m) : ax_NM 0 Y8_bankOf [.ref 74, .int a1] m (fun r m1 => r = some (.int (F8_bankOf a1 m)) ∧ m1 = m) := by
  have E : F8_bankOf a1 m = (if a1 = 6 then (m 74 33) else (m 75 (Int32.toNatClampNeg ((4 * a1) + 2)))) := rfl
  unfold D8_bankOf at hD
  show ax_N 0 Y8_bankOf 0 [some (.ref 74), some (.int a1)] [] m _
  refine s_iload_n eX8_bankOf_0 rfl rfl ?_
  refine s_bipush (v := 6) eX8_bankOf_1 rfl ?_
  refine s_icmp_ne eX8_bankOf_3 (fun h1 => ?_) (fun h1 => ?_)
  · skip
    rw [if_neg h1] at E
    have hD := hD h1
    refine s_aload_n eX8_bankOf_13 rfl rfl ?_
    refine s_getr (q := 75) eX8_bankOf_14 fX8_7 shp_74 rfl ?_
    refine s_iconst (v := 4) eX8_bankOf_17 rfl ?_
    refine s_iload_n eX8_bankOf_18 rfl rfl ?_
    refine s_imul eX8_bankOf_19 ?_
    refine s_iconst (v := 2) eX8_bankOf_20 rfl ?_
    refine s_iadd eX8_bankOf_21 ?_
    have q2 := hD
    refine s_iald eX8_bankOf_22 shp_75 q2 ?_
    exact s_iret eX8_bankOf_23 rfl ⟨rfl, by rw [E], rfl⟩
  · skip
    rw [if_pos h1] at E
    refine s_aload_n eX8_bankOf_6 rfl rfl ?_
    refine s_geti eX8_bankOf_7 fX8_233 shp_74 rfl ?_
    refine s_goto eX8_bankOf_10 ?_
    exact s_iret eX8_bankOf_23 rfl ⟨rfl, by rw [E], rfl⟩
theorem uX8_carries (a1 : Int32) (m : ax_M) (hD : D8_carries a1 m) : ax_NM 1 Y8_carries [.ref 74, .int a1] m (fun r m1 => r = some (.int (F8_carries a1 m)) ∧ m1 = m) := by
  have E : F8_carries a1 m = (if (F8_kindOf a1 m) = 2 then 3 else 1) := rfl
  unfold D8_carries at hD
  show ax_N 1 Y8_carries 0 [some (.ref 74), some (.int a1)] [] m _
  refine s_aload_n eX8_carries_0 rfl rfl ?_
  refine s_iload_n eX8_carries_1 rfl rfl ?_
  have q1 := hD
  refine n_callVi (As := [.int a1]) eX8_carries_2 kX8_kindOf lX8_236 rfl rfl shp_74 rfl rfl (Nat.le_of_ble_eq_true rfl) (Nat.le_of_ble_eq_true rfl) (Nat.le_of_ble_eq_true rfl) (uX8_kindOf a1 m q1) ?_
  refine s_iconst (v := 2) eX8_carries_5 rfl ?_
  refine s_icmp_ne eX8_carries_6 (fun h2 => ?_) (fun h2 => ?_)
  · skip
    rw [if_neg h2] at E
    refine s_iconst (v := 1) eX8_carries_13 rfl ?_
    exact s_iret eX8_carries_14 rfl ⟨rfl, by rw [E], rfl⟩
  · skip
    rw [if_pos h2] at E
    refine s_iconst (v := 3) eX8_carries_9 rfl ?_
    refine s_goto eX8_carries_10 ?_
    exact s_iret eX8_carries_14 rfl ⟨rfl, by rw [E], rfl⟩
theorem uX8_isPair (a1 : Int32) (a2 : Int32) (a3 : Int32) (m : ax_M) (hD : D8_isPair a1 a2 a3 m) : ax_NM 1 Y8_isPair [.ref 74, .int a1, .int a2, .int a3] m (fun r m1 => r = some (.int (F8_isPair a1 a2 a3 m)) ∧ m1 = m) := by
  have E : F8_isPair a1 a2 a3 m = (if (F8_bankOf a2 m) = (m 76 (Int32.toNatClampNeg (2 * a1))) then (if (F8_bankOf a3 m) = (m 76 (Int32.toNatClampNeg ((2 * a1) + 1))) then 1 else 0) else 0) := rfl
  unfold D8_isPair at hD
  show ax_N 1 Y8_isPair 0 [some (.ref 74), some (.int a1), some (.int a2), some (.int a3)] [] m _
  refine s_aload_n eX8_isPair_0 rfl rfl ?_
  refine s_iload_n eX8_isPair_1 rfl rfl ?_
  obtain ⟨q1, hD⟩ := hD
  refine n_callVi (As := [.int a2]) eX8_isPair_2 kX8_bankOf lX8_239 rfl rfl shp_74 rfl rfl (Nat.le_of_ble_eq_true rfl) (Nat.le_of_ble_eq_true rfl) (Nat.le_of_ble_eq_true rfl) (uX8_bankOf a2 m q1) ?_
  refine s_aload_n eX8_isPair_5 rfl rfl ?_
  refine s_getr (q := 76) eX8_isPair_6 fX8_13 shp_74 rfl ?_
  refine s_iconst (v := 2) eX8_isPair_9 rfl ?_
  refine s_iload_n eX8_isPair_10 rfl rfl ?_
  refine s_imul eX8_isPair_11 ?_
  obtain ⟨q2, hD⟩ := hD
  refine s_iald eX8_isPair_12 shp_76 q2 ?_
  refine s_icmp_ne eX8_isPair_13 (fun h3 => ?_) (fun h3 => ?_)
  · skip
    rw [if_neg h3] at E
    refine s_iconst (v := 0) eX8_isPair_38 rfl ?_
    exact s_zret eX8_isPair_39 rfl (by first | exact Or.inl rfl | exact Or.inr rfl | (split <;> simp) | simp) ⟨rfl, by rw [E], rfl⟩
  · skip
    rw [if_pos h3] at E
    have hD := hD h3
    refine s_aload_n eX8_isPair_16 rfl rfl ?_
    refine s_iload_n eX8_isPair_17 rfl rfl ?_
    obtain ⟨q4, hD⟩ := hD
    refine n_callVi (As := [.int a3]) eX8_isPair_18 kX8_bankOf lX8_239 rfl rfl shp_74 rfl rfl (Nat.le_of_ble_eq_true rfl) (Nat.le_of_ble_eq_true rfl) (Nat.le_of_ble_eq_true rfl) (uX8_bankOf a3 m q4) ?_
    refine s_aload_n eX8_isPair_21 rfl rfl ?_
    refine s_getr (q := 76) eX8_isPair_22 fX8_13 shp_74 rfl ?_
    refine s_iconst (v := 2) eX8_isPair_25 rfl ?_
    refine s_iload_n eX8_isPair_26 rfl rfl ?_
    refine s_imul eX8_isPair_27 ?_
    refine s_iconst (v := 1) eX8_isPair_28 rfl ?_
    refine s_iadd eX8_isPair_29 ?_
    have q5 := hD
    refine s_iald eX8_isPair_30 shp_76 q5 ?_
    refine s_icmp_ne eX8_isPair_31 (fun h6 => ?_) (fun h6 => ?_)
    · skip
      rw [if_neg h6] at E
      refine s_iconst (v := 0) eX8_isPair_38 rfl ?_
      exact s_zret eX8_isPair_39 rfl (by first | exact Or.inl rfl | exact Or.inr rfl | (split <;> simp) | simp) ⟨rfl, by rw [E], rfl⟩
    · skip
      rw [if_pos h6] at E
      refine s_iconst (v := 1) eX8_isPair_34 rfl ?_
      refine s_goto eX8_isPair_35 ?_
      exact s_zret eX8_isPair_39 rfl (by first | exact Or.inl rfl | exact Or.inr rfl | (split <;> simp) | simp) ⟨rfl, by rw [E], rfl⟩
theorem uX8_mayGo (a1 : Int32) (a2 : Int32) (a3 : Int32) (m : ax_M) (hD : D8_mayGo a1 a2 a3 m) : ax_NM 1 Y8_mayGo [.ref 74, .int a1, .int a2, .int a3] m (fun r m1 => r = some (.int (F8_mayGo a1 a2 a3 m)) ∧ m1 = m) := by
  have E : F8_mayGo a1 a2 a3 m = (if (F8_kindOf a2 m) = 1 then (if (m 76 (Int32.toNatClampNeg ((2 * a1) + 1))) = 0 then 0 else (if (F8_kindOf a3 m) = 1 then (if (m 76 (Int32.toNatClampNeg (2 * a1))) = 0 then 0 else 1) else 1)) else (if (F8_kindOf a3 m) = 1 then (if (m 76 (Int32.toNatClampNeg (2 * a1))) = 0 then 0 else 1) else 1)) := rfl
  unfold D8_mayGo at hD
  show ax_N 1 Y8_mayGo 0 [some (.ref 74), some (.int a1), some (.int a2), some (.int a3)] [] m _
  refine s_aload_n eX8_mayGo_0 rfl rfl ?_
  refine s_iload_n eX8_mayGo_1 rfl rfl ?_
  obtain ⟨q1, hD⟩ := hD
  refine n_callVi (As := [.int a2]) eX8_mayGo_2 kX8_kindOf lX8_236 rfl rfl shp_74 rfl rfl (Nat.le_of_ble_eq_true rfl) (Nat.le_of_ble_eq_true rfl) (Nat.le_of_ble_eq_true rfl) (uX8_kindOf a2 m q1) ?_
  refine s_iconst (v := 1) eX8_mayGo_5 rfl ?_
  refine s_icmp_ne eX8_mayGo_6 (fun h2 => ?_) (fun h2 => ?_)
  · skip
    rw [if_neg h2] at E
    have hD := hD.2 h2
    refine s_aload_n eX8_mayGo_22 rfl rfl ?_
    refine s_iload_n eX8_mayGo_23 rfl rfl ?_
    obtain ⟨q3, hD⟩ := hD
    refine n_callVi (As := [.int a3]) eX8_mayGo_24 kX8_kindOf lX8_236 rfl rfl shp_74 rfl rfl (Nat.le_of_ble_eq_true rfl) (Nat.le_of_ble_eq_true rfl) (Nat.le_of_ble_eq_true rfl) (uX8_kindOf a3 m q3) ?_
    refine s_iconst (v := 1) eX8_mayGo_27 rfl ?_
    refine s_icmp_ne eX8_mayGo_28 (fun h4 => ?_) (fun h4 => ?_)
    · skip
      rw [if_neg h4] at E
      refine s_iconst (v := 1) eX8_mayGo_42 rfl ?_
      refine s_goto eX8_mayGo_43 ?_
      exact s_zret eX8_mayGo_47 rfl (by first | exact Or.inl rfl | exact Or.inr rfl | (split <;> simp) | simp) ⟨rfl, by rw [E], rfl⟩
    · skip
      rw [if_pos h4] at E
      have hD := hD h4
      refine s_aload_n eX8_mayGo_31 rfl rfl ?_
      refine s_getr (q := 76) eX8_mayGo_32 fX8_13 shp_74 rfl ?_
      refine s_iconst (v := 2) eX8_mayGo_35 rfl ?_
      refine s_iload_n eX8_mayGo_36 rfl rfl ?_
      refine s_imul eX8_mayGo_37 ?_
      have q5 := hD
      refine s_iald eX8_mayGo_38 shp_76 q5 ?_
      refine s_if_eq eX8_mayGo_39 (fun h6 => ?_) (fun h6 => ?_)
      · skip
        rw [if_pos h6] at E
        refine s_iconst (v := 0) eX8_mayGo_46 rfl ?_
        exact s_zret eX8_mayGo_47 rfl (by first | exact Or.inl rfl | exact Or.inr rfl | (split <;> simp) | simp) ⟨rfl, by rw [E], rfl⟩
      · skip
        rw [if_neg h6] at E
        refine s_iconst (v := 1) eX8_mayGo_42 rfl ?_
        refine s_goto eX8_mayGo_43 ?_
        exact s_zret eX8_mayGo_47 rfl (by first | exact Or.inl rfl | exact Or.inr rfl | (split <;> simp) | simp) ⟨rfl, by rw [E], rfl⟩
  · skip
    rw [if_pos h2] at E
    have hD := hD.1 h2
    refine s_aload_n eX8_mayGo_9 rfl rfl ?_
    refine s_getr (q := 76) eX8_mayGo_10 fX8_13 shp_74 rfl ?_
    refine s_iconst (v := 2) eX8_mayGo_13 rfl ?_
    refine s_iload_n eX8_mayGo_14 rfl rfl ?_
    refine s_imul eX8_mayGo_15 ?_
    refine s_iconst (v := 1) eX8_mayGo_16 rfl ?_
    refine s_iadd eX8_mayGo_17 ?_
    obtain ⟨q7, hD⟩ := hD
    refine s_iald eX8_mayGo_18 shp_76 q7 ?_
    refine s_if_eq eX8_mayGo_19 (fun h8 => ?_) (fun h8 => ?_)
    · skip
      rw [if_pos h8] at E
      refine s_iconst (v := 0) eX8_mayGo_46 rfl ?_
      exact s_zret eX8_mayGo_47 rfl (by first | exact Or.inl rfl | exact Or.inr rfl | (split <;> simp) | simp) ⟨rfl, by rw [E], rfl⟩
    · skip
      rw [if_neg h8] at E
      have hD := hD h8
      refine s_aload_n eX8_mayGo_22 rfl rfl ?_
      refine s_iload_n eX8_mayGo_23 rfl rfl ?_
      obtain ⟨q9, hD⟩ := hD
      refine n_callVi (As := [.int a3]) eX8_mayGo_24 kX8_kindOf lX8_236 rfl rfl shp_74 rfl rfl (Nat.le_of_ble_eq_true rfl) (Nat.le_of_ble_eq_true rfl) (Nat.le_of_ble_eq_true rfl) (uX8_kindOf a3 m q9) ?_
      refine s_iconst (v := 1) eX8_mayGo_27 rfl ?_
      refine s_icmp_ne eX8_mayGo_28 (fun h10 => ?_) (fun h10 => ?_)
      · skip
        rw [if_neg h10] at E
        refine s_iconst (v := 1) eX8_mayGo_42 rfl ?_
        refine s_goto eX8_mayGo_43 ?_
        exact s_zret eX8_mayGo_47 rfl (by first | exact Or.inl rfl | exact Or.inr rfl | (split <;> simp) | simp) ⟨rfl, by rw [E], rfl⟩
      · skip
        rw [if_pos h10] at E
        have hD := hD h10
        refine s_aload_n eX8_mayGo_31 rfl rfl ?_
        refine s_getr (q := 76) eX8_mayGo_32 fX8_13 shp_74 rfl ?_
        refine s_iconst (v := 2) eX8_mayGo_35 rfl ?_
        refine s_iload_n eX8_mayGo_36 rfl rfl ?_
        refine s_imul eX8_mayGo_37 ?_
        have q11 := hD
        refine s_iald eX8_mayGo_38 shp_76 q11 ?_
        refine s_if_eq eX8_mayGo_39 (fun h12 => ?_) (fun h12 => ?_)
        · skip
          rw [if_pos h12] at E
          refine s_iconst (v := 0) eX8_mayGo_46 rfl ?_
          exact s_zret eX8_mayGo_47 rfl (by first | exact Or.inl rfl | exact Or.inr rfl | (split <;> simp) | simp) ⟨rfl, by rw [E], rfl⟩
        · skip
          rw [if_neg h12] at E
          refine s_iconst (v := 1) eX8_mayGo_42 rfl ?_
          refine s_goto eX8_mayGo_43 ?_
          exact s_zret eX8_mayGo_47 rfl (by first | exact Or.inl rfl | exact Or.inr rfl | (split <;> simp) | simp) ⟨rfl, by rw [E], rfl⟩
theorem uX8_isLevel (a1 : Int32) (a2 : Int32) (a3 : Int32) (a4 : Int32) (a5 : Int32) (m : ax_M) (hD : D8_isLevel a1 a2 a3 a4 a5 m) : ax_NM 1 Y8_isLevel [.ref 74, .int a1, .int a2, .int a3, .int a4, .int a5] m (fun r m1 => r = some (.int (F8_isLevel a1 a2 a3 a4 a5 m)) ∧ m1 = m) := by
  have E : F8_isLevel a1 a2 a3 a4 a5 m = (F8_in (Int32.toInt64 ((((F8_weightOf a2 m) + (a4 * (m 74 5))) - (F8_weightOf a3 m)) - (a5 * (m 74 5)))) (Int32.toInt64 (-(if (if (F8_kindOf a2 m) = 3 then (1 : Int32) else if (F8_kindOf a3 m) = 3 then (1 : Int32) else 0) = 0 then (if (if (F8_kindOf a2 m) = 4 then (1 : Int32) else if (F8_kindOf a3 m) = 4 then (1 : Int32) else 0) = 0 then (m 75 (Int32.toNatClampNeg (28 + a1)) : Int32) else 2 * (m 75 (Int32.toNatClampNeg (28 + a1))) : Int32) else (m 75 (Int32.toNatClampNeg (28 + a1))) / 2))) (Int32.toInt64 (if (if (F8_kindOf a2 m) = 3 then (1 : Int32) else if (F8_kindOf a3 m) = 3 then (1 : Int32) else 0) = 0 then (if (if (F8_kindOf a2 m) = 4 then (1 : Int32) else if (F8_kindOf a3 m) = 4 then (1 : Int32) else 0) = 0 then (m 75 (Int32.toNatClampNeg (28 + a1)) : Int32) else 2 * (m 75 (Int32.toNatClampNeg (28 + a1))) : Int32) else (m 75 (Int32.toNatClampNeg (28 + a1))) / 2)) m) := rfl
  unfold D8_isLevel at hD
  show ax_N 1 Y8_isLevel 0 [some (.ref 74), some (.int a1), some (.int a2), some (.int a3), some (.int a4), some (.int a5), none, none, none] [] m _
  refine s_aload_n eX8_isLevel_0 rfl rfl ?_
  refine s_getr (q := 75) eX8_isLevel_1 fX8_7 shp_74 rfl ?_
  refine s_bipush (v := 28) eX8_isLevel_4 rfl ?_
  refine s_iload_n eX8_isLevel_6 rfl rfl ?_
  refine s_iadd eX8_isLevel_7 ?_
  obtain ⟨q1, hD⟩ := hD
  refine s_iald eX8_isLevel_8 shp_75 q1 ?_
  refine s_istore (ls' := [some (.ref 74), some (.int a1), some (.int a2), some (.int a3), some (.int a4), some (.int a5), some (.int (m 75 (Int32.toNatClampNeg (28 + a1)))), none, none]) eX8_isLevel_9 rfl rfl ?_
  refine s_aload_n eX8_isLevel_11 rfl rfl ?_
  refine s_iload_n eX8_isLevel_12 rfl rfl ?_
  obtain ⟨q2, hD⟩ := hD
  refine n_callVi (As := [.int a2]) eX8_isLevel_13 kX8_kindOf lX8_236 rfl rfl shp_74 rfl rfl (Nat.le_of_ble_eq_true rfl) (Nat.le_of_ble_eq_true rfl) (Nat.le_of_ble_eq_true rfl) (uX8_kindOf a2 m q2) ?_
  refine s_iconst (v := 3) eX8_isLevel_16 rfl ?_
  obtain ⟨s3, hD⟩ := hD
  have J4 : ax_N 1 Y8_isLevel 34 [some (.ref 74), some (.int a1), some (.int a2), some (.int a3), some (.int a4), some (.int a5), some (.int (m 75 (Int32.toNatClampNeg (28 + a1)))), none, none] [.int (if (F8_kindOf a2 m) = 3 then (1 : Int32) else if (F8_kindOf a3 m) = 3 then (1 : Int32) else 0)] m (fun r m1 => r = some (.int (F8_isLevel a1 a2 a3 a4 a5 m)) ∧ m1 = m) := by
    refine s_istore (ls' := [some (.ref 74), some (.int a1), some (.int a2), some (.int a3), some (.int a4), some (.int a5), some (.int (m 75 (Int32.toNatClampNeg (28 + a1)))), some (.int (if (F8_kindOf a2 m) = 3 then (1 : Int32) else if (F8_kindOf a3 m) = 3 then (1 : Int32) else 0)), none]) eX8_isLevel_34 rfl rfl ?_
    refine s_aload_n eX8_isLevel_36 rfl rfl ?_
    refine s_iload_n eX8_isLevel_37 rfl rfl ?_
    obtain ⟨q5, hD⟩ := hD
    refine n_callVi (As := [.int a2]) eX8_isLevel_38 kX8_kindOf lX8_236 rfl rfl shp_74 rfl rfl (Nat.le_of_ble_eq_true rfl) (Nat.le_of_ble_eq_true rfl) (Nat.le_of_ble_eq_true rfl) (uX8_kindOf a2 m q5) ?_
    refine s_iconst (v := 4) eX8_isLevel_41 rfl ?_
    obtain ⟨s6, hD⟩ := hD
    have J7 : ax_N 1 Y8_isLevel 59 [some (.ref 74), some (.int a1), some (.int a2), some (.int a3), some (.int a4), some (.int a5), some (.int (m 75 (Int32.toNatClampNeg (28 + a1)))), some (.int (if (F8_kindOf a2 m) = 3 then (1 : Int32) else if (F8_kindOf a3 m) = 3 then (1 : Int32) else 0)), none] [.int (if (F8_kindOf a2 m) = 4 then (1 : Int32) else if (F8_kindOf a3 m) = 4 then (1 : Int32) else 0)] m (fun r m1 => r = some (.int (F8_isLevel a1 a2 a3 a4 a5 m)) ∧ m1 = m) := by
      refine s_istore (ls' := [some (.ref 74), some (.int a1), some (.int a2), some (.int a3), some (.int a4), some (.int a5), some (.int (m 75 (Int32.toNatClampNeg (28 + a1)))), some (.int (if (F8_kindOf a2 m) = 3 then (1 : Int32) else if (F8_kindOf a3 m) = 3 then (1 : Int32) else 0)), some (.int (if (F8_kindOf a2 m) = 4 then (1 : Int32) else if (F8_kindOf a3 m) = 4 then (1 : Int32) else 0))]) eX8_isLevel_59 rfl rfl ?_
      refine s_iload eX8_isLevel_61 rfl ?_
      have J8 : ax_N 1 Y8_isLevel 87 [some (.ref 74), some (.int a1), some (.int a2), some (.int a3), some (.int a4), some (.int a5), some (.int (m 75 (Int32.toNatClampNeg (28 + a1)))), some (.int (if (F8_kindOf a2 m) = 3 then (1 : Int32) else if (F8_kindOf a3 m) = 3 then (1 : Int32) else 0)), some (.int (if (F8_kindOf a2 m) = 4 then (1 : Int32) else if (F8_kindOf a3 m) = 4 then (1 : Int32) else 0))] [.int (if (if (F8_kindOf a2 m) = 3 then (1 : Int32) else if (F8_kindOf a3 m) = 3 then (1 : Int32) else 0) = 0 then (if (if (F8_kindOf a2 m) = 4 then (1 : Int32) else if (F8_kindOf a3 m) = 4 then (1 : Int32) else 0) = 0 then (m 75 (Int32.toNatClampNeg (28 + a1)) : Int32) else 2 * (m 75 (Int32.toNatClampNeg (28 + a1))) : Int32) else (m 75 (Int32.toNatClampNeg (28 + a1))) / 2)] m (fun r m1 => r = some (.int (F8_isLevel a1 a2 a3 a4 a5 m)) ∧ m1 = m) := by
        refine s_istore (ls' := [some (.ref 74), some (.int a1), some (.int a2), some (.int a3), some (.int a4), some (.int a5), some (.int (if (if (F8_kindOf a2 m) = 3 then (1 : Int32) else if (F8_kindOf a3 m) = 3 then (1 : Int32) else 0) = 0 then (if (if (F8_kindOf a2 m) = 4 then (1 : Int32) else if (F8_kindOf a3 m) = 4 then (1 : Int32) else 0) = 0 then (m 75 (Int32.toNatClampNeg (28 + a1)) : Int32) else 2 * (m 75 (Int32.toNatClampNeg (28 + a1))) : Int32) else (m 75 (Int32.toNatClampNeg (28 + a1))) / 2)), some (.int (if (F8_kindOf a2 m) = 3 then (1 : Int32) else if (F8_kindOf a3 m) = 3 then (1 : Int32) else 0)), some (.int (if (F8_kindOf a2 m) = 4 then (1 : Int32) else if (F8_kindOf a3 m) = 4 then (1 : Int32) else 0))]) eX8_isLevel_87 rfl rfl ?_
        refine s_aload_n eX8_isLevel_89 rfl rfl ?_
        refine s_iload_n eX8_isLevel_90 rfl rfl ?_
        obtain ⟨q9, hD⟩ := hD
        refine n_callVi (As := [.int a2]) eX8_isLevel_91 kX8_weightOf lX8_242 rfl rfl shp_74 rfl rfl (Nat.le_of_ble_eq_true rfl) (Nat.le_of_ble_eq_true rfl) (Nat.le_of_ble_eq_true rfl) (uX8_weightOf a2 m q9) ?_
        refine s_iload eX8_isLevel_94 rfl ?_
        refine s_aload_n eX8_isLevel_96 rfl rfl ?_
        refine s_geti eX8_isLevel_97 fX8_20 shp_74 rfl ?_
        refine s_imul eX8_isLevel_100 ?_
        refine s_iadd eX8_isLevel_101 ?_
        refine s_aload_n eX8_isLevel_102 rfl rfl ?_
        refine s_iload_n eX8_isLevel_103 rfl rfl ?_
        have q10 := hD
        refine n_callVi (As := [.int a3]) eX8_isLevel_104 kX8_weightOf lX8_242 rfl rfl shp_74 rfl rfl (Nat.le_of_ble_eq_true rfl) (Nat.le_of_ble_eq_true rfl) (Nat.le_of_ble_eq_true rfl) (uX8_weightOf a3 m q10) ?_
        refine s_isub eX8_isLevel_107 ?_
        refine s_iload eX8_isLevel_108 rfl ?_
        refine s_aload_n eX8_isLevel_110 rfl rfl ?_
        refine s_geti eX8_isLevel_111 fX8_20 shp_74 rfl ?_
        refine s_imul eX8_isLevel_114 ?_
        refine s_isub eX8_isLevel_115 ?_
        refine s_i2l eX8_isLevel_116 ?_
        refine s_iload eX8_isLevel_117 rfl ?_
        refine s_ineg eX8_isLevel_119 ?_
        refine s_i2l eX8_isLevel_120 ?_
        refine s_iload eX8_isLevel_121 rfl ?_
        refine s_i2l eX8_isLevel_123 ?_
        refine n_callSi (As := [.long (Int32.toInt64 ((((F8_weightOf a2 m) + (a4 * (m 74 5))) - (F8_weightOf a3 m)) - (a5 * (m 74 5)))), .long (Int32.toInt64 (-(if (if (F8_kindOf a2 m) = 3 then (1 : Int32) else if (F8_kindOf a3 m) = 3 then (1 : Int32) else 0) = 0 then (if (if (F8_kindOf a2 m) = 4 then (1 : Int32) else if (F8_kindOf a3 m) = 4 then (1 : Int32) else 0) = 0 then (m 75 (Int32.toNatClampNeg (28 + a1)) : Int32) else 2 * (m 75 (Int32.toNatClampNeg (28 + a1))) : Int32) else (m 75 (Int32.toNatClampNeg (28 + a1))) / 2))), .long (Int32.toInt64 (if (if (F8_kindOf a2 m) = 3 then (1 : Int32) else if (F8_kindOf a3 m) = 3 then (1 : Int32) else 0) = 0 then (if (if (F8_kindOf a2 m) = 4 then (1 : Int32) else if (F8_kindOf a3 m) = 4 then (1 : Int32) else 0) = 0 then (m 75 (Int32.toNatClampNeg (28 + a1)) : Int32) else 2 * (m 75 (Int32.toNatClampNeg (28 + a1))) : Int32) else (m 75 (Int32.toNatClampNeg (28 + a1))) / 2))]) eX8_isLevel_124 kX8_in lX8_87 rfl rfl (Nat.le_of_ble_eq_true rfl) (Nat.le_of_ble_eq_true rfl) (Nat.le_of_ble_eq_true rfl) (uX8_in (Int32.toInt64 ((((F8_weightOf a2 m) + (a4 * (m 74 5))) - (F8_weightOf a3 m)) - (a5 * (m 74 5)))) (Int32.toInt64 (-(if (if (F8_kindOf a2 m) = 3 then (1 : Int32) else if (F8_kindOf a3 m) = 3 then (1 : Int32) else 0) = 0 then (if (if (F8_kindOf a2 m) = 4 then (1 : Int32) else if (F8_kindOf a3 m) = 4 then (1 : Int32) else 0) = 0 then (m 75 (Int32.toNatClampNeg (28 + a1)) : Int32) else 2 * (m 75 (Int32.toNatClampNeg (28 + a1))) : Int32) else (m 75 (Int32.toNatClampNeg (28 + a1))) / 2))) (Int32.toInt64 (if (if (F8_kindOf a2 m) = 3 then (1 : Int32) else if (F8_kindOf a3 m) = 3 then (1 : Int32) else 0) = 0 then (if (if (F8_kindOf a2 m) = 4 then (1 : Int32) else if (F8_kindOf a3 m) = 4 then (1 : Int32) else 0) = 0 then (m 75 (Int32.toNatClampNeg (28 + a1)) : Int32) else 2 * (m 75 (Int32.toNatClampNeg (28 + a1))) : Int32) else (m 75 (Int32.toNatClampNeg (28 + a1))) / 2)) m) ?_
        exact s_zret eX8_isLevel_127 rfl (b8_in ..) ⟨rfl, by rw [E], rfl⟩
      refine s_if_eq eX8_isLevel_63 (fun h11 => ?_) (fun h11 => ?_)
      · skip
        refine s_iload eX8_isLevel_73 rfl ?_
        refine s_if_eq eX8_isLevel_75 (fun h12 => ?_) (fun h12 => ?_)
        · skip
          refine s_iload eX8_isLevel_85 rfl ?_
          exact ax_eqN rfl (by rw [show (if (if (F8_kindOf a2 m) = 3 then (1 : Int32) else if (F8_kindOf a3 m) = 3 then (1 : Int32) else 0) = 0 then (if (if (F8_kindOf a2 m) = 4 then (1 : Int32) else if (F8_kindOf a3 m) = 4 then (1 : Int32) else 0) = 0 then (m 75 (Int32.toNatClampNeg (28 + a1)) : Int32) else 2 * (m 75 (Int32.toNatClampNeg (28 + a1))) : Int32) else (m 75 (Int32.toNatClampNeg (28 + a1))) / 2 : Int32) = m 75 (Int32.toNatClampNeg (28 + a1)) by rw [if_pos h11, if_pos h12]]) rfl J8
        · skip
          refine s_iconst (v := 2) eX8_isLevel_78 rfl ?_
          refine s_iload eX8_isLevel_79 rfl ?_
          refine s_imul eX8_isLevel_81 ?_
          refine s_goto eX8_isLevel_82 ?_
          exact ax_eqN rfl (by rw [show (if (if (F8_kindOf a2 m) = 3 then (1 : Int32) else if (F8_kindOf a3 m) = 3 then (1 : Int32) else 0) = 0 then (if (if (F8_kindOf a2 m) = 4 then (1 : Int32) else if (F8_kindOf a3 m) = 4 then (1 : Int32) else 0) = 0 then (m 75 (Int32.toNatClampNeg (28 + a1)) : Int32) else 2 * (m 75 (Int32.toNatClampNeg (28 + a1))) : Int32) else (m 75 (Int32.toNatClampNeg (28 + a1))) / 2 : Int32) = 2 * (m 75 (Int32.toNatClampNeg (28 + a1))) by rw [if_pos h11, if_neg h12]]) rfl J8
      · skip
        refine s_iload eX8_isLevel_66 rfl ?_
        refine s_iconst (v := 2) eX8_isLevel_68 rfl ?_
        refine s_idiv eX8_isLevel_69 (by decide) ?_
        refine s_goto eX8_isLevel_70 ?_
        exact ax_eqN rfl (by rw [show (if (if (F8_kindOf a2 m) = 3 then (1 : Int32) else if (F8_kindOf a3 m) = 3 then (1 : Int32) else 0) = 0 then (if (if (F8_kindOf a2 m) = 4 then (1 : Int32) else if (F8_kindOf a3 m) = 4 then (1 : Int32) else 0) = 0 then (m 75 (Int32.toNatClampNeg (28 + a1)) : Int32) else 2 * (m 75 (Int32.toNatClampNeg (28 + a1))) : Int32) else (m 75 (Int32.toNatClampNeg (28 + a1))) / 2 : Int32) = (m 75 (Int32.toNatClampNeg (28 + a1))) / 2 by rw [if_neg h11]]) rfl J8
    have hD := s6
    refine s_icmp_eq eX8_isLevel_42 (fun h13 => ?_) (fun h13 => ?_)
    · skip
      refine s_iconst (v := 1) eX8_isLevel_54 rfl ?_
      refine s_goto eX8_isLevel_55 ?_
      exact ax_eqN rfl (by rw [show (if (F8_kindOf a2 m) = 4 then (1 : Int32) else if (F8_kindOf a3 m) = 4 then (1 : Int32) else 0 : Int32) = 1 by rw [if_pos h13]]) rfl J7
    · skip
      have hD := hD h13
      refine s_aload_n eX8_isLevel_45 rfl rfl ?_
      refine s_iload_n eX8_isLevel_46 rfl rfl ?_
      have q14 := hD
      refine n_callVi (As := [.int a3]) eX8_isLevel_47 kX8_kindOf lX8_236 rfl rfl shp_74 rfl rfl (Nat.le_of_ble_eq_true rfl) (Nat.le_of_ble_eq_true rfl) (Nat.le_of_ble_eq_true rfl) (uX8_kindOf a3 m q14) ?_
      refine s_iconst (v := 4) eX8_isLevel_50 rfl ?_
      refine s_icmp_ne eX8_isLevel_51 (fun h15 => ?_) (fun h15 => ?_)
      · skip
        refine s_iconst (v := 0) eX8_isLevel_58 rfl ?_
        exact ax_eqN rfl (by rw [show (if (F8_kindOf a2 m) = 4 then (1 : Int32) else if (F8_kindOf a3 m) = 4 then (1 : Int32) else 0 : Int32) = 0 by rw [if_neg h13, if_neg h15]]) rfl J7
      · skip
        refine s_iconst (v := 1) eX8_isLevel_54 rfl ?_
        refine s_goto eX8_isLevel_55 ?_
        exact ax_eqN rfl (by rw [show (if (F8_kindOf a2 m) = 4 then (1 : Int32) else if (F8_kindOf a3 m) = 4 then (1 : Int32) else 0 : Int32) = 1 by rw [if_neg h13, if_pos h15]]) rfl J7
  have hD := s3
  refine s_icmp_eq eX8_isLevel_17 (fun h16 => ?_) (fun h16 => ?_)
  · skip
    refine s_iconst (v := 1) eX8_isLevel_29 rfl ?_
    refine s_goto eX8_isLevel_30 ?_
    exact ax_eqN rfl (by rw [show (if (F8_kindOf a2 m) = 3 then (1 : Int32) else if (F8_kindOf a3 m) = 3 then (1 : Int32) else 0 : Int32) = 1 by rw [if_pos h16]]) rfl J4
  · skip
    have hD := hD h16
    refine s_aload_n eX8_isLevel_20 rfl rfl ?_
    refine s_iload_n eX8_isLevel_21 rfl rfl ?_
    have q17 := hD
    refine n_callVi (As := [.int a3]) eX8_isLevel_22 kX8_kindOf lX8_236 rfl rfl shp_74 rfl rfl (Nat.le_of_ble_eq_true rfl) (Nat.le_of_ble_eq_true rfl) (Nat.le_of_ble_eq_true rfl) (uX8_kindOf a3 m q17) ?_
    refine s_iconst (v := 3) eX8_isLevel_25 rfl ?_
    refine s_icmp_ne eX8_isLevel_26 (fun h18 => ?_) (fun h18 => ?_)
    · skip
      refine s_iconst (v := 0) eX8_isLevel_33 rfl ?_
      exact ax_eqN rfl (by rw [show (if (F8_kindOf a2 m) = 3 then (1 : Int32) else if (F8_kindOf a3 m) = 3 then (1 : Int32) else 0 : Int32) = 0 by rw [if_neg h16, if_neg h18]]) rfl J4
    · skip
      refine s_iconst (v := 1) eX8_isLevel_29 rfl ?_
      refine s_goto eX8_isLevel_30 ?_
      exact ax_eqN rfl (by rw [show (if (F8_kindOf a2 m) = 3 then (1 : Int32) else if (F8_kindOf a3 m) = 3 then (1 : Int32) else 0 : Int32) = 1 by rw [if_neg h16, if_pos h18]]) rfl J4
theorem uX8_canCross (a1 : Int32) (a2 : Int32) (a3 : Int32) (a4 : Int32) (a5 : Int32) (m : ax_M) (hD : D8_canCross a1 a2 a3 a4 a5 m) : ax_NM 2 Y8_canCross [.ref 74, .int a1, .int a2, .int a3, .int a4, .int a5] m (fun r m1 => r = some (.int (F8_canCross a1 a2 a3 a4 a5 m)) ∧ m1 = m) := by
  have E : F8_canCross a1 a2 a3 a4 a5 m = (if (F8_isPair a1 a2 a3 m) = 0 then 0 else (if (F8_mayGo a1 a2 a3 m) = 0 then 0 else (if (F8_carries a2 m) < a4 then 0 else (if (F8_carries a3 m) < a5 then 0 else (if (m 75 (Int32.toNatClampNeg (24 + (m 76 (Int32.toNatClampNeg (2 * a1)))))) < a4 then 0 else (if (m 75 (Int32.toNatClampNeg (24 + (m 76 (Int32.toNatClampNeg ((2 * a1) + 1)))))) < a5 then 0 else (if (F8_isLevel a1 a2 a3 a4 a5 m) = 0 then 0 else 1))))))) := rfl
  unfold D8_canCross at hD
  show ax_N 2 Y8_canCross 0 [some (.ref 74), some (.int a1), some (.int a2), some (.int a3), some (.int a4), some (.int a5)] [] m _
  refine s_aload_n eX8_canCross_0 rfl rfl ?_
  refine s_iload_n eX8_canCross_1 rfl rfl ?_
  refine s_iload_n eX8_canCross_2 rfl rfl ?_
  refine s_iload_n eX8_canCross_3 rfl rfl ?_
  obtain ⟨q1, hD⟩ := hD
  refine n_callVi (As := [.int a1, .int a2, .int a3]) eX8_canCross_4 kX8_isPair lX8_245 rfl rfl shp_74 rfl rfl (Nat.le_of_ble_eq_true rfl) (Nat.le_of_ble_eq_true rfl) (Nat.le_of_ble_eq_true rfl) (uX8_isPair a1 a2 a3 m q1) ?_
  refine s_if_eq eX8_canCross_7 (fun h2 => ?_) (fun h2 => ?_)
  · skip
    rw [if_pos h2] at E
    refine s_iconst (v := 0) eX8_canCross_102 rfl ?_
    exact s_zret eX8_canCross_103 rfl (by first | exact Or.inl rfl | exact Or.inr rfl | (split <;> simp) | simp) ⟨rfl, by rw [E], rfl⟩
  · skip
    rw [if_neg h2] at E
    have hD := hD h2
    refine s_aload_n eX8_canCross_10 rfl rfl ?_
    refine s_iload_n eX8_canCross_11 rfl rfl ?_
    refine s_iload_n eX8_canCross_12 rfl rfl ?_
    refine s_iload_n eX8_canCross_13 rfl rfl ?_
    obtain ⟨q3, hD⟩ := hD
    refine n_callVi (As := [.int a1, .int a2, .int a3]) eX8_canCross_14 kX8_mayGo lX8_249 rfl rfl shp_74 rfl rfl (Nat.le_of_ble_eq_true rfl) (Nat.le_of_ble_eq_true rfl) (Nat.le_of_ble_eq_true rfl) (uX8_mayGo a1 a2 a3 m q3) ?_
    refine s_if_eq eX8_canCross_17 (fun h4 => ?_) (fun h4 => ?_)
    · skip
      rw [if_pos h4] at E
      refine s_iconst (v := 0) eX8_canCross_102 rfl ?_
      exact s_zret eX8_canCross_103 rfl (by first | exact Or.inl rfl | exact Or.inr rfl | (split <;> simp) | simp) ⟨rfl, by rw [E], rfl⟩
    · skip
      rw [if_neg h4] at E
      have hD := hD h4
      refine s_iload eX8_canCross_20 rfl ?_
      refine s_aload_n eX8_canCross_22 rfl rfl ?_
      refine s_iload_n eX8_canCross_23 rfl rfl ?_
      obtain ⟨q5, hD⟩ := hD
      refine n_callVi (As := [.int a2]) eX8_canCross_24 kX8_carries lX8_252 rfl rfl shp_74 rfl rfl (Nat.le_of_ble_eq_true rfl) (Nat.le_of_ble_eq_true rfl) (Nat.le_of_ble_eq_true rfl) (uX8_carries a2 m q5) ?_
      refine s_icmp_gt eX8_canCross_27 (fun h6 => ?_) (fun h6 => ?_)
      · skip
        rw [if_pos h6] at E
        refine s_iconst (v := 0) eX8_canCross_102 rfl ?_
        exact s_zret eX8_canCross_103 rfl (by first | exact Or.inl rfl | exact Or.inr rfl | (split <;> simp) | simp) ⟨rfl, by rw [E], rfl⟩
      · skip
        rw [if_neg h6] at E
        have hD := hD h6
        refine s_iload eX8_canCross_30 rfl ?_
        refine s_aload_n eX8_canCross_32 rfl rfl ?_
        refine s_iload_n eX8_canCross_33 rfl rfl ?_
        obtain ⟨q7, hD⟩ := hD
        refine n_callVi (As := [.int a3]) eX8_canCross_34 kX8_carries lX8_252 rfl rfl shp_74 rfl rfl (Nat.le_of_ble_eq_true rfl) (Nat.le_of_ble_eq_true rfl) (Nat.le_of_ble_eq_true rfl) (uX8_carries a3 m q7) ?_
        refine s_icmp_gt eX8_canCross_37 (fun h8 => ?_) (fun h8 => ?_)
        · skip
          rw [if_pos h8] at E
          refine s_iconst (v := 0) eX8_canCross_102 rfl ?_
          exact s_zret eX8_canCross_103 rfl (by first | exact Or.inl rfl | exact Or.inr rfl | (split <;> simp) | simp) ⟨rfl, by rw [E], rfl⟩
        · skip
          rw [if_neg h8] at E
          have hD := hD h8
          refine s_iload eX8_canCross_40 rfl ?_
          refine s_aload_n eX8_canCross_42 rfl rfl ?_
          refine s_getr (q := 75) eX8_canCross_43 fX8_7 shp_74 rfl ?_
          refine s_bipush (v := 24) eX8_canCross_46 rfl ?_
          refine s_aload_n eX8_canCross_48 rfl rfl ?_
          refine s_getr (q := 76) eX8_canCross_49 fX8_13 shp_74 rfl ?_
          refine s_iconst (v := 2) eX8_canCross_52 rfl ?_
          refine s_iload_n eX8_canCross_53 rfl rfl ?_
          refine s_imul eX8_canCross_54 ?_
          obtain ⟨q9, hD⟩ := hD
          refine s_iald eX8_canCross_55 shp_76 q9 ?_
          refine s_iadd eX8_canCross_56 ?_
          obtain ⟨q10, hD⟩ := hD
          refine s_iald eX8_canCross_57 shp_75 q10 ?_
          refine s_icmp_gt eX8_canCross_58 (fun h11 => ?_) (fun h11 => ?_)
          · skip
            rw [if_pos h11] at E
            refine s_iconst (v := 0) eX8_canCross_102 rfl ?_
            exact s_zret eX8_canCross_103 rfl (by first | exact Or.inl rfl | exact Or.inr rfl | (split <;> simp) | simp) ⟨rfl, by rw [E], rfl⟩
          · skip
            rw [if_neg h11] at E
            have hD := hD h11
            refine s_iload eX8_canCross_61 rfl ?_
            refine s_aload_n eX8_canCross_63 rfl rfl ?_
            refine s_getr (q := 75) eX8_canCross_64 fX8_7 shp_74 rfl ?_
            refine s_bipush (v := 24) eX8_canCross_67 rfl ?_
            refine s_aload_n eX8_canCross_69 rfl rfl ?_
            refine s_getr (q := 76) eX8_canCross_70 fX8_13 shp_74 rfl ?_
            refine s_iconst (v := 2) eX8_canCross_73 rfl ?_
            refine s_iload_n eX8_canCross_74 rfl rfl ?_
            refine s_imul eX8_canCross_75 ?_
            refine s_iconst (v := 1) eX8_canCross_76 rfl ?_
            refine s_iadd eX8_canCross_77 ?_
            obtain ⟨q12, hD⟩ := hD
            refine s_iald eX8_canCross_78 shp_76 q12 ?_
            refine s_iadd eX8_canCross_79 ?_
            obtain ⟨q13, hD⟩ := hD
            refine s_iald eX8_canCross_80 shp_75 q13 ?_
            refine s_icmp_gt eX8_canCross_81 (fun h14 => ?_) (fun h14 => ?_)
            · skip
              rw [if_pos h14] at E
              refine s_iconst (v := 0) eX8_canCross_102 rfl ?_
              exact s_zret eX8_canCross_103 rfl (by first | exact Or.inl rfl | exact Or.inr rfl | (split <;> simp) | simp) ⟨rfl, by rw [E], rfl⟩
            · skip
              rw [if_neg h14] at E
              have hD := hD h14
              refine s_aload_n eX8_canCross_84 rfl rfl ?_
              refine s_iload_n eX8_canCross_85 rfl rfl ?_
              refine s_iload_n eX8_canCross_86 rfl rfl ?_
              refine s_iload_n eX8_canCross_87 rfl rfl ?_
              refine s_iload eX8_canCross_88 rfl ?_
              refine s_iload eX8_canCross_90 rfl ?_
              have q15 := hD
              refine n_callVi (As := [.int a1, .int a2, .int a3, .int a4, .int a5]) eX8_canCross_92 kX8_isLevel lX8_255 rfl rfl shp_74 rfl rfl (Nat.le_of_ble_eq_true rfl) (Nat.le_of_ble_eq_true rfl) (Nat.le_of_ble_eq_true rfl) (uX8_isLevel a1 a2 a3 a4 a5 m q15) ?_
              refine s_if_eq eX8_canCross_95 (fun h16 => ?_) (fun h16 => ?_)
              · skip
                rw [if_pos h16] at E
                refine s_iconst (v := 0) eX8_canCross_102 rfl ?_
                exact s_zret eX8_canCross_103 rfl (by first | exact Or.inl rfl | exact Or.inr rfl | (split <;> simp) | simp) ⟨rfl, by rw [E], rfl⟩
              · skip
                rw [if_neg h16] at E
                refine s_iconst (v := 1) eX8_canCross_98 rfl ?_
                refine s_goto eX8_canCross_99 ?_
                exact s_zret eX8_canCross_103 rfl (by first | exact Or.inl rfl | exact Or.inr rfl | (split <;> simp) | simp) ⟨rfl, by rw [E], rfl⟩
theorem uX8_can (a1 : Int32) (a2 : Int32) (a3 : Int32) (a4 : Int32) (a5 : Int32) (m : ax_M) (hD : D8_can a1 a2 a3 a4 a5 m) : ax_NM 3 Y8_can [.ref 74, .int a1, .int a2, .int a3, .int a4, .int a5] m (fun r m1 => r = some (.int (F8_can a1 a2 a3 a4 a5 m)) ∧ m1 = m) := by
  have E : F8_can a1 a2 a3 a4 a5 m = (if (F8_areTwo a1 a2 a3 m) = 0 then ((-1)) else (if (F8_in (Int32.toInt64 a4) 0 3 m) = 0 then ((-1)) else (if (F8_in (Int32.toInt64 a5) 0 3 m) = 0 then ((-1)) else (if (F8_canCross a1 a2 a3 a4 a5 m) = 0 then 0 else 1)))) := rfl
  unfold D8_can at hD
  show ax_N 3 Y8_can 0 [some (.ref 74), some (.int a1), some (.int a2), some (.int a3), some (.int a4), some (.int a5)] [] m _
  refine s_aload_n eX8_can_0 rfl rfl ?_
  refine s_iload_n eX8_can_1 rfl rfl ?_
  refine s_iload_n eX8_can_2 rfl rfl ?_
  refine s_iload_n eX8_can_3 rfl rfl ?_
  refine n_callVi (As := [.int a1, .int a2, .int a3]) eX8_can_4 kX8_areTwo lX8_259 rfl rfl shp_74 rfl rfl (Nat.le_of_ble_eq_true rfl) (Nat.le_of_ble_eq_true rfl) (Nat.le_of_ble_eq_true rfl) (uX8_areTwo a1 a2 a3 m) ?_
  refine s_if_eq eX8_can_7 (fun h1 => ?_) (fun h1 => ?_)
  · skip
    rw [if_pos h1] at E
    refine s_iconst (v := (-1)) eX8_can_58 rfl ?_
    exact s_iret eX8_can_59 rfl ⟨rfl, by rw [E], rfl⟩
  · skip
    rw [if_neg h1] at E
    have hD := hD h1
    refine s_iload eX8_can_10 rfl ?_
    refine s_i2l eX8_can_12 ?_
    refine s_lconst (v := 0) eX8_can_13 rfl ?_
    refine s_ldc2 eX8_can_14 qX8_217 ?_
    refine n_callSi (As := [.long (Int32.toInt64 a4), .long 0, .long 3]) eX8_can_17 kX8_in lX8_87 rfl rfl (Nat.le_of_ble_eq_true rfl) (Nat.le_of_ble_eq_true rfl) (Nat.le_of_ble_eq_true rfl) (uX8_in (Int32.toInt64 a4) 0 3 m) ?_
    refine s_if_eq eX8_can_20 (fun h2 => ?_) (fun h2 => ?_)
    · skip
      rw [if_pos h2] at E
      refine s_iconst (v := (-1)) eX8_can_58 rfl ?_
      exact s_iret eX8_can_59 rfl ⟨rfl, by rw [E], rfl⟩
    · skip
      rw [if_neg h2] at E
      have hD := hD h2
      refine s_iload eX8_can_23 rfl ?_
      refine s_i2l eX8_can_25 ?_
      refine s_lconst (v := 0) eX8_can_26 rfl ?_
      refine s_ldc2 eX8_can_27 qX8_217 ?_
      refine n_callSi (As := [.long (Int32.toInt64 a5), .long 0, .long 3]) eX8_can_30 kX8_in lX8_87 rfl rfl (Nat.le_of_ble_eq_true rfl) (Nat.le_of_ble_eq_true rfl) (Nat.le_of_ble_eq_true rfl) (uX8_in (Int32.toInt64 a5) 0 3 m) ?_
      refine s_if_eq eX8_can_33 (fun h3 => ?_) (fun h3 => ?_)
      · skip
        rw [if_pos h3] at E
        refine s_iconst (v := (-1)) eX8_can_58 rfl ?_
        exact s_iret eX8_can_59 rfl ⟨rfl, by rw [E], rfl⟩
      · skip
        rw [if_neg h3] at E
        have hD := hD h3
        refine s_aload_n eX8_can_36 rfl rfl ?_
        refine s_iload_n eX8_can_37 rfl rfl ?_
        refine s_iload_n eX8_can_38 rfl rfl ?_
        refine s_iload_n eX8_can_39 rfl rfl ?_
        refine s_iload eX8_can_40 rfl ?_
        refine s_iload eX8_can_42 rfl ?_
        have q4 := hD
        refine n_callVi (As := [.int a1, .int a2, .int a3, .int a4, .int a5]) eX8_can_44 kX8_canCross lX8_262 rfl rfl shp_74 rfl rfl (Nat.le_of_ble_eq_true rfl) (Nat.le_of_ble_eq_true rfl) (Nat.le_of_ble_eq_true rfl) (uX8_canCross a1 a2 a3 a4 a5 m q4) ?_
        refine s_if_eq eX8_can_47 (fun h5 => ?_) (fun h5 => ?_)
        · skip
          rw [if_pos h5] at E
          refine s_iconst (v := 0) eX8_can_54 rfl ?_
          refine s_goto eX8_can_55 ?_
          exact s_iret eX8_can_59 rfl ⟨rfl, by rw [E], rfl⟩
        · skip
          rw [if_neg h5] at E
          refine s_iconst (v := 1) eX8_can_50 rfl ?_
          refine s_goto eX8_can_51 ?_
          exact s_iret eX8_can_59 rfl ⟨rfl, by rw [E], rfl⟩
