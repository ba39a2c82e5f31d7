/-! X8_in X8_feed X8_end X8_byteAt X8_fails X8_nameHere X8_step X8_other X8_bank X8_oneOf X8_hasRoom X8_readBridge X8_readOne -/
theorem uX8_in (a0 : Int64) (a2 : Int64) (a4 : Int64) (m : ax_M) : ax_NM 0 Y8_in [.long a0, .long a2, .long a4] m (fun r m1 => r = some (.int (F8_in a0 a2 a4 m)) ∧ m1 = m) := by
  have E : F8_in a0 a2 a4 m = (if (lg_cmp a0 a2) < 0 then 0 else (if 0 < (lg_cmp a0 a4) then 0 else 1)) := rfl
  show ax_N 0 Y8_in 0 [some (.long a0), none, some (.long a2), none, some (.long a4), none] [] m _
  refine s_lload_n eX8_in_0 rfl rfl ?_
  refine s_lload_n eX8_in_1 rfl rfl ?_
  refine s_lcmp eX8_in_2 ?_
  refine s_if_lt eX8_in_3 (fun h1 => ?_) (fun h1 => ?_)
  · skip
    rw [if_pos h1] at E
    refine s_iconst (v := 0) eX8_in_17 rfl ?_
    exact s_zret eX8_in_18 rfl (by first | exact Or.inl rfl | exact Or.inr rfl | (split <;> simp) | simp) ⟨rfl, by rw [E], rfl⟩
  · skip
    rw [if_neg h1] at E
    refine s_lload_n eX8_in_6 rfl rfl ?_
    refine s_lload eX8_in_7 rfl ?_
    refine s_lcmp eX8_in_9 ?_
    refine s_if_gt eX8_in_10 (fun h2 => ?_) (fun h2 => ?_)
    · skip
      rw [if_pos h2] at E
      refine s_iconst (v := 0) eX8_in_17 rfl ?_
      exact s_zret eX8_in_18 rfl (by first | exact Or.inl rfl | exact Or.inr rfl | (split <;> simp) | simp) ⟨rfl, by rw [E], rfl⟩
    · skip
      rw [if_neg h2] at E
      refine s_iconst (v := 1) eX8_in_13 rfl ?_
      refine s_goto eX8_in_14 ?_
      exact s_zret eX8_in_18 rfl (by first | exact Or.inl rfl | exact Or.inr rfl | (split <;> simp) | simp) ⟨rfl, by rw [E], rfl⟩
theorem clX8_feed_19 (a1 : Int64) {P : Option Value → ax_M → Prop} : ∀ (n : Nat) (v3 : Int32) (m : ax_M), E8_feed_19 a1 n v3 m → (ax_N 0 Y8_feed 56 [some (.ref 74), some (.long a1), none, some (.int ((L8_feed_19 a1 n v3 m).1))] [] ((L8_feed_19 a1 n v3 m).2) P) → ax_N 0 Y8_feed 19 [some (.ref 74), some (.long a1), none, some (.int v3)] [] m P := by
  intro n
  induction n with
  | zero => intro v3 m hD; exact absurd hD id
  | succ n ih =>
    intro v3 m hD hx
    have E : L8_feed_19 a1 (n + 1) v3 m = (if v3 < 0 then (v3, m) else L8_feed_19 a1 n (v3 + (-8)) (ax_up (ax_up m 81 (Int32.toNatClampNeg (m 74 22)) ((Int64.toInt32 (a1 >>> (Int32.toInt64 v3 &&& (63 : Int64)))) &&& 255)) 74 22 (((ax_up m 81 (Int32.toNatClampNeg (m 74 22)) ((Int64.toInt32 (a1 >>> (Int32.toInt64 v3 &&& (63 : Int64)))) &&& 255)) 74 22) + 1))) := by rw [L8_feed_19]
    have hD : ((¬ (v3 < 0) → ((vp_in (m 74 22) 320) ∧ (E8_feed_19 a1 n (v3 + (-8)) (ax_up (ax_up m 81 (Int32.toNatClampNeg (m 74 22)) ((Int64.toInt32 (a1 >>> (Int32.toInt64 v3 &&& (63 : Int64)))) &&& 255)) 74 22 (((ax_up m 81 (Int32.toNatClampNeg (m 74 22)) ((Int64.toInt32 (a1 >>> (Int32.toInt64 v3 &&& (63 : Int64)))) &&& 255)) 74 22) + 1)))))) := hD
    refine s_iload_n eX8_feed_19 rfl rfl ?_
    refine s_if_lt eX8_feed_20 (fun h1 => ?_) (fun h1 => ?_)
    · skip
      rw [if_pos h1] at E
      rw [E] at hx
      exact hx
    · skip
      rw [if_neg h1] at E
      have hD := hD h1
      refine s_aload_n eX8_feed_23 rfl rfl ?_
      refine s_getr (q := 81) eX8_feed_24 fX8_35 shp_74 rfl ?_
      refine s_aload_n eX8_feed_27 rfl rfl ?_
      refine s_geti eX8_feed_28 fX8_84 shp_74 rfl ?_
      refine s_lload_n eX8_feed_31 rfl rfl ?_
      refine s_iload_n eX8_feed_32 rfl rfl ?_
      refine s_lshr eX8_feed_33 ?_
      refine s_l2i eX8_feed_34 ?_
      refine s_sipush (v := 255) eX8_feed_35 rfl ?_
      refine s_iand eX8_feed_38 ?_
      obtain ⟨q2, hD⟩ := hD
      refine s_iast eX8_feed_39 shp_81 q2 ?_
      refine s_aload_n eX8_feed_40 rfl rfl ?_
      refine s_dup eX8_feed_41 rfl ?_
      refine s_geti eX8_feed_42 fX8_84 shp_74 rfl ?_
      refine s_iconst (v := 1) eX8_feed_45 rfl ?_
      refine s_iadd eX8_feed_46 ?_
      refine s_puti eX8_feed_47 fX8_84 pX8_22 rfl rfl shp_74 rfl ?_
      refine s_iinc (v := v3 + (-8)) (ls' := [some (.ref 74), some (.long a1), none, some (.int (v3 + (-8)))]) eX8_feed_50 rfl rfl rfl rfl ?_
      refine s_goto eX8_feed_53 ?_
      rw [E] at hx
      exact ih (v3 + (-8)) ((ax_up (ax_up m 81 (Int32.toNatClampNeg (m 74 22)) ((Int64.toInt32 (a1 >>> (Int32.toInt64 v3 &&& (63 : Int64)))) &&& 255)) 74 22 (((ax_up m 81 (Int32.toNatClampNeg (m 74 22)) ((Int64.toInt32 (a1 >>> (Int32.toInt64 v3 &&& (63 : Int64)))) &&& 255)) 74 22) + 1))) hD hx
theorem uX8_feed (a1 : Int64) (m : ax_M) (hD : D8_feed a1 m) : ax_NM 0 Y8_feed [.ref 74, .long a1] m (fun r m1 => r = some (.int (F8_feed a1 m).1) ∧ m1 = (F8_feed a1 m).2) := by
  have E : F8_feed a1 m = (if ((m 74 22) + 8) ≤ 320 then ((L8_feed_19 a1 64 56 m).2 74 22, (L8_feed_19 a1 64 56 m).2) else ((-3), m)) := rfl
  unfold D8_feed at hD
  show ax_N 0 Y8_feed 0 [some (.ref 74), some (.long a1), none, none] [] m _
  refine s_aload_n eX8_feed_0 rfl rfl ?_
  refine s_geti eX8_feed_1 fX8_84 shp_74 rfl ?_
  refine s_bipush (v := 8) eX8_feed_4 rfl ?_
  refine s_iadd eX8_feed_6 ?_
  refine s_sipush (v := 320) eX8_feed_7 rfl ?_
  refine s_icmp_le eX8_feed_10 (fun h1 => ?_) (fun h1 => ?_)
  · skip
    rw [if_pos h1] at E
    have hD := hD h1
    refine s_bipush (v := 56) eX8_feed_16 rfl ?_
    refine s_istore_n (ls' := [some (.ref 74), some (.long a1), none, some (.int 56)]) eX8_feed_18 rfl rfl rfl ?_
    have q2 := hD
    refine clX8_feed_19 a1 64 56 m q2 ?_
    refine s_aload_n eX8_feed_56 rfl rfl ?_
    refine s_geti eX8_feed_57 fX8_84 shp_74 rfl ?_
    exact s_iret eX8_feed_60 rfl ⟨rfl, by rw [E], by rw [E]⟩
  · skip
    rw [if_neg h1] at E
    refine s_bipush (v := (-3)) eX8_feed_13 rfl ?_
    exact s_iret eX8_feed_15 rfl ⟨rfl, by rw [E], by rw [E]⟩
theorem uX8_end (a1 : Int32) (m : ax_M) : ax_NM 1 Y8_end [.ref 74, .int a1] m (fun r m1 => r = some (.int (F8_end a1 m).1) ∧ m1 = (F8_end a1 m).2) := by
  have E : F8_end a1 m = (if (F8_in (Int32.toInt64 a1) 0 (Int32.toInt64 (m 74 22)) m) = 0 then ((-1), m) else (m 74 22, (ax_up m 74 22 a1))) := rfl
  show ax_N 1 Y8_end 0 [some (.ref 74), some (.int a1), none] [] m _
  refine s_iload_n eX8_end_0 rfl rfl ?_
  refine s_i2l eX8_end_1 ?_
  refine s_lconst (v := 0) eX8_end_2 rfl ?_
  refine s_aload_n eX8_end_3 rfl rfl ?_
  refine s_geti eX8_end_4 fX8_84 shp_74 rfl ?_
  refine s_i2l eX8_end_7 ?_
  refine n_callSi (As := [.long (Int32.toInt64 a1), .long 0, .long (Int32.toInt64 (m 74 22))]) eX8_end_8 kX8_in lX8_87 rfl rfl (Nat.le_of_ble_eq_true rfl) (Nat.le_of_ble_eq_true rfl) (Nat.le_of_ble_eq_true rfl) (uX8_in (Int32.toInt64 a1) 0 (Int32.toInt64 (m 74 22)) m) ?_
  refine s_if_ne eX8_end_11 (fun h1 => ?_) (fun h1 => ?_)
  · skip
    rw [if_neg h1] at E
    refine s_aload_n eX8_end_16 rfl rfl ?_
    refine s_geti eX8_end_17 fX8_84 shp_74 rfl ?_
    refine s_istore_n (ls' := [some (.ref 74), some (.int a1), some (.int (m 74 22))]) eX8_end_20 rfl rfl rfl ?_
    refine s_aload_n eX8_end_21 rfl rfl ?_
    refine s_iload_n eX8_end_22 rfl rfl ?_
    refine s_puti eX8_end_23 fX8_84 pX8_22 rfl rfl shp_74 rfl ?_
    refine s_iload_n eX8_end_26 rfl rfl ?_
    exact s_iret eX8_end_27 rfl ⟨rfl, by rw [E], by rw [E]⟩
  · skip
    rw [if_pos h1] at E
    refine s_iconst (v := (-1)) eX8_end_14 rfl ?_
    exact s_iret eX8_end_15 rfl ⟨rfl, by rw [E], by rw [E]⟩
theorem uX8_byteAt (a1 : Int32) (m : ax_M) (hD : D8_byteAt a1 m) : ax_NM 0 Y8_byteAt [.ref 74, .int a1] m (fun r m1 => r = some (.int (F8_byteAt a1 m)) ∧ m1 = m) := by
  have E : F8_byteAt a1 m = (if (m 74 22) ≤ a1 then ((-4)) else (m 81 (Int32.toNatClampNeg a1))) := rfl
  unfold D8_byteAt at hD
  show ax_N 0 Y8_byteAt 0 [some (.ref 74), some (.int a1)] [] m _
  refine s_iload_n eX8_byteAt_0 rfl rfl ?_
  refine s_aload_n eX8_byteAt_1 rfl rfl ?_
  refine s_geti eX8_byteAt_2 fX8_84 shp_74 rfl ?_
  refine s_icmp_ge eX8_byteAt_5 (fun h1 => ?_) (fun h1 => ?_)
  · skip
    rw [if_pos h1] at E
    refine s_bipush (v := (-4)) eX8_byteAt_17 rfl ?_
    exact s_iret eX8_byteAt_19 rfl ⟨rfl, by rw [E], rfl⟩
  · skip
    rw [if_neg h1] at E
    have hD := hD h1
    refine s_aload_n eX8_byteAt_8 rfl rfl ?_
    refine s_getr (q := 81) eX8_byteAt_9 fX8_35 shp_74 rfl ?_
    refine s_iload_n eX8_byteAt_12 rfl rfl ?_
    have q2 := hD
    refine s_iald eX8_byteAt_13 shp_81 q2 ?_
    refine s_goto eX8_byteAt_14 ?_
    exact s_iret eX8_byteAt_19 rfl ⟨rfl, by rw [E], rfl⟩
theorem uX8_fails (a1 : Int32) (m : ax_M) : ax_NM 0 Y8_fails [.ref 74, .int a1] m (fun r m1 => r = none ∧ m1 = F8_fails a1 m) := by
  have E : F8_fails a1 m = (if (m 74 24) = 0 then (ax_up (ax_up m 74 24 a1) 74 25 ((ax_up m 74 24 a1) 74 27)) else m) := rfl
  show ax_N 0 Y8_fails 0 [some (.ref 74), some (.int a1)] [] m _
  refine s_aload_n eX8_fails_0 rfl rfl ?_
  refine s_geti eX8_fails_1 fX8_91 shp_74 rfl ?_
  refine s_if_ne eX8_fails_4 (fun h1 => ?_) (fun h1 => ?_)
  · skip
    rw [if_neg h1] at E
    exact s_vret eX8_fails_20 rfl ⟨rfl, rfl, by rw [E]⟩
  · skip
    rw [if_pos h1] at E
    refine s_aload_n eX8_fails_7 rfl rfl ?_
    refine s_iload_n eX8_fails_8 rfl rfl ?_
    refine s_puti eX8_fails_9 fX8_91 pX8_24 rfl rfl shp_74 rfl ?_
    refine s_aload_n eX8_fails_12 rfl rfl ?_
    refine s_aload_n eX8_fails_13 rfl rfl ?_
    refine s_geti eX8_fails_14 fX8_94 shp_74 rfl ?_
    refine s_puti eX8_fails_17 fX8_97 pX8_25 rfl rfl shp_74 rfl ?_
    exact s_vret eX8_fails_20 rfl ⟨rfl, rfl, by rw [E]⟩
theorem clX8_nameHere_51 {P : Option Value → ax_M → Prop} : ∀ (n : Nat) (v1 v2 v3 : Int32) (m : ax_M), E8_nameHere_51 n v1 v2 v3 m → (ax_N 1 Y8_nameHere 106 [some (.ref 74), some (.int v1), some (.int ((L8_nameHere_51 n v1 v2 v3 m).1)), some (.int ((L8_nameHere_51 n v1 v2 v3 m).2))] [] m P) → ax_N 1 Y8_nameHere 51 [some (.ref 74), some (.int v1), some (.int v2), some (.int v3)] [] m P := by
  intro n
  induction n with
  | zero => intro v1 v2 v3 m hD; exact absurd hD id
  | succ n ih =>
    intro v1 v2 v3 m hD hx
    have E : L8_nameHere_51 (n + 1) v1 v2 v3 m = (if v2 = 0 then (v2, v3) else (if ((m 74 26) - (m 74 27)) ≤ v3 then (v2, v3) else L8_nameHere_51 n v1 (if (F8_byteAt ((m 74 27) + v3) m) = (m 83 (Int32.toNatClampNeg ((m 82 (Int32.toNatClampNeg v1)) + v3))) then (1 : Int32) else 0) (v3 + 1) m)) := by rw [L8_nameHere_51]
    have hD : ((¬ (v2 = 0) → ((¬ (((m 74 26) - (m 74 27)) ≤ v3) → ((D8_byteAt ((m 74 27) + v3) m) ∧ (vp_in v1 12) ∧ (vp_in ((m 82 (Int32.toNatClampNeg v1)) + v3) 54) ∧ (E8_nameHere_51 n v1 (if (F8_byteAt ((m 74 27) + v3) m) = (m 83 (Int32.toNatClampNeg ((m 82 (Int32.toNatClampNeg v1)) + v3))) then (1 : Int32) else 0) (v3 + 1) m)))))) := hD
    refine s_iload_n eX8_nameHere_51 rfl rfl ?_
    refine s_if_eq eX8_nameHere_52 (fun h1 => ?_) (fun h1 => ?_)
    · skip
      rw [if_pos h1] at E
      rw [E] at hx
      exact hx
    · skip
      rw [if_neg h1] at E
      have hD := hD h1
      refine s_iload_n eX8_nameHere_55 rfl rfl ?_
      refine s_aload_n eX8_nameHere_56 rfl rfl ?_
      refine s_geti eX8_nameHere_57 fX8_103 shp_74 rfl ?_
      refine s_aload_n eX8_nameHere_60 rfl rfl ?_
      refine s_geti eX8_nameHere_61 fX8_94 shp_74 rfl ?_
      refine s_isub eX8_nameHere_64 ?_
      refine s_icmp_ge eX8_nameHere_65 (fun h2 => ?_) (fun h2 => ?_)
      · skip
        rw [if_pos h2] at E
        rw [E] at hx
        exact hx
      · skip
        rw [if_neg h2] at E
        have hD := hD h2
        refine s_aload_n eX8_nameHere_68 rfl rfl ?_
        refine s_aload_n eX8_nameHere_69 rfl rfl ?_
        refine s_geti eX8_nameHere_70 fX8_94 shp_74 rfl ?_
        refine s_iload_n eX8_nameHere_73 rfl rfl ?_
        refine s_iadd eX8_nameHere_74 ?_
        obtain ⟨q3, hD⟩ := hD
        refine n_callVi (As := [.int ((m 74 27) + v3)]) eX8_nameHere_75 kX8_byteAt lX8_106 rfl rfl shp_74 rfl rfl (Nat.le_of_ble_eq_true rfl) (Nat.le_of_ble_eq_true rfl) (Nat.le_of_ble_eq_true rfl) (uX8_byteAt ((m 74 27) + v3) m q3) ?_
        refine s_aload_n eX8_nameHere_78 rfl rfl ?_
        refine s_getr (q := 83) eX8_nameHere_79 fX8_41 shp_74 rfl ?_
        refine s_aload_n eX8_nameHere_82 rfl rfl ?_
        refine s_getr (q := 82) eX8_nameHere_83 fX8_38 shp_74 rfl ?_
        refine s_iload_n eX8_nameHere_86 rfl rfl ?_
        obtain ⟨q4, hD⟩ := hD
        refine s_iald eX8_nameHere_87 shp_82 q4 ?_
        refine s_iload_n eX8_nameHere_88 rfl rfl ?_
        refine s_iadd eX8_nameHere_89 ?_
        obtain ⟨q5, hD⟩ := hD
        refine s_iald eX8_nameHere_90 shp_83 q5 ?_
        have J6 : ax_N 1 Y8_nameHere 99 [some (.ref 74), some (.int v1), some (.int v2), some (.int v3)] [.int (if (F8_byteAt ((m 74 27) + v3) m) = (m 83 (Int32.toNatClampNeg ((m 82 (Int32.toNatClampNeg v1)) + v3))) then (1 : Int32) else 0)] m P := by
          refine s_istore_n (ls' := [some (.ref 74), some (.int v1), some (.int (if (F8_byteAt ((m 74 27) + v3) m) = (m 83 (Int32.toNatClampNeg ((m 82 (Int32.toNatClampNeg v1)) + v3))) then (1 : Int32) else 0)), some (.int v3)]) eX8_nameHere_99 rfl rfl rfl ?_
          refine s_iinc (v := v3 + 1) (ls' := [some (.ref 74), some (.int v1), some (.int (if (F8_byteAt ((m 74 27) + v3) m) = (m 83 (Int32.toNatClampNeg ((m 82 (Int32.toNatClampNeg v1)) + v3))) then (1 : Int32) else 0)), some (.int (v3 + 1))]) eX8_nameHere_100 rfl rfl rfl rfl ?_
          refine s_goto eX8_nameHere_103 ?_
          rw [E] at hx
          exact ih v1 (if (F8_byteAt ((m 74 27) + v3) m) = (m 83 (Int32.toNatClampNeg ((m 82 (Int32.toNatClampNeg v1)) + v3))) then (1 : Int32) else 0) (v3 + 1) m hD hx
        refine s_icmp_ne eX8_nameHere_91 (fun h7 => ?_) (fun h7 => ?_)
        · skip
          refine s_iconst (v := 0) eX8_nameHere_98 rfl ?_
          exact ax_eqN rfl (by rw [show (if (F8_byteAt ((m 74 27) + v3) m) = (m 83 (Int32.toNatClampNeg ((m 82 (Int32.toNatClampNeg v1)) + v3))) then (1 : Int32) else 0 : Int32) = 0 by rw [if_neg h7]]) rfl J6
        · skip
          refine s_iconst (v := 1) eX8_nameHere_94 rfl ?_
          refine s_goto eX8_nameHere_95 ?_
          exact ax_eqN rfl (by rw [show (if (F8_byteAt ((m 74 27) + v3) m) = (m 83 (Int32.toNatClampNeg ((m 82 (Int32.toNatClampNeg v1)) + v3))) then (1 : Int32) else 0 : Int32) = 1 by rw [if_pos h7]]) rfl J6
theorem clX8_nameHere_2 {P : Option Value → ax_M → Prop} : ∀ (n : Nat) (v1 : Int32) (m : ax_M), E8_nameHere_2 n v1 m → (∀ r, (L8_nameHere_2 n v1 m).1 = some r → P (some (.int r)) m) → ((L8_nameHere_2 n v1 m).1 = none → ax_N 1 Y8_nameHere 118 [some (.ref 74), some (.int ((L8_nameHere_2 n v1 m).2)), none, none] [] m P) → ax_N 1 Y8_nameHere 2 [some (.ref 74), some (.int v1), none, none] [] m P := by
  intro n
  induction n with
  | zero => intro v1 m hD; exact absurd hD id
  | succ n ih =>
    intro v1 m hD hr hx
    have E : L8_nameHere_2 (n + 1) v1 m = (if 11 ≤ v1 then (none, v1) else (if (m 74 28) = 1 then (if ((L8_nameHere_51 64 v1 (if ((m 74 26) - (m 74 27)) = ((m 82 (Int32.toNatClampNeg (v1 + 1))) - (m 82 (Int32.toNatClampNeg v1))) then (1 : Int32) else 0) 0 m).1) = 0 then L8_nameHere_2 n (v1 + 1) m else (some v1, v1)) else (none, v1))) := by rw [L8_nameHere_2]
    have hD : ((¬ (11 ≤ v1) → ((((m 74 28) = 1) → ((vp_in (v1 + 1) 12) ∧ (vp_in v1 12) ∧ (E8_nameHere_51 64 v1 (if ((m 74 26) - (m 74 27)) = ((m 82 (Int32.toNatClampNeg (v1 + 1))) - (m 82 (Int32.toNatClampNeg v1))) then (1 : Int32) else 0) 0 m) ∧ ((((L8_nameHere_51 64 v1 (if ((m 74 26) - (m 74 27)) = ((m 82 (Int32.toNatClampNeg (v1 + 1))) - (m 82 (Int32.toNatClampNeg v1))) then (1 : Int32) else 0) 0 m).1) = 0) → ((E8_nameHere_2 n (v1 + 1) m)))))))) := hD
    refine s_iload_n eX8_nameHere_2 rfl rfl ?_
    refine s_bipush (v := 11) eX8_nameHere_3 rfl ?_
    refine s_icmp_ge eX8_nameHere_5 (fun h1 => ?_) (fun h1 => ?_)
    · skip
      rw [if_pos h1] at E
      rw [E] at hx
      exact hx rfl
    · skip
      rw [if_neg h1] at E
      have hD := hD h1
      refine s_aload_n eX8_nameHere_8 rfl rfl ?_
      refine s_geti eX8_nameHere_9 fX8_100 shp_74 rfl ?_
      refine s_iconst (v := 1) eX8_nameHere_12 rfl ?_
      refine s_icmp_ne eX8_nameHere_13 (fun h2 => ?_) (fun h2 => ?_)
      · skip
        rw [if_neg h2] at E
        rw [E] at hx
        exact hx rfl
      · skip
        rw [if_pos h2] at E
        have hD := hD h2
        refine s_aload_n eX8_nameHere_16 rfl rfl ?_
        refine s_geti eX8_nameHere_17 fX8_103 shp_74 rfl ?_
        refine s_aload_n eX8_nameHere_20 rfl rfl ?_
        refine s_geti eX8_nameHere_21 fX8_94 shp_74 rfl ?_
        refine s_isub eX8_nameHere_24 ?_
        refine s_aload_n eX8_nameHere_25 rfl rfl ?_
        refine s_getr (q := 82) eX8_nameHere_26 fX8_38 shp_74 rfl ?_
        refine s_iload_n eX8_nameHere_29 rfl rfl ?_
        refine s_iconst (v := 1) eX8_nameHere_30 rfl ?_
        refine s_iadd eX8_nameHere_31 ?_
        obtain ⟨q3, hD⟩ := hD
        refine s_iald eX8_nameHere_32 shp_82 q3 ?_
        refine s_aload_n eX8_nameHere_33 rfl rfl ?_
        refine s_getr (q := 82) eX8_nameHere_34 fX8_38 shp_74 rfl ?_
        refine s_iload_n eX8_nameHere_37 rfl rfl ?_
        obtain ⟨q4, hD⟩ := hD
        refine s_iald eX8_nameHere_38 shp_82 q4 ?_
        refine s_isub eX8_nameHere_39 ?_
        have J5 : ax_N 1 Y8_nameHere 48 [some (.ref 74), some (.int v1), none, none] [.int (if ((m 74 26) - (m 74 27)) = ((m 82 (Int32.toNatClampNeg (v1 + 1))) - (m 82 (Int32.toNatClampNeg v1))) then (1 : Int32) else 0)] m P := by
          refine s_istore_n (ls' := [some (.ref 74), some (.int v1), some (.int (if ((m 74 26) - (m 74 27)) = ((m 82 (Int32.toNatClampNeg (v1 + 1))) - (m 82 (Int32.toNatClampNeg v1))) then (1 : Int32) else 0)), none]) eX8_nameHere_48 rfl rfl rfl ?_
          refine s_iconst (v := 0) eX8_nameHere_49 rfl ?_
          refine s_istore_n (ls' := [some (.ref 74), some (.int v1), some (.int (if ((m 74 26) - (m 74 27)) = ((m 82 (Int32.toNatClampNeg (v1 + 1))) - (m 82 (Int32.toNatClampNeg v1))) then (1 : Int32) else 0)), some (.int 0)]) eX8_nameHere_50 rfl rfl rfl ?_
          obtain ⟨q6, hD⟩ := hD
          refine clX8_nameHere_51 64 v1 (if ((m 74 26) - (m 74 27)) = ((m 82 (Int32.toNatClampNeg (v1 + 1))) - (m 82 (Int32.toNatClampNeg v1))) then (1 : Int32) else 0) 0 m q6 ?_
          refine s_iload_n eX8_nameHere_106 rfl rfl ?_
          refine s_if_eq eX8_nameHere_107 (fun h7 => ?_) (fun h7 => ?_)
          · skip
            rw [if_pos h7] at E
            have hD := hD h7
            refine s_iinc (v := v1 + 1) (ls' := [some (.ref 74), some (.int (v1 + 1)), some (.int ((L8_nameHere_51 64 v1 (if ((m 74 26) - (m 74 27)) = ((m 82 (Int32.toNatClampNeg (v1 + 1))) - (m 82 (Int32.toNatClampNeg v1))) then (1 : Int32) else 0) 0 m).1)), some (.int ((L8_nameHere_51 64 v1 (if ((m 74 26) - (m 74 27)) = ((m 82 (Int32.toNatClampNeg (v1 + 1))) - (m 82 (Int32.toNatClampNeg v1))) then (1 : Int32) else 0) 0 m).2))]) eX8_nameHere_112 rfl rfl rfl rfl ?_
            refine s_goto eX8_nameHere_115 ?_
            refine ax_forget (ls' := [some (.ref 74), some (.int (v1 + 1)), none, none]) rfl ?_
            rw [E] at hr hx
            exact ih (v1 + 1) m hD hr hx
          · skip
            rw [if_neg h7] at E
            refine s_iload_n eX8_nameHere_110 rfl rfl ?_
            rw [E] at hr
            exact s_iret eX8_nameHere_111 rfl ⟨rfl, hr _ rfl⟩
        refine s_icmp_ne eX8_nameHere_40 (fun h8 => ?_) (fun h8 => ?_)
        · skip
          refine s_iconst (v := 0) eX8_nameHere_47 rfl ?_
          exact ax_eqN rfl (by rw [show (if ((m 74 26) - (m 74 27)) = ((m 82 (Int32.toNatClampNeg (v1 + 1))) - (m 82 (Int32.toNatClampNeg v1))) then (1 : Int32) else 0 : Int32) = 0 by rw [if_neg h8]]) rfl J5
        · skip
          refine s_iconst (v := 1) eX8_nameHere_43 rfl ?_
          refine s_goto eX8_nameHere_44 ?_
          exact ax_eqN rfl (by rw [show (if ((m 74 26) - (m 74 27)) = ((m 82 (Int32.toNatClampNeg (v1 + 1))) - (m 82 (Int32.toNatClampNeg v1))) then (1 : Int32) else 0 : Int32) = 1 by rw [if_pos h8]]) rfl J5
theorem uX8_nameHere (m : ax_M) (hD : D8_nameHere m) : ax_NM 1 Y8_nameHere [.ref 74] m (fun r m1 => r = some (.int (F8_nameHere m)) ∧ m1 = m) := by
  have E : F8_nameHere m = (if (L8_nameHere_2 64 0 m).1 = none then ((-4)) else (((L8_nameHere_2 64 0 m).1).getD 0)) := rfl
  unfold D8_nameHere at hD
  show ax_N 1 Y8_nameHere 0 [some (.ref 74), none, none, none] [] m _
  refine s_iconst (v := 0) eX8_nameHere_0 rfl ?_
  refine s_istore_n (ls' := [some (.ref 74), some (.int 0), none, none]) eX8_nameHere_1 rfl rfl rfl ?_
  have q1 := hD
  refine clX8_nameHere_2 64 0 m q1 (fun x2 h3 => ?_) (fun h3 => ?_)
  · skip
    rw [if_neg (by rw [h3]; exact fun hh => by cases hh), h3] at E
    exact ⟨by rw [E]; rfl, rfl⟩
  · skip
    rw [if_pos h3] at E
    refine s_bipush (v := (-4)) eX8_nameHere_118 rfl ?_
    exact s_iret eX8_nameHere_120 rfl ⟨rfl, by rw [E], rfl⟩
theorem clX8_step_8 {P : Option Value → ax_M → Prop} : ∀ (n : Nat) (m : ax_M), E8_step_8 n  m → (ax_N 1 Y8_step 34 [some (.ref 74), none] [] ((L8_step_8 n  m)) P) → ax_N 1 Y8_step 8 [some (.ref 74), none] [] m P := by
  intro n
  induction n with
  | zero => intro  m hD; exact absurd hD id
  | succ n ih =>
    intro  m hD hx
    have E : L8_step_8 (n + 1)  m = (if (F8_byteAt (m 74 26) m) = 32 then L8_step_8 n  (ax_up m 74 26 ((m 74 26) + 1)) else m) := by rw [L8_step_8]
    have hD : ((D8_byteAt (m 74 26) m) ∧ (((F8_byteAt (m 74 26) m) = 32) → ((E8_step_8 n  (ax_up m 74 26 ((m 74 26) + 1)))))) := hD
    refine s_aload_n eX8_step_8 rfl rfl ?_
    refine s_aload_n eX8_step_9 rfl rfl ?_
    refine s_geti eX8_step_10 fX8_103 shp_74 rfl ?_
    obtain ⟨q1, hD⟩ := hD
    refine n_callVi (As := [.int (m 74 26)]) eX8_step_13 kX8_byteAt lX8_106 rfl rfl shp_74 rfl rfl (Nat.le_of_ble_eq_true rfl) (Nat.le_of_ble_eq_true rfl) (Nat.le_of_ble_eq_true rfl) (uX8_byteAt (m 74 26) m q1) ?_
    refine s_bipush (v := 32) eX8_step_16 rfl ?_
    refine s_icmp_ne eX8_step_18 (fun h2 => ?_) (fun h2 => ?_)
    · skip
      rw [if_neg h2] at E
      rw [E] at hx
      exact hx
    · skip
      rw [if_pos h2] at E
      have hD := hD h2
      refine s_aload_n eX8_step_21 rfl rfl ?_
      refine s_dup eX8_step_22 rfl ?_
      refine s_geti eX8_step_23 fX8_103 shp_74 rfl ?_
      refine s_iconst (v := 1) eX8_step_26 rfl ?_
      refine s_iadd eX8_step_27 ?_
      refine s_puti eX8_step_28 fX8_103 pX8_26 rfl rfl shp_74 rfl ?_
      refine s_goto eX8_step_31 ?_
      rw [E] at hx
      exact ih  ((ax_up m 74 26 ((m 74 26) + 1))) hD hx
theorem cK8_step_258 (v1 : Int32) (m : ax_M) {P : Option Value → ax_M → Prop} (hP : P none (K8_step_258 v1 m)) : ax_N 1 Y8_step 258 [some (.ref 74), some (.int v1)] [] m P := by
  have E : K8_step_258 v1 m = (if v1 = 59 then m else (F8_fails 1 m)) := rfl
  refine s_iload_n eX8_step_258 rfl rfl ?_
  refine s_bipush (v := 59) eX8_step_259 rfl ?_
  refine s_icmp_eq eX8_step_261 (fun h1 => ?_) (fun h1 => ?_)
  · skip
    rw [if_pos h1] at E
    rw [E] at hP
    exact s_vret eX8_step_269 rfl ⟨rfl, hP⟩
  · skip
    rw [if_neg h1] at E
    refine s_aload_n eX8_step_264 rfl rfl ?_
    refine s_iconst (v := 1) eX8_step_265 rfl ?_
    refine n_callVv (As := [.int 1]) eX8_step_266 kX8_fails lX8_121 rfl rfl shp_74 rfl rfl (Nat.le_of_ble_eq_true rfl) (Nat.le_of_ble_eq_true rfl) (Nat.le_of_ble_eq_true rfl) (uX8_fails 1 m) ?_
    rw [E] at hP
    exact s_vret eX8_step_269 rfl ⟨rfl, hP⟩
theorem clX8_step_140 {P : Option Value → ax_M → Prop} : ∀ (n : Nat) (v1 : Int32) (m : ax_M), E8_step_140 n v1 m → (ax_N 1 Y8_step 217 [some (.ref 74), some (.int v1)] [] ((L8_step_140 n v1 m)) P) → ax_N 1 Y8_step 140 [some (.ref 74), some (.int v1)] [] m P := by
  intro n
  induction n with
  | zero => intro v1 m hD; exact absurd hD id
  | succ n ih =>
    intro v1 m hD hx
    have E : L8_step_140 (n + 1) v1 m = (if (F8_in (Int32.toInt64 (F8_byteAt (m 74 26) m)) 48 57 m) = 0 then m else L8_step_140 n v1 (ax_up (ax_up m 74 29 (if 2 ≤ ((m 74 26) - (m 74 27)) then (m 74 29 : Int32) else ((10 * (m 74 29)) + (F8_byteAt (m 74 26) m)) - 48)) 74 26 (((ax_up m 74 29 (if 2 ≤ ((m 74 26) - (m 74 27)) then (m 74 29 : Int32) else ((10 * (m 74 29)) + (F8_byteAt (m 74 26) m)) - 48)) 74 26) + 1))) := by rw [L8_step_140]
    have hD : ((D8_byteAt (m 74 26) m) ∧ (¬ ((F8_in (Int32.toInt64 (F8_byteAt (m 74 26) m)) 48 57 m) = 0) → ((¬ (2 ≤ ((m 74 26) - (m 74 27))) → ((D8_byteAt (m 74 26) m))) ∧ (E8_step_140 n v1 (ax_up (ax_up m 74 29 (if 2 ≤ ((m 74 26) - (m 74 27)) then (m 74 29 : Int32) else ((10 * (m 74 29)) + (F8_byteAt (m 74 26) m)) - 48)) 74 26 (((ax_up m 74 29 (if 2 ≤ ((m 74 26) - (m 74 27)) then (m 74 29 : Int32) else ((10 * (m 74 29)) + (F8_byteAt (m 74 26) m)) - 48)) 74 26) + 1)))))) := hD
    refine s_aload_n eX8_step_140 rfl rfl ?_
    refine s_aload_n eX8_step_141 rfl rfl ?_
    refine s_geti eX8_step_142 fX8_103 shp_74 rfl ?_
    obtain ⟨q1, hD⟩ := hD
    refine n_callVi (As := [.int (m 74 26)]) eX8_step_145 kX8_byteAt lX8_106 rfl rfl shp_74 rfl rfl (Nat.le_of_ble_eq_true rfl) (Nat.le_of_ble_eq_true rfl) (Nat.le_of_ble_eq_true rfl) (uX8_byteAt (m 74 26) m q1) ?_
    refine s_i2l eX8_step_148 ?_
    refine s_ldc2 eX8_step_149 qX8_117 ?_
    refine s_ldc2 eX8_step_152 qX8_119 ?_
    refine n_callSi (As := [.long (Int32.toInt64 (F8_byteAt (m 74 26) m)), .long 48, .long 57]) eX8_step_155 kX8_in lX8_87 rfl rfl (Nat.le_of_ble_eq_true rfl) (Nat.le_of_ble_eq_true rfl) (Nat.le_of_ble_eq_true rfl) (uX8_in (Int32.toInt64 (F8_byteAt (m 74 26) m)) 48 57 m) ?_
    refine s_if_eq eX8_step_158 (fun h2 => ?_) (fun h2 => ?_)
    · skip
      rw [if_pos h2] at E
      rw [E] at hx
      exact hx
    · skip
      rw [if_neg h2] at E
      have hD := hD h2
      refine s_aload_n eX8_step_161 rfl rfl ?_
      refine s_aload_n eX8_step_162 rfl rfl ?_
      refine s_geti eX8_step_163 fX8_103 shp_74 rfl ?_
      refine s_aload_n eX8_step_166 rfl rfl ?_
      refine s_geti eX8_step_167 fX8_94 shp_74 rfl ?_
      refine s_isub eX8_step_170 ?_
      refine s_iconst (v := 2) eX8_step_171 rfl ?_
      obtain ⟨s3, hD⟩ := hD
      have J4 : ax_N 1 Y8_step 201 [some (.ref 74), some (.int v1)] [.int (if 2 ≤ ((m 74 26) - (m 74 27)) then (m 74 29 : Int32) else ((10 * (m 74 29)) + (F8_byteAt (m 74 26) m)) - 48), .ref 74] m P := by
        refine s_puti eX8_step_201 fX8_110 pX8_29 rfl rfl shp_74 rfl ?_
        refine s_aload_n eX8_step_204 rfl rfl ?_
        refine s_dup eX8_step_205 rfl ?_
        refine s_geti eX8_step_206 fX8_103 shp_74 rfl ?_
        refine s_iconst (v := 1) eX8_step_209 rfl ?_
        refine s_iadd eX8_step_210 ?_
        refine s_puti eX8_step_211 fX8_103 pX8_26 rfl rfl shp_74 rfl ?_
        refine s_goto eX8_step_214 ?_
        rw [E] at hx
        exact ih v1 ((ax_up (ax_up m 74 29 (if 2 ≤ ((m 74 26) - (m 74 27)) then (m 74 29 : Int32) else ((10 * (m 74 29)) + (F8_byteAt (m 74 26) m)) - 48)) 74 26 (((ax_up m 74 29 (if 2 ≤ ((m 74 26) - (m 74 27)) then (m 74 29 : Int32) else ((10 * (m 74 29)) + (F8_byteAt (m 74 26) m)) - 48)) 74 26) + 1))) hD hx
      have hD := s3
      refine s_icmp_ge eX8_step_172 (fun h5 => ?_) (fun h5 => ?_)
      · skip
        refine s_aload_n eX8_step_197 rfl rfl ?_
        refine s_geti eX8_step_198 fX8_110 shp_74 rfl ?_
        exact ax_eqN rfl (by rw [show (if 2 ≤ ((m 74 26) - (m 74 27)) then (m 74 29 : Int32) else ((10 * (m 74 29)) + (F8_byteAt (m 74 26) m)) - 48 : Int32) = m 74 29 by rw [if_pos h5]]) rfl J4
      · skip
        have hD := hD h5
        refine s_bipush (v := 10) eX8_step_175 rfl ?_
        refine s_aload_n eX8_step_177 rfl rfl ?_
        refine s_geti eX8_step_178 fX8_110 shp_74 rfl ?_
        refine s_imul eX8_step_181 ?_
        refine s_aload_n eX8_step_182 rfl rfl ?_
        refine s_aload_n eX8_step_183 rfl rfl ?_
        refine s_geti eX8_step_184 fX8_103 shp_74 rfl ?_
        have q6 := hD
        refine n_callVi (As := [.int (m 74 26)]) eX8_step_187 kX8_byteAt lX8_106 rfl rfl shp_74 rfl rfl (Nat.le_of_ble_eq_true rfl) (Nat.le_of_ble_eq_true rfl) (Nat.le_of_ble_eq_true rfl) (uX8_byteAt (m 74 26) m q6) ?_
        refine s_iadd eX8_step_190 ?_
        refine s_bipush (v := 48) eX8_step_191 rfl ?_
        refine s_isub eX8_step_193 ?_
        refine s_goto eX8_step_194 ?_
        exact ax_eqN rfl (by rw [show (if 2 ≤ ((m 74 26) - (m 74 27)) then (m 74 29 : Int32) else ((10 * (m 74 29)) + (F8_byteAt (m 74 26) m)) - 48 : Int32) = ((10 * (m 74 29)) + (F8_byteAt (m 74 26) m)) - 48 by rw [if_neg h5]]) rfl J4
theorem clX8_step_84 {P : Option Value → ax_M → Prop} : ∀ (n : Nat) (v1 : Int32) (m : ax_M), E8_step_84 n v1 m → (ax_N 1 Y8_step 118 [some (.ref 74), some (.int v1)] [] ((L8_step_84 n v1 m)) P) → ax_N 1 Y8_step 84 [some (.ref 74), some (.int v1)] [] m P := by
  intro n
  induction n with
  | zero => intro v1 m hD; exact absurd hD id
  | succ n ih =>
    intro v1 m hD hx
    have E : L8_step_84 (n + 1) v1 m = (if (F8_in (Int32.toInt64 (F8_byteAt (m 74 26) m)) 97 122 m) = 0 then m else L8_step_84 n v1 (ax_up m 74 26 ((m 74 26) + 1))) := by rw [L8_step_84]
    have hD : ((D8_byteAt (m 74 26) m) ∧ (¬ ((F8_in (Int32.toInt64 (F8_byteAt (m 74 26) m)) 97 122 m) = 0) → ((E8_step_84 n v1 (ax_up m 74 26 ((m 74 26) + 1)))))) := hD
    refine s_aload_n eX8_step_84 rfl rfl ?_
    refine s_aload_n eX8_step_85 rfl rfl ?_
    refine s_geti eX8_step_86 fX8_103 shp_74 rfl ?_
    obtain ⟨q1, hD⟩ := hD
    refine n_callVi (As := [.int (m 74 26)]) eX8_step_89 kX8_byteAt lX8_106 rfl rfl shp_74 rfl rfl (Nat.le_of_ble_eq_true rfl) (Nat.le_of_ble_eq_true rfl) (Nat.le_of_ble_eq_true rfl) (uX8_byteAt (m 74 26) m q1) ?_
    refine s_i2l eX8_step_92 ?_
    refine s_ldc2 eX8_step_93 qX8_113 ?_
    refine s_ldc2 eX8_step_96 qX8_115 ?_
    refine n_callSi (As := [.long (Int32.toInt64 (F8_byteAt (m 74 26) m)), .long 97, .long 122]) eX8_step_99 kX8_in lX8_87 rfl rfl (Nat.le_of_ble_eq_true rfl) (Nat.le_of_ble_eq_true rfl) (Nat.le_of_ble_eq_true rfl) (uX8_in (Int32.toInt64 (F8_byteAt (m 74 26) m)) 97 122 m) ?_
    refine s_if_eq eX8_step_102 (fun h2 => ?_) (fun h2 => ?_)
    · skip
      rw [if_pos h2] at E
      rw [E] at hx
      exact hx
    · skip
      rw [if_neg h2] at E
      have hD := hD h2
      refine s_aload_n eX8_step_105 rfl rfl ?_
      refine s_dup eX8_step_106 rfl ?_
      refine s_geti eX8_step_107 fX8_103 shp_74 rfl ?_
      refine s_iconst (v := 1) eX8_step_110 rfl ?_
      refine s_iadd eX8_step_111 ?_
      refine s_puti eX8_step_112 fX8_103 pX8_26 rfl rfl shp_74 rfl ?_
      refine s_goto eX8_step_115 ?_
      rw [E] at hx
      exact ih v1 ((ax_up m 74 26 ((m 74 26) + 1))) hD hx
theorem cK8_step_56 (v1 : Int32) (m : ax_M) {P : Option Value → ax_M → Prop} (hD : HK8_step_56 v1 m) (hP : P none (K8_step_56 v1 m)) : ax_N 1 Y8_step 56 [some (.ref 74), some (.int v1)] [] m P := by
  have E : K8_step_56 v1 m = (if v1 = ((-4)) then (ax_up m 74 28 0) else (if (F8_in (Int32.toInt64 v1) 97 122 m) = 0 then (if (F8_in (Int32.toInt64 v1) 48 57 m) = 0 then (K8_step_258 v1 (ax_up (ax_up m 74 28 3) 74 26 (((ax_up m 74 28 3) 74 26) + 1))) else (if (((ax_up (L8_step_140 330 v1 m) 74 28 2) 74 26) - ((ax_up (L8_step_140 330 v1 m) 74 28 2) 74 27)) ≤ 2 then (ax_up (L8_step_140 330 v1 m) 74 28 2) else (F8_fails 1 (ax_up (L8_step_140 330 v1 m) 74 28 2)))) else (ax_up (L8_step_84 330 v1 m) 74 28 1))) := rfl
  unfold HK8_step_56 at hD
  refine s_iload_n eX8_step_56 rfl rfl ?_
  refine s_bipush (v := (-4)) eX8_step_57 rfl ?_
  refine s_icmp_ne eX8_step_59 (fun h1 => ?_) (fun h1 => ?_)
  · skip
    rw [if_neg h1] at E
    have hD := hD h1
    refine s_iload_n eX8_step_70 rfl rfl ?_
    refine s_i2l eX8_step_71 ?_
    refine s_ldc2 eX8_step_72 qX8_113 ?_
    refine s_ldc2 eX8_step_75 qX8_115 ?_
    refine n_callSi (As := [.long (Int32.toInt64 v1), .long 97, .long 122]) eX8_step_78 kX8_in lX8_87 rfl rfl (Nat.le_of_ble_eq_true rfl) (Nat.le_of_ble_eq_true rfl) (Nat.le_of_ble_eq_true rfl) (uX8_in (Int32.toInt64 v1) 97 122 m) ?_
    refine s_if_eq eX8_step_81 (fun h2 => ?_) (fun h2 => ?_)
    · skip
      rw [if_pos h2] at E
      have hD := hD.1 h2
      refine s_iload_n eX8_step_126 rfl rfl ?_
      refine s_i2l eX8_step_127 ?_
      refine s_ldc2 eX8_step_128 qX8_117 ?_
      refine s_ldc2 eX8_step_131 qX8_119 ?_
      refine n_callSi (As := [.long (Int32.toInt64 v1), .long 48, .long 57]) eX8_step_134 kX8_in lX8_87 rfl rfl (Nat.le_of_ble_eq_true rfl) (Nat.le_of_ble_eq_true rfl) (Nat.le_of_ble_eq_true rfl) (uX8_in (Int32.toInt64 v1) 48 57 m) ?_
      refine s_if_eq eX8_step_137 (fun h3 => ?_) (fun h3 => ?_)
      · skip
        rw [if_pos h3] at E
        refine s_aload_n eX8_step_243 rfl rfl ?_
        refine s_iconst (v := 3) eX8_step_244 rfl ?_
        refine s_puti eX8_step_245 fX8_100 pX8_28 rfl rfl shp_74 rfl ?_
        refine s_aload_n eX8_step_248 rfl rfl ?_
        refine s_dup eX8_step_249 rfl ?_
        refine s_geti eX8_step_250 fX8_103 shp_74 rfl ?_
        refine s_iconst (v := 1) eX8_step_253 rfl ?_
        refine s_iadd eX8_step_254 ?_
        refine s_puti eX8_step_255 fX8_103 pX8_26 rfl rfl shp_74 rfl ?_
        refine cK8_step_258 v1 ((ax_up (ax_up m 74 28 3) 74 26 (((ax_up m 74 28 3) 74 26) + 1))) ?_
        rw [E] at hP
        exact hP
      · skip
        rw [if_neg h3] at E
        have hD := hD h3
        have q4 := hD
        refine clX8_step_140 330 v1 m q4 ?_
        refine s_aload_n eX8_step_217 rfl rfl ?_
        refine s_iconst (v := 2) eX8_step_218 rfl ?_
        refine s_puti eX8_step_219 fX8_100 pX8_28 rfl rfl shp_74 rfl ?_
        refine s_aload_n eX8_step_222 rfl rfl ?_
        refine s_geti eX8_step_223 fX8_103 shp_74 rfl ?_
        refine s_aload_n eX8_step_226 rfl rfl ?_
        refine s_geti eX8_step_227 fX8_94 shp_74 rfl ?_
        refine s_isub eX8_step_230 ?_
        refine s_iconst (v := 2) eX8_step_231 rfl ?_
        refine s_icmp_le eX8_step_232 (fun h5 => ?_) (fun h5 => ?_)
        · skip
          rw [if_pos h5] at E
          rw [E] at hP
          exact s_vret eX8_step_269 rfl ⟨rfl, hP⟩
        · skip
          rw [if_neg h5] at E
          refine s_aload_n eX8_step_235 rfl rfl ?_
          refine s_iconst (v := 1) eX8_step_236 rfl ?_
          refine n_callVv (As := [.int 1]) eX8_step_237 kX8_fails lX8_121 rfl rfl shp_74 rfl rfl (Nat.le_of_ble_eq_true rfl) (Nat.le_of_ble_eq_true rfl) (Nat.le_of_ble_eq_true rfl) (uX8_fails 1 ((ax_up (L8_step_140 330 v1 m) 74 28 2))) ?_
          refine s_goto eX8_step_240 ?_
          rw [E] at hP
          exact s_vret eX8_step_269 rfl ⟨rfl, hP⟩
    · skip
      rw [if_neg h2] at E
      have hD := hD.2 h2
      have q6 := hD
      refine clX8_step_84 330 v1 m q6 ?_
      refine s_aload_n eX8_step_118 rfl rfl ?_
      refine s_iconst (v := 1) eX8_step_119 rfl ?_
      refine s_puti eX8_step_120 fX8_100 pX8_28 rfl rfl shp_74 rfl ?_
      refine s_goto eX8_step_123 ?_
      rw [E] at hP
      exact s_vret eX8_step_269 rfl ⟨rfl, hP⟩
  · skip
    rw [if_pos h1] at E
    refine s_aload_n eX8_step_62 rfl rfl ?_
    refine s_iconst (v := 0) eX8_step_63 rfl ?_
    refine s_puti eX8_step_64 fX8_100 pX8_28 rfl rfl shp_74 rfl ?_
    refine s_goto eX8_step_67 ?_
    rw [E] at hP
    exact s_vret eX8_step_269 rfl ⟨rfl, hP⟩
theorem uX8_step (m : ax_M) (hD : D8_step m) : ax_NM 1 Y8_step [.ref 74] m (fun r m1 => r = none ∧ m1 = F8_step m) := by
  have E : F8_step m = (if (m 74 24) ≤ 0 then (K8_step_56 (F8_byteAt ((ax_up (L8_step_8 330 m) 74 27 ((L8_step_8 330 m) 74 26)) 74 26) (ax_up (L8_step_8 330 m) 74 27 ((L8_step_8 330 m) 74 26))) (ax_up (ax_up (L8_step_8 330 m) 74 27 ((L8_step_8 330 m) 74 26)) 74 29 0)) else m) := rfl
  unfold D8_step at hD
  show ax_N 1 Y8_step 0 [some (.ref 74), none] [] m _
  refine s_aload_n eX8_step_0 rfl rfl ?_
  refine s_geti eX8_step_1 fX8_91 shp_74 rfl ?_
  refine s_if_le eX8_step_4 (fun h1 => ?_) (fun h1 => ?_)
  · skip
    rw [if_pos h1] at E
    have hD := hD h1
    obtain ⟨q2, hD⟩ := hD
    refine clX8_step_8 330 m q2 ?_
    refine s_aload_n eX8_step_34 rfl rfl ?_
    refine s_aload_n eX8_step_35 rfl rfl ?_
    refine s_geti eX8_step_36 fX8_103 shp_74 rfl ?_
    refine s_puti eX8_step_39 fX8_94 pX8_27 rfl rfl shp_74 rfl ?_
    refine s_aload_n eX8_step_42 rfl rfl ?_
    refine s_aload_n eX8_step_43 rfl rfl ?_
    refine s_geti eX8_step_44 fX8_103 shp_74 rfl ?_
    obtain ⟨q3, hD⟩ := hD
    refine n_callVi (As := [.int ((ax_up (L8_step_8 330 m) 74 27 ((L8_step_8 330 m) 74 26)) 74 26)]) eX8_step_47 kX8_byteAt lX8_106 rfl rfl shp_74 rfl rfl (Nat.le_of_ble_eq_true rfl) (Nat.le_of_ble_eq_true rfl) (Nat.le_of_ble_eq_true rfl) (uX8_byteAt ((ax_up (L8_step_8 330 m) 74 27 ((L8_step_8 330 m) 74 26)) 74 26) ((ax_up (L8_step_8 330 m) 74 27 ((L8_step_8 330 m) 74 26))) q3) ?_
    refine s_istore_n (ls' := [some (.ref 74), some (.int (F8_byteAt ((ax_up (L8_step_8 330 m) 74 27 ((L8_step_8 330 m) 74 26)) 74 26) (ax_up (L8_step_8 330 m) 74 27 ((L8_step_8 330 m) 74 26))))]) eX8_step_50 rfl rfl rfl ?_
    refine s_aload_n eX8_step_51 rfl rfl ?_
    refine s_iconst (v := 0) eX8_step_52 rfl ?_
    refine s_puti eX8_step_53 fX8_110 pX8_29 rfl rfl shp_74 rfl ?_
    refine cK8_step_56 (F8_byteAt ((ax_up (L8_step_8 330 m) 74 27 ((L8_step_8 330 m) 74 26)) 74 26) (ax_up (L8_step_8 330 m) 74 27 ((L8_step_8 330 m) 74 26))) ((ax_up (ax_up (L8_step_8 330 m) 74 27 ((L8_step_8 330 m) 74 26)) 74 29 0)) hD ?_
    exact ⟨rfl, by rw [E]⟩
  · skip
    rw [if_neg h1] at E
    exact s_vret eX8_step_7 rfl ⟨rfl, rfl, by rw [E]⟩
theorem cK8_other_80 (v1 v2 v3 : Int32) (m : ax_M) {P : Option Value → ax_M → Prop} (hD : HK8_other_80 v1 v2 v3 m) (hP : P (some (.int (K8_other_80 v1 v2 v3 m).1)) (K8_other_80 v1 v2 v3 m).2) : ax_N 2 Y8_other 80 [some (.ref 74), some (.int v1), some (.int v2), some (.int v3), none] [] m P := by
  have E : K8_other_80 v1 v2 v3 m = (if (m 74 24) = 0 then (m 74 29 : Int32) else v1, (F8_step m)) := rfl
  unfold HK8_other_80 at hD
  refine s_aload_n eX8_other_80 rfl rfl ?_
  refine s_geti eX8_other_81 fX8_91 shp_74 rfl ?_
  have J1 : ax_N 2 Y8_other 95 [some (.ref 74), some (.int v1), some (.int v2), some (.int v3), none] [.int (if (m 74 24) = 0 then (m 74 29 : Int32) else v1)] m P := by
    refine s_istore (ls' := [some (.ref 74), some (.int v1), some (.int v2), some (.int v3), some (.int (if (m 74 24) = 0 then (m 74 29 : Int32) else v1))]) eX8_other_95 rfl rfl ?_
    refine s_aload_n eX8_other_97 rfl rfl ?_
    have q2 := hD
    refine n_callVv (As := []) eX8_other_98 kX8_step lX8_125 rfl rfl shp_74 rfl rfl (Nat.le_of_ble_eq_true rfl) (Nat.le_of_ble_eq_true rfl) (Nat.le_of_ble_eq_true rfl) (uX8_step m q2) ?_
    refine s_iload eX8_other_101 rfl ?_
    rw [E] at hP
    exact s_iret eX8_other_103 rfl ⟨rfl, hP⟩
  refine s_if_ne eX8_other_84 (fun h3 => ?_) (fun h3 => ?_)
  · skip
    refine s_iload_n eX8_other_94 rfl rfl ?_
    exact ax_eqN rfl (by rw [show (if (m 74 24) = 0 then (m 74 29 : Int32) else v1 : Int32) = v1 by rw [if_neg h3]]) rfl J1
  · skip
    refine s_aload_n eX8_other_87 rfl rfl ?_
    refine s_geti eX8_other_88 fX8_110 shp_74 rfl ?_
    refine s_goto eX8_other_91 ?_
    exact ax_eqN rfl (by rw [show (if (m 74 24) = 0 then (m 74 29 : Int32) else v1 : Int32) = m 74 29 by rw [if_pos h3]]) rfl J1
theorem cK8_other_47 (v1 v2 v3 : Int32) (m : ax_M) {P : Option Value → ax_M → Prop} (hD : HK8_other_47 v1 v2 v3 m) (hP : P (some (.int (K8_other_47 v1 v2 v3 m).1)) (K8_other_47 v1 v2 v3 m).2) : ax_N 2 Y8_other 47 [some (.ref 74), some (.int v1), some (.int v2), some (.int v3), none] [] m P := by
  have E : K8_other_47 v1 v2 v3 m = (K8_other_80 v1 v2 v3 (if (m 74 24) = 0 then (if 31 ≤ (m 74 29) then m else (if ((v3 >>> ((m 74 29) &&& (31 : Int32))) &&& 1) = 1 then (F8_fails 4 m) else m)) else m)) := rfl
  unfold HK8_other_47 at hD
  refine s_aload_n eX8_other_47 rfl rfl ?_
  refine s_geti eX8_other_48 fX8_91 shp_74 rfl ?_
  have J1 : ax_N 2 Y8_other 80 [some (.ref 74), some (.int v1), some (.int v2), some (.int v3), none] [] ((if (m 74 24) = 0 then (if 31 ≤ (m 74 29) then m else (if ((v3 >>> ((m 74 29) &&& (31 : Int32))) &&& 1) = 1 then (F8_fails 4 m) else m)) else m)) P := by
    refine cK8_other_80 v1 v2 v3 ((if (m 74 24) = 0 then (if 31 ≤ (m 74 29) then m else (if ((v3 >>> ((m 74 29) &&& (31 : Int32))) &&& 1) = 1 then (F8_fails 4 m) else m)) else m)) hD ?_
    rw [E] at hP
    exact hP
  refine s_if_ne eX8_other_51 (fun h2 => ?_) (fun h2 => ?_)
  · skip
    exact ax_eqN rfl rfl (by rw [show ((if (m 74 24) = 0 then (if 31 ≤ (m 74 29) then m else (if ((v3 >>> ((m 74 29) &&& (31 : Int32))) &&& 1) = 1 then (F8_fails 4 m) else m)) else m) : ax_M) = m by rw [if_neg h2]]) J1
  · skip
    refine s_aload_n eX8_other_54 rfl rfl ?_
    refine s_geti eX8_other_55 fX8_110 shp_74 rfl ?_
    refine s_bipush (v := 31) eX8_other_58 rfl ?_
    refine s_icmp_ge eX8_other_60 (fun h3 => ?_) (fun h3 => ?_)
    · skip
      exact ax_eqN rfl rfl (by rw [show ((if (m 74 24) = 0 then (if 31 ≤ (m 74 29) then m else (if ((v3 >>> ((m 74 29) &&& (31 : Int32))) &&& 1) = 1 then (F8_fails 4 m) else m)) else m) : ax_M) = m by rw [if_pos h2, if_pos h3]]) J1
    · skip
      refine s_iload_n eX8_other_63 rfl rfl ?_
      refine s_aload_n eX8_other_64 rfl rfl ?_
      refine s_geti eX8_other_65 fX8_110 shp_74 rfl ?_
      refine s_ishr eX8_other_68 ?_
      refine s_iconst (v := 1) eX8_other_69 rfl ?_
      refine s_iand eX8_other_70 ?_
      refine s_iconst (v := 1) eX8_other_71 rfl ?_
      refine s_icmp_ne eX8_other_72 (fun h4 => ?_) (fun h4 => ?_)
      · skip
        exact ax_eqN rfl rfl (by rw [show ((if (m 74 24) = 0 then (if 31 ≤ (m 74 29) then m else (if ((v3 >>> ((m 74 29) &&& (31 : Int32))) &&& 1) = 1 then (F8_fails 4 m) else m)) else m) : ax_M) = m by rw [if_pos h2, if_neg h3, if_neg h4]]) J1
      · skip
        refine s_aload_n eX8_other_75 rfl rfl ?_
        refine s_iconst (v := 4) eX8_other_76 rfl ?_
        refine n_callVv (As := [.int 4]) eX8_other_77 kX8_fails lX8_121 rfl rfl shp_74 rfl rfl (Nat.le_of_ble_eq_true rfl) (Nat.le_of_ble_eq_true rfl) (Nat.le_of_ble_eq_true rfl) (uX8_fails 4 m) ?_
        exact ax_eqN rfl rfl (by rw [show ((if (m 74 24) = 0 then (if 31 ≤ (m 74 29) then m else (if ((v3 >>> ((m 74 29) &&& (31 : Int32))) &&& 1) = 1 then (F8_fails 4 m) else m)) else m) : ax_M) = (F8_fails 4 m) by rw [if_pos h2, if_neg h3, if_pos h4]]) J1
theorem cK8_other_20 (v1 v2 v3 : Int32) (m : ax_M) {P : Option Value → ax_M → Prop} (hD : HK8_other_20 v1 v2 v3 m) (hP : P (some (.int (K8_other_20 v1 v2 v3 m).1)) (K8_other_20 v1 v2 v3 m).2) : ax_N 2 Y8_other 20 [some (.ref 74), some (.int v1), some (.int v2), some (.int v3), none] [] m P := by
  have E : K8_other_20 v1 v2 v3 m = (K8_other_47 v1 v2 v3 (if (m 74 24) = 0 then (if (F8_in (Int32.toInt64 (m 74 29)) (Int32.toInt64 v1) (Int32.toInt64 v2) m) = 0 then (F8_fails 3 m) else m) else m)) := rfl
  unfold HK8_other_20 at hD
  refine s_aload_n eX8_other_20 rfl rfl ?_
  refine s_geti eX8_other_21 fX8_91 shp_74 rfl ?_
  have J1 : ax_N 2 Y8_other 47 [some (.ref 74), some (.int v1), some (.int v2), some (.int v3), none] [] ((if (m 74 24) = 0 then (if (F8_in (Int32.toInt64 (m 74 29)) (Int32.toInt64 v1) (Int32.toInt64 v2) m) = 0 then (F8_fails 3 m) else m) else m)) P := by
    refine cK8_other_47 v1 v2 v3 ((if (m 74 24) = 0 then (if (F8_in (Int32.toInt64 (m 74 29)) (Int32.toInt64 v1) (Int32.toInt64 v2) m) = 0 then (F8_fails 3 m) else m) else m)) hD ?_
    rw [E] at hP
    exact hP
  refine s_if_ne eX8_other_24 (fun h2 => ?_) (fun h2 => ?_)
  · skip
    exact ax_eqN rfl rfl (by rw [show ((if (m 74 24) = 0 then (if (F8_in (Int32.toInt64 (m 74 29)) (Int32.toInt64 v1) (Int32.toInt64 v2) m) = 0 then (F8_fails 3 m) else m) else m) : ax_M) = m by rw [if_neg h2]]) J1
  · skip
    refine s_aload_n eX8_other_27 rfl rfl ?_
    refine s_geti eX8_other_28 fX8_110 shp_74 rfl ?_
    refine s_i2l eX8_other_31 ?_
    refine s_iload_n eX8_other_32 rfl rfl ?_
    refine s_i2l eX8_other_33 ?_
    refine s_iload_n eX8_other_34 rfl rfl ?_
    refine s_i2l eX8_other_35 ?_
    refine n_callSi (As := [.long (Int32.toInt64 (m 74 29)), .long (Int32.toInt64 v1), .long (Int32.toInt64 v2)]) eX8_other_36 kX8_in lX8_87 rfl rfl (Nat.le_of_ble_eq_true rfl) (Nat.le_of_ble_eq_true rfl) (Nat.le_of_ble_eq_true rfl) (uX8_in (Int32.toInt64 (m 74 29)) (Int32.toInt64 v1) (Int32.toInt64 v2) m) ?_
    refine s_if_ne eX8_other_39 (fun h3 => ?_) (fun h3 => ?_)
    · skip
      exact ax_eqN rfl rfl (by rw [show ((if (m 74 24) = 0 then (if (F8_in (Int32.toInt64 (m 74 29)) (Int32.toInt64 v1) (Int32.toInt64 v2) m) = 0 then (F8_fails 3 m) else m) else m) : ax_M) = m by rw [if_pos h2, if_neg h3]]) J1
    · skip
      refine s_aload_n eX8_other_42 rfl rfl ?_
      refine s_iconst (v := 3) eX8_other_43 rfl ?_
      refine n_callVv (As := [.int 3]) eX8_other_44 kX8_fails lX8_121 rfl rfl shp_74 rfl rfl (Nat.le_of_ble_eq_true rfl) (Nat.le_of_ble_eq_true rfl) (Nat.le_of_ble_eq_true rfl) (uX8_fails 3 m) ?_
      exact ax_eqN rfl rfl (by rw [show ((if (m 74 24) = 0 then (if (F8_in (Int32.toInt64 (m 74 29)) (Int32.toInt64 v1) (Int32.toInt64 v2) m) = 0 then (F8_fails 3 m) else m) else m) : ax_M) = (F8_fails 3 m) by rw [if_pos h2, if_pos h3]]) J1
theorem uX8_other (a1 : Int32) (a2 : Int32) (a3 : Int32) (m : ax_M) (hD : D8_other a1 a2 a3 m) : ax_NM 2 Y8_other [.ref 74, .int a1, .int a2, .int a3] m (fun r m1 => r = some (.int (F8_other a1 a2 a3 m).1) ∧ m1 = (F8_other a1 a2 a3 m).2) := by
  have E : F8_other a1 a2 a3 m = (K8_other_20 a1 a2 a3 (if (m 74 24) = 0 then (if (m 74 28) = 2 then m else (F8_fails 2 m)) else m)) := rfl
  unfold D8_other at hD
  show ax_N 2 Y8_other 0 [some (.ref 74), some (.int a1), some (.int a2), some (.int a3), none] [] m _
  refine s_aload_n eX8_other_0 rfl rfl ?_
  refine s_geti eX8_other_1 fX8_91 shp_74 rfl ?_
  have J1 : ax_N 2 Y8_other 20 [some (.ref 74), some (.int a1), some (.int a2), some (.int a3), none] [] ((if (m 74 24) = 0 then (if (m 74 28) = 2 then m else (F8_fails 2 m)) else m)) (fun r m1 => r = some (.int (F8_other a1 a2 a3 m).1) ∧ m1 = (F8_other a1 a2 a3 m).2) := by
    refine cK8_other_20 a1 a2 a3 ((if (m 74 24) = 0 then (if (m 74 28) = 2 then m else (F8_fails 2 m)) else m)) hD ?_
    exact ⟨by rw [E], by rw [E]⟩
  refine s_if_ne eX8_other_4 (fun h2 => ?_) (fun h2 => ?_)
  · skip
    exact ax_eqN rfl rfl (by rw [show ((if (m 74 24) = 0 then (if (m 74 28) = 2 then m else (F8_fails 2 m)) else m) : ax_M) = m by rw [if_neg h2]]) J1
  · skip
    refine s_aload_n eX8_other_7 rfl rfl ?_
    refine s_geti eX8_other_8 fX8_100 shp_74 rfl ?_
    refine s_iconst (v := 2) eX8_other_11 rfl ?_
    refine s_icmp_eq eX8_other_12 (fun h3 => ?_) (fun h3 => ?_)
    · skip
      exact ax_eqN rfl rfl (by rw [show ((if (m 74 24) = 0 then (if (m 74 28) = 2 then m else (F8_fails 2 m)) else m) : ax_M) = m by rw [if_pos h2, if_pos h3]]) J1
    · skip
      refine s_aload_n eX8_other_15 rfl rfl ?_
      refine s_iconst (v := 2) eX8_other_16 rfl ?_
      refine n_callVv (As := [.int 2]) eX8_other_17 kX8_fails lX8_121 rfl rfl shp_74 rfl rfl (Nat.le_of_ble_eq_true rfl) (Nat.le_of_ble_eq_true rfl) (Nat.le_of_ble_eq_true rfl) (uX8_fails 2 m) ?_
      exact ax_eqN rfl rfl (by rw [show ((if (m 74 24) = 0 then (if (m 74 28) = 2 then m else (F8_fails 2 m)) else m) : ax_M) = (F8_fails 2 m) by rw [if_pos h2, if_neg h3]]) J1
theorem cK8_bank_28 (v1 v2 : Int32) (m : ax_M) {P : Option Value → ax_M → Prop} (hP : P (some (.int (K8_bank_28 v1 v2 m).1)) (K8_bank_28 v1 v2 m).2) : ax_N 3 Y8_bank 28 [some (.ref 74), some (.int v1), some (.int v2)] [] m P := by
  have E : K8_bank_28 v1 v2 m = (v2, m) := rfl
  refine s_iload_n eX8_bank_28 rfl rfl ?_
  rw [E] at hP
  exact s_iret eX8_bank_29 rfl ⟨rfl, hP⟩
theorem uX8_bank (a1 : Int32) (m : ax_M) (hD : D8_bank a1 m) : ax_NM 3 Y8_bank [.ref 74, .int a1] m (fun r m1 => r = some (.int (F8_bank a1 m).1) ∧ m1 = (F8_bank a1 m).2) := by
  have E : F8_bank a1 m = (K8_bank_28 a1 ((F8_other 0 3 a1 m).1) (ax_up (F8_other 0 3 a1 m).2 74 18 (if ((F8_other 0 3 a1 m).1) ≤ ((F8_other 0 3 a1 m).2 74 18) then ((F8_other 0 3 a1 m).2 74 18 : Int32) else (F8_other 0 3 a1 m).1))) := rfl
  unfold D8_bank at hD
  show ax_N 3 Y8_bank 0 [some (.ref 74), some (.int a1), none] [] m _
  refine s_aload_n eX8_bank_0 rfl rfl ?_
  refine s_iconst (v := 0) eX8_bank_1 rfl ?_
  refine s_iconst (v := 3) eX8_bank_2 rfl ?_
  refine s_iload_n eX8_bank_3 rfl rfl ?_
  have q1 := hD
  refine n_callVi (As := [.int 0, .int 3, .int a1]) eX8_bank_4 kX8_other lX8_128 rfl rfl shp_74 rfl rfl (Nat.le_of_ble_eq_true rfl) (Nat.le_of_ble_eq_true rfl) (Nat.le_of_ble_eq_true rfl) (uX8_other 0 3 a1 m q1) ?_
  refine s_istore_n (ls' := [some (.ref 74), some (.int a1), some (.int ((F8_other 0 3 a1 m).1))]) eX8_bank_7 rfl rfl rfl ?_
  refine s_aload_n eX8_bank_8 rfl rfl ?_
  refine s_iload_n eX8_bank_9 rfl rfl ?_
  refine s_aload_n eX8_bank_10 rfl rfl ?_
  refine s_geti eX8_bank_11 fX8_132 shp_74 rfl ?_
  have J2 : ax_N 3 Y8_bank 25 [some (.ref 74), some (.int a1), some (.int ((F8_other 0 3 a1 m).1))] [.int (if ((F8_other 0 3 a1 m).1) ≤ ((F8_other 0 3 a1 m).2 74 18) then ((F8_other 0 3 a1 m).2 74 18 : Int32) else (F8_other 0 3 a1 m).1), .ref 74] ((F8_other 0 3 a1 m).2) (fun r m1 => r = some (.int (F8_bank a1 m).1) ∧ m1 = (F8_bank a1 m).2) := by
    refine s_puti eX8_bank_25 fX8_132 pX8_18 rfl rfl shp_74 rfl ?_
    refine cK8_bank_28 a1 ((F8_other 0 3 a1 m).1) ((ax_up (F8_other 0 3 a1 m).2 74 18 (if ((F8_other 0 3 a1 m).1) ≤ ((F8_other 0 3 a1 m).2 74 18) then ((F8_other 0 3 a1 m).2 74 18 : Int32) else (F8_other 0 3 a1 m).1))) ?_
    exact ⟨by rw [E], by rw [E]⟩
  refine s_icmp_le eX8_bank_14 (fun h3 => ?_) (fun h3 => ?_)
  · skip
    refine s_aload_n eX8_bank_21 rfl rfl ?_
    refine s_geti eX8_bank_22 fX8_132 shp_74 rfl ?_
    exact ax_eqN rfl (by rw [show (if ((F8_other 0 3 a1 m).1) ≤ ((F8_other 0 3 a1 m).2 74 18) then ((F8_other 0 3 a1 m).2 74 18 : Int32) else (F8_other 0 3 a1 m).1 : Int32) = (F8_other 0 3 a1 m).2 74 18 by rw [if_pos h3]]) rfl J2
  · skip
    refine s_iload_n eX8_bank_17 rfl rfl ?_
    refine s_goto eX8_bank_18 ?_
    exact ax_eqN rfl (by rw [show (if ((F8_other 0 3 a1 m).1) ≤ ((F8_other 0 3 a1 m).2 74 18) then ((F8_other 0 3 a1 m).2 74 18 : Int32) else (F8_other 0 3 a1 m).1 : Int32) = (F8_other 0 3 a1 m).1 by rw [if_neg h3]]) rfl J2
theorem cK8_oneOf_28 (v1 v2 : Int32) (m : ax_M) {P : Option Value → ax_M → Prop} (hP : P (some (.int (K8_oneOf_28 v1 v2 m).1)) (K8_oneOf_28 v1 v2 m).2) : ax_N 3 Y8_oneOf 28 [some (.ref 74), some (.int v1), some (.int v2)] [] m P := by
  have E : K8_oneOf_28 v1 v2 m = (v2, m) := rfl
  refine s_iload_n eX8_oneOf_28 rfl rfl ?_
  rw [E] at hP
  exact s_iret eX8_oneOf_29 rfl ⟨rfl, hP⟩
theorem uX8_oneOf (a1 : Int32) (m : ax_M) (hD : D8_oneOf a1 m) : ax_NM 3 Y8_oneOf [.ref 74, .int a1] m (fun r m1 => r = some (.int (F8_oneOf a1 m).1) ∧ m1 = (F8_oneOf a1 m).2) := by
  have E : F8_oneOf a1 m = (K8_oneOf_28 a1 ((F8_other 0 5 a1 m).1) (ax_up (F8_other 0 5 a1 m).2 74 20 (if ((F8_other 0 5 a1 m).1) ≤ ((F8_other 0 5 a1 m).2 74 20) then ((F8_other 0 5 a1 m).2 74 20 : Int32) else (F8_other 0 5 a1 m).1))) := rfl
  unfold D8_oneOf at hD
  show ax_N 3 Y8_oneOf 0 [some (.ref 74), some (.int a1), none] [] m _
  refine s_aload_n eX8_oneOf_0 rfl rfl ?_
  refine s_iconst (v := 0) eX8_oneOf_1 rfl ?_
  refine s_iconst (v := 5) eX8_oneOf_2 rfl ?_
  refine s_iload_n eX8_oneOf_3 rfl rfl ?_
  have q1 := hD
  refine n_callVi (As := [.int 0, .int 5, .int a1]) eX8_oneOf_4 kX8_other lX8_128 rfl rfl shp_74 rfl rfl (Nat.le_of_ble_eq_true rfl) (Nat.le_of_ble_eq_true rfl) (Nat.le_of_ble_eq_true rfl) (uX8_other 0 5 a1 m q1) ?_
  refine s_istore_n (ls' := [some (.ref 74), some (.int a1), some (.int ((F8_other 0 5 a1 m).1))]) eX8_oneOf_7 rfl rfl rfl ?_
  refine s_aload_n eX8_oneOf_8 rfl rfl ?_
  refine s_iload_n eX8_oneOf_9 rfl rfl ?_
  refine s_aload_n eX8_oneOf_10 rfl rfl ?_
  refine s_geti eX8_oneOf_11 fX8_135 shp_74 rfl ?_
  have J2 : ax_N 3 Y8_oneOf 25 [some (.ref 74), some (.int a1), some (.int ((F8_other 0 5 a1 m).1))] [.int (if ((F8_other 0 5 a1 m).1) ≤ ((F8_other 0 5 a1 m).2 74 20) then ((F8_other 0 5 a1 m).2 74 20 : Int32) else (F8_other 0 5 a1 m).1), .ref 74] ((F8_other 0 5 a1 m).2) (fun r m1 => r = some (.int (F8_oneOf a1 m).1) ∧ m1 = (F8_oneOf a1 m).2) := by
    refine s_puti eX8_oneOf_25 fX8_135 pX8_20 rfl rfl shp_74 rfl ?_
    refine cK8_oneOf_28 a1 ((F8_other 0 5 a1 m).1) ((ax_up (F8_other 0 5 a1 m).2 74 20 (if ((F8_other 0 5 a1 m).1) ≤ ((F8_other 0 5 a1 m).2 74 20) then ((F8_other 0 5 a1 m).2 74 20 : Int32) else (F8_other 0 5 a1 m).1))) ?_
    exact ⟨by rw [E], by rw [E]⟩
  refine s_icmp_le eX8_oneOf_14 (fun h3 => ?_) (fun h3 => ?_)
  · skip
    refine s_aload_n eX8_oneOf_21 rfl rfl ?_
    refine s_geti eX8_oneOf_22 fX8_135 shp_74 rfl ?_
    exact ax_eqN rfl (by rw [show (if ((F8_other 0 5 a1 m).1) ≤ ((F8_other 0 5 a1 m).2 74 20) then ((F8_other 0 5 a1 m).2 74 20 : Int32) else (F8_other 0 5 a1 m).1 : Int32) = (F8_other 0 5 a1 m).2 74 20 by rw [if_pos h3]]) rfl J2
  · skip
    refine s_iload_n eX8_oneOf_17 rfl rfl ?_
    refine s_goto eX8_oneOf_18 ?_
    exact ax_eqN rfl (by rw [show (if ((F8_other 0 5 a1 m).1) ≤ ((F8_other 0 5 a1 m).2 74 20) then ((F8_other 0 5 a1 m).2 74 20 : Int32) else (F8_other 0 5 a1 m).1 : Int32) = (F8_other 0 5 a1 m).1 by rw [if_neg h3]]) rfl J2
theorem uX8_hasRoom (a1 : Int32) (a2 : Int32) (m : ax_M) (hD : D8_hasRoom a1 a2 m) : ax_NM 2 Y8_hasRoom [.ref 74, .int a1, .int a2] m (fun r m1 => r = some (.int (F8_hasRoom a1 a2 m).1) ∧ m1 = (F8_hasRoom a1 a2 m).2) := by
  have E : F8_hasRoom a1 a2 m = (if ((F8_step (if a1 = a2 then (F8_fails 5 m) else m)) 74 24) = 0 then (1, (F8_step (if a1 = a2 then (F8_fails 5 m) else m))) else (0, (F8_step (if a1 = a2 then (F8_fails 5 m) else m)))) := rfl
  unfold D8_hasRoom at hD
  show ax_N 2 Y8_hasRoom 0 [some (.ref 74), some (.int a1), some (.int a2)] [] m _
  refine s_iload_n eX8_hasRoom_0 rfl rfl ?_
  refine s_iload_n eX8_hasRoom_1 rfl rfl ?_
  have J1 : ax_N 2 Y8_hasRoom 10 [some (.ref 74), some (.int a1), some (.int a2)] [] ((if a1 = a2 then (F8_fails 5 m) else m)) (fun r m1 => r = some (.int (F8_hasRoom a1 a2 m).1) ∧ m1 = (F8_hasRoom a1 a2 m).2) := by
    refine s_aload_n eX8_hasRoom_10 rfl rfl ?_
    have q2 := hD
    refine n_callVv (As := []) eX8_hasRoom_11 kX8_step lX8_125 rfl rfl shp_74 rfl rfl (Nat.le_of_ble_eq_true rfl) (Nat.le_of_ble_eq_true rfl) (Nat.le_of_ble_eq_true rfl) (uX8_step ((if a1 = a2 then (F8_fails 5 m) else m)) q2) ?_
    refine s_aload_n eX8_hasRoom_14 rfl rfl ?_
    refine s_geti eX8_hasRoom_15 fX8_91 shp_74 rfl ?_
    refine s_if_ne eX8_hasRoom_18 (fun h3 => ?_) (fun h3 => ?_)
    · skip
      rw [if_neg h3] at E
      refine s_iconst (v := 0) eX8_hasRoom_25 rfl ?_
      exact s_zret eX8_hasRoom_26 rfl (by first | exact Or.inl rfl | exact Or.inr rfl | (split <;> simp) | simp) ⟨rfl, by rw [E], by rw [E]⟩
    · skip
      rw [if_pos h3] at E
      refine s_iconst (v := 1) eX8_hasRoom_21 rfl ?_
      refine s_goto eX8_hasRoom_22 ?_
      exact s_zret eX8_hasRoom_26 rfl (by first | exact Or.inl rfl | exact Or.inr rfl | (split <;> simp) | simp) ⟨rfl, by rw [E], by rw [E]⟩
  refine s_icmp_ne eX8_hasRoom_2 (fun h4 => ?_) (fun h4 => ?_)
  · skip
    exact ax_eqN rfl rfl (by rw [show ((if a1 = a2 then (F8_fails 5 m) else m) : ax_M) = m by rw [if_neg h4]]) J1
  · skip
    refine s_aload_n eX8_hasRoom_5 rfl rfl ?_
    refine s_iconst (v := 5) eX8_hasRoom_6 rfl ?_
    refine n_callVv (As := [.int 5]) eX8_hasRoom_7 kX8_fails lX8_121 rfl rfl shp_74 rfl rfl (Nat.le_of_ble_eq_true rfl) (Nat.le_of_ble_eq_true rfl) (Nat.le_of_ble_eq_true rfl) (uX8_fails 5 m) ?_
    exact ax_eqN rfl rfl (by rw [show ((if a1 = a2 then (F8_fails 5 m) else m) : ax_M) = (F8_fails 5 m) by rw [if_pos h4]]) J1
theorem cK8_readBridge_78 (m : ax_M) {P : Option Value → ax_M → Prop} (hP : P none (K8_readBridge_78 m)) : ax_N 4 Y8_readBridge 78 [some (.ref 74)] [] m P := by
  have E : K8_readBridge_78 m = (ax_up m 74 11 ((m 74 11) + 1)) := rfl
  refine s_aload_n eX8_readBridge_78 rfl rfl ?_
  refine s_dup eX8_readBridge_79 rfl ?_
  refine s_geti eX8_readBridge_80 fX8_138 shp_74 rfl ?_
  refine s_iconst (v := 1) eX8_readBridge_83 rfl ?_
  refine s_iadd eX8_readBridge_84 ?_
  refine s_puti eX8_readBridge_85 fX8_138 pX8_11 rfl rfl shp_74 rfl ?_
  rw [E] at hP
  exact s_vret eX8_readBridge_88 rfl ⟨rfl, hP⟩
theorem cK8_readBridge_57 (w0 w1 : Int32) (m : ax_M) {P : Option Value → ax_M → Prop} (hD : HK8_readBridge_57 w0 w1 m) (hP : P none (K8_readBridge_57 w0 w1 m)) : ax_N 4 Y8_readBridge 57 [some (.ref 74)] [.int w0, .int w1, .ref 79] m P := by
  have E : K8_readBridge_57 w0 w1 m = (K8_readBridge_78 (ax_up (F8_other 0 20 0 (ax_up m 79 (Int32.toNatClampNeg w1) w0)).2 78 (Int32.toNatClampNeg (28 + ((ax_up m 79 (Int32.toNatClampNeg w1) w0) 74 11))) ((F8_other 0 20 0 (ax_up m 79 (Int32.toNatClampNeg w1) w0)).1))) := rfl
  unfold HK8_readBridge_57 at hD
  obtain ⟨q1, hD⟩ := hD
  refine s_iast eX8_readBridge_57 shp_79 q1 ?_
  refine s_aload_n eX8_readBridge_58 rfl rfl ?_
  refine s_getr (q := 78) eX8_readBridge_59 fX8_26 shp_74 rfl ?_
  refine s_bipush (v := 28) eX8_readBridge_62 rfl ?_
  refine s_aload_n eX8_readBridge_64 rfl rfl ?_
  refine s_geti eX8_readBridge_65 fX8_138 shp_74 rfl ?_
  refine s_iadd eX8_readBridge_68 ?_
  refine s_aload_n eX8_readBridge_69 rfl rfl ?_
  refine s_iconst (v := 0) eX8_readBridge_70 rfl ?_
  refine s_bipush (v := 20) eX8_readBridge_71 rfl ?_
  refine s_iconst (v := 0) eX8_readBridge_73 rfl ?_
  obtain ⟨q2, hD⟩ := hD
  refine n_callVi (As := [.int 0, .int 20, .int 0]) eX8_readBridge_74 kX8_other lX8_128 rfl rfl shp_74 rfl rfl (Nat.le_of_ble_eq_true rfl) (Nat.le_of_ble_eq_true rfl) (Nat.le_of_ble_eq_true rfl) (uX8_other 0 20 0 ((ax_up m 79 (Int32.toNatClampNeg w1) w0)) q2) ?_
  have q3 := hD
  refine s_iast eX8_readBridge_77 shp_78 q3 ?_
  refine cK8_readBridge_78 ((ax_up (F8_other 0 20 0 (ax_up m 79 (Int32.toNatClampNeg w1) w0)).2 78 (Int32.toNatClampNeg (28 + ((ax_up m 79 (Int32.toNatClampNeg w1) w0) 74 11))) ((F8_other 0 20 0 (ax_up m 79 (Int32.toNatClampNeg w1) w0)).1))) ?_
  rw [E] at hP
  exact hP
theorem cK8_readBridge_28 (m : ax_M) {P : Option Value → ax_M → Prop} (hD : HK8_readBridge_28  m) (hP : P none (K8_readBridge_28 m)) : ax_N 4 Y8_readBridge 28 [some (.ref 74)] [] m P := by
  have E : K8_readBridge_28 m = (K8_readBridge_57 ((F8_bank ((1 : Int32) <<< ((m 79 (Int32.toNatClampNeg (2 * (m 74 11)))) &&& (31 : Int32))) m).1) ((2 * (m 74 11)) + 1) (F8_bank ((1 : Int32) <<< ((m 79 (Int32.toNatClampNeg (2 * (m 74 11)))) &&& (31 : Int32))) m).2) := rfl
  unfold HK8_readBridge_28 at hD
  refine s_aload_n eX8_readBridge_28 rfl rfl ?_
  refine s_getr (q := 79) eX8_readBridge_29 fX8_29 shp_74 rfl ?_
  refine s_iconst (v := 2) eX8_readBridge_32 rfl ?_
  refine s_aload_n eX8_readBridge_33 rfl rfl ?_
  refine s_geti eX8_readBridge_34 fX8_138 shp_74 rfl ?_
  refine s_imul eX8_readBridge_37 ?_
  refine s_iconst (v := 1) eX8_readBridge_38 rfl ?_
  refine s_iadd eX8_readBridge_39 ?_
  refine s_aload_n eX8_readBridge_40 rfl rfl ?_
  refine s_iconst (v := 1) eX8_readBridge_41 rfl ?_
  refine s_aload_n eX8_readBridge_42 rfl rfl ?_
  refine s_getr (q := 79) eX8_readBridge_43 fX8_29 shp_74 rfl ?_
  refine s_iconst (v := 2) eX8_readBridge_46 rfl ?_
  refine s_aload_n eX8_readBridge_47 rfl rfl ?_
  refine s_geti eX8_readBridge_48 fX8_138 shp_74 rfl ?_
  refine s_imul eX8_readBridge_51 ?_
  obtain ⟨q1, hD⟩ := hD
  refine s_iald eX8_readBridge_52 shp_79 q1 ?_
  refine s_ishl eX8_readBridge_53 ?_
  obtain ⟨q2, hD⟩ := hD
  refine n_callVi (As := [.int ((1 : Int32) <<< ((m 79 (Int32.toNatClampNeg (2 * (m 74 11)))) &&& (31 : Int32)))]) eX8_readBridge_54 kX8_bank lX8_145 rfl rfl shp_74 rfl rfl (Nat.le_of_ble_eq_true rfl) (Nat.le_of_ble_eq_true rfl) (Nat.le_of_ble_eq_true rfl) (uX8_bank ((1 : Int32) <<< ((m 79 (Int32.toNatClampNeg (2 * (m 74 11)))) &&& (31 : Int32))) m q2) ?_
  refine cK8_readBridge_57 ((F8_bank ((1 : Int32) <<< ((m 79 (Int32.toNatClampNeg (2 * (m 74 11)))) &&& (31 : Int32))) m).1) ((2 * (m 74 11)) + 1) ((F8_bank ((1 : Int32) <<< ((m 79 (Int32.toNatClampNeg (2 * (m 74 11)))) &&& (31 : Int32))) m).2) hD ?_
  rw [E] at hP
  exact hP
theorem uX8_readBridge (m : ax_M) (hD : D8_readBridge m) : ax_NM 4 Y8_readBridge [.ref 74] m (fun r m1 => r = none ∧ m1 = F8_readBridge m) := by
  have E : F8_readBridge m = (if ((F8_hasRoom (m 74 11) 4 m).1) = 0 then (F8_hasRoom (m 74 11) 4 m).2 else (K8_readBridge_28 (ax_up (F8_bank 0 (F8_hasRoom (m 74 11) 4 m).2).2 79 (Int32.toNatClampNeg (2 * ((F8_hasRoom (m 74 11) 4 m).2 74 11))) ((F8_bank 0 (F8_hasRoom (m 74 11) 4 m).2).1)))) := rfl
  unfold D8_readBridge at hD
  show ax_N 4 Y8_readBridge 0 [some (.ref 74)] [] m _
  refine s_aload_n eX8_readBridge_0 rfl rfl ?_
  refine s_aload_n eX8_readBridge_1 rfl rfl ?_
  refine s_geti eX8_readBridge_2 fX8_138 shp_74 rfl ?_
  refine s_iconst (v := 4) eX8_readBridge_5 rfl ?_
  obtain ⟨q1, hD⟩ := hD
  refine n_callVi (As := [.int (m 74 11), .int 4]) eX8_readBridge_6 kX8_hasRoom lX8_141 rfl rfl shp_74 rfl rfl (Nat.le_of_ble_eq_true rfl) (Nat.le_of_ble_eq_true rfl) (Nat.le_of_ble_eq_true rfl) (uX8_hasRoom (m 74 11) 4 m q1) ?_
  refine s_if_eq eX8_readBridge_9 (fun h2 => ?_) (fun h2 => ?_)
  · skip
    rw [if_pos h2] at E
    exact s_vret eX8_readBridge_88 rfl ⟨rfl, rfl, by rw [E]⟩
  · skip
    rw [if_neg h2] at E
    have hD := hD h2
    refine s_aload_n eX8_readBridge_12 rfl rfl ?_
    refine s_getr (q := 79) eX8_readBridge_13 fX8_29 shp_74 rfl ?_
    refine s_iconst (v := 2) eX8_readBridge_16 rfl ?_
    refine s_aload_n eX8_readBridge_17 rfl rfl ?_
    refine s_geti eX8_readBridge_18 fX8_138 shp_74 rfl ?_
    refine s_imul eX8_readBridge_21 ?_
    refine s_aload_n eX8_readBridge_22 rfl rfl ?_
    refine s_iconst (v := 0) eX8_readBridge_23 rfl ?_
    obtain ⟨q3, hD⟩ := hD
    refine n_callVi (As := [.int 0]) eX8_readBridge_24 kX8_bank lX8_145 rfl rfl shp_74 rfl rfl (Nat.le_of_ble_eq_true rfl) (Nat.le_of_ble_eq_true rfl) (Nat.le_of_ble_eq_true rfl) (uX8_bank 0 ((F8_hasRoom (m 74 11) 4 m).2) q3) ?_
    obtain ⟨q4, hD⟩ := hD
    refine s_iast eX8_readBridge_27 shp_79 q4 ?_
    refine cK8_readBridge_28 ((ax_up (F8_bank 0 (F8_hasRoom (m 74 11) 4 m).2).2 79 (Int32.toNatClampNeg (2 * ((F8_hasRoom (m 74 11) 4 m).2 74 11))) ((F8_bank 0 (F8_hasRoom (m 74 11) 4 m).2).1))) hD ?_
    exact ⟨rfl, by rw [E]⟩
theorem cK8_readOne_105 (v1 : Int32) (m : ax_M) {P : Option Value → ax_M → Prop} (hP : P none (K8_readOne_105 v1 m)) : ax_N 4 Y8_readOne 105 [some (.ref 74), some (.int v1)] [] m P := by
  have E : K8_readOne_105 v1 m = (ax_up m 74 12 ((m 74 12) + 1)) := rfl
  refine s_aload_n eX8_readOne_105 rfl rfl ?_
  refine s_dup eX8_readOne_106 rfl ?_
  refine s_geti eX8_readOne_107 fX8_148 shp_74 rfl ?_
  refine s_iconst (v := 1) eX8_readOne_110 rfl ?_
  refine s_iadd eX8_readOne_111 ?_
  refine s_puti eX8_readOne_112 fX8_148 pX8_12 rfl rfl shp_74 rfl ?_
  rw [E] at hP
  exact s_vret eX8_readOne_115 rfl ⟨rfl, hP⟩
theorem cK8_readOne_87 (v1 : Int32) (m : ax_M) {P : Option Value → ax_M → Prop} (hD : HK8_readOne_87 v1 m) (hP : P none (K8_readOne_87 v1 m)) : ax_N 4 Y8_readOne 87 [some (.ref 74), some (.int v1)] [] m P := by
  have E : K8_readOne_87 v1 m = (K8_readOne_105 v1 (ax_up (F8_bank 0 m).2 78 (Int32.toNatClampNeg ((4 * (m 74 12)) + 3)) ((F8_bank 0 m).1))) := rfl
  unfold HK8_readOne_87 at hD
  refine s_aload_n eX8_readOne_87 rfl rfl ?_
  refine s_getr (q := 78) eX8_readOne_88 fX8_26 shp_74 rfl ?_
  refine s_iconst (v := 4) eX8_readOne_91 rfl ?_
  refine s_aload_n eX8_readOne_92 rfl rfl ?_
  refine s_geti eX8_readOne_93 fX8_148 shp_74 rfl ?_
  refine s_imul eX8_readOne_96 ?_
  refine s_iconst (v := 3) eX8_readOne_97 rfl ?_
  refine s_iadd eX8_readOne_98 ?_
  refine s_aload_n eX8_readOne_99 rfl rfl ?_
  refine s_iconst (v := 0) eX8_readOne_100 rfl ?_
  obtain ⟨q1, hD⟩ := hD
  refine n_callVi (As := [.int 0]) eX8_readOne_101 kX8_bank lX8_145 rfl rfl shp_74 rfl rfl (Nat.le_of_ble_eq_true rfl) (Nat.le_of_ble_eq_true rfl) (Nat.le_of_ble_eq_true rfl) (uX8_bank 0 m q1) ?_
  have q2 := hD
  refine s_iast eX8_readOne_104 shp_78 q2 ?_
  refine cK8_readOne_105 v1 ((ax_up (F8_bank 0 m).2 78 (Int32.toNatClampNeg ((4 * (m 74 12)) + 3)) ((F8_bank 0 m).1))) ?_
  rw [E] at hP
  exact hP
theorem cK8_readOne_69 (v1 : Int32) (m : ax_M) {P : Option Value → ax_M → Prop} (hD : HK8_readOne_69 v1 m) (hP : P none (K8_readOne_69 v1 m)) : ax_N 4 Y8_readOne 69 [some (.ref 74), some (.int v1)] [] m P := by
  have E : K8_readOne_69 v1 m = (K8_readOne_87 v1 (ax_up (F8_bank 0 m).2 78 (Int32.toNatClampNeg ((4 * (m 74 12)) + 2)) ((F8_bank 0 m).1))) := rfl
  unfold HK8_readOne_69 at hD
  refine s_aload_n eX8_readOne_69 rfl rfl ?_
  refine s_getr (q := 78) eX8_readOne_70 fX8_26 shp_74 rfl ?_
  refine s_iconst (v := 4) eX8_readOne_73 rfl ?_
  refine s_aload_n eX8_readOne_74 rfl rfl ?_
  refine s_geti eX8_readOne_75 fX8_148 shp_74 rfl ?_
  refine s_imul eX8_readOne_78 ?_
  refine s_iconst (v := 2) eX8_readOne_79 rfl ?_
  refine s_iadd eX8_readOne_80 ?_
  refine s_aload_n eX8_readOne_81 rfl rfl ?_
  refine s_iconst (v := 0) eX8_readOne_82 rfl ?_
  obtain ⟨q1, hD⟩ := hD
  refine n_callVi (As := [.int 0]) eX8_readOne_83 kX8_bank lX8_145 rfl rfl shp_74 rfl rfl (Nat.le_of_ble_eq_true rfl) (Nat.le_of_ble_eq_true rfl) (Nat.le_of_ble_eq_true rfl) (uX8_bank 0 m q1) ?_
  obtain ⟨q2, hD⟩ := hD
  refine s_iast eX8_readOne_86 shp_78 q2 ?_
  refine cK8_readOne_87 v1 ((ax_up (F8_bank 0 m).2 78 (Int32.toNatClampNeg ((4 * (m 74 12)) + 2)) ((F8_bank 0 m).1))) hD ?_
  rw [E] at hP
  exact hP
theorem cK8_readOne_48 (v1 : Int32) (m : ax_M) {P : Option Value → ax_M → Prop} (hD : HK8_readOne_48 v1 m) (hP : P none (K8_readOne_48 v1 m)) : ax_N 4 Y8_readOne 48 [some (.ref 74), some (.int v1)] [] m P := by
  have E : K8_readOne_48 v1 m = (K8_readOne_69 v1 (ax_up (F8_other 1 99 0 m).2 78 (Int32.toNatClampNeg ((4 * (m 74 12)) + 1)) ((F8_other 1 99 0 m).1))) := rfl
  unfold HK8_readOne_48 at hD
  refine s_aload_n eX8_readOne_48 rfl rfl ?_
  refine s_getr (q := 78) eX8_readOne_49 fX8_26 shp_74 rfl ?_
  refine s_iconst (v := 4) eX8_readOne_52 rfl ?_
  refine s_aload_n eX8_readOne_53 rfl rfl ?_
  refine s_geti eX8_readOne_54 fX8_148 shp_74 rfl ?_
  refine s_imul eX8_readOne_57 ?_
  refine s_iconst (v := 1) eX8_readOne_58 rfl ?_
  refine s_iadd eX8_readOne_59 ?_
  refine s_aload_n eX8_readOne_60 rfl rfl ?_
  refine s_iconst (v := 1) eX8_readOne_61 rfl ?_
  refine s_bipush (v := 99) eX8_readOne_62 rfl ?_
  refine s_iconst (v := 0) eX8_readOne_64 rfl ?_
  obtain ⟨q1, hD⟩ := hD
  refine n_callVi (As := [.int 1, .int 99, .int 0]) eX8_readOne_65 kX8_other lX8_128 rfl rfl shp_74 rfl rfl (Nat.le_of_ble_eq_true rfl) (Nat.le_of_ble_eq_true rfl) (Nat.le_of_ble_eq_true rfl) (uX8_other 1 99 0 m q1) ?_
  obtain ⟨q2, hD⟩ := hD
  refine s_iast eX8_readOne_68 shp_78 q2 ?_
  refine cK8_readOne_69 v1 ((ax_up (F8_other 1 99 0 m).2 78 (Int32.toNatClampNeg ((4 * (m 74 12)) + 1)) ((F8_other 1 99 0 m).1))) hD ?_
  rw [E] at hP
  exact hP
theorem uX8_readOne (m : ax_M) (hD : D8_readOne m) : ax_NM 4 Y8_readOne [.ref 74] m (fun r m1 => r = none ∧ m1 = F8_readOne m) := by
  have E : F8_readOne m = (if ((F8_hasRoom (m 74 12) 6 m).1) = 0 then (F8_hasRoom (m 74 12) 6 m).2 else (if 0 ≤ ((F8_nameHere (F8_hasRoom (m 74 12) 6 m).2) - 6) then (K8_readOne_48 ((F8_nameHere (F8_hasRoom (m 74 12) 6 m).2) - 6) (ax_up (F8_step (F8_hasRoom (m 74 12) 6 m).2) 78 (Int32.toNatClampNeg (4 * ((F8_step (F8_hasRoom (m 74 12) 6 m).2) 74 12))) ((F8_nameHere (F8_hasRoom (m 74 12) 6 m).2) - 6))) else (F8_fails 2 (F8_hasRoom (m 74 12) 6 m).2))) := rfl
  unfold D8_readOne at hD
  show ax_N 4 Y8_readOne 0 [some (.ref 74), none] [] m _
  refine s_aload_n eX8_readOne_0 rfl rfl ?_
  refine s_aload_n eX8_readOne_1 rfl rfl ?_
  refine s_geti eX8_readOne_2 fX8_148 shp_74 rfl ?_
  refine s_bipush (v := 6) eX8_readOne_5 rfl ?_
  obtain ⟨q1, hD⟩ := hD
  refine n_callVi (As := [.int (m 74 12), .int 6]) eX8_readOne_7 kX8_hasRoom lX8_141 rfl rfl shp_74 rfl rfl (Nat.le_of_ble_eq_true rfl) (Nat.le_of_ble_eq_true rfl) (Nat.le_of_ble_eq_true rfl) (uX8_hasRoom (m 74 12) 6 m q1) ?_
  refine s_if_ne eX8_readOne_10 (fun h2 => ?_) (fun h2 => ?_)
  · skip
    rw [if_neg h2] at E
    have hD := hD h2
    refine s_aload_n eX8_readOne_14 rfl rfl ?_
    obtain ⟨q3, hD⟩ := hD
    refine n_callVi (As := []) eX8_readOne_15 kX8_nameHere lX8_151 rfl rfl shp_74 rfl rfl (Nat.le_of_ble_eq_true rfl) (Nat.le_of_ble_eq_true rfl) (Nat.le_of_ble_eq_true rfl) (uX8_nameHere ((F8_hasRoom (m 74 12) 6 m).2) q3) ?_
    refine s_bipush (v := 6) eX8_readOne_18 rfl ?_
    refine s_isub eX8_readOne_20 ?_
    refine s_istore_n (ls' := [some (.ref 74), some (.int ((F8_nameHere (F8_hasRoom (m 74 12) 6 m).2) - 6))]) eX8_readOne_21 rfl rfl rfl ?_
    refine s_iload_n eX8_readOne_22 rfl rfl ?_
    refine s_if_ge eX8_readOne_23 (fun h4 => ?_) (fun h4 => ?_)
    · skip
      rw [if_pos h4] at E
      have hD := hD h4
      refine s_aload_n eX8_readOne_32 rfl rfl ?_
      obtain ⟨q5, hD⟩ := hD
      refine n_callVv (As := []) eX8_readOne_33 kX8_step lX8_125 rfl rfl shp_74 rfl rfl (Nat.le_of_ble_eq_true rfl) (Nat.le_of_ble_eq_true rfl) (Nat.le_of_ble_eq_true rfl) (uX8_step ((F8_hasRoom (m 74 12) 6 m).2) q5) ?_
      refine s_aload_n eX8_readOne_36 rfl rfl ?_
      refine s_getr (q := 78) eX8_readOne_37 fX8_26 shp_74 rfl ?_
      refine s_iconst (v := 4) eX8_readOne_40 rfl ?_
      refine s_aload_n eX8_readOne_41 rfl rfl ?_
      refine s_geti eX8_readOne_42 fX8_148 shp_74 rfl ?_
      refine s_imul eX8_readOne_45 ?_
      refine s_iload_n eX8_readOne_46 rfl rfl ?_
      obtain ⟨q6, hD⟩ := hD
      refine s_iast eX8_readOne_47 shp_78 q6 ?_
      refine cK8_readOne_48 ((F8_nameHere (F8_hasRoom (m 74 12) 6 m).2) - 6) ((ax_up (F8_step (F8_hasRoom (m 74 12) 6 m).2) 78 (Int32.toNatClampNeg (4 * ((F8_step (F8_hasRoom (m 74 12) 6 m).2) 74 12))) ((F8_nameHere (F8_hasRoom (m 74 12) 6 m).2) - 6))) hD ?_
      exact ⟨rfl, by rw [E]⟩
    · skip
      rw [if_neg h4] at E
      refine s_aload_n eX8_readOne_26 rfl rfl ?_
      refine s_iconst (v := 2) eX8_readOne_27 rfl ?_
      refine n_callVv (As := [.int 2]) eX8_readOne_28 kX8_fails lX8_121 rfl rfl shp_74 rfl rfl (Nat.le_of_ble_eq_true rfl) (Nat.le_of_ble_eq_true rfl) (Nat.le_of_ble_eq_true rfl) (uX8_fails 2 ((F8_hasRoom (m 74 12) 6 m).2)) ?_
      exact s_vret eX8_readOne_31 rfl ⟨rfl, rfl, by rw [E]⟩
  · skip
    rw [if_pos h2] at E
    exact s_vret eX8_readOne_13 rfl ⟨rfl, rfl, by rw [E]⟩
