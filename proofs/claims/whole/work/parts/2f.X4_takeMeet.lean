/-! X4_takeMeet X4_takeLine X4_namesMissing X4_takeText X7_feed X7_end X7_text X7_fault X7_rule X7_bridge X7_one X7_stones X7_heap -/
theorem cK4_takeMeet_41 (v1 v2 w0 : Int32) (m : ax_M) {P : Option Value → ax_M → Prop} (hD : HK4_takeMeet_41 v1 v2 w0 m) (hP : P none (K4_takeMeet_41 v1 v2 w0 m)) : ax_N 4 Y4_takeMeet 41 [some (.ref 41), some (.int v1), some (.int v2), none] [.int w0] m P := by
  have E : K4_takeMeet_41 v1 v2 w0 m = (if ((F4_takeSemicolon m) 41 6) = 0 then (F0_append 53 v1 v2 w0 (F4_takeSemicolon m)) else (F4_takeSemicolon m)) := rfl
  unfold HK4_takeMeet_41 at hD
  refine s_istore_n (ls' := [some (.ref 41), some (.int v1), some (.int v2), some (.int w0)]) eX4_takeMeet_41 rfl rfl rfl ?_
  refine s_aload_n eX4_takeMeet_42 rfl rfl ?_
  have q1 := hD
  refine n_callVv (As := []) eX4_takeMeet_43 kX4_takeSemicolon lX4_149 rfl rfl shp_41 rfl rfl (Nat.le_of_ble_eq_true rfl) (Nat.le_of_ble_eq_true rfl) (Nat.le_of_ble_eq_true rfl) (uX4_takeSemicolon m q1) ?_
  refine s_aload_n eX4_takeMeet_46 rfl rfl ?_
  refine s_geti eX4_takeMeet_47 fX4_42 shp_41 rfl ?_
  refine s_if_ne eX4_takeMeet_50 (fun h2 => ?_) (fun h2 => ?_)
  · skip
    rw [if_neg h2] at E
    rw [E] at hP
    exact s_vret eX4_takeMeet_63 rfl ⟨rfl, hP⟩
  · skip
    rw [if_pos h2] at E
    refine s_aload_n eX4_takeMeet_53 rfl rfl ?_
    refine s_getr (q := 53) eX4_takeMeet_54 fX4_28 shp_41 rfl ?_
    refine s_iload_n eX4_takeMeet_57 rfl rfl ?_
    refine s_iload_n eX4_takeMeet_58 rfl rfl ?_
    refine s_iload_n eX4_takeMeet_59 rfl rfl ?_
    refine n_callVv (As := [.int v1, .int v2, .int w0]) eX4_takeMeet_60 kX0_append lX4_183 rfl rfl shp_53 rfl rfl (Nat.le_of_ble_eq_true rfl) (Nat.le_of_ble_eq_true rfl) (Nat.le_of_ble_eq_true rfl) (uX0_append 53 v1 v2 w0 ((F4_takeSemicolon m)) isD_53) ?_
    rw [E] at hP
    exact s_vret eX4_takeMeet_63 rfl ⟨rfl, hP⟩
theorem cK4_takeMeet_27 (w0 : Int32) (m : ax_M) {P : Option Value → ax_M → Prop} (hD : HK4_takeMeet_27 w0 m) (hP : P none (K4_takeMeet_27 w0 m)) : ax_N 4 Y4_takeMeet 27 [some (.ref 41), none, none, none] [.int w0] m P := by
  have E : K4_takeMeet_27 w0 m = (K4_takeMeet_41 w0 ((F4_takeNumber 0 5 m).1) ((F4_takeOtherThan ((F4_takeNumber 0 5 m).1) 5 (F4_takeNumber 0 5 m).2).1) (F4_takeOtherThan ((F4_takeNumber 0 5 m).1) 5 (F4_takeNumber 0 5 m).2).2) := rfl
  unfold HK4_takeMeet_27 at hD
  refine s_istore_n (ls' := [some (.ref 41), some (.int w0), none, none]) eX4_takeMeet_27 rfl rfl rfl ?_
  refine s_aload_n eX4_takeMeet_28 rfl rfl ?_
  refine s_iconst (v := 0) eX4_takeMeet_29 rfl ?_
  refine s_iconst (v := 5) eX4_takeMeet_30 rfl ?_
  obtain ⟨q1, hD⟩ := hD
  refine n_callVi (As := [.int 0, .int 5]) eX4_takeMeet_31 kX4_takeNumber lX4_135 rfl rfl shp_41 rfl rfl (Nat.le_of_ble_eq_true rfl) (Nat.le_of_ble_eq_true rfl) (Nat.le_of_ble_eq_true rfl) (uX4_takeNumber 0 5 m q1) ?_
  refine s_istore_n (ls' := [some (.ref 41), some (.int w0), some (.int ((F4_takeNumber 0 5 m).1)), none]) eX4_takeMeet_34 rfl rfl rfl ?_
  refine s_aload_n eX4_takeMeet_35 rfl rfl ?_
  refine s_iload_n eX4_takeMeet_36 rfl rfl ?_
  refine s_iconst (v := 5) eX4_takeMeet_37 rfl ?_
  obtain ⟨q2, hD⟩ := hD
  refine n_callVi (As := [.int ((F4_takeNumber 0 5 m).1), .int 5]) eX4_takeMeet_38 kX4_takeOtherThan lX4_166 rfl rfl shp_41 rfl rfl (Nat.le_of_ble_eq_true rfl) (Nat.le_of_ble_eq_true rfl) (Nat.le_of_ble_eq_true rfl) (uX4_takeOtherThan ((F4_takeNumber 0 5 m).1) 5 ((F4_takeNumber 0 5 m).2) q2) ?_
  refine cK4_takeMeet_41 w0 ((F4_takeNumber 0 5 m).1) ((F4_takeOtherThan ((F4_takeNumber 0 5 m).1) 5 (F4_takeNumber 0 5 m).2).1) ((F4_takeOtherThan ((F4_takeNumber 0 5 m).1) 5 (F4_takeNumber 0 5 m).2).2) hD ?_
  rw [E] at hP
  exact hP
theorem uX4_takeMeet (m : ax_M) (hD : D4_takeMeet m) : ax_NM 4 Y4_takeMeet [.ref 41] m (fun r m1 => r = none ∧ m1 = F4_takeMeet m) := by
  have E : F4_takeMeet m = (K4_takeMeet_27 ((F4_takeNumber 0 3 (if (m 53 1) < 8 then m else (F4_fail 5 (m 41 5) m))).1) (F4_takeNumber 0 3 (if (m 53 1) < 8 then m else (F4_fail 5 (m 41 5) m))).2) := rfl
  unfold D4_takeMeet at hD
  show ax_N 4 Y4_takeMeet 0 [some (.ref 41), none, none, none] [] m _
  refine s_aload_n eX4_takeMeet_0 rfl rfl ?_
  refine s_getr (q := 53) eX4_takeMeet_1 fX4_28 shp_41 rfl ?_
  refine s_geti eX4_takeMeet_4 fX4_35 shp_53 rfl ?_
  refine s_bipush (v := 8) eX4_takeMeet_7 rfl ?_
  have J1 : ax_N 4 Y4_takeMeet 21 [some (.ref 41), none, none, none] [] ((if (m 53 1) < 8 then m else (F4_fail 5 (m 41 5) m))) (fun r m1 => r = none ∧ m1 = F4_takeMeet m) := by
    refine s_aload_n eX4_takeMeet_21 rfl rfl ?_
    refine s_iconst (v := 0) eX4_takeMeet_22 rfl ?_
    refine s_iconst (v := 3) eX4_takeMeet_23 rfl ?_
    obtain ⟨q2, hD⟩ := hD
    refine n_callVi (As := [.int 0, .int 3]) eX4_takeMeet_24 kX4_takeNumber lX4_135 rfl rfl shp_41 rfl rfl (Nat.le_of_ble_eq_true rfl) (Nat.le_of_ble_eq_true rfl) (Nat.le_of_ble_eq_true rfl) (uX4_takeNumber 0 3 ((if (m 53 1) < 8 then m else (F4_fail 5 (m 41 5) m))) q2) ?_
    refine cK4_takeMeet_27 ((F4_takeNumber 0 3 (if (m 53 1) < 8 then m else (F4_fail 5 (m 41 5) m))).1) ((F4_takeNumber 0 3 (if (m 53 1) < 8 then m else (F4_fail 5 (m 41 5) m))).2) hD ?_
    exact ⟨rfl, by rw [E]⟩
  refine s_icmp_lt eX4_takeMeet_9 (fun h3 => ?_) (fun h3 => ?_)
  · skip
    exact ax_eqN rfl rfl (by rw [show ((if (m 53 1) < 8 then m else (F4_fail 5 (m 41 5) m)) : ax_M) = m by rw [if_pos h3]]) J1
  · skip
    refine s_aload_n eX4_takeMeet_12 rfl rfl ?_
    refine s_iconst (v := 5) eX4_takeMeet_13 rfl ?_
    refine s_aload_n eX4_takeMeet_14 rfl rfl ?_
    refine s_geti eX4_takeMeet_15 fX4_77 shp_41 rfl ?_
    refine n_callVv (As := [.int 5, .int (m 41 5)]) eX4_takeMeet_18 kX4_fail lX4_69 rfl rfl shp_41 rfl rfl (Nat.le_of_ble_eq_true rfl) (Nat.le_of_ble_eq_true rfl) (Nat.le_of_ble_eq_true rfl) (uX4_fail 5 (m 41 5) m) ?_
    exact ax_eqN rfl rfl (by rw [show ((if (m 53 1) < 8 then m else (F4_fail 5 (m 41 5) m)) : ax_M) = (F4_fail 5 (m 41 5) m) by rw [if_neg h3]]) J1
theorem uX4_takeLine (m : ax_M) (hD : D4_takeLine m) : ax_NM 8 Y4_takeLine [.ref 41] m (fun r m1 => r = none ∧ m1 = F4_takeLine m) := by
  have E : F4_takeLine m = (if (F4_isWord 0 m) = 0 then (if (F4_isWord 1 m) = 0 then (if (F4_isWord 2 m) = 0 then (if (F4_isWord 3 m) = 0 then (if (F4_isWord 4 m) = 0 then (if (F4_isWord 5 m) = 0 then (F4_fail 2 (m 41 5) m) else (F4_takeMeet m)) else (F4_takeOne m)) else (F4_takeBridge m)) else (F4_takeHeap m)) else (F4_takeStone m)) else (F4_takeBanks m)) := rfl
  unfold D4_takeLine at hD
  show ax_N 8 Y4_takeLine 0 [some (.ref 41)] [] m _
  refine s_aload_n eX4_takeLine_0 rfl rfl ?_
  refine s_ldcs (j := 0) eX4_takeLine_1 rfl rfl ?_
  obtain ⟨q1, hD⟩ := hD
  refine n_callVi (As := [.ref (1000 + 0)]) eX4_takeLine_3 kX4_isWord lX4_99 rfl rfl shp_41 rfl rfl (Nat.le_of_ble_eq_true rfl) (Nat.le_of_ble_eq_true rfl) (Nat.le_of_ble_eq_true rfl) (uX4_isWord 0 m (by decide) q1) ?_
  refine s_if_eq eX4_takeLine_6 (fun h2 => ?_) (fun h2 => ?_)
  · skip
    rw [if_pos h2] at E
    have hD := hD.1 h2
    refine s_aload_n eX4_takeLine_16 rfl rfl ?_
    refine s_ldcs (j := 1) eX4_takeLine_17 rfl rfl ?_
    obtain ⟨q3, hD⟩ := hD
    refine n_callVi (As := [.ref (1000 + 1)]) eX4_takeLine_19 kX4_isWord lX4_99 rfl rfl shp_41 rfl rfl (Nat.le_of_ble_eq_true rfl) (Nat.le_of_ble_eq_true rfl) (Nat.le_of_ble_eq_true rfl) (uX4_isWord 1 m (by decide) q3) ?_
    refine s_if_eq eX4_takeLine_22 (fun h4 => ?_) (fun h4 => ?_)
    · skip
      rw [if_pos h4] at E
      have hD := hD.1 h4
      refine s_aload_n eX4_takeLine_32 rfl rfl ?_
      refine s_ldcs (j := 2) eX4_takeLine_33 rfl rfl ?_
      obtain ⟨q5, hD⟩ := hD
      refine n_callVi (As := [.ref (1000 + 2)]) eX4_takeLine_35 kX4_isWord lX4_99 rfl rfl shp_41 rfl rfl (Nat.le_of_ble_eq_true rfl) (Nat.le_of_ble_eq_true rfl) (Nat.le_of_ble_eq_true rfl) (uX4_isWord 2 m (by decide) q5) ?_
      refine s_if_eq eX4_takeLine_38 (fun h6 => ?_) (fun h6 => ?_)
      · skip
        rw [if_pos h6] at E
        have hD := hD.1 h6
        refine s_aload_n eX4_takeLine_48 rfl rfl ?_
        refine s_ldcs (j := 3) eX4_takeLine_49 rfl rfl ?_
        obtain ⟨q7, hD⟩ := hD
        refine n_callVi (As := [.ref (1000 + 3)]) eX4_takeLine_51 kX4_isWord lX4_99 rfl rfl shp_41 rfl rfl (Nat.le_of_ble_eq_true rfl) (Nat.le_of_ble_eq_true rfl) (Nat.le_of_ble_eq_true rfl) (uX4_isWord 3 m (by decide) q7) ?_
        refine s_if_eq eX4_takeLine_54 (fun h8 => ?_) (fun h8 => ?_)
        · skip
          rw [if_pos h8] at E
          have hD := hD.1 h8
          refine s_aload_n eX4_takeLine_64 rfl rfl ?_
          refine s_ldcs (j := 4) eX4_takeLine_65 rfl rfl ?_
          obtain ⟨q9, hD⟩ := hD
          refine n_callVi (As := [.ref (1000 + 4)]) eX4_takeLine_67 kX4_isWord lX4_99 rfl rfl shp_41 rfl rfl (Nat.le_of_ble_eq_true rfl) (Nat.le_of_ble_eq_true rfl) (Nat.le_of_ble_eq_true rfl) (uX4_isWord 4 m (by decide) q9) ?_
          refine s_if_eq eX4_takeLine_70 (fun h10 => ?_) (fun h10 => ?_)
          · skip
            rw [if_pos h10] at E
            have hD := hD.1 h10
            refine s_aload_n eX4_takeLine_80 rfl rfl ?_
            refine s_ldcs (j := 5) eX4_takeLine_81 rfl rfl ?_
            obtain ⟨q11, hD⟩ := hD
            refine n_callVi (As := [.ref (1000 + 5)]) eX4_takeLine_83 kX4_isWord lX4_99 rfl rfl shp_41 rfl rfl (Nat.le_of_ble_eq_true rfl) (Nat.le_of_ble_eq_true rfl) (Nat.le_of_ble_eq_true rfl) (uX4_isWord 5 m (by decide) q11) ?_
            refine s_if_eq eX4_takeLine_86 (fun h12 => ?_) (fun h12 => ?_)
            · skip
              rw [if_pos h12] at E
              refine s_aload_n eX4_takeLine_96 rfl rfl ?_
              refine s_iconst (v := 2) eX4_takeLine_97 rfl ?_
              refine s_aload_n eX4_takeLine_98 rfl rfl ?_
              refine s_geti eX4_takeLine_99 fX4_77 shp_41 rfl ?_
              refine n_callVv (As := [.int 2, .int (m 41 5)]) eX4_takeLine_102 kX4_fail lX4_69 rfl rfl shp_41 rfl rfl (Nat.le_of_ble_eq_true rfl) (Nat.le_of_ble_eq_true rfl) (Nat.le_of_ble_eq_true rfl) (uX4_fail 2 (m 41 5) m) ?_
              exact s_vret eX4_takeLine_105 rfl ⟨rfl, rfl, by rw [E]⟩
            · skip
              rw [if_neg h12] at E
              have hD := hD h12
              refine s_aload_n eX4_takeLine_89 rfl rfl ?_
              have q13 := hD
              refine n_callVv (As := []) eX4_takeLine_90 kX4_takeMeet lX4_128 rfl rfl shp_41 rfl rfl (Nat.le_of_ble_eq_true rfl) (Nat.le_of_ble_eq_true rfl) (Nat.le_of_ble_eq_true rfl) (uX4_takeMeet m q13) ?_
              refine s_goto eX4_takeLine_93 ?_
              exact s_vret eX4_takeLine_105 rfl ⟨rfl, rfl, by rw [E]⟩
          · skip
            rw [if_neg h10] at E
            have hD := hD.2 h10
            refine s_aload_n eX4_takeLine_73 rfl rfl ?_
            have q14 := hD
            refine n_callVv (As := []) eX4_takeLine_74 kX4_takeOne lX4_123 rfl rfl shp_41 rfl rfl (Nat.le_of_ble_eq_true rfl) (Nat.le_of_ble_eq_true rfl) (Nat.le_of_ble_eq_true rfl) (uX4_takeOne m q14) ?_
            refine s_goto eX4_takeLine_77 ?_
            exact s_vret eX4_takeLine_105 rfl ⟨rfl, rfl, by rw [E]⟩
        · skip
          rw [if_neg h8] at E
          have hD := hD.2 h8
          refine s_aload_n eX4_takeLine_57 rfl rfl ?_
          have q15 := hD
          refine n_callVv (As := []) eX4_takeLine_58 kX4_takeBridge lX4_118 rfl rfl shp_41 rfl rfl (Nat.le_of_ble_eq_true rfl) (Nat.le_of_ble_eq_true rfl) (Nat.le_of_ble_eq_true rfl) (uX4_takeBridge m q15) ?_
          refine s_goto eX4_takeLine_61 ?_
          exact s_vret eX4_takeLine_105 rfl ⟨rfl, rfl, by rw [E]⟩
      · skip
        rw [if_neg h6] at E
        have hD := hD.2 h6
        refine s_aload_n eX4_takeLine_41 rfl rfl ?_
        have q16 := hD
        refine n_callVv (As := []) eX4_takeLine_42 kX4_takeHeap lX4_113 rfl rfl shp_41 rfl rfl (Nat.le_of_ble_eq_true rfl) (Nat.le_of_ble_eq_true rfl) (Nat.le_of_ble_eq_true rfl) (uX4_takeHeap m q16) ?_
        refine s_goto eX4_takeLine_45 ?_
        exact s_vret eX4_takeLine_105 rfl ⟨rfl, rfl, by rw [E]⟩
    · skip
      rw [if_neg h4] at E
      have hD := hD.2 h4
      refine s_aload_n eX4_takeLine_25 rfl rfl ?_
      have q17 := hD
      refine n_callVv (As := []) eX4_takeLine_26 kX4_takeStone lX4_108 rfl rfl shp_41 rfl rfl (Nat.le_of_ble_eq_true rfl) (Nat.le_of_ble_eq_true rfl) (Nat.le_of_ble_eq_true rfl) (uX4_takeStone m q17) ?_
      refine s_goto eX4_takeLine_29 ?_
      exact s_vret eX4_takeLine_105 rfl ⟨rfl, rfl, by rw [E]⟩
  · skip
    rw [if_neg h2] at E
    have hD := hD.2 h2
    refine s_aload_n eX4_takeLine_9 rfl rfl ?_
    have q18 := hD
    refine n_callVv (As := []) eX4_takeLine_10 kX4_takeBanks lX4_103 rfl rfl shp_41 rfl rfl (Nat.le_of_ble_eq_true rfl) (Nat.le_of_ble_eq_true rfl) (Nat.le_of_ble_eq_true rfl) (uX4_takeBanks m q18) ?_
    refine s_goto eX4_takeLine_13 ?_
    exact s_vret eX4_takeLine_105 rfl ⟨rfl, rfl, by rw [E]⟩
theorem clX4_namesMissing_8 {P : Option Value → ax_M → Prop} : ∀ (n : Nat) (v1 : Int32) (m : ax_M), E4_namesMissing_8 n v1 m → (∀ r, (L4_namesMissing_8 n v1 m).1 = some r → P (some (.int r)) m) → ((L4_namesMissing_8 n v1 m).1 = none → ax_N 2 Y4_namesMissing 32 [some (.ref 41), some (.int ((L4_namesMissing_8 n v1 m).2))] [] m P) → ax_N 2 Y4_namesMissing 8 [some (.ref 41), some (.int v1)] [] m P := by
  intro n
  induction n with
  | zero => intro v1 m hD; exact absurd hD id
  | succ n ih =>
    intro v1 m hD hr hx
    have E : L4_namesMissing_8 (n + 1) v1 m = (if 4 ≤ v1 then (none, v1) else (if (F1_stonesOn 44 v1 m) ≤ 0 then L4_namesMissing_8 n (v1 + 1) m else (some 1, v1))) := by rw [L4_namesMissing_8]
    have hD : ((¬ (4 ≤ v1) → ((((F1_stonesOn 44 v1 m) ≤ 0) → ((E4_namesMissing_8 n (v1 + 1) m)))))) := hD
    refine s_iload_n eX4_namesMissing_8 rfl rfl ?_
    refine s_iconst (v := 4) eX4_namesMissing_9 rfl ?_
    refine s_icmp_ge eX4_namesMissing_10 (fun h1 => ?_) (fun h1 => ?_)
    · skip
      rw [if_pos h1] at E
      rw [E] at hx
      exact hx rfl
    · skip
      rw [if_neg h1] at E
      have hD := hD h1
      refine s_aload_n eX4_namesMissing_13 rfl rfl ?_
      refine s_getr (q := 44) eX4_namesMissing_14 fX4_21 shp_41 rfl ?_
      refine s_iload_n eX4_namesMissing_17 rfl rfl ?_
      refine n_callVi (As := [.int v1]) eX4_namesMissing_18 kX1_stonesOn lX4_157 rfl rfl shp_44 rfl rfl (Nat.le_of_ble_eq_true rfl) (Nat.le_of_ble_eq_true rfl) (Nat.le_of_ble_eq_true rfl) (uX1_stonesOn 44 v1 m isG_44) ?_
      refine s_if_le eX4_namesMissing_21 (fun h2 => ?_) (fun h2 => ?_)
      · skip
        rw [if_pos h2] at E
        have hD := hD h2
        refine s_iinc (v := v1 + 1) (ls' := [some (.ref 41), some (.int (v1 + 1))]) eX4_namesMissing_26 rfl rfl rfl rfl ?_
        refine s_goto eX4_namesMissing_29 ?_
        rw [E] at hr hx
        exact ih (v1 + 1) m hD hr hx
      · skip
        rw [if_neg h2] at E
        refine s_iconst (v := 1) eX4_namesMissing_24 rfl ?_
        rw [E] at hr
        exact s_zret eX4_namesMissing_25 rfl (by first | exact Or.inl rfl | exact Or.inr rfl | (split <;> simp) | simp) ⟨rfl, hr _ rfl⟩
theorem clX4_namesMissing_34 {P : Option Value → ax_M → Prop} : ∀ (n : Nat) (v1 : Int32) (m : ax_M), E4_namesMissing_34 n v1 m → (∀ r, (L4_namesMissing_34 n v1 m).1 = some r → P (some (.int r)) m) → ((L4_namesMissing_34 n v1 m).1 = none → ax_N 2 Y4_namesMissing 89 [some (.ref 41), some (.int ((L4_namesMissing_34 n v1 m).2))] [] m P) → ax_N 2 Y4_namesMissing 34 [some (.ref 41), some (.int v1)] [] m P := by
  intro n
  induction n with
  | zero => intro v1 m hD; exact absurd hD id
  | succ n ih =>
    intro v1 m hD hr hx
    have E : L4_namesMissing_34 (n + 1) v1 m = (if (m 44 1) ≤ v1 then (none, v1) else (if (F1_hasBank 44 (F1_firstBank 44 v1 m) m) = 0 then (some 1, v1) else (if (F1_hasBank 44 (F1_secondBank 44 v1 m) m) = 0 then (some 1, v1) else L4_namesMissing_34 n (v1 + 1) m))) := by rw [L4_namesMissing_34]
    have hD : ((¬ ((m 44 1) ≤ v1) → ((¬ ((F1_hasBank 44 (F1_firstBank 44 v1 m) m) = 0) → ((¬ ((F1_hasBank 44 (F1_secondBank 44 v1 m) m) = 0) → ((E4_namesMissing_34 n (v1 + 1) m)))))))) := hD
    refine s_iload_n eX4_namesMissing_34 rfl rfl ?_
    refine s_aload_n eX4_namesMissing_35 rfl rfl ?_
    refine s_getr (q := 44) eX4_namesMissing_36 fX4_21 shp_41 rfl ?_
    refine s_geti eX4_namesMissing_39 fX4_163 shp_44 rfl ?_
    refine s_icmp_ge eX4_namesMissing_42 (fun h1 => ?_) (fun h1 => ?_)
    · skip
      rw [if_pos h1] at E
      rw [E] at hx
      exact hx rfl
    · skip
      rw [if_neg h1] at E
      have hD := hD h1
      refine s_aload_n eX4_namesMissing_45 rfl rfl ?_
      refine s_getr (q := 44) eX4_namesMissing_46 fX4_21 shp_41 rfl ?_
      refine s_aload_n eX4_namesMissing_49 rfl rfl ?_
      refine s_getr (q := 44) eX4_namesMissing_50 fX4_21 shp_41 rfl ?_
      refine s_iload_n eX4_namesMissing_53 rfl rfl ?_
      refine n_callVi (As := [.int v1]) eX4_namesMissing_54 kX1_firstBank lX4_186 rfl rfl shp_44 rfl rfl (Nat.le_of_ble_eq_true rfl) (Nat.le_of_ble_eq_true rfl) (Nat.le_of_ble_eq_true rfl) (uX1_firstBank 44 v1 m isG_44) ?_
      refine n_callVi (As := [.int (F1_firstBank 44 v1 m)]) eX4_namesMissing_57 kX1_hasBank lX4_189 rfl rfl shp_44 rfl rfl (Nat.le_of_ble_eq_true rfl) (Nat.le_of_ble_eq_true rfl) (Nat.le_of_ble_eq_true rfl) (uX1_hasBank 44 (F1_firstBank 44 v1 m) m isG_44) ?_
      refine s_if_eq eX4_namesMissing_60 (fun h2 => ?_) (fun h2 => ?_)
      · skip
        rw [if_pos h2] at E
        refine s_iconst (v := 1) eX4_namesMissing_81 rfl ?_
        rw [E] at hr
        exact s_zret eX4_namesMissing_82 rfl (by first | exact Or.inl rfl | exact Or.inr rfl | (split <;> simp) | simp) ⟨rfl, hr _ rfl⟩
      · skip
        rw [if_neg h2] at E
        have hD := hD h2
        refine s_aload_n eX4_namesMissing_63 rfl rfl ?_
        refine s_getr (q := 44) eX4_namesMissing_64 fX4_21 shp_41 rfl ?_
        refine s_aload_n eX4_namesMissing_67 rfl rfl ?_
        refine s_getr (q := 44) eX4_namesMissing_68 fX4_21 shp_41 rfl ?_
        refine s_iload_n eX4_namesMissing_71 rfl rfl ?_
        refine n_callVi (As := [.int v1]) eX4_namesMissing_72 kX1_secondBank lX4_192 rfl rfl shp_44 rfl rfl (Nat.le_of_ble_eq_true rfl) (Nat.le_of_ble_eq_true rfl) (Nat.le_of_ble_eq_true rfl) (uX1_secondBank 44 v1 m isG_44) ?_
        refine n_callVi (As := [.int (F1_secondBank 44 v1 m)]) eX4_namesMissing_75 kX1_hasBank lX4_189 rfl rfl shp_44 rfl rfl (Nat.le_of_ble_eq_true rfl) (Nat.le_of_ble_eq_true rfl) (Nat.le_of_ble_eq_true rfl) (uX1_hasBank 44 (F1_secondBank 44 v1 m) m isG_44) ?_
        refine s_if_ne eX4_namesMissing_78 (fun h3 => ?_) (fun h3 => ?_)
        · skip
          rw [if_neg h3] at E
          have hD := hD h3
          refine s_iinc (v := v1 + 1) (ls' := [some (.ref 41), some (.int (v1 + 1))]) eX4_namesMissing_83 rfl rfl rfl rfl ?_
          refine s_goto eX4_namesMissing_86 ?_
          rw [E] at hr hx
          exact ih (v1 + 1) m hD hr hx
        · skip
          rw [if_pos h3] at E
          refine s_iconst (v := 1) eX4_namesMissing_81 rfl ?_
          rw [E] at hr
          exact s_zret eX4_namesMissing_82 rfl (by first | exact Or.inl rfl | exact Or.inr rfl | (split <;> simp) | simp) ⟨rfl, hr _ rfl⟩
theorem clX4_namesMissing_91 {P : Option Value → ax_M → Prop} : ∀ (n : Nat) (v1 : Int32) (m : ax_M), E4_namesMissing_91 n v1 m → (∀ r, (L4_namesMissing_91 n v1 m).1 = some r → P (some (.int r)) m) → ((L4_namesMissing_91 n v1 m).1 = none → ax_N 2 Y4_namesMissing 146 [some (.ref 41), some (.int ((L4_namesMissing_91 n v1 m).2))] [] m P) → ax_N 2 Y4_namesMissing 91 [some (.ref 41), some (.int v1)] [] m P := by
  intro n
  induction n with
  | zero => intro v1 m hD; exact absurd hD id
  | succ n ih =>
    intro v1 m hD hr hx
    have E : L4_namesMissing_91 (n + 1) v1 m = (if (m 44 2) ≤ v1 then (none, v1) else (if (F1_hasBank 44 (F1_bankOf 44 v1 m) m) = 0 then (some 1, v1) else (if (F1_hasBank 44 (F1_goalOf 44 v1 m) m) = 0 then (some 1, v1) else L4_namesMissing_91 n (v1 + 1) m))) := by rw [L4_namesMissing_91]
    have hD : ((¬ ((m 44 2) ≤ v1) → ((¬ ((F1_hasBank 44 (F1_bankOf 44 v1 m) m) = 0) → ((¬ ((F1_hasBank 44 (F1_goalOf 44 v1 m) m) = 0) → ((E4_namesMissing_91 n (v1 + 1) m)))))))) := hD
    refine s_iload_n eX4_namesMissing_91 rfl rfl ?_
    refine s_aload_n eX4_namesMissing_92 rfl rfl ?_
    refine s_getr (q := 44) eX4_namesMissing_93 fX4_21 shp_41 rfl ?_
    refine s_geti eX4_namesMissing_96 fX4_173 shp_44 rfl ?_
    refine s_icmp_ge eX4_namesMissing_99 (fun h1 => ?_) (fun h1 => ?_)
    · skip
      rw [if_pos h1] at E
      rw [E] at hx
      exact hx rfl
    · skip
      rw [if_neg h1] at E
      have hD := hD h1
      refine s_aload_n eX4_namesMissing_102 rfl rfl ?_
      refine s_getr (q := 44) eX4_namesMissing_103 fX4_21 shp_41 rfl ?_
      refine s_aload_n eX4_namesMissing_106 rfl rfl ?_
      refine s_getr (q := 44) eX4_namesMissing_107 fX4_21 shp_41 rfl ?_
      refine s_iload_n eX4_namesMissing_110 rfl rfl ?_
      refine n_callVi (As := [.int v1]) eX4_namesMissing_111 kX1_bankOf lX4_195 rfl rfl shp_44 rfl rfl (Nat.le_of_ble_eq_true rfl) (Nat.le_of_ble_eq_true rfl) (Nat.le_of_ble_eq_true rfl) (uX1_bankOf 44 v1 m isG_44) ?_
      refine n_callVi (As := [.int (F1_bankOf 44 v1 m)]) eX4_namesMissing_114 kX1_hasBank lX4_189 rfl rfl shp_44 rfl rfl (Nat.le_of_ble_eq_true rfl) (Nat.le_of_ble_eq_true rfl) (Nat.le_of_ble_eq_true rfl) (uX1_hasBank 44 (F1_bankOf 44 v1 m) m isG_44) ?_
      refine s_if_eq eX4_namesMissing_117 (fun h2 => ?_) (fun h2 => ?_)
      · skip
        rw [if_pos h2] at E
        refine s_iconst (v := 1) eX4_namesMissing_138 rfl ?_
        rw [E] at hr
        exact s_zret eX4_namesMissing_139 rfl (by first | exact Or.inl rfl | exact Or.inr rfl | (split <;> simp) | simp) ⟨rfl, hr _ rfl⟩
      · skip
        rw [if_neg h2] at E
        have hD := hD h2
        refine s_aload_n eX4_namesMissing_120 rfl rfl ?_
        refine s_getr (q := 44) eX4_namesMissing_121 fX4_21 shp_41 rfl ?_
        refine s_aload_n eX4_namesMissing_124 rfl rfl ?_
        refine s_getr (q := 44) eX4_namesMissing_125 fX4_21 shp_41 rfl ?_
        refine s_iload_n eX4_namesMissing_128 rfl rfl ?_
        refine n_callVi (As := [.int v1]) eX4_namesMissing_129 kX1_goalOf lX4_198 rfl rfl shp_44 rfl rfl (Nat.le_of_ble_eq_true rfl) (Nat.le_of_ble_eq_true rfl) (Nat.le_of_ble_eq_true rfl) (uX1_goalOf 44 v1 m isG_44) ?_
        refine n_callVi (As := [.int (F1_goalOf 44 v1 m)]) eX4_namesMissing_132 kX1_hasBank lX4_189 rfl rfl shp_44 rfl rfl (Nat.le_of_ble_eq_true rfl) (Nat.le_of_ble_eq_true rfl) (Nat.le_of_ble_eq_true rfl) (uX1_hasBank 44 (F1_goalOf 44 v1 m) m isG_44) ?_
        refine s_if_ne eX4_namesMissing_135 (fun h3 => ?_) (fun h3 => ?_)
        · skip
          rw [if_neg h3] at E
          have hD := hD h3
          refine s_iinc (v := v1 + 1) (ls' := [some (.ref 41), some (.int (v1 + 1))]) eX4_namesMissing_140 rfl rfl rfl rfl ?_
          refine s_goto eX4_namesMissing_143 ?_
          rw [E] at hr hx
          exact ih (v1 + 1) m hD hr hx
        · skip
          rw [if_pos h3] at E
          refine s_iconst (v := 1) eX4_namesMissing_138 rfl ?_
          rw [E] at hr
          exact s_zret eX4_namesMissing_139 rfl (by first | exact Or.inl rfl | exact Or.inr rfl | (split <;> simp) | simp) ⟨rfl, hr _ rfl⟩
theorem clX4_namesMissing_148 {P : Option Value → ax_M → Prop} : ∀ (n : Nat) (v1 : Int32) (m : ax_M), E4_namesMissing_148 n v1 m → (∀ r, (L4_namesMissing_148 n v1 m).1 = some r → P (some (.int r)) m) → ((L4_namesMissing_148 n v1 m).1 = none → ax_N 2 Y4_namesMissing 223 [some (.ref 41), some (.int ((L4_namesMissing_148 n v1 m).2))] [] m P) → ax_N 2 Y4_namesMissing 148 [some (.ref 41), some (.int v1)] [] m P := by
  intro n
  induction n with
  | zero => intro v1 m hD; exact absurd hD id
  | succ n ih =>
    intro v1 m hD hr hx
    have E : L4_namesMissing_148 (n + 1) v1 m = (if (m 53 1) ≤ v1 then (none, v1) else (if (F1_hasBridge 44 (F0_bridgeAt 53 v1 m) m) = 0 then (some 1, v1) else (if (F1_hasOne 44 (F0_aheadAt 53 v1 m) m) = 0 then (some 1, v1) else (if (F1_hasOne 44 (F0_otherAt 53 v1 m) m) = 0 then (some 1, v1) else L4_namesMissing_148 n (v1 + 1) m)))) := by rw [L4_namesMissing_148]
    have hD : ((¬ ((m 53 1) ≤ v1) → ((¬ ((F1_hasBridge 44 (F0_bridgeAt 53 v1 m) m) = 0) → ((¬ ((F1_hasOne 44 (F0_aheadAt 53 v1 m) m) = 0) → ((¬ ((F1_hasOne 44 (F0_otherAt 53 v1 m) m) = 0) → ((E4_namesMissing_148 n (v1 + 1) m)))))))))) := hD
    refine s_iload_n eX4_namesMissing_148 rfl rfl ?_
    refine s_aload_n eX4_namesMissing_149 rfl rfl ?_
    refine s_getr (q := 53) eX4_namesMissing_150 fX4_28 shp_41 rfl ?_
    refine s_geti eX4_namesMissing_153 fX4_35 shp_53 rfl ?_
    refine s_icmp_ge eX4_namesMissing_156 (fun h1 => ?_) (fun h1 => ?_)
    · skip
      rw [if_pos h1] at E
      rw [E] at hx
      exact hx rfl
    · skip
      rw [if_neg h1] at E
      have hD := hD h1
      refine s_aload_n eX4_namesMissing_159 rfl rfl ?_
      refine s_getr (q := 44) eX4_namesMissing_160 fX4_21 shp_41 rfl ?_
      refine s_aload_n eX4_namesMissing_163 rfl rfl ?_
      refine s_getr (q := 53) eX4_namesMissing_164 fX4_28 shp_41 rfl ?_
      refine s_iload_n eX4_namesMissing_167 rfl rfl ?_
      refine n_callVi (As := [.int v1]) eX4_namesMissing_168 kX0_bridgeAt lX4_201 rfl rfl shp_53 rfl rfl (Nat.le_of_ble_eq_true rfl) (Nat.le_of_ble_eq_true rfl) (Nat.le_of_ble_eq_true rfl) (uX0_bridgeAt 53 v1 m isD_53) ?_
      refine n_callVi (As := [.int (F0_bridgeAt 53 v1 m)]) eX4_namesMissing_171 kX1_hasBridge lX4_204 rfl rfl shp_44 rfl rfl (Nat.le_of_ble_eq_true rfl) (Nat.le_of_ble_eq_true rfl) (Nat.le_of_ble_eq_true rfl) (uX1_hasBridge 44 (F0_bridgeAt 53 v1 m) m isG_44) ?_
      refine s_if_ne eX4_namesMissing_174 (fun h2 => ?_) (fun h2 => ?_)
      · skip
        rw [if_neg h2] at E
        have hD := hD h2
        refine s_aload_n eX4_namesMissing_179 rfl rfl ?_
        refine s_getr (q := 44) eX4_namesMissing_180 fX4_21 shp_41 rfl ?_
        refine s_aload_n eX4_namesMissing_183 rfl rfl ?_
        refine s_getr (q := 53) eX4_namesMissing_184 fX4_28 shp_41 rfl ?_
        refine s_iload_n eX4_namesMissing_187 rfl rfl ?_
        refine n_callVi (As := [.int v1]) eX4_namesMissing_188 kX0_aheadAt lX4_207 rfl rfl shp_53 rfl rfl (Nat.le_of_ble_eq_true rfl) (Nat.le_of_ble_eq_true rfl) (Nat.le_of_ble_eq_true rfl) (uX0_aheadAt 53 v1 m isD_53) ?_
        refine n_callVi (As := [.int (F0_aheadAt 53 v1 m)]) eX4_namesMissing_191 kX1_hasOne lX4_210 rfl rfl shp_44 rfl rfl (Nat.le_of_ble_eq_true rfl) (Nat.le_of_ble_eq_true rfl) (Nat.le_of_ble_eq_true rfl) (uX1_hasOne 44 (F0_aheadAt 53 v1 m) m isG_44) ?_
        refine s_if_eq eX4_namesMissing_194 (fun h3 => ?_) (fun h3 => ?_)
        · skip
          rw [if_pos h3] at E
          refine s_iconst (v := 1) eX4_namesMissing_215 rfl ?_
          rw [E] at hr
          exact s_zret eX4_namesMissing_216 rfl (by first | exact Or.inl rfl | exact Or.inr rfl | (split <;> simp) | simp) ⟨rfl, hr _ rfl⟩
        · skip
          rw [if_neg h3] at E
          have hD := hD h3
          refine s_aload_n eX4_namesMissing_197 rfl rfl ?_
          refine s_getr (q := 44) eX4_namesMissing_198 fX4_21 shp_41 rfl ?_
          refine s_aload_n eX4_namesMissing_201 rfl rfl ?_
          refine s_getr (q := 53) eX4_namesMissing_202 fX4_28 shp_41 rfl ?_
          refine s_iload_n eX4_namesMissing_205 rfl rfl ?_
          refine n_callVi (As := [.int v1]) eX4_namesMissing_206 kX0_otherAt lX4_213 rfl rfl shp_53 rfl rfl (Nat.le_of_ble_eq_true rfl) (Nat.le_of_ble_eq_true rfl) (Nat.le_of_ble_eq_true rfl) (uX0_otherAt 53 v1 m isD_53) ?_
          refine n_callVi (As := [.int (F0_otherAt 53 v1 m)]) eX4_namesMissing_209 kX1_hasOne lX4_210 rfl rfl shp_44 rfl rfl (Nat.le_of_ble_eq_true rfl) (Nat.le_of_ble_eq_true rfl) (Nat.le_of_ble_eq_true rfl) (uX1_hasOne 44 (F0_otherAt 53 v1 m) m isG_44) ?_
          refine s_if_ne eX4_namesMissing_212 (fun h4 => ?_) (fun h4 => ?_)
          · skip
            rw [if_neg h4] at E
            have hD := hD h4
            refine s_iinc (v := v1 + 1) (ls' := [some (.ref 41), some (.int (v1 + 1))]) eX4_namesMissing_217 rfl rfl rfl rfl ?_
            refine s_goto eX4_namesMissing_220 ?_
            rw [E] at hr hx
            exact ih (v1 + 1) m hD hr hx
          · skip
            rw [if_pos h4] at E
            refine s_iconst (v := 1) eX4_namesMissing_215 rfl ?_
            rw [E] at hr
            exact s_zret eX4_namesMissing_216 rfl (by first | exact Or.inl rfl | exact Or.inr rfl | (split <;> simp) | simp) ⟨rfl, hr _ rfl⟩
      · skip
        rw [if_pos h2] at E
        refine s_iconst (v := 1) eX4_namesMissing_177 rfl ?_
        rw [E] at hr
        exact s_zret eX4_namesMissing_178 rfl (by first | exact Or.inl rfl | exact Or.inr rfl | (split <;> simp) | simp) ⟨rfl, hr _ rfl⟩
theorem uX4_namesMissing (m : ax_M) (hD : D4_namesMissing m) : ax_NM 2 Y4_namesMissing [.ref 41] m (fun r m1 => r = some (.int (F4_namesMissing m)) ∧ m1 = m) := by
  have E : F4_namesMissing m = (if (L4_namesMissing_8 64 (m 44 0) m).1 = none then (if (L4_namesMissing_34 64 0 m).1 = none then (if (L4_namesMissing_91 64 0 m).1 = none then (if (L4_namesMissing_148 64 0 m).1 = none then 0 else (((L4_namesMissing_148 64 0 m).1).getD 0)) else (((L4_namesMissing_91 64 0 m).1).getD 0)) else (((L4_namesMissing_34 64 0 m).1).getD 0)) else (((L4_namesMissing_8 64 (m 44 0) m).1).getD 0)) := rfl
  unfold D4_namesMissing at hD
  show ax_N 2 Y4_namesMissing 0 [some (.ref 41), none] [] m _
  refine s_aload_n eX4_namesMissing_0 rfl rfl ?_
  refine s_getr (q := 44) eX4_namesMissing_1 fX4_21 shp_41 rfl ?_
  refine s_geti eX4_namesMissing_4 fX4_152 shp_44 rfl ?_
  refine s_istore_n (ls' := [some (.ref 41), some (.int (m 44 0))]) eX4_namesMissing_7 rfl rfl rfl ?_
  obtain ⟨q1, hD⟩ := hD
  refine clX4_namesMissing_8 64 (m 44 0) m q1 (fun x2 h3 => ?_) (fun h3 => ?_)
  · skip
    rw [if_neg (by rw [h3]; exact fun hh => by cases hh), h3] at E
    exact ⟨by rw [E]; rfl, rfl⟩
  · skip
    rw [if_pos h3] at E
    have hD := hD h3
    refine s_iconst (v := 0) eX4_namesMissing_32 rfl ?_
    refine s_istore_n (ls' := [some (.ref 41), some (.int 0)]) eX4_namesMissing_33 rfl rfl rfl ?_
    obtain ⟨q4, hD⟩ := hD
    refine clX4_namesMissing_34 64 0 m q4 (fun x5 h6 => ?_) (fun h6 => ?_)
    · skip
      rw [if_neg (by rw [h6]; exact fun hh => by cases hh), h6] at E
      exact ⟨by rw [E]; rfl, rfl⟩
    · skip
      rw [if_pos h6] at E
      have hD := hD h6
      refine s_iconst (v := 0) eX4_namesMissing_89 rfl ?_
      refine s_istore_n (ls' := [some (.ref 41), some (.int 0)]) eX4_namesMissing_90 rfl rfl rfl ?_
      obtain ⟨q7, hD⟩ := hD
      refine clX4_namesMissing_91 64 0 m q7 (fun x8 h9 => ?_) (fun h9 => ?_)
      · skip
        rw [if_neg (by rw [h9]; exact fun hh => by cases hh), h9] at E
        exact ⟨by rw [E]; rfl, rfl⟩
      · skip
        rw [if_pos h9] at E
        have hD := hD h9
        refine s_iconst (v := 0) eX4_namesMissing_146 rfl ?_
        refine s_istore_n (ls' := [some (.ref 41), some (.int 0)]) eX4_namesMissing_147 rfl rfl rfl ?_
        have q10 := hD
        refine clX4_namesMissing_148 64 0 m q10 (fun x11 h12 => ?_) (fun h12 => ?_)
        · skip
          rw [if_neg (by rw [h12]; exact fun hh => by cases hh), h12] at E
          exact ⟨by rw [E]; rfl, rfl⟩
        · skip
          rw [if_pos h12] at E
          refine s_iconst (v := 0) eX4_namesMissing_223 rfl ?_
          exact s_zret eX4_namesMissing_224 rfl (by first | exact Or.inl rfl | exact Or.inr rfl | (split <;> simp) | simp) ⟨rfl, by rw [E], rfl⟩
theorem clX4_takeText_44 {P : Option Value → ax_M → Prop} : ∀ (n : Nat) (v1 v2 : Int32) (m : ax_M), E4_takeText_44 n v1 v2 m → (ax_N 9 Y4_takeText 96 [some (.ref 41), some (.int ((L4_takeText_44 n v1 v2 m).1)), some (.int ((L4_takeText_44 n v1 v2 m).2.1))] [] ((L4_takeText_44 n v1 v2 m).2.2) P) → ax_N 9 Y4_takeText 44 [some (.ref 41), some (.int v1), some (.int v2)] [] m P := by
  intro n
  induction n with
  | zero => intro v1 v2 m hD; exact absurd hD id
  | succ n ih =>
    intro v1 v2 m hD hx
    have E : L4_takeText_44 (n + 1) v1 v2 m = (if 320 < v2 then (v1, v2, m) else (if ((F4_takeToken m) 41 6) = 0 then (if ((F4_takeToken m) 41 4) = 4 then (v1, v2, (F4_takeToken m)) else (if ((F4_takeLine (F4_takeToken m)) 41 6) = 0 then L4_takeText_44 n (v1 + 1) (v2 + 1) (F4_takeLine (F4_takeToken m)) else (v1, v2, (F4_takeLine (F4_takeToken m))))) else (v1, v2, (F4_takeToken m)))) := by rw [L4_takeText_44]
    have hD : ((¬ (320 < v2) → ((D4_takeToken m) ∧ ((((F4_takeToken m) 41 6) = 0) → ((¬ (((F4_takeToken m) 41 4) = 4) → ((D4_takeLine (F4_takeToken m)) ∧ ((((F4_takeLine (F4_takeToken m)) 41 6) = 0) → ((E4_takeText_44 n (v1 + 1) (v2 + 1) (F4_takeLine (F4_takeToken m)))))))))))) := hD
    refine s_iload_n eX4_takeText_44 rfl rfl ?_
    refine s_sipush (v := 320) eX4_takeText_45 rfl ?_
    refine s_icmp_gt eX4_takeText_48 (fun h1 => ?_) (fun h1 => ?_)
    · skip
      rw [if_pos h1] at E
      rw [E] at hx
      exact hx
    · skip
      rw [if_neg h1] at E
      have hD := hD h1
      refine s_aload_n eX4_takeText_51 rfl rfl ?_
      obtain ⟨q2, hD⟩ := hD
      refine n_callVv (As := []) eX4_takeText_52 kX4_takeToken lX4_55 rfl rfl shp_41 rfl rfl (Nat.le_of_ble_eq_true rfl) (Nat.le_of_ble_eq_true rfl) (Nat.le_of_ble_eq_true rfl) (uX4_takeToken m q2) ?_
      refine s_aload_n eX4_takeText_55 rfl rfl ?_
      refine s_geti eX4_takeText_56 fX4_42 shp_41 rfl ?_
      refine s_if_ne eX4_takeText_59 (fun h3 => ?_) (fun h3 => ?_)
      · skip
        rw [if_neg h3] at E
        rw [E] at hx
        exact hx
      · skip
        rw [if_pos h3] at E
        have hD := hD h3
        refine s_aload_n eX4_takeText_62 rfl rfl ?_
        refine s_geti eX4_takeText_63 fX4_58 shp_41 rfl ?_
        refine s_iconst (v := 4) eX4_takeText_66 rfl ?_
        refine s_icmp_ne eX4_takeText_67 (fun h4 => ?_) (fun h4 => ?_)
        · skip
          rw [if_neg h4] at E
          have hD := hD h4
          refine s_aload_n eX4_takeText_73 rfl rfl ?_
          obtain ⟨q5, hD⟩ := hD
          refine n_callVv (As := []) eX4_takeText_74 kX4_takeLine lX4_61 rfl rfl shp_41 rfl rfl (Nat.le_of_ble_eq_true rfl) (Nat.le_of_ble_eq_true rfl) (Nat.le_of_ble_eq_true rfl) (uX4_takeLine ((F4_takeToken m)) q5) ?_
          refine s_aload_n eX4_takeText_77 rfl rfl ?_
          refine s_geti eX4_takeText_78 fX4_42 shp_41 rfl ?_
          refine s_if_eq eX4_takeText_81 (fun h6 => ?_) (fun h6 => ?_)
          · skip
            rw [if_pos h6] at E
            have hD := hD h6
            refine s_iinc (v := v1 + 1) (ls' := [some (.ref 41), some (.int (v1 + 1)), some (.int v2)]) eX4_takeText_87 rfl rfl rfl rfl ?_
            refine s_iinc (v := v2 + 1) (ls' := [some (.ref 41), some (.int (v1 + 1)), some (.int (v2 + 1))]) eX4_takeText_90 rfl rfl rfl rfl ?_
            refine s_goto eX4_takeText_93 ?_
            rw [E] at hx
            exact ih (v1 + 1) (v2 + 1) ((F4_takeLine (F4_takeToken m))) hD hx
          · skip
            rw [if_neg h6] at E
            refine s_goto eX4_takeText_84 ?_
            rw [E] at hx
            exact hx
        · skip
          rw [if_pos h4] at E
          refine s_goto eX4_takeText_70 ?_
          rw [E] at hx
          exact hx
theorem cK4_takeText_123 (v1 v2 : Int32) (m : ax_M) {P : Option Value → ax_M → Prop} (hP : P (some (.int (K4_takeText_123 v1 v2 m).1)) (K4_takeText_123 v1 v2 m).2) : ax_N 9 Y4_takeText 123 [some (.ref 41), some (.int v1), some (.int v2)] [] m P := by
  have E : K4_takeText_123 v1 v2 m = (v1, m) := rfl
  refine s_iload_n eX4_takeText_123 rfl rfl ?_
  rw [E] at hP
  exact s_iret eX4_takeText_124 rfl ⟨rfl, hP⟩
theorem cK4_takeText_30 (m : ax_M) {P : Option Value → ax_M → Prop} (hD : HK4_takeText_30  m) (hP : P (some (.int (K4_takeText_30 m).1)) (K4_takeText_30 m).2) : ax_N 9 Y4_takeText 30 [some (.ref 41), none, none] [] m P := by
  have E : K4_takeText_30 m = (K4_takeText_123 ((L4_takeText_44 330 0 0 (ax_up (ax_up m 41 8 0) 41 9 0)).1) ((L4_takeText_44 330 0 0 (ax_up (ax_up m 41 8 0) 41 9 0)).2.1) (if ((L4_takeText_44 330 0 0 (ax_up (ax_up m 41 8 0) 41 9 0)).2.2 41 6) = 0 then (if (F4_namesMissing (L4_takeText_44 330 0 0 (ax_up (ax_up m 41 8 0) 41 9 0)).2.2) = 0 then (L4_takeText_44 330 0 0 (ax_up (ax_up m 41 8 0) 41 9 0)).2.2 else (F4_fail 6 ((L4_takeText_44 330 0 0 (ax_up (ax_up m 41 8 0) 41 9 0)).2.2 42 1) (L4_takeText_44 330 0 0 (ax_up (ax_up m 41 8 0) 41 9 0)).2.2)) else (L4_takeText_44 330 0 0 (ax_up (ax_up m 41 8 0) 41 9 0)).2.2)) := rfl
  unfold HK4_takeText_30 at hD
  refine s_aload_n eX4_takeText_30 rfl rfl ?_
  refine s_iconst (v := 0) eX4_takeText_31 rfl ?_
  refine s_puti eX4_takeText_32 fX4_48 pX4_8 rfl rfl shp_41 rfl ?_
  refine s_aload_n eX4_takeText_35 rfl rfl ?_
  refine s_iconst (v := 0) eX4_takeText_36 rfl ?_
  refine s_puti eX4_takeText_37 fX4_52 pX4_9 rfl rfl shp_41 rfl ?_
  refine s_iconst (v := 0) eX4_takeText_40 rfl ?_
  refine s_istore_n (ls' := [some (.ref 41), some (.int 0), none]) eX4_takeText_41 rfl rfl rfl ?_
  refine s_iconst (v := 0) eX4_takeText_42 rfl ?_
  refine s_istore_n (ls' := [some (.ref 41), some (.int 0), some (.int 0)]) eX4_takeText_43 rfl rfl rfl ?_
  obtain ⟨q1, hD⟩ := hD
  refine clX4_takeText_44 330 0 0 ((ax_up (ax_up m 41 8 0) 41 9 0)) q1 ?_
  refine s_aload_n eX4_takeText_96 rfl rfl ?_
  refine s_geti eX4_takeText_97 fX4_42 shp_41 rfl ?_
  have J2 : ax_N 9 Y4_takeText 123 [some (.ref 41), some (.int ((L4_takeText_44 330 0 0 (ax_up (ax_up m 41 8 0) 41 9 0)).1)), some (.int ((L4_takeText_44 330 0 0 (ax_up (ax_up m 41 8 0) 41 9 0)).2.1))] [] ((if ((L4_takeText_44 330 0 0 (ax_up (ax_up m 41 8 0) 41 9 0)).2.2 41 6) = 0 then (if (F4_namesMissing (L4_takeText_44 330 0 0 (ax_up (ax_up m 41 8 0) 41 9 0)).2.2) = 0 then (L4_takeText_44 330 0 0 (ax_up (ax_up m 41 8 0) 41 9 0)).2.2 else (F4_fail 6 ((L4_takeText_44 330 0 0 (ax_up (ax_up m 41 8 0) 41 9 0)).2.2 42 1) (L4_takeText_44 330 0 0 (ax_up (ax_up m 41 8 0) 41 9 0)).2.2)) else (L4_takeText_44 330 0 0 (ax_up (ax_up m 41 8 0) 41 9 0)).2.2)) P := by
    refine cK4_takeText_123 ((L4_takeText_44 330 0 0 (ax_up (ax_up m 41 8 0) 41 9 0)).1) ((L4_takeText_44 330 0 0 (ax_up (ax_up m 41 8 0) 41 9 0)).2.1) ((if ((L4_takeText_44 330 0 0 (ax_up (ax_up m 41 8 0) 41 9 0)).2.2 41 6) = 0 then (if (F4_namesMissing (L4_takeText_44 330 0 0 (ax_up (ax_up m 41 8 0) 41 9 0)).2.2) = 0 then (L4_takeText_44 330 0 0 (ax_up (ax_up m 41 8 0) 41 9 0)).2.2 else (F4_fail 6 ((L4_takeText_44 330 0 0 (ax_up (ax_up m 41 8 0) 41 9 0)).2.2 42 1) (L4_takeText_44 330 0 0 (ax_up (ax_up m 41 8 0) 41 9 0)).2.2)) else (L4_takeText_44 330 0 0 (ax_up (ax_up m 41 8 0) 41 9 0)).2.2)) ?_
    rw [E] at hP
    exact hP
  refine s_if_ne eX4_takeText_100 (fun h3 => ?_) (fun h3 => ?_)
  · skip
    exact ax_eqN rfl rfl (by rw [show ((if ((L4_takeText_44 330 0 0 (ax_up (ax_up m 41 8 0) 41 9 0)).2.2 41 6) = 0 then (if (F4_namesMissing (L4_takeText_44 330 0 0 (ax_up (ax_up m 41 8 0) 41 9 0)).2.2) = 0 then (L4_takeText_44 330 0 0 (ax_up (ax_up m 41 8 0) 41 9 0)).2.2 else (F4_fail 6 ((L4_takeText_44 330 0 0 (ax_up (ax_up m 41 8 0) 41 9 0)).2.2 42 1) (L4_takeText_44 330 0 0 (ax_up (ax_up m 41 8 0) 41 9 0)).2.2)) else (L4_takeText_44 330 0 0 (ax_up (ax_up m 41 8 0) 41 9 0)).2.2) : ax_M) = (L4_takeText_44 330 0 0 (ax_up (ax_up m 41 8 0) 41 9 0)).2.2 by rw [if_neg h3]]) J2
  · skip
    have hD := hD h3
    refine s_aload_n eX4_takeText_103 rfl rfl ?_
    have q4 := hD
    refine n_callVi (As := []) eX4_takeText_104 kX4_namesMissing lX4_64 rfl rfl shp_41 rfl rfl (Nat.le_of_ble_eq_true rfl) (Nat.le_of_ble_eq_true rfl) (Nat.le_of_ble_eq_true rfl) (uX4_namesMissing ((L4_takeText_44 330 0 0 (ax_up (ax_up m 41 8 0) 41 9 0)).2.2) q4) ?_
    refine s_if_eq eX4_takeText_107 (fun h5 => ?_) (fun h5 => ?_)
    · skip
      exact ax_eqN rfl rfl (by rw [show ((if ((L4_takeText_44 330 0 0 (ax_up (ax_up m 41 8 0) 41 9 0)).2.2 41 6) = 0 then (if (F4_namesMissing (L4_takeText_44 330 0 0 (ax_up (ax_up m 41 8 0) 41 9 0)).2.2) = 0 then (L4_takeText_44 330 0 0 (ax_up (ax_up m 41 8 0) 41 9 0)).2.2 else (F4_fail 6 ((L4_takeText_44 330 0 0 (ax_up (ax_up m 41 8 0) 41 9 0)).2.2 42 1) (L4_takeText_44 330 0 0 (ax_up (ax_up m 41 8 0) 41 9 0)).2.2)) else (L4_takeText_44 330 0 0 (ax_up (ax_up m 41 8 0) 41 9 0)).2.2) : ax_M) = (L4_takeText_44 330 0 0 (ax_up (ax_up m 41 8 0) 41 9 0)).2.2 by rw [if_pos h3, if_pos h5]]) J2
    · skip
      refine s_aload_n eX4_takeText_110 rfl rfl ?_
      refine s_bipush (v := 6) eX4_takeText_111 rfl ?_
      refine s_aload_n eX4_takeText_113 rfl rfl ?_
      refine s_getr (q := 42) eX4_takeText_114 fX4_12 shp_41 rfl ?_
      refine s_geti eX4_takeText_117 fX4_68 shp_42 rfl ?_
      refine n_callVv (As := [.int 6, .int ((L4_takeText_44 330 0 0 (ax_up (ax_up m 41 8 0) 41 9 0)).2.2 42 1)]) eX4_takeText_120 kX4_fail lX4_69 rfl rfl shp_41 rfl rfl (Nat.le_of_ble_eq_true rfl) (Nat.le_of_ble_eq_true rfl) (Nat.le_of_ble_eq_true rfl) (uX4_fail 6 ((L4_takeText_44 330 0 0 (ax_up (ax_up m 41 8 0) 41 9 0)).2.2 42 1) ((L4_takeText_44 330 0 0 (ax_up (ax_up m 41 8 0) 41 9 0)).2.2)) ?_
      exact ax_eqN rfl rfl (by rw [show ((if ((L4_takeText_44 330 0 0 (ax_up (ax_up m 41 8 0) 41 9 0)).2.2 41 6) = 0 then (if (F4_namesMissing (L4_takeText_44 330 0 0 (ax_up (ax_up m 41 8 0) 41 9 0)).2.2) = 0 then (L4_takeText_44 330 0 0 (ax_up (ax_up m 41 8 0) 41 9 0)).2.2 else (F4_fail 6 ((L4_takeText_44 330 0 0 (ax_up (ax_up m 41 8 0) 41 9 0)).2.2 42 1) (L4_takeText_44 330 0 0 (ax_up (ax_up m 41 8 0) 41 9 0)).2.2)) else (L4_takeText_44 330 0 0 (ax_up (ax_up m 41 8 0) 41 9 0)).2.2) : ax_M) = (F4_fail 6 ((L4_takeText_44 330 0 0 (ax_up (ax_up m 41 8 0) 41 9 0)).2.2 42 1) (L4_takeText_44 330 0 0 (ax_up (ax_up m 41 8 0) 41 9 0)).2.2) by rw [if_pos h3, if_neg h5]]) J2
theorem uX4_takeText (m : ax_M) (hD : D4_takeText m) : ax_NM 9 Y4_takeText [.ref 41] m (fun r m1 => r = some (.int (F4_takeText m).1) ∧ m1 = (F4_takeText m).2) := by
  have E : F4_takeText m = (K4_takeText_30 (ax_up (ax_up (ax_up (ax_up (F1_clear 44 m) 53 1 0) 41 3 0) 41 6 0) 41 7 0)) := rfl
  unfold D4_takeText at hD
  show ax_N 9 Y4_takeText 0 [some (.ref 41), none, none] [] m _
  refine s_aload_n eX4_takeText_0 rfl rfl ?_
  refine s_getr (q := 44) eX4_takeText_1 fX4_21 shp_41 rfl ?_
  obtain ⟨q1, hD⟩ := hD
  refine n_callVv (As := []) eX4_takeText_4 kX1_clear lX4_32 rfl rfl shp_44 rfl rfl (Nat.le_of_ble_eq_true rfl) (Nat.le_of_ble_eq_true rfl) (Nat.le_of_ble_eq_true rfl) (uX1_clear 44 m isG_44 q1) ?_
  refine s_aload_n eX4_takeText_7 rfl rfl ?_
  refine s_getr (q := 53) eX4_takeText_8 fX4_28 shp_41 rfl ?_
  refine s_iconst (v := 0) eX4_takeText_11 rfl ?_
  refine s_puti eX4_takeText_12 fX4_35 pX0_1 rfl rfl shp_53 rfl ?_
  refine s_aload_n eX4_takeText_15 rfl rfl ?_
  refine s_iconst (v := 0) eX4_takeText_16 rfl ?_
  refine s_puti eX4_takeText_17 fX4_39 pX4_3 rfl rfl shp_41 rfl ?_
  refine s_aload_n eX4_takeText_20 rfl rfl ?_
  refine s_iconst (v := 0) eX4_takeText_21 rfl ?_
  refine s_puti eX4_takeText_22 fX4_42 pX4_6 rfl rfl shp_41 rfl ?_
  refine s_aload_n eX4_takeText_25 rfl rfl ?_
  refine s_iconst (v := 0) eX4_takeText_26 rfl ?_
  refine s_puti eX4_takeText_27 fX4_45 pX4_7 rfl rfl shp_41 rfl ?_
  refine cK4_takeText_30 ((ax_up (ax_up (ax_up (ax_up (F1_clear 44 m) 53 1 0) 41 3 0) 41 6 0) 41 7 0)) hD ?_
  exact ⟨by rw [E], by rw [E]⟩
theorem clX7_feed_25 (a1 : Int64) {P : Option Value → ax_M → Prop} : ∀ (n : Nat) (v4 : Int32) (m : ax_M), E7_feed_25 a1 n v4 m → (ax_N 2 Y7_feed 49 [some (.ref 0), some (.long a1), none, some (.ref 42), some (.int ((L7_feed_25 a1 n v4 m).1))] [] ((L7_feed_25 a1 n v4 m).2) P) → ax_N 2 Y7_feed 25 [some (.ref 0), some (.long a1), none, some (.ref 42), some (.int v4)] [] m P := by
  intro n
  induction n with
  | zero => intro v4 m hD; exact absurd hD id
  | succ n ih =>
    intro v4 m hD hx
    have E : L7_feed_25 a1 (n + 1) v4 m = (if v4 < 0 then (v4, m) else L7_feed_25 a1 n (v4 + (-8)) (F6_append ((Int64.toInt32 ((Int64.toUInt64 a1 >>> ((Int32.toInt64 v4).toUInt64 &&& Int64.toUInt64 63)).toInt64)) &&& 255) m)) := by rw [L7_feed_25]
    have hD : ((¬ (v4 < 0) → ((E7_feed_25 a1 n (v4 + (-8)) (F6_append ((Int64.toInt32 ((Int64.toUInt64 a1 >>> ((Int32.toInt64 v4).toUInt64 &&& Int64.toUInt64 63)).toInt64)) &&& 255) m))))) := hD
    refine s_iload eX7_feed_25 rfl ?_
    refine s_if_lt eX7_feed_27 (fun h1 => ?_) (fun h1 => ?_)
    · skip
      rw [if_pos h1] at E
      rw [E] at hx
      exact hx
    · skip
      rw [if_neg h1] at E
      have hD := hD h1
      refine s_aload_n eX7_feed_30 rfl rfl ?_
      refine s_lload_n eX7_feed_31 rfl rfl ?_
      refine s_iload eX7_feed_32 rfl ?_
      refine s_lushr eX7_feed_34 ?_
      refine s_l2i eX7_feed_35 ?_
      refine s_sipush (v := 255) eX7_feed_36 rfl ?_
      refine s_iand eX7_feed_39 ?_
      refine n_callVv (As := [.int ((Int64.toInt32 ((Int64.toUInt64 a1 >>> ((Int32.toInt64 v4).toUInt64 &&& Int64.toUInt64 63)).toInt64)) &&& 255)]) eX7_feed_40 kX6_append lX7_72 rfl rfl shp_42 rfl rfl (Nat.le_of_ble_eq_true rfl) (Nat.le_of_ble_eq_true rfl) (Nat.le_of_ble_eq_true rfl) (uX6_append ((Int64.toInt32 ((Int64.toUInt64 a1 >>> ((Int32.toInt64 v4).toUInt64 &&& Int64.toUInt64 63)).toInt64)) &&& 255) m) ?_
      refine s_iinc (v := v4 + (-8)) (ls' := [some (.ref 0), some (.long a1), none, some (.ref 42), some (.int (v4 + (-8)))]) eX7_feed_43 rfl rfl rfl rfl ?_
      refine s_goto eX7_feed_46 ?_
      rw [E] at hx
      exact ih (v4 + (-8)) ((F6_append ((Int64.toInt32 ((Int64.toUInt64 a1 >>> ((Int32.toInt64 v4).toUInt64 &&& Int64.toUInt64 63)).toInt64)) &&& 255) m)) hD hx
theorem uX7_feed (a1 : Int64) (m : ax_M) (hD : D7_feed a1 m) : ax_NM 2 Y7_feed [.ref 0, .long a1] m (fun r m1 => r = some (.int (F7_feed a1 m).1) ∧ m1 = (F7_feed a1 m).2) := by
  have E : F7_feed a1 m = (if (m 42 1) ≤ 312 then ((L7_feed_25 a1 64 56 m).2 42 1, (L7_feed_25 a1 64 56 m).2) else ((-3), m)) := rfl
  unfold D7_feed at hD
  show ax_N 2 Y7_feed 0 [some (.ref 0), some (.long a1), none, none, none] [] m _
  refine s_aload_n eX7_feed_0 rfl rfl ?_
  refine s_getr (q := 41) eX7_feed_1 fX7_37 shp_0 rfl ?_
  refine s_getr (q := 42) eX7_feed_4 fX7_62 shp_41 rfl ?_
  refine s_astore_n (ls' := [some (.ref 0), some (.long a1), none, some (.ref 42), none]) eX7_feed_7 rfl rfl rfl ?_
  refine s_aload_n eX7_feed_8 rfl rfl ?_
  refine s_geti eX7_feed_9 fX7_66 shp_42 rfl ?_
  refine s_sipush (v := 312) eX7_feed_12 rfl ?_
  refine s_icmp_le eX7_feed_15 (fun h1 => ?_) (fun h1 => ?_)
  · skip
    rw [if_pos h1] at E
    have hD := hD h1
    refine s_bipush (v := 56) eX7_feed_21 rfl ?_
    refine s_istore (ls' := [some (.ref 0), some (.long a1), none, some (.ref 42), some (.int 56)]) eX7_feed_23 rfl rfl ?_
    have q2 := hD
    refine clX7_feed_25 a1 64 56 m q2 ?_
    refine s_aload_n eX7_feed_49 rfl rfl ?_
    refine s_geti eX7_feed_50 fX7_66 shp_42 rfl ?_
    exact s_iret eX7_feed_53 rfl ⟨rfl, by rw [E], by rw [E]⟩
  · skip
    rw [if_neg h1] at E
    refine s_bipush (v := (-3)) eX7_feed_18 rfl ?_
    exact s_iret eX7_feed_20 rfl ⟨rfl, by rw [E], by rw [E]⟩
theorem uX7_end (a1 : Int32) (m : ax_M) : ax_NM 1 Y7_end [.ref 0, .int a1] m (fun r m1 => r = some (.int (F7_end a1 m).1) ∧ m1 = (F7_end a1 m).2) := by
  have E : F7_end a1 m = (if (F7_within a1 0 (m 42 1) m) = 0 then ((-1), m) else (m 42 1, (ax_up m 42 1 a1))) := rfl
  show ax_N 1 Y7_end 0 [some (.ref 0), some (.int a1), none, none] [] m _
  refine s_aload_n eX7_end_0 rfl rfl ?_
  refine s_getr (q := 41) eX7_end_1 fX7_37 shp_0 rfl ?_
  refine s_getr (q := 42) eX7_end_4 fX7_62 shp_41 rfl ?_
  refine s_astore_n (ls' := [some (.ref 0), some (.int a1), some (.ref 42), none]) eX7_end_7 rfl rfl rfl ?_
  refine s_iload_n eX7_end_8 rfl rfl ?_
  refine s_iconst (v := 0) eX7_end_9 rfl ?_
  refine s_aload_n eX7_end_10 rfl rfl ?_
  refine s_geti eX7_end_11 fX7_66 shp_42 rfl ?_
  refine n_callSi (As := [.int a1, .int 0, .int (m 42 1)]) eX7_end_14 kX7_within lX7_76 rfl rfl (Nat.le_of_ble_eq_true rfl) (Nat.le_of_ble_eq_true rfl) (Nat.le_of_ble_eq_true rfl) (uX7_within a1 0 (m 42 1) m) ?_
  refine s_if_ne eX7_end_17 (fun h1 => ?_) (fun h1 => ?_)
  · skip
    rw [if_neg h1] at E
    refine s_aload_n eX7_end_22 rfl rfl ?_
    refine s_geti eX7_end_23 fX7_66 shp_42 rfl ?_
    refine s_istore_n (ls' := [some (.ref 0), some (.int a1), some (.ref 42), some (.int (m 42 1))]) eX7_end_26 rfl rfl rfl ?_
    refine s_aload_n eX7_end_27 rfl rfl ?_
    refine s_iload_n eX7_end_28 rfl rfl ?_
    refine s_puti eX7_end_29 fX7_66 pX6_1 rfl rfl shp_42 rfl ?_
    refine s_iload_n eX7_end_32 rfl rfl ?_
    exact s_iret eX7_end_33 rfl ⟨rfl, by rw [E], by rw [E]⟩
  · skip
    rw [if_pos h1] at E
    refine s_iconst (v := (-1)) eX7_end_20 rfl ?_
    exact s_iret eX7_end_21 rfl ⟨rfl, by rw [E], by rw [E]⟩
theorem clX7_text_78 {P : Option Value → ax_M → Prop} : ∀ (n : Nat) (v1 v2 : Int32) (m : ax_M), E7_text_78 n v1 v2 m → (ax_N 10 Y7_text 100 [some (.ref 0), some (.int v1), some (.int ((L7_text_78 n v1 v2 m).1))] [] ((L7_text_78 n v1 v2 m).2) P) → ax_N 10 Y7_text 78 [some (.ref 0), some (.int v1), some (.int v2)] [] m P := by
  intro n
  induction n with
  | zero => intro v1 v2 m hD; exact absurd hD id
  | succ n ih =>
    intro v1 v2 m hD hx
    have E : L7_text_78 (n + 1) v1 v2 m = (if 2 ≤ v2 then (v2, m) else L7_text_78 n v1 (v2 + 1) (ax_up m 38 (Int32.toNatClampNeg v2) 0)) := by rw [L7_text_78]
    have hD : ((¬ (2 ≤ v2) → ((vp_in v2 2) ∧ (E7_text_78 n v1 (v2 + 1) (ax_up m 38 (Int32.toNatClampNeg v2) 0))))) := hD
    refine s_iload_n eX7_text_78 rfl rfl ?_
    refine s_aload_n eX7_text_79 rfl rfl ?_
    refine s_getr (q := 38) eX7_text_80 fX7_23 shp_0 rfl ?_
    refine s_alen (v := 2) eX7_text_83 shp_38 rfl ?_
    refine s_icmp_ge eX7_text_84 (fun h1 => ?_) (fun h1 => ?_)
    · skip
      rw [if_pos h1] at E
      rw [E] at hx
      exact hx
    · skip
      rw [if_neg h1] at E
      have hD := hD h1
      refine s_aload_n eX7_text_87 rfl rfl ?_
      refine s_getr (q := 38) eX7_text_88 fX7_23 shp_0 rfl ?_
      refine s_iload_n eX7_text_91 rfl rfl ?_
      refine s_iconst (v := 0) eX7_text_92 rfl ?_
      obtain ⟨q2, hD⟩ := hD
      refine s_zast (x' := 0) eX7_text_93 shp_38 q2 rfl ?_
      refine s_iinc (v := v2 + 1) (ls' := [some (.ref 0), some (.int v1), some (.int (v2 + 1))]) eX7_text_94 rfl rfl rfl rfl ?_
      refine s_goto eX7_text_97 ?_
      rw [E] at hx
      exact ih v1 (v2 + 1) ((ax_up m 38 (Int32.toNatClampNeg v2) 0)) hD hx
theorem cK7_text_100 (v1 v2 : Int32) (m : ax_M) {P : Option Value → ax_M → Prop} (hP : P (some (.int (K7_text_100 v1 v2 m).1)) (K7_text_100 v1 v2 m).2) : ax_N 10 Y7_text 100 [some (.ref 0), some (.int v1), some (.int v2)] [] m P := by
  have E : K7_text_100 v1 v2 m = (v1, m) := rfl
  refine s_iload_n eX7_text_100 rfl rfl ?_
  rw [E] at hP
  exact s_iret eX7_text_101 rfl ⟨rfl, hP⟩
theorem cK7_text_30 (v1 : Int32) (m : ax_M) {P : Option Value → ax_M → Prop} (hD : HK7_text_30 v1 m) (hP : P (some (.int (K7_text_30 v1 m).1)) (K7_text_30 v1 m).2) : ax_N 10 Y7_text 30 [some (.ref 0), some (.int v1), none] [] m P := by
  have E : K7_text_30 v1 m = (if (m 0 9) = 0 then (K7_text_100 v1 ((L7_text_78 64 v1 0 (F0_copyFrom 39 53 (F1_copyFrom 1 44 m))).1) (L7_text_78 64 v1 0 (F0_copyFrom 39 53 (F1_copyFrom 1 44 m))).2) else (((-10)) - (m 41 7), m)) := rfl
  unfold HK7_text_30 at hD
  refine s_aload_n eX7_text_30 rfl rfl ?_
  refine s_geti eX7_text_31 fX7_87 shp_0 rfl ?_
  refine s_if_eq eX7_text_34 (fun h1 => ?_) (fun h1 => ?_)
  · skip
    rw [if_pos h1] at E
    have hD := hD h1
    refine s_aload_n eX7_text_48 rfl rfl ?_
    refine s_getr (q := 1) eX7_text_49 fX7_10 shp_0 rfl ?_
    refine s_aload_n eX7_text_52 rfl rfl ?_
    refine s_getr (q := 41) eX7_text_53 fX7_37 shp_0 rfl ?_
    refine s_getr (q := 44) eX7_text_56 fX7_93 shp_41 rfl ?_
    refine n_callVv (As := [.ref 44]) eX7_text_59 kX1_copyFrom lX7_96 rfl rfl shp_1 rfl rfl (Nat.le_of_ble_eq_true rfl) (Nat.le_of_ble_eq_true rfl) (Nat.le_of_ble_eq_true rfl) (uX1_copyFrom 1 44 m isG_1 isG_44) ?_
    refine s_aload_n eX7_text_62 rfl rfl ?_
    refine s_getr (q := 39) eX7_text_63 fX7_30 shp_0 rfl ?_
    refine s_aload_n eX7_text_66 rfl rfl ?_
    refine s_getr (q := 41) eX7_text_67 fX7_37 shp_0 rfl ?_
    refine s_getr (q := 53) eX7_text_70 fX7_100 shp_41 rfl ?_
    refine n_callVv (As := [.ref 53]) eX7_text_73 kX0_copyFrom lX7_103 rfl rfl shp_39 rfl rfl (Nat.le_of_ble_eq_true rfl) (Nat.le_of_ble_eq_true rfl) (Nat.le_of_ble_eq_true rfl) (uX0_copyFrom 39 53 ((F1_copyFrom 1 44 m)) isD_39 isD_53) ?_
    refine s_iconst (v := 0) eX7_text_76 rfl ?_
    refine s_istore_n (ls' := [some (.ref 0), some (.int v1), some (.int 0)]) eX7_text_77 rfl rfl rfl ?_
    have q2 := hD
    refine clX7_text_78 64 v1 0 ((F0_copyFrom 39 53 (F1_copyFrom 1 44 m))) q2 ?_
    refine cK7_text_100 v1 ((L7_text_78 64 v1 0 (F0_copyFrom 39 53 (F1_copyFrom 1 44 m))).1) ((L7_text_78 64 v1 0 (F0_copyFrom 39 53 (F1_copyFrom 1 44 m))).2) ?_
    rw [E] at hP
    exact hP
  · skip
    rw [if_neg h1] at E
    refine s_bipush (v := (-10)) eX7_text_37 rfl ?_
    refine s_aload_n eX7_text_39 rfl rfl ?_
    refine s_getr (q := 41) eX7_text_40 fX7_37 shp_0 rfl ?_
    refine s_geti eX7_text_43 fX7_90 shp_41 rfl ?_
    refine s_isub eX7_text_46 ?_
    rw [E] at hP
    exact s_iret eX7_text_47 rfl ⟨rfl, hP⟩
theorem uX7_text (m : ax_M) (hD : D7_text m) : ax_NM 10 Y7_text [.ref 0] m (fun r m1 => r = some (.int (F7_text m).1) ∧ m1 = (F7_text m).2) := by
  have E : F7_text m = (K7_text_30 ((F4_takeText m).1) (ax_up (ax_up (F4_takeText m).2 42 1 0) 0 9 ((ax_up (F4_takeText m).2 42 1 0) 41 6))) := rfl
  unfold D7_text at hD
  show ax_N 10 Y7_text 0 [some (.ref 0), none, none] [] m _
  refine s_aload_n eX7_text_0 rfl rfl ?_
  refine s_getr (q := 41) eX7_text_1 fX7_37 shp_0 rfl ?_
  obtain ⟨q1, hD⟩ := hD
  refine n_callVi (As := []) eX7_text_4 kX4_takeText lX7_80 rfl rfl shp_41 rfl rfl (Nat.le_of_ble_eq_true rfl) (Nat.le_of_ble_eq_true rfl) (Nat.le_of_ble_eq_true rfl) (uX4_takeText m q1) ?_
  refine s_istore_n (ls' := [some (.ref 0), some (.int ((F4_takeText m).1)), none]) eX7_text_7 rfl rfl rfl ?_
  refine s_aload_n eX7_text_8 rfl rfl ?_
  refine s_getr (q := 41) eX7_text_9 fX7_37 shp_0 rfl ?_
  refine s_getr (q := 42) eX7_text_12 fX7_62 shp_41 rfl ?_
  refine s_iconst (v := 0) eX7_text_15 rfl ?_
  refine s_puti eX7_text_16 fX7_66 pX6_1 rfl rfl shp_42 rfl ?_
  refine s_aload_n eX7_text_19 rfl rfl ?_
  refine s_aload_n eX7_text_20 rfl rfl ?_
  refine s_getr (q := 41) eX7_text_21 fX7_37 shp_0 rfl ?_
  refine s_geti eX7_text_24 fX7_84 shp_41 rfl ?_
  refine s_puti eX7_text_27 fX7_87 pX7_9 rfl rfl shp_0 rfl ?_
  refine cK7_text_30 ((F4_takeText m).1) ((ax_up (ax_up (F4_takeText m).2 42 1 0) 0 9 ((ax_up (F4_takeText m).2 42 1 0) 41 6))) hD ?_
  exact ⟨by rw [E], by rw [E]⟩
theorem uX7_fault (m : ax_M) : ax_NM 0 Y7_fault [.ref 0] m (fun r m1 => r = some (.int (F7_fault m)) ∧ m1 = m) := by
  have E : F7_fault m = (m 0 9) := rfl
  show ax_N 0 Y7_fault 0 [some (.ref 0)] [] m _
  refine s_aload_n eX7_fault_0 rfl rfl ?_
  refine s_geti eX7_fault_1 fX7_87 shp_0 rfl ?_
  exact s_iret eX7_fault_4 rfl ⟨rfl, by rw [E], rfl⟩
theorem uX7_rule (a1 : Int32) (m : ax_M) : ax_NM 0 Y7_rule [.ref 0, .int a1] m (fun r m1 => r = some (.int (F7_rule a1 m)) ∧ m1 = m) := by
  have E : F7_rule a1 m = (if a1 = 0 then (m 1 0) else (if a1 = 1 then (m 1 1) else (if a1 = 2 then (m 1 2) else (if a1 = 3 then (m 1 3) else (if a1 = 4 then (m 1 4) else ((-1))))))) := rfl
  show ax_N 0 Y7_rule 0 [some (.ref 0), some (.int a1)] [] m _
  refine s_iload_n eX7_rule_0 rfl rfl ?_
  by_cases h1 : a1 = 0
  · skip
    refine s_tabIn (off := 35) (tgt := 36) ⟨eX7_rule_1.1, eX7_rule_1.2, by decide⟩ (by rw [h1]; decide) (by rw [h1]; decide) (by rw [h1]; rfl) ?_
    rw [if_pos h1] at E
    refine s_aload_n eX7_rule_36 rfl rfl ?_
    refine s_getr (q := 1) eX7_rule_37 fX7_10 shp_0 rfl ?_
    refine s_geti eX7_rule_40 fX7_106 shp_1 rfl ?_
    exact s_iret eX7_rule_43 rfl ⟨rfl, by rw [E], rfl⟩
  rw [if_neg h1] at E
  by_cases h2 : a1 = 1
  · skip
    refine s_tabIn (off := 43) (tgt := 44) ⟨eX7_rule_1.1, eX7_rule_1.2, by decide⟩ (by rw [h2]; decide) (by rw [h2]; decide) (by rw [h2]; rfl) ?_
    rw [if_pos h2] at E
    refine s_aload_n eX7_rule_44 rfl rfl ?_
    refine s_getr (q := 1) eX7_rule_45 fX7_10 shp_0 rfl ?_
    refine s_geti eX7_rule_48 fX7_109 shp_1 rfl ?_
    exact s_iret eX7_rule_51 rfl ⟨rfl, by rw [E], rfl⟩
  rw [if_neg h2] at E
  by_cases h3 : a1 = 2
  · skip
    refine s_tabIn (off := 51) (tgt := 52) ⟨eX7_rule_1.1, eX7_rule_1.2, by decide⟩ (by rw [h3]; decide) (by rw [h3]; decide) (by rw [h3]; rfl) ?_
    rw [if_pos h3] at E
    refine s_aload_n eX7_rule_52 rfl rfl ?_
    refine s_getr (q := 1) eX7_rule_53 fX7_10 shp_0 rfl ?_
    refine s_geti eX7_rule_56 fX7_112 shp_1 rfl ?_
    exact s_iret eX7_rule_59 rfl ⟨rfl, by rw [E], rfl⟩
  rw [if_neg h3] at E
  by_cases h4 : a1 = 3
  · skip
    refine s_tabIn (off := 59) (tgt := 60) ⟨eX7_rule_1.1, eX7_rule_1.2, by decide⟩ (by rw [h4]; decide) (by rw [h4]; decide) (by rw [h4]; rfl) ?_
    rw [if_pos h4] at E
    refine s_aload_n eX7_rule_60 rfl rfl ?_
    refine s_getr (q := 1) eX7_rule_61 fX7_10 shp_0 rfl ?_
    refine s_geti eX7_rule_64 fX7_115 shp_1 rfl ?_
    exact s_iret eX7_rule_67 rfl ⟨rfl, by rw [E], rfl⟩
  rw [if_neg h4] at E
  by_cases h5 : a1 = 4
  · skip
    refine s_tabIn (off := 67) (tgt := 68) ⟨eX7_rule_1.1, eX7_rule_1.2, by decide⟩ (by rw [h5]; decide) (by rw [h5]; decide) (by rw [h5]; rfl) ?_
    rw [if_pos h5] at E
    refine s_aload_n eX7_rule_68 rfl rfl ?_
    refine s_getr (q := 1) eX7_rule_69 fX7_10 shp_0 rfl ?_
    refine s_geti eX7_rule_72 fX7_118 shp_1 rfl ?_
    exact s_iret eX7_rule_75 rfl ⟨rfl, by rw [E], rfl⟩
  rw [if_neg h5] at E
  refine s_tabOut (tgt := 76) ⟨eX7_rule_1.1, eX7_rule_1.2, by decide⟩ (ax_swout 4 (by decide) (fun k hk => by
    rcases (show k = 0 ∨ k = 1 ∨ k = 2 ∨ k = 3 ∨ k = 4 by omega) with rfl | rfl | rfl | rfl | rfl
    · exact h1
    · exact h2
    · exact h3
    · exact h4
    · exact h5)) ?_
  refine s_iconst (v := (-1)) eX7_rule_76 rfl ?_
  exact s_iret eX7_rule_77 rfl ⟨rfl, by rw [E], rfl⟩
theorem uX7_bridge (a1 : Int32) (a2 : Int32) (m : ax_M) : ax_NM 2 Y7_bridge [.ref 0, .int a1, .int a2] m (fun r m1 => r = some (.int (F7_bridge a1 a2 m)) ∧ m1 = m) := by
  have E : F7_bridge a1 a2 m = (if (F1_hasBridge 1 a1 m) = 0 then ((-1)) else (if a2 = 0 then (F1_firstBank 1 a1 m) else (if a2 = 1 then (F1_secondBank 1 a1 m) else (if a2 = 2 then (F1_playOf 1 a1 m) else ((-1)))))) := rfl
  show ax_N 2 Y7_bridge 0 [some (.ref 0), some (.int a1), some (.int a2)] [] m _
  refine s_aload_n eX7_bridge_0 rfl rfl ?_
  refine s_getr (q := 1) eX7_bridge_1 fX7_10 shp_0 rfl ?_
  refine s_iload_n eX7_bridge_4 rfl rfl ?_
  refine n_callVi (As := [.int a1]) eX7_bridge_5 kX1_hasBridge lX7_121 rfl rfl shp_1 rfl rfl (Nat.le_of_ble_eq_true rfl) (Nat.le_of_ble_eq_true rfl) (Nat.le_of_ble_eq_true rfl) (uX1_hasBridge 1 a1 m isG_1) ?_
  refine s_if_ne eX7_bridge_8 (fun h1 => ?_) (fun h1 => ?_)
  · skip
    rw [if_neg h1] at E
    refine s_iload_n eX7_bridge_13 rfl rfl ?_
    by_cases h2 : a2 = 0
    · skip
      refine s_tabIn (off := 26) (tgt := 40) ⟨eX7_bridge_14.1, eX7_bridge_14.2, by decide⟩ (by rw [h2]; decide) (by rw [h2]; decide) (by rw [h2]; rfl) ?_
      rw [if_pos h2] at E
      refine s_aload_n eX7_bridge_40 rfl rfl ?_
      refine s_getr (q := 1) eX7_bridge_41 fX7_10 shp_0 rfl ?_
      refine s_iload_n eX7_bridge_44 rfl rfl ?_
      refine n_callVi (As := [.int a1]) eX7_bridge_45 kX1_firstBank lX7_125 rfl rfl shp_1 rfl rfl (Nat.le_of_ble_eq_true rfl) (Nat.le_of_ble_eq_true rfl) (Nat.le_of_ble_eq_true rfl) (uX1_firstBank 1 a1 m isG_1) ?_
      exact s_iret eX7_bridge_48 rfl ⟨rfl, by rw [E], rfl⟩
    rw [if_neg h2] at E
    by_cases h3 : a2 = 1
    · skip
      refine s_tabIn (off := 35) (tgt := 49) ⟨eX7_bridge_14.1, eX7_bridge_14.2, by decide⟩ (by rw [h3]; decide) (by rw [h3]; decide) (by rw [h3]; rfl) ?_
      rw [if_pos h3] at E
      refine s_aload_n eX7_bridge_49 rfl rfl ?_
      refine s_getr (q := 1) eX7_bridge_50 fX7_10 shp_0 rfl ?_
      refine s_iload_n eX7_bridge_53 rfl rfl ?_
      refine n_callVi (As := [.int a1]) eX7_bridge_54 kX1_secondBank lX7_129 rfl rfl shp_1 rfl rfl (Nat.le_of_ble_eq_true rfl) (Nat.le_of_ble_eq_true rfl) (Nat.le_of_ble_eq_true rfl) (uX1_secondBank 1 a1 m isG_1) ?_
      exact s_iret eX7_bridge_57 rfl ⟨rfl, by rw [E], rfl⟩
    rw [if_neg h3] at E
    by_cases h4 : a2 = 2
    · skip
      refine s_tabIn (off := 44) (tgt := 58) ⟨eX7_bridge_14.1, eX7_bridge_14.2, by decide⟩ (by rw [h4]; decide) (by rw [h4]; decide) (by rw [h4]; rfl) ?_
      rw [if_pos h4] at E
      refine s_aload_n eX7_bridge_58 rfl rfl ?_
      refine s_getr (q := 1) eX7_bridge_59 fX7_10 shp_0 rfl ?_
      refine s_iload_n eX7_bridge_62 rfl rfl ?_
      refine n_callVi (As := [.int a1]) eX7_bridge_63 kX1_playOf lX7_132 rfl rfl shp_1 rfl rfl (Nat.le_of_ble_eq_true rfl) (Nat.le_of_ble_eq_true rfl) (Nat.le_of_ble_eq_true rfl) (uX1_playOf 1 a1 m isG_1) ?_
      exact s_iret eX7_bridge_66 rfl ⟨rfl, by rw [E], rfl⟩
    rw [if_neg h4] at E
    refine s_tabOut (tgt := 67) ⟨eX7_bridge_14.1, eX7_bridge_14.2, by decide⟩ (ax_swout 2 (by decide) (fun k hk => by
      rcases (show k = 0 ∨ k = 1 ∨ k = 2 by omega) with rfl | rfl | rfl
      · exact h2
      · exact h3
      · exact h4)) ?_
    refine s_iconst (v := (-1)) eX7_bridge_67 rfl ?_
    exact s_iret eX7_bridge_68 rfl ⟨rfl, by rw [E], rfl⟩
  · skip
    rw [if_pos h1] at E
    refine s_iconst (v := (-1)) eX7_bridge_11 rfl ?_
    exact s_iret eX7_bridge_12 rfl ⟨rfl, by rw [E], rfl⟩
theorem uX7_one (a1 : Int32) (a2 : Int32) (m : ax_M) : ax_NM 2 Y7_one [.ref 0, .int a1, .int a2] m (fun r m1 => r = some (.int (F7_one a1 a2 m)) ∧ m1 = m) := by
  have E : F7_one a1 a2 m = (if (F1_hasOne 1 a1 m) = 0 then ((-1)) else (if a2 = 0 then (F1_kindOf 1 a1 m) else (if a2 = 1 then (F1_weightOf 1 a1 m) else (if a2 = 2 then (F1_bankOf 1 a1 m) else (if a2 = 3 then (F1_goalOf 1 a1 m) else ((-1))))))) := rfl
  show ax_N 2 Y7_one 0 [some (.ref 0), some (.int a1), some (.int a2)] [] m _
  refine s_aload_n eX7_one_0 rfl rfl ?_
  refine s_getr (q := 1) eX7_one_1 fX7_10 shp_0 rfl ?_
  refine s_iload_n eX7_one_4 rfl rfl ?_
  refine n_callVi (As := [.int a1]) eX7_one_5 kX1_hasOne lX7_135 rfl rfl shp_1 rfl rfl (Nat.le_of_ble_eq_true rfl) (Nat.le_of_ble_eq_true rfl) (Nat.le_of_ble_eq_true rfl) (uX1_hasOne 1 a1 m isG_1) ?_
  refine s_if_ne eX7_one_8 (fun h1 => ?_) (fun h1 => ?_)
  · skip
    rw [if_neg h1] at E
    refine s_iload_n eX7_one_13 rfl rfl ?_
    by_cases h2 : a2 = 0
    · skip
      refine s_tabIn (off := 30) (tgt := 44) ⟨eX7_one_14.1, eX7_one_14.2, by decide⟩ (by rw [h2]; decide) (by rw [h2]; decide) (by rw [h2]; rfl) ?_
      rw [if_pos h2] at E
      refine s_aload_n eX7_one_44 rfl rfl ?_
      refine s_getr (q := 1) eX7_one_45 fX7_10 shp_0 rfl ?_
      refine s_iload_n eX7_one_48 rfl rfl ?_
      refine n_callVi (As := [.int a1]) eX7_one_49 kX1_kindOf lX7_138 rfl rfl shp_1 rfl rfl (Nat.le_of_ble_eq_true rfl) (Nat.le_of_ble_eq_true rfl) (Nat.le_of_ble_eq_true rfl) (uX1_kindOf 1 a1 m isG_1) ?_
      exact s_iret eX7_one_52 rfl ⟨rfl, by rw [E], rfl⟩
    rw [if_neg h2] at E
    by_cases h3 : a2 = 1
    · skip
      refine s_tabIn (off := 39) (tgt := 53) ⟨eX7_one_14.1, eX7_one_14.2, by decide⟩ (by rw [h3]; decide) (by rw [h3]; decide) (by rw [h3]; rfl) ?_
      rw [if_pos h3] at E
      refine s_aload_n eX7_one_53 rfl rfl ?_
      refine s_getr (q := 1) eX7_one_54 fX7_10 shp_0 rfl ?_
      refine s_iload_n eX7_one_57 rfl rfl ?_
      refine n_callVi (As := [.int a1]) eX7_one_58 kX1_weightOf lX7_141 rfl rfl shp_1 rfl rfl (Nat.le_of_ble_eq_true rfl) (Nat.le_of_ble_eq_true rfl) (Nat.le_of_ble_eq_true rfl) (uX1_weightOf 1 a1 m isG_1) ?_
      exact s_iret eX7_one_61 rfl ⟨rfl, by rw [E], rfl⟩
    rw [if_neg h3] at E
    by_cases h4 : a2 = 2
    · skip
      refine s_tabIn (off := 48) (tgt := 62) ⟨eX7_one_14.1, eX7_one_14.2, by decide⟩ (by rw [h4]; decide) (by rw [h4]; decide) (by rw [h4]; rfl) ?_
      rw [if_pos h4] at E
      refine s_aload_n eX7_one_62 rfl rfl ?_
      refine s_getr (q := 1) eX7_one_63 fX7_10 shp_0 rfl ?_
      refine s_iload_n eX7_one_66 rfl rfl ?_
      refine n_callVi (As := [.int a1]) eX7_one_67 kX1_bankOf lX7_144 rfl rfl shp_1 rfl rfl (Nat.le_of_ble_eq_true rfl) (Nat.le_of_ble_eq_true rfl) (Nat.le_of_ble_eq_true rfl) (uX1_bankOf 1 a1 m isG_1) ?_
      exact s_iret eX7_one_70 rfl ⟨rfl, by rw [E], rfl⟩
    rw [if_neg h4] at E
    by_cases h5 : a2 = 3
    · skip
      refine s_tabIn (off := 57) (tgt := 71) ⟨eX7_one_14.1, eX7_one_14.2, by decide⟩ (by rw [h5]; decide) (by rw [h5]; decide) (by rw [h5]; rfl) ?_
      rw [if_pos h5] at E
      refine s_aload_n eX7_one_71 rfl rfl ?_
      refine s_getr (q := 1) eX7_one_72 fX7_10 shp_0 rfl ?_
      refine s_iload_n eX7_one_75 rfl rfl ?_
      refine n_callVi (As := [.int a1]) eX7_one_76 kX1_goalOf lX7_147 rfl rfl shp_1 rfl rfl (Nat.le_of_ble_eq_true rfl) (Nat.le_of_ble_eq_true rfl) (Nat.le_of_ble_eq_true rfl) (uX1_goalOf 1 a1 m isG_1) ?_
      exact s_iret eX7_one_79 rfl ⟨rfl, by rw [E], rfl⟩
    rw [if_neg h5] at E
    refine s_tabOut (tgt := 80) ⟨eX7_one_14.1, eX7_one_14.2, by decide⟩ (ax_swout 3 (by decide) (fun k hk => by
      rcases (show k = 0 ∨ k = 1 ∨ k = 2 ∨ k = 3 by omega) with rfl | rfl | rfl | rfl
      · exact h2
      · exact h3
      · exact h4
      · exact h5)) ?_
    refine s_iconst (v := (-1)) eX7_one_80 rfl ?_
    exact s_iret eX7_one_81 rfl ⟨rfl, by rw [E], rfl⟩
  · skip
    rw [if_pos h1] at E
    refine s_iconst (v := (-1)) eX7_one_11 rfl ?_
    exact s_iret eX7_one_12 rfl ⟨rfl, by rw [E], rfl⟩
theorem uX7_stones (a1 : Int32) (m : ax_M) : ax_NM 2 Y7_stones [.ref 0, .int a1] m (fun r m1 => r = some (.int (F7_stones a1 m)) ∧ m1 = m) := by
  have E : F7_stones a1 m = (if (F1_hasBank 1 a1 m) = 0 then ((-1)) else (F1_stonesOn 1 a1 m)) := rfl
  show ax_N 2 Y7_stones 0 [some (.ref 0), some (.int a1)] [] m _
  refine s_aload_n eX7_stones_0 rfl rfl ?_
  refine s_getr (q := 1) eX7_stones_1 fX7_10 shp_0 rfl ?_
  refine s_iload_n eX7_stones_4 rfl rfl ?_
  refine n_callVi (As := [.int a1]) eX7_stones_5 kX1_hasBank lX7_150 rfl rfl shp_1 rfl rfl (Nat.le_of_ble_eq_true rfl) (Nat.le_of_ble_eq_true rfl) (Nat.le_of_ble_eq_true rfl) (uX1_hasBank 1 a1 m isG_1) ?_
  refine s_if_eq eX7_stones_8 (fun h1 => ?_) (fun h1 => ?_)
  · skip
    rw [if_pos h1] at E
    refine s_iconst (v := (-1)) eX7_stones_22 rfl ?_
    exact s_iret eX7_stones_23 rfl ⟨rfl, by rw [E], rfl⟩
  · skip
    rw [if_neg h1] at E
    refine s_aload_n eX7_stones_11 rfl rfl ?_
    refine s_getr (q := 1) eX7_stones_12 fX7_10 shp_0 rfl ?_
    refine s_iload_n eX7_stones_15 rfl rfl ?_
    refine n_callVi (As := [.int a1]) eX7_stones_16 kX1_stonesOn lX7_153 rfl rfl shp_1 rfl rfl (Nat.le_of_ble_eq_true rfl) (Nat.le_of_ble_eq_true rfl) (Nat.le_of_ble_eq_true rfl) (uX1_stonesOn 1 a1 m isG_1) ?_
    refine s_goto eX7_stones_19 ?_
    exact s_iret eX7_stones_23 rfl ⟨rfl, by rw [E], rfl⟩
theorem uX7_heap (a1 : Int32) (a2 : Int32) (m : ax_M) : ax_NM 2 Y7_heap [.ref 0, .int a1, .int a2] m (fun r m1 => r = some (.int (F7_heap a1 a2 m).1) ∧ m1 = (F7_heap a1 a2 m).2) := by
  have E : F7_heap a1 a2 m = (if (F1_hasBank 1 a1 m) = 0 then ((-1), m) else (if (F7_within a2 0 20 m) = 0 then ((-1), m) else (F1_stonesOn 1 a1 m, (F1_setStones 1 a1 a2 m)))) := rfl
  show ax_N 2 Y7_heap 0 [some (.ref 0), some (.int a1), some (.int a2), none] [] m _
  refine s_aload_n eX7_heap_0 rfl rfl ?_
  refine s_getr (q := 1) eX7_heap_1 fX7_10 shp_0 rfl ?_
  refine s_iload_n eX7_heap_4 rfl rfl ?_
  refine n_callVi (As := [.int a1]) eX7_heap_5 kX1_hasBank lX7_150 rfl rfl shp_1 rfl rfl (Nat.le_of_ble_eq_true rfl) (Nat.le_of_ble_eq_true rfl) (Nat.le_of_ble_eq_true rfl) (uX1_hasBank 1 a1 m isG_1) ?_
  refine s_if_eq eX7_heap_8 (fun h1 => ?_) (fun h1 => ?_)
  · skip
    rw [if_pos h1] at E
    refine s_iconst (v := (-1)) eX7_heap_21 rfl ?_
    exact s_iret eX7_heap_22 rfl ⟨rfl, by rw [E], by rw [E]⟩
  · skip
    rw [if_neg h1] at E
    refine s_iload_n eX7_heap_11 rfl rfl ?_
    refine s_iconst (v := 0) eX7_heap_12 rfl ?_
    refine s_bipush (v := 20) eX7_heap_13 rfl ?_
    refine n_callSi (As := [.int a2, .int 0, .int 20]) eX7_heap_15 kX7_within lX7_76 rfl rfl (Nat.le_of_ble_eq_true rfl) (Nat.le_of_ble_eq_true rfl) (Nat.le_of_ble_eq_true rfl) (uX7_within a2 0 20 m) ?_
    refine s_if_ne eX7_heap_18 (fun h2 => ?_) (fun h2 => ?_)
    · skip
      rw [if_neg h2] at E
      refine s_aload_n eX7_heap_23 rfl rfl ?_
      refine s_getr (q := 1) eX7_heap_24 fX7_10 shp_0 rfl ?_
      refine s_iload_n eX7_heap_27 rfl rfl ?_
      refine n_callVi (As := [.int a1]) eX7_heap_28 kX1_stonesOn lX7_153 rfl rfl shp_1 rfl rfl (Nat.le_of_ble_eq_true rfl) (Nat.le_of_ble_eq_true rfl) (Nat.le_of_ble_eq_true rfl) (uX1_stonesOn 1 a1 m isG_1) ?_
      refine s_istore_n (ls' := [some (.ref 0), some (.int a1), some (.int a2), some (.int (F1_stonesOn 1 a1 m))]) eX7_heap_31 rfl rfl rfl ?_
      refine s_aload_n eX7_heap_32 rfl rfl ?_
      refine s_getr (q := 1) eX7_heap_33 fX7_10 shp_0 rfl ?_
      refine s_iload_n eX7_heap_36 rfl rfl ?_
      refine s_iload_n eX7_heap_37 rfl rfl ?_
      refine n_callVv (As := [.int a1, .int a2]) eX7_heap_38 kX1_setStones lX7_156 rfl rfl shp_1 rfl rfl (Nat.le_of_ble_eq_true rfl) (Nat.le_of_ble_eq_true rfl) (Nat.le_of_ble_eq_true rfl) (uX1_setStones 1 a1 a2 m isG_1) ?_
      refine s_iload_n eX7_heap_41 rfl rfl ?_
      exact s_iret eX7_heap_42 rfl ⟨rfl, by rw [E], by rw [E]⟩
    · skip
      rw [if_pos h2] at E
      refine s_iconst (v := (-1)) eX7_heap_21 rfl ?_
      exact s_iret eX7_heap_22 rfl ⟨rfl, by rw [E], by rw [E]⟩
