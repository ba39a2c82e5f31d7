/-! X3_listMoves X3_add X3_isOpen X3_survey X3_indexOf X3_depthOf X3_stepTo X3_banksOf X3_rowsFrom X3_rowsBy X3_countRows X3_stepOfFirstRow X4_isLetter X4_isFigure X4_fail -/
theorem clX3_listMoves_28 (g1 : Nat) (hg1 : isG g1) {P : Option Value → ax_M → Prop} : ∀ (n : Nat) (v2 v3 v4 : Int32) (m : ax_M), E3_listMoves_28 g1 n v2 v3 v4 m → (ax_N 4 Y3_listMoves 85 [some (.ref 59), some (.ref g1), some (.int v2), some (.int v3), some (.int ((L3_listMoves_28 g1 n v2 v3 v4 m).1))] [] ((L3_listMoves_28 g1 n v2 v3 v4 m).2) P) → ax_N 4 Y3_listMoves 28 [some (.ref 59), some (.ref g1), some (.int v2), some (.int v3), some (.int v4)] [] m P := by
  intro n
  induction n with
  | zero => intro v2 v3 v4 m hD; exact absurd hD id
  | succ n ih =>
    intro v2 v3 v4 m hD hx
    have E : L3_listMoves_28 g1 (n + 1) v2 v3 v4 m = (if (m g1 2) ≤ v4 then (v4, m) else L3_listMoves_28 g1 n v2 v3 (v4 + 1) (if v3 = v4 then m else (if (F1_isExileAgainst g1 v2 v3 v4 m) = 0 then (if (F1_isLevel g1 v2 v3 v4 0 0 m) = 0 then m else (F3_addMove g1 v2 v3 v4 m)) else m))) := by rw [L3_listMoves_28]
    have hD : ((¬ ((m g1 2) ≤ v4) → ((E3_listMoves_28 g1 n v2 v3 (v4 + 1) (if v3 = v4 then m else (if (F1_isExileAgainst g1 v2 v3 v4 m) = 0 then (if (F1_isLevel g1 v2 v3 v4 0 0 m) = 0 then m else (F3_addMove g1 v2 v3 v4 m)) else m)))))) := hD
    refine s_iload eX3_listMoves_28 rfl ?_
    refine s_aload_n eX3_listMoves_30 rfl rfl ?_
    refine s_geti eX3_listMoves_31 fX3_74 hg1.1 rfl ?_
    refine s_icmp_ge eX3_listMoves_34 (fun h1 => ?_) (fun h1 => ?_)
    · skip
      rw [if_pos h1] at E
      rw [E] at hx
      exact hx
    · skip
      rw [if_neg h1] at E
      have hD := hD h1
      refine s_iload_n eX3_listMoves_37 rfl rfl ?_
      refine s_iload eX3_listMoves_38 rfl ?_
      have J2 : ax_N 4 Y3_listMoves 79 [some (.ref 59), some (.ref g1), some (.int v2), some (.int v3), some (.int v4)] [] ((if v3 = v4 then m else (if (F1_isExileAgainst g1 v2 v3 v4 m) = 0 then (if (F1_isLevel g1 v2 v3 v4 0 0 m) = 0 then m else (F3_addMove g1 v2 v3 v4 m)) else m))) P := by
        refine s_iinc (v := v4 + 1) (ls' := [some (.ref 59), some (.ref g1), some (.int v2), some (.int v3), some (.int (v4 + 1))]) eX3_listMoves_79 rfl rfl rfl rfl ?_
        refine s_goto eX3_listMoves_82 ?_
        rw [E] at hx
        exact ih v2 v3 (v4 + 1) ((if v3 = v4 then m else (if (F1_isExileAgainst g1 v2 v3 v4 m) = 0 then (if (F1_isLevel g1 v2 v3 v4 0 0 m) = 0 then m else (F3_addMove g1 v2 v3 v4 m)) else m))) hD hx
      refine s_icmp_eq eX3_listMoves_40 (fun h3 => ?_) (fun h3 => ?_)
      · skip
        exact ax_eqN rfl rfl (by rw [show ((if v3 = v4 then m else (if (F1_isExileAgainst g1 v2 v3 v4 m) = 0 then (if (F1_isLevel g1 v2 v3 v4 0 0 m) = 0 then m else (F3_addMove g1 v2 v3 v4 m)) else m)) : ax_M) = m by rw [if_pos h3]]) J2
      · skip
        refine s_aload_n eX3_listMoves_43 rfl rfl ?_
        refine s_iload_n eX3_listMoves_44 rfl rfl ?_
        refine s_iload_n eX3_listMoves_45 rfl rfl ?_
        refine s_iload eX3_listMoves_46 rfl ?_
        refine n_callVi (As := [.int v2, .int v3, .int v4]) eX3_listMoves_48 kX1_isExileAgainst lX3_77 rfl rfl hg1.1 rfl rfl (Nat.le_of_ble_eq_true rfl) (Nat.le_of_ble_eq_true rfl) (Nat.le_of_ble_eq_true rfl) (uX1_isExileAgainst g1 v2 v3 v4 m hg1) ?_
        refine s_if_ne eX3_listMoves_51 (fun h4 => ?_) (fun h4 => ?_)
        · skip
          exact ax_eqN rfl rfl (by rw [show ((if v3 = v4 then m else (if (F1_isExileAgainst g1 v2 v3 v4 m) = 0 then (if (F1_isLevel g1 v2 v3 v4 0 0 m) = 0 then m else (F3_addMove g1 v2 v3 v4 m)) else m)) : ax_M) = m by rw [if_neg h3, if_neg h4]]) J2
        · skip
          refine s_aload_n eX3_listMoves_54 rfl rfl ?_
          refine s_iload_n eX3_listMoves_55 rfl rfl ?_
          refine s_iload_n eX3_listMoves_56 rfl rfl ?_
          refine s_iload eX3_listMoves_57 rfl ?_
          refine s_iconst (v := 0) eX3_listMoves_59 rfl ?_
          refine s_iconst (v := 0) eX3_listMoves_60 rfl ?_
          refine n_callVi (As := [.int v2, .int v3, .int v4, .int 0, .int 0]) eX3_listMoves_61 kX1_isLevel lX3_81 rfl rfl hg1.1 rfl rfl (Nat.le_of_ble_eq_true rfl) (Nat.le_of_ble_eq_true rfl) (Nat.le_of_ble_eq_true rfl) (uX1_isLevel g1 v2 v3 v4 0 0 m hg1) ?_
          refine s_if_ne eX3_listMoves_64 (fun h5 => ?_) (fun h5 => ?_)
          · skip
            refine s_aload_n eX3_listMoves_70 rfl rfl ?_
            refine s_aload_n eX3_listMoves_71 rfl rfl ?_
            refine s_iload_n eX3_listMoves_72 rfl rfl ?_
            refine s_iload_n eX3_listMoves_73 rfl rfl ?_
            refine s_iload eX3_listMoves_74 rfl ?_
            refine n_callVv (As := [.ref g1, .int v2, .int v3, .int v4]) eX3_listMoves_76 kX3_addMove lX3_85 rfl rfl shp_59 rfl rfl (Nat.le_of_ble_eq_true rfl) (Nat.le_of_ble_eq_true rfl) (Nat.le_of_ble_eq_true rfl) (uX3_addMove g1 v2 v3 v4 m hg1) ?_
            exact ax_eqN rfl rfl (by rw [show ((if v3 = v4 then m else (if (F1_isExileAgainst g1 v2 v3 v4 m) = 0 then (if (F1_isLevel g1 v2 v3 v4 0 0 m) = 0 then m else (F3_addMove g1 v2 v3 v4 m)) else m)) : ax_M) = (F3_addMove g1 v2 v3 v4 m) by rw [if_neg h3, if_pos h4, if_neg h5]]) J2
          · skip
            refine s_goto eX3_listMoves_67 ?_
            exact ax_eqN rfl rfl (by rw [show ((if v3 = v4 then m else (if (F1_isExileAgainst g1 v2 v3 v4 m) = 0 then (if (F1_isLevel g1 v2 v3 v4 0 0 m) = 0 then m else (F3_addMove g1 v2 v3 v4 m)) else m)) : ax_M) = m by rw [if_neg h3, if_pos h4, if_pos h5]]) J2
theorem clX3_listMoves_17 (g1 : Nat) (hg1 : isG g1) {P : Option Value → ax_M → Prop} : ∀ (n : Nat) (v2 v3 : Int32) (m : ax_M), E3_listMoves_17 g1 n v2 v3 m → (ax_N 4 Y3_listMoves 91 [some (.ref 59), some (.ref g1), some (.int v2), some (.int ((L3_listMoves_17 g1 n v2 v3 m).1)), none] [] ((L3_listMoves_17 g1 n v2 v3 m).2) P) → ax_N 4 Y3_listMoves 17 [some (.ref 59), some (.ref g1), some (.int v2), some (.int v3), none] [] m P := by
  intro n
  induction n with
  | zero => intro v2 v3 m hD; exact absurd hD id
  | succ n ih =>
    intro v2 v3 m hD hx
    have E : L3_listMoves_17 g1 (n + 1) v2 v3 m = (if (m g1 2) ≤ v3 then (v3, m) else L3_listMoves_17 g1 n v2 (v3 + 1) (L3_listMoves_28 g1 200 v2 v3 0 m).2) := by rw [L3_listMoves_17]
    have hD : ((¬ ((m g1 2) ≤ v3) → ((E3_listMoves_28 g1 200 v2 v3 0 m) ∧ (E3_listMoves_17 g1 n v2 (v3 + 1) (L3_listMoves_28 g1 200 v2 v3 0 m).2)))) := hD
    refine s_iload_n eX3_listMoves_17 rfl rfl ?_
    refine s_aload_n eX3_listMoves_18 rfl rfl ?_
    refine s_geti eX3_listMoves_19 fX3_74 hg1.1 rfl ?_
    refine s_icmp_ge eX3_listMoves_22 (fun h1 => ?_) (fun h1 => ?_)
    · skip
      rw [if_pos h1] at E
      rw [E] at hx
      exact hx
    · skip
      rw [if_neg h1] at E
      have hD := hD h1
      refine s_iconst (v := 0) eX3_listMoves_25 rfl ?_
      refine s_istore (ls' := [some (.ref 59), some (.ref g1), some (.int v2), some (.int v3), some (.int 0)]) eX3_listMoves_26 rfl rfl ?_
      obtain ⟨q2, hD⟩ := hD
      refine clX3_listMoves_28 g1 hg1 200 v2 v3 0 m q2 ?_
      refine s_iinc (v := v3 + 1) (ls' := [some (.ref 59), some (.ref g1), some (.int v2), some (.int (v3 + 1)), some (.int ((L3_listMoves_28 g1 200 v2 v3 0 m).1))]) eX3_listMoves_85 rfl rfl rfl rfl ?_
      refine s_goto eX3_listMoves_88 ?_
      refine ax_forget (ls' := [some (.ref 59), some (.ref g1), some (.int v2), some (.int (v3 + 1)), none]) rfl ?_
      rw [E] at hx
      exact ih v2 (v3 + 1) ((L3_listMoves_28 g1 200 v2 v3 0 m).2) hD hx
theorem clX3_listMoves_7 (g1 : Nat) (hg1 : isG g1) {P : Option Value → ax_M → Prop} : ∀ (n : Nat) (v2 : Int32) (m : ax_M), E3_listMoves_7 g1 n v2 m → (ax_N 4 Y3_listMoves 97 [some (.ref 59), some (.ref g1), some (.int ((L3_listMoves_7 g1 n v2 m).1)), none, none] [] ((L3_listMoves_7 g1 n v2 m).2) P) → ax_N 4 Y3_listMoves 7 [some (.ref 59), some (.ref g1), some (.int v2), none, none] [] m P := by
  intro n
  induction n with
  | zero => intro v2 m hD; exact absurd hD id
  | succ n ih =>
    intro v2 m hD hx
    have E : L3_listMoves_7 g1 (n + 1) v2 m = (if (m g1 1) ≤ v2 then (v2, m) else L3_listMoves_7 g1 n (v2 + 1) (L3_listMoves_17 g1 200 v2 0 m).2) := by rw [L3_listMoves_7]
    have hD : ((¬ ((m g1 1) ≤ v2) → ((E3_listMoves_17 g1 200 v2 0 m) ∧ (E3_listMoves_7 g1 n (v2 + 1) (L3_listMoves_17 g1 200 v2 0 m).2)))) := hD
    refine s_iload_n eX3_listMoves_7 rfl rfl ?_
    refine s_aload_n eX3_listMoves_8 rfl rfl ?_
    refine s_geti eX3_listMoves_9 fX3_69 hg1.1 rfl ?_
    refine s_icmp_ge eX3_listMoves_12 (fun h1 => ?_) (fun h1 => ?_)
    · skip
      rw [if_pos h1] at E
      rw [E] at hx
      exact hx
    · skip
      rw [if_neg h1] at E
      have hD := hD h1
      refine s_iconst (v := 0) eX3_listMoves_15 rfl ?_
      refine s_istore_n (ls' := [some (.ref 59), some (.ref g1), some (.int v2), some (.int 0), none]) eX3_listMoves_16 rfl rfl rfl ?_
      obtain ⟨q2, hD⟩ := hD
      refine clX3_listMoves_17 g1 hg1 200 v2 0 m q2 ?_
      refine s_iinc (v := v2 + 1) (ls' := [some (.ref 59), some (.ref g1), some (.int (v2 + 1)), some (.int ((L3_listMoves_17 g1 200 v2 0 m).1)), none]) eX3_listMoves_91 rfl rfl rfl rfl ?_
      refine s_goto eX3_listMoves_94 ?_
      refine ax_forget (ls' := [some (.ref 59), some (.ref g1), some (.int (v2 + 1)), none, none]) rfl ?_
      rw [E] at hx
      exact ih (v2 + 1) ((L3_listMoves_17 g1 200 v2 0 m).2) hD hx
theorem uX3_listMoves (g1 : Nat) (m : ax_M) (hg1 : isG g1) (hD : D3_listMoves g1 m) : ax_NM 4 Y3_listMoves [.ref 59, .ref g1] m (fun r m1 => r = none ∧ m1 = F3_listMoves g1 m) := by
  have E : F3_listMoves g1 m = (L3_listMoves_7 g1 200 0 (ax_up m 59 4 0)).2 := rfl
  unfold D3_listMoves at hD
  show ax_N 4 Y3_listMoves 0 [some (.ref 59), some (.ref g1), none, none, none] [] m _
  refine s_aload_n eX3_listMoves_0 rfl rfl ?_
  refine s_iconst (v := 0) eX3_listMoves_1 rfl ?_
  refine s_puti eX3_listMoves_2 fX3_62 pX3_4 rfl rfl shp_59 rfl ?_
  refine s_iconst (v := 0) eX3_listMoves_5 rfl ?_
  refine s_istore_n (ls' := [some (.ref 59), some (.ref g1), some (.int 0), none, none]) eX3_listMoves_6 rfl rfl rfl ?_
  have q1 := hD
  refine clX3_listMoves_7 g1 hg1 200 0 ((ax_up m 59 4 0)) q1 ?_
  exact s_vret eX3_listMoves_97 rfl ⟨rfl, rfl, by rw [E]⟩
theorem cK3_add_87 (v1 v2 v3 : Int32) (m : ax_M) {P : Option Value → ax_M → Prop} (hP : P none (K3_add_87 v1 v2 v3 m)) : ax_N 1 Y3_add 87 [some (.ref 59), some (.int v1), some (.int v2), some (.int v3)] [] m P := by
  have E : K3_add_87 v1 v2 v3 m = (F7_put 64 4096 v1 ((ax_up m 59 10 ((m 59 10) + 1)) 59 10) (ax_up m 59 10 ((m 59 10) + 1))) := rfl
  refine s_aload_n eX3_add_87 rfl rfl ?_
  refine s_dup eX3_add_88 rfl ?_
  refine s_geti eX3_add_89 fX3_42 shp_59 rfl ?_
  refine s_iconst (v := 1) eX3_add_92 rfl ?_
  refine s_iadd eX3_add_93 ?_
  refine s_puti eX3_add_94 fX3_42 pX3_10 rfl rfl shp_59 rfl ?_
  refine s_aload_n eX3_add_97 rfl rfl ?_
  refine s_getr (q := 64) eX3_add_98 fX3_24 shp_59 rfl ?_
  refine s_iload_n eX3_add_101 rfl rfl ?_
  refine s_aload_n eX3_add_102 rfl rfl ?_
  refine s_geti eX3_add_103 fX3_42 shp_59 rfl ?_
  refine n_callSv (As := [.ref 64, .int v1, .int ((ax_up m 59 10 ((m 59 10) + 1)) 59 10)]) eX3_add_106 kX7_put lX3_50 rfl rfl (Nat.le_of_ble_eq_true rfl) (Nat.le_of_ble_eq_true rfl) (Nat.le_of_ble_eq_true rfl) (uX7_put 64 4096 v1 ((ax_up m 59 10 ((m 59 10) + 1)) 59 10) ((ax_up m 59 10 ((m 59 10) + 1))) shp_64) ?_
  rw [E] at hP
  exact s_vret eX3_add_109 rfl ⟨rfl, hP⟩
theorem cK3_add_46 (v1 v2 v3 : Int32) (m : ax_M) {P : Option Value → ax_M → Prop} (hP : P none (K3_add_46 v1 v2 v3 m)) : ax_N 1 Y3_add 46 [some (.ref 59), some (.int v1), some (.int v2), some (.int v3)] [] m P := by
  have E : K3_add_46 v1 v2 v3 m = (K3_add_87 v1 v2 v3 (F7_put 68 180 ((F7_put 67 180 (m 59 10) v3 m) 59 10) (if 0 ≤ v2 then ((F7_at 68 180 v2 (F7_put 67 180 (m 59 10) v3 m)) + 1 : Int32) else 0) (F7_put 67 180 (m 59 10) v3 m))) := rfl
  refine s_aload_n eX3_add_46 rfl rfl ?_
  refine s_getr (q := 67) eX3_add_47 fX3_33 shp_59 rfl ?_
  refine s_aload_n eX3_add_50 rfl rfl ?_
  refine s_geti eX3_add_51 fX3_42 shp_59 rfl ?_
  refine s_iload_n eX3_add_54 rfl rfl ?_
  refine n_callSv (As := [.ref 67, .int (m 59 10), .int v3]) eX3_add_55 kX7_put lX3_50 rfl rfl (Nat.le_of_ble_eq_true rfl) (Nat.le_of_ble_eq_true rfl) (Nat.le_of_ble_eq_true rfl) (uX7_put 67 180 (m 59 10) v3 m shp_67) ?_
  refine s_aload_n eX3_add_58 rfl rfl ?_
  refine s_getr (q := 68) eX3_add_59 fX3_36 shp_59 rfl ?_
  refine s_aload_n eX3_add_62 rfl rfl ?_
  refine s_geti eX3_add_63 fX3_42 shp_59 rfl ?_
  refine s_iload_n eX3_add_66 rfl rfl ?_
  have J1 : ax_N 1 Y3_add 84 [some (.ref 59), some (.int v1), some (.int v2), some (.int v3)] [.int (if 0 ≤ v2 then ((F7_at 68 180 v2 (F7_put 67 180 (m 59 10) v3 m)) + 1 : Int32) else 0), .int ((F7_put 67 180 (m 59 10) v3 m) 59 10), .ref 68] ((F7_put 67 180 (m 59 10) v3 m)) P := by
    refine n_callSv (As := [.ref 68, .int ((F7_put 67 180 (m 59 10) v3 m) 59 10), .int (if 0 ≤ v2 then ((F7_at 68 180 v2 (F7_put 67 180 (m 59 10) v3 m)) + 1 : Int32) else 0)]) eX3_add_84 kX7_put lX3_50 rfl rfl (Nat.le_of_ble_eq_true rfl) (Nat.le_of_ble_eq_true rfl) (Nat.le_of_ble_eq_true rfl) (uX7_put 68 180 ((F7_put 67 180 (m 59 10) v3 m) 59 10) (if 0 ≤ v2 then ((F7_at 68 180 v2 (F7_put 67 180 (m 59 10) v3 m)) + 1 : Int32) else 0) ((F7_put 67 180 (m 59 10) v3 m)) shp_68) ?_
    refine cK3_add_87 v1 v2 v3 ((F7_put 68 180 ((F7_put 67 180 (m 59 10) v3 m) 59 10) (if 0 ≤ v2 then ((F7_at 68 180 v2 (F7_put 67 180 (m 59 10) v3 m)) + 1 : Int32) else 0) (F7_put 67 180 (m 59 10) v3 m))) ?_
    rw [E] at hP
    exact hP
  refine s_if_ge eX3_add_67 (fun h2 => ?_) (fun h2 => ?_)
  · skip
    refine s_aload_n eX3_add_74 rfl rfl ?_
    refine s_getr (q := 68) eX3_add_75 fX3_36 shp_59 rfl ?_
    refine s_iload_n eX3_add_78 rfl rfl ?_
    refine n_callSi (As := [.ref 68, .int v2]) eX3_add_79 kX7_at lX3_46 rfl rfl (Nat.le_of_ble_eq_true rfl) (Nat.le_of_ble_eq_true rfl) (Nat.le_of_ble_eq_true rfl) (uX7_at 68 180 v2 ((F7_put 67 180 (m 59 10) v3 m)) shp_68) ?_
    refine s_iconst (v := 1) eX3_add_82 rfl ?_
    refine s_iadd eX3_add_83 ?_
    exact ax_eqN rfl (by rw [show (if 0 ≤ v2 then ((F7_at 68 180 v2 (F7_put 67 180 (m 59 10) v3 m)) + 1 : Int32) else 0 : Int32) = (F7_at 68 180 v2 (F7_put 67 180 (m 59 10) v3 m)) + 1 by rw [if_pos h2]]) rfl J1
  · skip
    refine s_iconst (v := 0) eX3_add_70 rfl ?_
    refine s_goto eX3_add_71 ?_
    exact ax_eqN rfl (by rw [show (if 0 ≤ v2 then ((F7_at 68 180 v2 (F7_put 67 180 (m 59 10) v3 m)) + 1 : Int32) else 0 : Int32) = 0 by rw [if_neg h2]]) rfl J1
theorem uX3_add (a1 : Int32) (a2 : Int32) (a3 : Int32) (m : ax_M) : ax_NM 1 Y3_add [.ref 59, .int a1, .int a2, .int a3] m (fun r m1 => r = none ∧ m1 = F3_add a1 a2 a3 m) := by
  have E : F3_add a1 a2 a3 m = (if 180 ≤ (m 59 10) then m else (if (F7_at 64 4096 a1 m) = 0 then (K3_add_46 a1 a2 a3 (F7_put 66 180 ((F7_put 65 180 (m 59 10) a1 m) 59 10) a2 (F7_put 65 180 (m 59 10) a1 m))) else m)) := rfl
  show ax_N 1 Y3_add 0 [some (.ref 59), some (.int a1), some (.int a2), some (.int a3)] [] m _
  refine s_aload_n eX3_add_0 rfl rfl ?_
  refine s_geti eX3_add_1 fX3_42 shp_59 rfl ?_
  refine s_sipush (v := 180) eX3_add_4 rfl ?_
  refine s_icmp_ge eX3_add_7 (fun h1 => ?_) (fun h1 => ?_)
  · skip
    rw [if_pos h1] at E
    exact s_vret eX3_add_21 rfl ⟨rfl, rfl, by rw [E]⟩
  · skip
    rw [if_neg h1] at E
    refine s_aload_n eX3_add_10 rfl rfl ?_
    refine s_getr (q := 64) eX3_add_11 fX3_24 shp_59 rfl ?_
    refine s_iload_n eX3_add_14 rfl rfl ?_
    refine n_callSi (As := [.ref 64, .int a1]) eX3_add_15 kX7_at lX3_46 rfl rfl (Nat.le_of_ble_eq_true rfl) (Nat.le_of_ble_eq_true rfl) (Nat.le_of_ble_eq_true rfl) (uX7_at 64 4096 a1 m shp_64) ?_
    refine s_if_eq eX3_add_18 (fun h2 => ?_) (fun h2 => ?_)
    · skip
      rw [if_pos h2] at E
      refine s_aload_n eX3_add_22 rfl rfl ?_
      refine s_getr (q := 65) eX3_add_23 fX3_27 shp_59 rfl ?_
      refine s_aload_n eX3_add_26 rfl rfl ?_
      refine s_geti eX3_add_27 fX3_42 shp_59 rfl ?_
      refine s_iload_n eX3_add_30 rfl rfl ?_
      refine n_callSv (As := [.ref 65, .int (m 59 10), .int a1]) eX3_add_31 kX7_put lX3_50 rfl rfl (Nat.le_of_ble_eq_true rfl) (Nat.le_of_ble_eq_true rfl) (Nat.le_of_ble_eq_true rfl) (uX7_put 65 180 (m 59 10) a1 m shp_65) ?_
      refine s_aload_n eX3_add_34 rfl rfl ?_
      refine s_getr (q := 66) eX3_add_35 fX3_30 shp_59 rfl ?_
      refine s_aload_n eX3_add_38 rfl rfl ?_
      refine s_geti eX3_add_39 fX3_42 shp_59 rfl ?_
      refine s_iload_n eX3_add_42 rfl rfl ?_
      refine n_callSv (As := [.ref 66, .int ((F7_put 65 180 (m 59 10) a1 m) 59 10), .int a2]) eX3_add_43 kX7_put lX3_50 rfl rfl (Nat.le_of_ble_eq_true rfl) (Nat.le_of_ble_eq_true rfl) (Nat.le_of_ble_eq_true rfl) (uX7_put 66 180 ((F7_put 65 180 (m 59 10) a1 m) 59 10) a2 ((F7_put 65 180 (m 59 10) a1 m)) shp_66) ?_
      refine cK3_add_46 a1 a2 a3 ((F7_put 66 180 ((F7_put 65 180 (m 59 10) a1 m) 59 10) a2 (F7_put 65 180 (m 59 10) a1 m))) ?_
      exact ⟨rfl, by rw [E]⟩
    · skip
      rw [if_neg h2] at E
      exact s_vret eX3_add_21 rfl ⟨rfl, rfl, by rw [E]⟩
theorem uX3_isOpen (a1 : Int32) (a2 : Int32) (m : ax_M) : ax_NM 1 Y3_isOpen [.ref 59, .int a1, .int a2] m (fun r m1 => r = some (.int (F3_isOpen a1 a2 m)) ∧ m1 = m) := by
  have E : F3_isOpen a1 a2 m = (if (a1 &&& (F7_at 61 120 a2 m)) = (F7_at 62 120 a2 m) then 1 else 0) := rfl
  show ax_N 1 Y3_isOpen 0 [some (.ref 59), some (.int a1), some (.int a2)] [] m _
  refine s_iload_n eX3_isOpen_0 rfl rfl ?_
  refine s_aload_n eX3_isOpen_1 rfl rfl ?_
  refine s_getr (q := 61) eX3_isOpen_2 fX3_15 shp_59 rfl ?_
  refine s_iload_n eX3_isOpen_5 rfl rfl ?_
  refine n_callSi (As := [.ref 61, .int a2]) eX3_isOpen_6 kX7_at lX3_46 rfl rfl (Nat.le_of_ble_eq_true rfl) (Nat.le_of_ble_eq_true rfl) (Nat.le_of_ble_eq_true rfl) (uX7_at 61 120 a2 m shp_61) ?_
  refine s_iand eX3_isOpen_9 ?_
  refine s_aload_n eX3_isOpen_10 rfl rfl ?_
  refine s_getr (q := 62) eX3_isOpen_11 fX3_18 shp_59 rfl ?_
  refine s_iload_n eX3_isOpen_14 rfl rfl ?_
  refine n_callSi (As := [.ref 62, .int a2]) eX3_isOpen_15 kX7_at lX3_46 rfl rfl (Nat.le_of_ble_eq_true rfl) (Nat.le_of_ble_eq_true rfl) (Nat.le_of_ble_eq_true rfl) (uX7_at 62 120 a2 m shp_62) ?_
  refine s_icmp_ne eX3_isOpen_18 (fun h1 => ?_) (fun h1 => ?_)
  · skip
    rw [if_neg h1] at E
    refine s_iconst (v := 0) eX3_isOpen_25 rfl ?_
    exact s_zret eX3_isOpen_26 rfl (by first | exact Or.inl rfl | exact Or.inr rfl | (split <;> simp) | simp) ⟨rfl, by rw [E], rfl⟩
  · skip
    rw [if_pos h1] at E
    refine s_iconst (v := 1) eX3_isOpen_21 rfl ?_
    refine s_goto eX3_isOpen_22 ?_
    exact s_zret eX3_isOpen_26 rfl (by first | exact Or.inl rfl | exact Or.inr rfl | (split <;> simp) | simp) ⟨rfl, by rw [E], rfl⟩
theorem clX3_survey_2 (g1 : Nat) (hg1 : isG g1) {P : Option Value → ax_M → Prop} : ∀ (n : Nat) (v2 v3 : Int32) (m : ax_M), E3_survey_2 g1 n v2 v3 m → (ax_N 5 Y3_survey 32 [some (.ref 59), some (.ref g1), some (.int v2), some (.int ((L3_survey_2 g1 n v2 v3 m).1)), none] [] ((L3_survey_2 g1 n v2 v3 m).2) P) → ax_N 5 Y3_survey 2 [some (.ref 59), some (.ref g1), some (.int v2), some (.int v3), none] [] m P := by
  intro n
  induction n with
  | zero => intro v2 v3 m hD; exact absurd hD id
  | succ n ih =>
    intro v2 v3 m hD hx
    have E : L3_survey_2 g1 (n + 1) v2 v3 m = (if (m 59 10) ≤ v3 then (v3, m) else L3_survey_2 g1 n v2 (v3 + 1) (F7_put 64 4096 (F7_at 65 180 v3 m) 0 m)) := by rw [L3_survey_2]
    have hD : ((¬ ((m 59 10) ≤ v3) → ((E3_survey_2 g1 n v2 (v3 + 1) (F7_put 64 4096 (F7_at 65 180 v3 m) 0 m))))) := hD
    refine s_iload_n eX3_survey_2 rfl rfl ?_
    refine s_aload_n eX3_survey_3 rfl rfl ?_
    refine s_geti eX3_survey_4 fX3_42 shp_59 rfl ?_
    refine s_icmp_ge eX3_survey_7 (fun h1 => ?_) (fun h1 => ?_)
    · skip
      rw [if_pos h1] at E
      rw [E] at hx
      exact hx
    · skip
      rw [if_neg h1] at E
      have hD := hD h1
      refine s_aload_n eX3_survey_10 rfl rfl ?_
      refine s_getr (q := 64) eX3_survey_11 fX3_24 shp_59 rfl ?_
      refine s_aload_n eX3_survey_14 rfl rfl ?_
      refine s_getr (q := 65) eX3_survey_15 fX3_27 shp_59 rfl ?_
      refine s_iload_n eX3_survey_18 rfl rfl ?_
      refine n_callSi (As := [.ref 65, .int v3]) eX3_survey_19 kX7_at lX3_46 rfl rfl (Nat.le_of_ble_eq_true rfl) (Nat.le_of_ble_eq_true rfl) (Nat.le_of_ble_eq_true rfl) (uX7_at 65 180 v3 m shp_65) ?_
      refine s_iconst (v := 0) eX3_survey_22 rfl ?_
      refine n_callSv (As := [.ref 64, .int (F7_at 65 180 v3 m), .int 0]) eX3_survey_23 kX7_put lX3_50 rfl rfl (Nat.le_of_ble_eq_true rfl) (Nat.le_of_ble_eq_true rfl) (Nat.le_of_ble_eq_true rfl) (uX7_put 64 4096 (F7_at 65 180 v3 m) 0 m shp_64) ?_
      refine s_iinc (v := v3 + 1) (ls' := [some (.ref 59), some (.ref g1), some (.int v2), some (.int (v3 + 1)), none]) eX3_survey_26 rfl rfl rfl rfl ?_
      refine s_goto eX3_survey_29 ?_
      rw [E] at hx
      exact ih v2 (v3 + 1) ((F7_put 64 4096 (F7_at 65 180 v3 m) 0 m)) hD hx
theorem clX3_survey_69 (g1 : Nat) (hg1 : isG g1) {P : Option Value → ax_M → Prop} : ∀ (n : Nat) (v2 v3 v4 : Int32) (m : ax_M), E3_survey_69 g1 n v2 v3 v4 m → (ax_N 5 Y3_survey 126 [some (.ref 59), some (.ref g1), some (.int v2), some (.int v3), some (.int ((L3_survey_69 g1 n v2 v3 v4 m).1))] [] ((L3_survey_69 g1 n v2 v3 v4 m).2) P) → ax_N 5 Y3_survey 69 [some (.ref 59), some (.ref g1), some (.int v2), some (.int v3), some (.int v4)] [] m P := by
  intro n
  induction n with
  | zero => intro v2 v3 v4 m hD; exact absurd hD id
  | succ n ih =>
    intro v2 v3 v4 m hD hx
    have E : L3_survey_69 g1 (n + 1) v2 v3 v4 m = (if (m 59 4) ≤ v4 then (v4, m) else L3_survey_69 g1 n v2 v3 (v4 + 1) (if (F3_isOpen (F7_at 65 180 v3 m) v4 m) = 0 then m else (F3_add ((F7_at 65 180 v3 m) ^^^ (F7_at 63 120 v4 m)) v3 v4 m))) := by rw [L3_survey_69]
    have hD : ((¬ ((m 59 4) ≤ v4) → ((E3_survey_69 g1 n v2 v3 (v4 + 1) (if (F3_isOpen (F7_at 65 180 v3 m) v4 m) = 0 then m else (F3_add ((F7_at 65 180 v3 m) ^^^ (F7_at 63 120 v4 m)) v3 v4 m)))))) := hD
    refine s_iload eX3_survey_69 rfl ?_
    refine s_aload_n eX3_survey_71 rfl rfl ?_
    refine s_geti eX3_survey_72 fX3_62 shp_59 rfl ?_
    refine s_icmp_ge eX3_survey_75 (fun h1 => ?_) (fun h1 => ?_)
    · skip
      rw [if_pos h1] at E
      rw [E] at hx
      exact hx
    · skip
      rw [if_neg h1] at E
      have hD := hD h1
      refine s_aload_n eX3_survey_78 rfl rfl ?_
      refine s_aload_n eX3_survey_79 rfl rfl ?_
      refine s_getr (q := 65) eX3_survey_80 fX3_27 shp_59 rfl ?_
      refine s_iload_n eX3_survey_83 rfl rfl ?_
      refine n_callSi (As := [.ref 65, .int v3]) eX3_survey_84 kX7_at lX3_46 rfl rfl (Nat.le_of_ble_eq_true rfl) (Nat.le_of_ble_eq_true rfl) (Nat.le_of_ble_eq_true rfl) (uX7_at 65 180 v3 m shp_65) ?_
      refine s_iload eX3_survey_87 rfl ?_
      refine n_callVi (As := [.int (F7_at 65 180 v3 m), .int v4]) eX3_survey_89 kX3_isOpen lX3_65 rfl rfl shp_59 rfl rfl (Nat.le_of_ble_eq_true rfl) (Nat.le_of_ble_eq_true rfl) (Nat.le_of_ble_eq_true rfl) (uX3_isOpen (F7_at 65 180 v3 m) v4 m) ?_
      have J2 : ax_N 5 Y3_survey 120 [some (.ref 59), some (.ref g1), some (.int v2), some (.int v3), some (.int v4)] [] ((if (F3_isOpen (F7_at 65 180 v3 m) v4 m) = 0 then m else (F3_add ((F7_at 65 180 v3 m) ^^^ (F7_at 63 120 v4 m)) v3 v4 m))) P := by
        refine s_iinc (v := v4 + 1) (ls' := [some (.ref 59), some (.ref g1), some (.int v2), some (.int v3), some (.int (v4 + 1))]) eX3_survey_120 rfl rfl rfl rfl ?_
        refine s_goto eX3_survey_123 ?_
        rw [E] at hx
        exact ih v2 v3 (v4 + 1) ((if (F3_isOpen (F7_at 65 180 v3 m) v4 m) = 0 then m else (F3_add ((F7_at 65 180 v3 m) ^^^ (F7_at 63 120 v4 m)) v3 v4 m))) hD hx
      refine s_if_eq eX3_survey_92 (fun h3 => ?_) (fun h3 => ?_)
      · skip
        exact ax_eqN rfl rfl (by rw [show ((if (F3_isOpen (F7_at 65 180 v3 m) v4 m) = 0 then m else (F3_add ((F7_at 65 180 v3 m) ^^^ (F7_at 63 120 v4 m)) v3 v4 m)) : ax_M) = m by rw [if_pos h3]]) J2
      · skip
        refine s_aload_n eX3_survey_95 rfl rfl ?_
        refine s_aload_n eX3_survey_96 rfl rfl ?_
        refine s_getr (q := 65) eX3_survey_97 fX3_27 shp_59 rfl ?_
        refine s_iload_n eX3_survey_100 rfl rfl ?_
        refine n_callSi (As := [.ref 65, .int v3]) eX3_survey_101 kX7_at lX3_46 rfl rfl (Nat.le_of_ble_eq_true rfl) (Nat.le_of_ble_eq_true rfl) (Nat.le_of_ble_eq_true rfl) (uX7_at 65 180 v3 m shp_65) ?_
        refine s_aload_n eX3_survey_104 rfl rfl ?_
        refine s_getr (q := 63) eX3_survey_105 fX3_21 shp_59 rfl ?_
        refine s_iload eX3_survey_108 rfl ?_
        refine n_callSi (As := [.ref 63, .int v4]) eX3_survey_110 kX7_at lX3_46 rfl rfl (Nat.le_of_ble_eq_true rfl) (Nat.le_of_ble_eq_true rfl) (Nat.le_of_ble_eq_true rfl) (uX7_at 63 120 v4 m shp_63) ?_
        refine s_ixor eX3_survey_113 ?_
        refine s_iload_n eX3_survey_114 rfl rfl ?_
        refine s_iload eX3_survey_115 rfl ?_
        refine n_callVv (As := [.int ((F7_at 65 180 v3 m) ^^^ (F7_at 63 120 v4 m)), .int v3, .int v4]) eX3_survey_117 kX3_add lX3_58 rfl rfl shp_59 rfl rfl (Nat.le_of_ble_eq_true rfl) (Nat.le_of_ble_eq_true rfl) (Nat.le_of_ble_eq_true rfl) (uX3_add ((F7_at 65 180 v3 m) ^^^ (F7_at 63 120 v4 m)) v3 v4 m) ?_
        exact ax_eqN rfl rfl (by rw [show ((if (F3_isOpen (F7_at 65 180 v3 m) v4 m) = 0 then m else (F3_add ((F7_at 65 180 v3 m) ^^^ (F7_at 63 120 v4 m)) v3 v4 m)) : ax_M) = (F3_add ((F7_at 65 180 v3 m) ^^^ (F7_at 63 120 v4 m)) v3 v4 m) by rw [if_neg h3]]) J2
theorem clX3_survey_51 (g1 : Nat) (hg1 : isG g1) {P : Option Value → ax_M → Prop} : ∀ (n : Nat) (v2 v3 : Int32) (m : ax_M), E3_survey_51 g1 n v2 v3 m → (ax_N 5 Y3_survey 132 [some (.ref 59), some (.ref g1), some (.int v2), some (.int ((L3_survey_51 g1 n v2 v3 m).1)), none] [] ((L3_survey_51 g1 n v2 v3 m).2) P) → ax_N 5 Y3_survey 51 [some (.ref 59), some (.ref g1), some (.int v2), some (.int v3), none] [] m P := by
  intro n
  induction n with
  | zero => intro v2 v3 m hD; exact absurd hD id
  | succ n ih =>
    intro v2 v3 m hD hx
    have E : L3_survey_51 g1 (n + 1) v2 v3 m = (if (m 59 10) ≤ v3 then (v3, m) else (if 180 ≤ v3 then (v3, m) else L3_survey_51 g1 n v2 (v3 + 1) (L3_survey_69 g1 200 v2 v3 0 m).2)) := by rw [L3_survey_51]
    have hD : ((¬ ((m 59 10) ≤ v3) → ((¬ (180 ≤ v3) → ((E3_survey_69 g1 200 v2 v3 0 m) ∧ (E3_survey_51 g1 n v2 (v3 + 1) (L3_survey_69 g1 200 v2 v3 0 m).2)))))) := hD
    refine s_iload_n eX3_survey_51 rfl rfl ?_
    refine s_aload_n eX3_survey_52 rfl rfl ?_
    refine s_geti eX3_survey_53 fX3_42 shp_59 rfl ?_
    refine s_icmp_ge eX3_survey_56 (fun h1 => ?_) (fun h1 => ?_)
    · skip
      rw [if_pos h1] at E
      rw [E] at hx
      exact hx
    · skip
      rw [if_neg h1] at E
      have hD := hD h1
      refine s_iload_n eX3_survey_59 rfl rfl ?_
      refine s_sipush (v := 180) eX3_survey_60 rfl ?_
      refine s_icmp_ge eX3_survey_63 (fun h2 => ?_) (fun h2 => ?_)
      · skip
        rw [if_pos h2] at E
        rw [E] at hx
        exact hx
      · skip
        rw [if_neg h2] at E
        have hD := hD h2
        refine s_iconst (v := 0) eX3_survey_66 rfl ?_
        refine s_istore (ls' := [some (.ref 59), some (.ref g1), some (.int v2), some (.int v3), some (.int 0)]) eX3_survey_67 rfl rfl ?_
        obtain ⟨q3, hD⟩ := hD
        refine clX3_survey_69 g1 hg1 200 v2 v3 0 m q3 ?_
        refine s_iinc (v := v3 + 1) (ls' := [some (.ref 59), some (.ref g1), some (.int v2), some (.int (v3 + 1)), some (.int ((L3_survey_69 g1 200 v2 v3 0 m).1))]) eX3_survey_126 rfl rfl rfl rfl ?_
        refine s_goto eX3_survey_129 ?_
        refine ax_forget (ls' := [some (.ref 59), some (.ref g1), some (.int v2), some (.int (v3 + 1)), none]) rfl ?_
        rw [E] at hx
        exact ih v2 (v3 + 1) ((L3_survey_69 g1 200 v2 v3 0 m).2) hD hx
theorem cK3_survey_42 (g1 : Nat) (hg1 : isG g1) (v2 v3 : Int32) (m : ax_M) {P : Option Value → ax_M → Prop} (hD : HK3_survey_42 g1 v2 v3 m) (hP : P none (K3_survey_42 g1 v2 v3 m)) : ax_N 5 Y3_survey 42 [some (.ref 59), some (.ref g1), some (.int v2), some (.int v3), none] [] m P := by
  have E : K3_survey_42 g1 v2 v3 m = (L3_survey_51 g1 200 v2 0 (F3_add v2 ((-1)) 0 m)).2 := rfl
  unfold HK3_survey_42 at hD
  refine s_aload_n eX3_survey_42 rfl rfl ?_
  refine s_iload_n eX3_survey_43 rfl rfl ?_
  refine s_iconst (v := (-1)) eX3_survey_44 rfl ?_
  refine s_iconst (v := 0) eX3_survey_45 rfl ?_
  refine n_callVv (As := [.int v2, .int ((-1)), .int 0]) eX3_survey_46 kX3_add lX3_58 rfl rfl shp_59 rfl rfl (Nat.le_of_ble_eq_true rfl) (Nat.le_of_ble_eq_true rfl) (Nat.le_of_ble_eq_true rfl) (uX3_add v2 ((-1)) 0 m) ?_
  refine s_iconst (v := 0) eX3_survey_49 rfl ?_
  refine s_istore_n (ls' := [some (.ref 59), some (.ref g1), some (.int v2), some (.int 0), none]) eX3_survey_50 rfl rfl rfl ?_
  have q1 := hD
  refine clX3_survey_51 g1 hg1 200 v2 0 ((F3_add v2 ((-1)) 0 m)) q1 ?_
  rw [E] at hP
  exact s_vret eX3_survey_132 rfl ⟨rfl, hP⟩
theorem uX3_survey (g1 : Nat) (a2 : Int32) (m : ax_M) (hg1 : isG g1) (hD : D3_survey g1 a2 m) : ax_NM 5 Y3_survey [.ref 59, .ref g1, .int a2] m (fun r m1 => r = none ∧ m1 = F3_survey g1 a2 m) := by
  have E : F3_survey g1 a2 m = (K3_survey_42 g1 a2 ((L3_survey_2 g1 200 a2 0 m).1) (F3_listMoves g1 (ax_up (L3_survey_2 g1 200 a2 0 m).2 59 10 0))) := rfl
  unfold D3_survey at hD
  show ax_N 5 Y3_survey 0 [some (.ref 59), some (.ref g1), some (.int a2), none, none] [] m _
  refine s_iconst (v := 0) eX3_survey_0 rfl ?_
  refine s_istore_n (ls' := [some (.ref 59), some (.ref g1), some (.int a2), some (.int 0), none]) eX3_survey_1 rfl rfl rfl ?_
  obtain ⟨q1, hD⟩ := hD
  refine clX3_survey_2 g1 hg1 200 a2 0 m q1 ?_
  refine s_aload_n eX3_survey_32 rfl rfl ?_
  refine s_iconst (v := 0) eX3_survey_33 rfl ?_
  refine s_puti eX3_survey_34 fX3_42 pX3_10 rfl rfl shp_59 rfl ?_
  refine s_aload_n eX3_survey_37 rfl rfl ?_
  refine s_aload_n eX3_survey_38 rfl rfl ?_
  obtain ⟨q2, hD⟩ := hD
  refine n_callVv (As := [.ref g1]) eX3_survey_39 kX3_listMoves lX3_54 rfl rfl shp_59 rfl rfl (Nat.le_of_ble_eq_true rfl) (Nat.le_of_ble_eq_true rfl) (Nat.le_of_ble_eq_true rfl) (uX3_listMoves g1 ((ax_up (L3_survey_2 g1 200 a2 0 m).2 59 10 0)) hg1 q2) ?_
  refine cK3_survey_42 g1 hg1 a2 ((L3_survey_2 g1 200 a2 0 m).1) ((F3_listMoves g1 (ax_up (L3_survey_2 g1 200 a2 0 m).2 59 10 0))) hD ?_
  exact ⟨rfl, by rw [E]⟩
theorem uX3_indexOf (a1 : Int32) (m : ax_M) : ax_NM 1 Y3_indexOf [.ref 59, .int a1] m (fun r m1 => r = some (.int (F3_indexOf a1 m)) ∧ m1 = m) := by
  have E : F3_indexOf a1 m = ((F7_at 64 4096 a1 m) - 1) := rfl
  show ax_N 1 Y3_indexOf 0 [some (.ref 59), some (.int a1)] [] m _
  refine s_aload_n eX3_indexOf_0 rfl rfl ?_
  refine s_getr (q := 64) eX3_indexOf_1 fX3_24 shp_59 rfl ?_
  refine s_iload_n eX3_indexOf_4 rfl rfl ?_
  refine n_callSi (As := [.ref 64, .int a1]) eX3_indexOf_5 kX7_at lX3_46 rfl rfl (Nat.le_of_ble_eq_true rfl) (Nat.le_of_ble_eq_true rfl) (Nat.le_of_ble_eq_true rfl) (uX7_at 64 4096 a1 m shp_64) ?_
  refine s_iconst (v := 1) eX3_indexOf_8 rfl ?_
  refine s_isub eX3_indexOf_9 ?_
  exact s_iret eX3_indexOf_10 rfl ⟨rfl, by rw [E], rfl⟩
theorem uX3_depthOf (a1 : Int32) (m : ax_M) : ax_NM 1 Y3_depthOf [.ref 59, .int a1] m (fun r m1 => r = some (.int (F3_depthOf a1 m)) ∧ m1 = m) := by
  have E : F3_depthOf a1 m = (F7_at 68 180 a1 m) := rfl
  show ax_N 1 Y3_depthOf 0 [some (.ref 59), some (.int a1)] [] m _
  refine s_aload_n eX3_depthOf_0 rfl rfl ?_
  refine s_getr (q := 68) eX3_depthOf_1 fX3_36 shp_59 rfl ?_
  refine s_iload_n eX3_depthOf_4 rfl rfl ?_
  refine n_callSi (As := [.ref 68, .int a1]) eX3_depthOf_5 kX7_at lX3_46 rfl rfl (Nat.le_of_ble_eq_true rfl) (Nat.le_of_ble_eq_true rfl) (Nat.le_of_ble_eq_true rfl) (uX7_at 68 180 a1 m shp_68) ?_
  exact s_iret eX3_depthOf_8 rfl ⟨rfl, by rw [E], rfl⟩
theorem clX3_stepTo_9 {P : Option Value → ax_M → Prop} : ∀ (n : Nat) (v1 v2 v3 v4 : Int32) (m : ax_M), E3_stepTo_9 n v1 v2 v3 v4 m → (ax_N 2 Y3_stepTo 32 [some (.ref 59), some (.int v1), some (.int v2), some (.int ((L3_stepTo_9 n v1 v2 v3 v4 m).1)), some (.int ((L3_stepTo_9 n v1 v2 v3 v4 m).2))] [] m P) → ax_N 2 Y3_stepTo 9 [some (.ref 59), some (.int v1), some (.int v2), some (.int v3), some (.int v4)] [] m P := by
  intro n
  induction n with
  | zero => intro v1 v2 v3 v4 m hD; exact absurd hD id
  | succ n ih =>
    intro v1 v2 v3 v4 m hD hx
    have E : L3_stepTo_9 (n + 1) v1 v2 v3 v4 m = (if v4 ≤ (v2 + 1) then (v3, v4) else L3_stepTo_9 n v1 v2 (F7_at 66 180 v3 m) (v4 + (-1)) m) := by rw [L3_stepTo_9]
    have hD : ((¬ (v4 ≤ (v2 + 1)) → ((E3_stepTo_9 n v1 v2 (F7_at 66 180 v3 m) (v4 + (-1)) m)))) := hD
    refine s_iload eX3_stepTo_9 rfl ?_
    refine s_iload_n eX3_stepTo_11 rfl rfl ?_
    refine s_iconst (v := 1) eX3_stepTo_12 rfl ?_
    refine s_iadd eX3_stepTo_13 ?_
    refine s_icmp_le eX3_stepTo_14 (fun h1 => ?_) (fun h1 => ?_)
    · skip
      rw [if_pos h1] at E
      rw [E] at hx
      exact hx
    · skip
      rw [if_neg h1] at E
      have hD := hD h1
      refine s_aload_n eX3_stepTo_17 rfl rfl ?_
      refine s_getr (q := 66) eX3_stepTo_18 fX3_30 shp_59 rfl ?_
      refine s_iload_n eX3_stepTo_21 rfl rfl ?_
      refine n_callSi (As := [.ref 66, .int v3]) eX3_stepTo_22 kX7_at lX3_46 rfl rfl (Nat.le_of_ble_eq_true rfl) (Nat.le_of_ble_eq_true rfl) (Nat.le_of_ble_eq_true rfl) (uX7_at 66 180 v3 m shp_66) ?_
      refine s_istore_n (ls' := [some (.ref 59), some (.int v1), some (.int v2), some (.int (F7_at 66 180 v3 m)), some (.int v4)]) eX3_stepTo_25 rfl rfl rfl ?_
      refine s_iinc (v := v4 + (-1)) (ls' := [some (.ref 59), some (.int v1), some (.int v2), some (.int (F7_at 66 180 v3 m)), some (.int (v4 + (-1)))]) eX3_stepTo_26 rfl rfl rfl rfl ?_
      refine s_goto eX3_stepTo_29 ?_
      rw [E] at hx
      exact ih v1 v2 (F7_at 66 180 v3 m) (v4 + (-1)) m hD hx
theorem uX3_stepTo (a1 : Int32) (a2 : Int32) (m : ax_M) (hD : D3_stepTo a1 a2 m) : ax_NM 2 Y3_stepTo [.ref 59, .int a1, .int a2] m (fun r m1 => r = some (.int (F3_stepTo a1 a2 m)) ∧ m1 = m) := by
  have E : F3_stepTo a1 a2 m = (F7_at 60 120 (F7_at 67 180 ((L3_stepTo_9 200 a1 a2 a1 (F3_depthOf a1 m) m).1) m) m) := rfl
  unfold D3_stepTo at hD
  show ax_N 2 Y3_stepTo 0 [some (.ref 59), some (.int a1), some (.int a2), none, none] [] m _
  refine s_iload_n eX3_stepTo_0 rfl rfl ?_
  refine s_istore_n (ls' := [some (.ref 59), some (.int a1), some (.int a2), some (.int a1), none]) eX3_stepTo_1 rfl rfl rfl ?_
  refine s_aload_n eX3_stepTo_2 rfl rfl ?_
  refine s_iload_n eX3_stepTo_3 rfl rfl ?_
  refine n_callVi (As := [.int a1]) eX3_stepTo_4 kX3_depthOf lX3_96 rfl rfl shp_59 rfl rfl (Nat.le_of_ble_eq_true rfl) (Nat.le_of_ble_eq_true rfl) (Nat.le_of_ble_eq_true rfl) (uX3_depthOf a1 m) ?_
  refine s_istore (ls' := [some (.ref 59), some (.int a1), some (.int a2), some (.int a1), some (.int (F3_depthOf a1 m))]) eX3_stepTo_7 rfl rfl ?_
  have q1 := hD
  refine clX3_stepTo_9 200 a1 a2 a1 (F3_depthOf a1 m) m q1 ?_
  refine s_aload_n eX3_stepTo_32 rfl rfl ?_
  refine s_getr (q := 60) eX3_stepTo_33 fX3_11 shp_59 rfl ?_
  refine s_aload_n eX3_stepTo_36 rfl rfl ?_
  refine s_getr (q := 67) eX3_stepTo_37 fX3_33 shp_59 rfl ?_
  refine s_iload_n eX3_stepTo_40 rfl rfl ?_
  refine n_callSi (As := [.ref 67, .int ((L3_stepTo_9 200 a1 a2 a1 (F3_depthOf a1 m) m).1)]) eX3_stepTo_41 kX7_at lX3_46 rfl rfl (Nat.le_of_ble_eq_true rfl) (Nat.le_of_ble_eq_true rfl) (Nat.le_of_ble_eq_true rfl) (uX7_at 67 180 ((L3_stepTo_9 200 a1 a2 a1 (F3_depthOf a1 m) m).1) m shp_67) ?_
  refine n_callSi (As := [.ref 60, .int (F7_at 67 180 ((L3_stepTo_9 200 a1 a2 a1 (F3_depthOf a1 m) m).1) m)]) eX3_stepTo_44 kX7_at lX3_46 rfl rfl (Nat.le_of_ble_eq_true rfl) (Nat.le_of_ble_eq_true rfl) (Nat.le_of_ble_eq_true rfl) (uX7_at 60 120 (F7_at 67 180 ((L3_stepTo_9 200 a1 a2 a1 (F3_depthOf a1 m) m).1) m) m shp_60) ?_
  exact s_iret eX3_stepTo_47 rfl ⟨rfl, by rw [E], rfl⟩
theorem clX3_banksOf_4 {P : Option Value → ax_M → Prop} : ∀ (n : Nat) (v1 v2 v3 : Int32) (m : ax_M), E3_banksOf_4 n v1 v2 v3 m → (ax_N 1 Y3_banksOf 37 [some (.ref 59), some (.int v1), some (.int ((L3_banksOf_4 n v1 v2 v3 m).1)), some (.int ((L3_banksOf_4 n v1 v2 v3 m).2))] [] m P) → ax_N 1 Y3_banksOf 4 [some (.ref 59), some (.int v1), some (.int v2), some (.int v3)] [] m P := by
  intro n
  induction n with
  | zero => intro v1 v2 v3 m hD; exact absurd hD id
  | succ n ih =>
    intro v1 v2 v3 m hD hx
    have E : L3_banksOf_4 (n + 1) v1 v2 v3 m = (if (m 59 10) ≤ v3 then (v2, v3) else L3_banksOf_4 n v1 (v2 ||| ((1 : Int32) <<< ((((F7_at 65 180 v3 m) >>> ((2 * v1) &&& (31 : Int32))) &&& 3) &&& (31 : Int32)))) (v3 + 1) m) := by rw [L3_banksOf_4]
    have hD : ((¬ ((m 59 10) ≤ v3) → ((E3_banksOf_4 n v1 (v2 ||| ((1 : Int32) <<< ((((F7_at 65 180 v3 m) >>> ((2 * v1) &&& (31 : Int32))) &&& 3) &&& (31 : Int32)))) (v3 + 1) m)))) := hD
    refine s_iload_n eX3_banksOf_4 rfl rfl ?_
    refine s_aload_n eX3_banksOf_5 rfl rfl ?_
    refine s_geti eX3_banksOf_6 fX3_42 shp_59 rfl ?_
    refine s_icmp_ge eX3_banksOf_9 (fun h1 => ?_) (fun h1 => ?_)
    · skip
      rw [if_pos h1] at E
      rw [E] at hx
      exact hx
    · skip
      rw [if_neg h1] at E
      have hD := hD h1
      refine s_iload_n eX3_banksOf_12 rfl rfl ?_
      refine s_iconst (v := 1) eX3_banksOf_13 rfl ?_
      refine s_aload_n eX3_banksOf_14 rfl rfl ?_
      refine s_getr (q := 65) eX3_banksOf_15 fX3_27 shp_59 rfl ?_
      refine s_iload_n eX3_banksOf_18 rfl rfl ?_
      refine n_callSi (As := [.ref 65, .int v3]) eX3_banksOf_19 kX7_at lX3_46 rfl rfl (Nat.le_of_ble_eq_true rfl) (Nat.le_of_ble_eq_true rfl) (Nat.le_of_ble_eq_true rfl) (uX7_at 65 180 v3 m shp_65) ?_
      refine s_iconst (v := 2) eX3_banksOf_22 rfl ?_
      refine s_iload_n eX3_banksOf_23 rfl rfl ?_
      refine s_imul eX3_banksOf_24 ?_
      refine s_ishr eX3_banksOf_25 ?_
      refine s_iconst (v := 3) eX3_banksOf_26 rfl ?_
      refine s_iand eX3_banksOf_27 ?_
      refine s_ishl eX3_banksOf_28 ?_
      refine s_ior eX3_banksOf_29 ?_
      refine s_istore_n (ls' := [some (.ref 59), some (.int v1), some (.int (v2 ||| ((1 : Int32) <<< ((((F7_at 65 180 v3 m) >>> ((2 * v1) &&& (31 : Int32))) &&& 3) &&& (31 : Int32))))), some (.int v3)]) eX3_banksOf_30 rfl rfl rfl ?_
      refine s_iinc (v := v3 + 1) (ls' := [some (.ref 59), some (.int v1), some (.int (v2 ||| ((1 : Int32) <<< ((((F7_at 65 180 v3 m) >>> ((2 * v1) &&& (31 : Int32))) &&& 3) &&& (31 : Int32))))), some (.int (v3 + 1))]) eX3_banksOf_31 rfl rfl rfl rfl ?_
      refine s_goto eX3_banksOf_34 ?_
      rw [E] at hx
      exact ih v1 (v2 ||| ((1 : Int32) <<< ((((F7_at 65 180 v3 m) >>> ((2 * v1) &&& (31 : Int32))) &&& 3) &&& (31 : Int32)))) (v3 + 1) m hD hx
theorem uX3_banksOf (a1 : Int32) (m : ax_M) (hD : D3_banksOf a1 m) : ax_NM 1 Y3_banksOf [.ref 59, .int a1] m (fun r m1 => r = some (.int (F3_banksOf a1 m)) ∧ m1 = m) := by
  have E : F3_banksOf a1 m = ((L3_banksOf_4 200 a1 0 0 m).1) := rfl
  unfold D3_banksOf at hD
  show ax_N 1 Y3_banksOf 0 [some (.ref 59), some (.int a1), none, none] [] m _
  refine s_iconst (v := 0) eX3_banksOf_0 rfl ?_
  refine s_istore_n (ls' := [some (.ref 59), some (.int a1), some (.int 0), none]) eX3_banksOf_1 rfl rfl rfl ?_
  refine s_iconst (v := 0) eX3_banksOf_2 rfl ?_
  refine s_istore_n (ls' := [some (.ref 59), some (.int a1), some (.int 0), some (.int 0)]) eX3_banksOf_3 rfl rfl rfl ?_
  have q1 := hD
  refine clX3_banksOf_4 200 a1 0 0 m q1 ?_
  refine s_iload_n eX3_banksOf_37 rfl rfl ?_
  exact s_iret eX3_banksOf_38 rfl ⟨rfl, by rw [E], rfl⟩
theorem uX3_rowsFrom (a1 : Int32) (a2 : Int32) (m : ax_M) : ax_NM 1 Y3_rowsFrom [.ref 59, .int a1, .int a2] m (fun r m1 => r = some (.int (F3_rowsFrom a1 a2 m)) ∧ m1 = m) := by
  have E : F3_rowsFrom a1 a2 m = (F7_at 69 900 ((a2 * 180) + a1) m) := rfl
  show ax_N 1 Y3_rowsFrom 0 [some (.ref 59), some (.int a1), some (.int a2)] [] m _
  refine s_aload_n eX3_rowsFrom_0 rfl rfl ?_
  refine s_getr (q := 69) eX3_rowsFrom_1 fX3_39 shp_59 rfl ?_
  refine s_iload_n eX3_rowsFrom_4 rfl rfl ?_
  refine s_sipush (v := 180) eX3_rowsFrom_5 rfl ?_
  refine s_imul eX3_rowsFrom_8 ?_
  refine s_iload_n eX3_rowsFrom_9 rfl rfl ?_
  refine s_iadd eX3_rowsFrom_10 ?_
  refine n_callSi (As := [.ref 69, .int ((a2 * 180) + a1)]) eX3_rowsFrom_11 kX7_at lX3_46 rfl rfl (Nat.le_of_ble_eq_true rfl) (Nat.le_of_ble_eq_true rfl) (Nat.le_of_ble_eq_true rfl) (uX7_at 69 900 ((a2 * 180) + a1) m shp_69) ?_
  exact s_iret eX3_rowsFrom_14 rfl ⟨rfl, by rw [E], rfl⟩
theorem uX3_rowsBy (a1 : Int32) (a2 : Int32) (a3 : Int32) (m : ax_M) : ax_NM 2 Y3_rowsBy [.ref 59, .int a1, .int a2, .int a3] m (fun r m1 => r = some (.int (F3_rowsBy a1 a2 a3 m)) ∧ m1 = m) := by
  have E : F3_rowsBy a1 a2 a3 m = (if (F3_isOpen (F7_at 65 180 a1 m) a2 m) = 0 then 0 else (F3_rowsFrom (F3_indexOf ((F7_at 65 180 a1 m) ^^^ (F7_at 63 120 a2 m)) m) (a3 - 1) m)) := rfl
  show ax_N 2 Y3_rowsBy 0 [some (.ref 59), some (.int a1), some (.int a2), some (.int a3)] [] m _
  refine s_aload_n eX3_rowsBy_0 rfl rfl ?_
  refine s_aload_n eX3_rowsBy_1 rfl rfl ?_
  refine s_getr (q := 65) eX3_rowsBy_2 fX3_27 shp_59 rfl ?_
  refine s_iload_n eX3_rowsBy_5 rfl rfl ?_
  refine n_callSi (As := [.ref 65, .int a1]) eX3_rowsBy_6 kX7_at lX3_46 rfl rfl (Nat.le_of_ble_eq_true rfl) (Nat.le_of_ble_eq_true rfl) (Nat.le_of_ble_eq_true rfl) (uX7_at 65 180 a1 m shp_65) ?_
  refine s_iload_n eX3_rowsBy_9 rfl rfl ?_
  refine n_callVi (As := [.int (F7_at 65 180 a1 m), .int a2]) eX3_rowsBy_10 kX3_isOpen lX3_65 rfl rfl shp_59 rfl rfl (Nat.le_of_ble_eq_true rfl) (Nat.le_of_ble_eq_true rfl) (Nat.le_of_ble_eq_true rfl) (uX3_isOpen (F7_at 65 180 a1 m) a2 m) ?_
  refine s_if_ne eX3_rowsBy_13 (fun h1 => ?_) (fun h1 => ?_)
  · skip
    rw [if_neg h1] at E
    refine s_aload_n eX3_rowsBy_18 rfl rfl ?_
    refine s_aload_n eX3_rowsBy_19 rfl rfl ?_
    refine s_aload_n eX3_rowsBy_20 rfl rfl ?_
    refine s_getr (q := 65) eX3_rowsBy_21 fX3_27 shp_59 rfl ?_
    refine s_iload_n eX3_rowsBy_24 rfl rfl ?_
    refine n_callSi (As := [.ref 65, .int a1]) eX3_rowsBy_25 kX7_at lX3_46 rfl rfl (Nat.le_of_ble_eq_true rfl) (Nat.le_of_ble_eq_true rfl) (Nat.le_of_ble_eq_true rfl) (uX7_at 65 180 a1 m shp_65) ?_
    refine s_aload_n eX3_rowsBy_28 rfl rfl ?_
    refine s_getr (q := 63) eX3_rowsBy_29 fX3_21 shp_59 rfl ?_
    refine s_iload_n eX3_rowsBy_32 rfl rfl ?_
    refine n_callSi (As := [.ref 63, .int a2]) eX3_rowsBy_33 kX7_at lX3_46 rfl rfl (Nat.le_of_ble_eq_true rfl) (Nat.le_of_ble_eq_true rfl) (Nat.le_of_ble_eq_true rfl) (uX7_at 63 120 a2 m shp_63) ?_
    refine s_ixor eX3_rowsBy_36 ?_
    refine n_callVi (As := [.int ((F7_at 65 180 a1 m) ^^^ (F7_at 63 120 a2 m))]) eX3_rowsBy_37 kX3_indexOf lX3_103 rfl rfl shp_59 rfl rfl (Nat.le_of_ble_eq_true rfl) (Nat.le_of_ble_eq_true rfl) (Nat.le_of_ble_eq_true rfl) (uX3_indexOf ((F7_at 65 180 a1 m) ^^^ (F7_at 63 120 a2 m)) m) ?_
    refine s_iload_n eX3_rowsBy_40 rfl rfl ?_
    refine s_iconst (v := 1) eX3_rowsBy_41 rfl ?_
    refine s_isub eX3_rowsBy_42 ?_
    refine n_callVi (As := [.int (F3_indexOf ((F7_at 65 180 a1 m) ^^^ (F7_at 63 120 a2 m)) m), .int (a3 - 1)]) eX3_rowsBy_43 kX3_rowsFrom lX3_106 rfl rfl shp_59 rfl rfl (Nat.le_of_ble_eq_true rfl) (Nat.le_of_ble_eq_true rfl) (Nat.le_of_ble_eq_true rfl) (uX3_rowsFrom (F3_indexOf ((F7_at 65 180 a1 m) ^^^ (F7_at 63 120 a2 m)) m) (a3 - 1) m) ?_
    exact s_iret eX3_rowsBy_46 rfl ⟨rfl, by rw [E], rfl⟩
  · skip
    rw [if_pos h1] at E
    refine s_iconst (v := 0) eX3_rowsBy_16 rfl ?_
    exact s_iret eX3_rowsBy_17 rfl ⟨rfl, by rw [E], rfl⟩
theorem clX3_countRows_2 {P : Option Value → ax_M → Prop} : ∀ (n : Nat) (v1 v2 v3 : Int32) (m : ax_M), E3_countRows_2 n v1 v2 v3 m → (ax_N 3 Y3_countRows 41 [some (.ref 59), some (.int v1), some (.int v2), some (.int ((L3_countRows_2 n v1 v2 v3 m).1)), none, none, none] [] ((L3_countRows_2 n v1 v2 v3 m).2) P) → ax_N 3 Y3_countRows 2 [some (.ref 59), some (.int v1), some (.int v2), some (.int v3), none, none, none] [] m P := by
  intro n
  induction n with
  | zero => intro v1 v2 v3 m hD; exact absurd hD id
  | succ n ih =>
    intro v1 v2 v3 m hD hx
    have E : L3_countRows_2 (n + 1) v1 v2 v3 m = (if (m 59 10) ≤ v3 then (v3, m) else L3_countRows_2 n v1 v2 (v3 + 1) (F7_put 69 900 v3 (if (F7_at 65 180 v3 m) = v1 then (1 : Int32) else 0) m)) := by rw [L3_countRows_2]
    have hD : ((¬ ((m 59 10) ≤ v3) → ((E3_countRows_2 n v1 v2 (v3 + 1) (F7_put 69 900 v3 (if (F7_at 65 180 v3 m) = v1 then (1 : Int32) else 0) m))))) := hD
    refine s_iload_n eX3_countRows_2 rfl rfl ?_
    refine s_aload_n eX3_countRows_3 rfl rfl ?_
    refine s_geti eX3_countRows_4 fX3_42 shp_59 rfl ?_
    refine s_icmp_ge eX3_countRows_7 (fun h1 => ?_) (fun h1 => ?_)
    · skip
      rw [if_pos h1] at E
      rw [E] at hx
      exact hx
    · skip
      rw [if_neg h1] at E
      have hD := hD h1
      refine s_aload_n eX3_countRows_10 rfl rfl ?_
      refine s_getr (q := 69) eX3_countRows_11 fX3_39 shp_59 rfl ?_
      refine s_iload_n eX3_countRows_14 rfl rfl ?_
      refine s_aload_n eX3_countRows_15 rfl rfl ?_
      refine s_getr (q := 65) eX3_countRows_16 fX3_27 shp_59 rfl ?_
      refine s_iload_n eX3_countRows_19 rfl rfl ?_
      refine n_callSi (As := [.ref 65, .int v3]) eX3_countRows_20 kX7_at lX3_46 rfl rfl (Nat.le_of_ble_eq_true rfl) (Nat.le_of_ble_eq_true rfl) (Nat.le_of_ble_eq_true rfl) (uX7_at 65 180 v3 m shp_65) ?_
      refine s_iload_n eX3_countRows_23 rfl rfl ?_
      have J2 : ax_N 3 Y3_countRows 32 [some (.ref 59), some (.int v1), some (.int v2), some (.int v3), none, none, none] [.int (if (F7_at 65 180 v3 m) = v1 then (1 : Int32) else 0), .int v3, .ref 69] m P := by
        refine n_callSv (As := [.ref 69, .int v3, .int (if (F7_at 65 180 v3 m) = v1 then (1 : Int32) else 0)]) eX3_countRows_32 kX7_put lX3_50 rfl rfl (Nat.le_of_ble_eq_true rfl) (Nat.le_of_ble_eq_true rfl) (Nat.le_of_ble_eq_true rfl) (uX7_put 69 900 v3 (if (F7_at 65 180 v3 m) = v1 then (1 : Int32) else 0) m shp_69) ?_
        refine s_iinc (v := v3 + 1) (ls' := [some (.ref 59), some (.int v1), some (.int v2), some (.int (v3 + 1)), none, none, none]) eX3_countRows_35 rfl rfl rfl rfl ?_
        refine s_goto eX3_countRows_38 ?_
        rw [E] at hx
        exact ih v1 v2 (v3 + 1) ((F7_put 69 900 v3 (if (F7_at 65 180 v3 m) = v1 then (1 : Int32) else 0) m)) hD hx
      refine s_icmp_ne eX3_countRows_24 (fun h3 => ?_) (fun h3 => ?_)
      · skip
        refine s_iconst (v := 0) eX3_countRows_31 rfl ?_
        exact ax_eqN rfl (by rw [show (if (F7_at 65 180 v3 m) = v1 then (1 : Int32) else 0 : Int32) = 0 by rw [if_neg h3]]) rfl J2
      · skip
        refine s_iconst (v := 1) eX3_countRows_27 rfl ?_
        refine s_goto eX3_countRows_28 ?_
        exact ax_eqN rfl (by rw [show (if (F7_at 65 180 v3 m) = v1 then (1 : Int32) else 0 : Int32) = 1 by rw [if_pos h3]]) rfl J2
theorem clX3_countRows_78 {P : Option Value → ax_M → Prop} : ∀ (n : Nat) (v1 v2 v3 v4 v5 v6 : Int32) (m : ax_M), E3_countRows_78 n v1 v2 v3 v4 v5 v6 m → (ax_N 3 Y3_countRows 107 [some (.ref 59), some (.int v1), some (.int v2), some (.int v3), some (.int v4), some (.int ((L3_countRows_78 n v1 v2 v3 v4 v5 v6 m).1)), some (.int ((L3_countRows_78 n v1 v2 v3 v4 v5 v6 m).2))] [] m P) → ax_N 3 Y3_countRows 78 [some (.ref 59), some (.int v1), some (.int v2), some (.int v3), some (.int v4), some (.int v5), some (.int v6)] [] m P := by
  intro n
  induction n with
  | zero => intro v1 v2 v3 v4 v5 v6 m hD; exact absurd hD id
  | succ n ih =>
    intro v1 v2 v3 v4 v5 v6 m hD hx
    have E : L3_countRows_78 (n + 1) v1 v2 v3 v4 v5 v6 m = (if (m 59 4) ≤ v6 then (v5, v6) else L3_countRows_78 n v1 v2 v3 v4 (v5 + (F3_rowsBy v4 v6 v3 m)) (v6 + 1) m) := by rw [L3_countRows_78]
    have hD : ((¬ ((m 59 4) ≤ v6) → ((E3_countRows_78 n v1 v2 v3 v4 (v5 + (F3_rowsBy v4 v6 v3 m)) (v6 + 1) m)))) := hD
    refine s_iload eX3_countRows_78 rfl ?_
    refine s_aload_n eX3_countRows_80 rfl rfl ?_
    refine s_geti eX3_countRows_81 fX3_62 shp_59 rfl ?_
    refine s_icmp_ge eX3_countRows_84 (fun h1 => ?_) (fun h1 => ?_)
    · skip
      rw [if_pos h1] at E
      rw [E] at hx
      exact hx
    · skip
      rw [if_neg h1] at E
      have hD := hD h1
      refine s_iload eX3_countRows_87 rfl ?_
      refine s_aload_n eX3_countRows_89 rfl rfl ?_
      refine s_iload eX3_countRows_90 rfl ?_
      refine s_iload eX3_countRows_92 rfl ?_
      refine s_iload_n eX3_countRows_94 rfl rfl ?_
      refine n_callVi (As := [.int v4, .int v6, .int v3]) eX3_countRows_95 kX3_rowsBy lX3_99 rfl rfl shp_59 rfl rfl (Nat.le_of_ble_eq_true rfl) (Nat.le_of_ble_eq_true rfl) (Nat.le_of_ble_eq_true rfl) (uX3_rowsBy v4 v6 v3 m) ?_
      refine s_iadd eX3_countRows_98 ?_
      refine s_istore (ls' := [some (.ref 59), some (.int v1), some (.int v2), some (.int v3), some (.int v4), some (.int (v5 + (F3_rowsBy v4 v6 v3 m))), some (.int v6)]) eX3_countRows_99 rfl rfl ?_
      refine s_iinc (v := v6 + 1) (ls' := [some (.ref 59), some (.int v1), some (.int v2), some (.int v3), some (.int v4), some (.int (v5 + (F3_rowsBy v4 v6 v3 m))), some (.int (v6 + 1))]) eX3_countRows_101 rfl rfl rfl rfl ?_
      refine s_goto eX3_countRows_104 ?_
      rw [E] at hx
      exact ih v1 v2 v3 v4 (v5 + (F3_rowsBy v4 v6 v3 m)) (v6 + 1) m hD hx
theorem clX3_countRows_51 {P : Option Value → ax_M → Prop} : ∀ (n : Nat) (v1 v2 v3 v4 : Int32) (m : ax_M), E3_countRows_51 n v1 v2 v3 v4 m → (ax_N 3 Y3_countRows 130 [some (.ref 59), some (.int v1), some (.int v2), some (.int v3), some (.int ((L3_countRows_51 n v1 v2 v3 v4 m).1)), none, none] [] ((L3_countRows_51 n v1 v2 v3 v4 m).2) P) → ax_N 3 Y3_countRows 51 [some (.ref 59), some (.int v1), some (.int v2), some (.int v3), some (.int v4), none, none] [] m P := by
  intro n
  induction n with
  | zero => intro v1 v2 v3 v4 m hD; exact absurd hD id
  | succ n ih =>
    intro v1 v2 v3 v4 m hD hx
    have E : L3_countRows_51 (n + 1) v1 v2 v3 v4 m = (if (m 59 10) ≤ v4 then (v4, m) else (if (v2 - v3) < (F3_depthOf v4 m) then (v4, m) else L3_countRows_51 n v1 v2 v3 (v4 + 1) (F7_put 69 900 ((v3 * 180) + v4) ((L3_countRows_78 200 v1 v2 v3 v4 0 0 m).1) m))) := by rw [L3_countRows_51]
    have hD : ((¬ ((m 59 10) ≤ v4) → ((¬ ((v2 - v3) < (F3_depthOf v4 m)) → ((E3_countRows_78 200 v1 v2 v3 v4 0 0 m) ∧ (E3_countRows_51 n v1 v2 v3 (v4 + 1) (F7_put 69 900 ((v3 * 180) + v4) ((L3_countRows_78 200 v1 v2 v3 v4 0 0 m).1) m))))))) := hD
    refine s_iload eX3_countRows_51 rfl ?_
    refine s_aload_n eX3_countRows_53 rfl rfl ?_
    refine s_geti eX3_countRows_54 fX3_42 shp_59 rfl ?_
    refine s_icmp_ge eX3_countRows_57 (fun h1 => ?_) (fun h1 => ?_)
    · skip
      rw [if_pos h1] at E
      rw [E] at hx
      exact hx
    · skip
      rw [if_neg h1] at E
      have hD := hD h1
      refine s_aload_n eX3_countRows_60 rfl rfl ?_
      refine s_iload eX3_countRows_61 rfl ?_
      refine n_callVi (As := [.int v4]) eX3_countRows_63 kX3_depthOf lX3_96 rfl rfl shp_59 rfl rfl (Nat.le_of_ble_eq_true rfl) (Nat.le_of_ble_eq_true rfl) (Nat.le_of_ble_eq_true rfl) (uX3_depthOf v4 m) ?_
      refine s_iload_n eX3_countRows_66 rfl rfl ?_
      refine s_iload_n eX3_countRows_67 rfl rfl ?_
      refine s_isub eX3_countRows_68 ?_
      refine s_icmp_gt eX3_countRows_69 (fun h2 => ?_) (fun h2 => ?_)
      · skip
        rw [if_pos h2] at E
        rw [E] at hx
        exact hx
      · skip
        rw [if_neg h2] at E
        have hD := hD h2
        refine s_iconst (v := 0) eX3_countRows_72 rfl ?_
        refine s_istore (ls' := [some (.ref 59), some (.int v1), some (.int v2), some (.int v3), some (.int v4), some (.int 0), none]) eX3_countRows_73 rfl rfl ?_
        refine s_iconst (v := 0) eX3_countRows_75 rfl ?_
        refine s_istore (ls' := [some (.ref 59), some (.int v1), some (.int v2), some (.int v3), some (.int v4), some (.int 0), some (.int 0)]) eX3_countRows_76 rfl rfl ?_
        obtain ⟨q3, hD⟩ := hD
        refine clX3_countRows_78 200 v1 v2 v3 v4 0 0 m q3 ?_
        refine s_aload_n eX3_countRows_107 rfl rfl ?_
        refine s_getr (q := 69) eX3_countRows_108 fX3_39 shp_59 rfl ?_
        refine s_iload_n eX3_countRows_111 rfl rfl ?_
        refine s_sipush (v := 180) eX3_countRows_112 rfl ?_
        refine s_imul eX3_countRows_115 ?_
        refine s_iload eX3_countRows_116 rfl ?_
        refine s_iadd eX3_countRows_118 ?_
        refine s_iload eX3_countRows_119 rfl ?_
        refine n_callSv (As := [.ref 69, .int ((v3 * 180) + v4), .int ((L3_countRows_78 200 v1 v2 v3 v4 0 0 m).1)]) eX3_countRows_121 kX7_put lX3_50 rfl rfl (Nat.le_of_ble_eq_true rfl) (Nat.le_of_ble_eq_true rfl) (Nat.le_of_ble_eq_true rfl) (uX7_put 69 900 ((v3 * 180) + v4) ((L3_countRows_78 200 v1 v2 v3 v4 0 0 m).1) m shp_69) ?_
        refine s_iinc (v := v4 + 1) (ls' := [some (.ref 59), some (.int v1), some (.int v2), some (.int v3), some (.int (v4 + 1)), some (.int ((L3_countRows_78 200 v1 v2 v3 v4 0 0 m).1)), some (.int ((L3_countRows_78 200 v1 v2 v3 v4 0 0 m).2))]) eX3_countRows_124 rfl rfl rfl rfl ?_
        refine s_goto eX3_countRows_127 ?_
        refine ax_forget (ls' := [some (.ref 59), some (.int v1), some (.int v2), some (.int v3), some (.int (v4 + 1)), none, none]) rfl ?_
        rw [E] at hx
        exact ih v1 v2 v3 (v4 + 1) ((F7_put 69 900 ((v3 * 180) + v4) ((L3_countRows_78 200 v1 v2 v3 v4 0 0 m).1) m)) hD hx
theorem clX3_countRows_43 {P : Option Value → ax_M → Prop} : ∀ (n : Nat) (v1 v2 v3 : Int32) (m : ax_M), E3_countRows_43 n v1 v2 v3 m → (ax_N 3 Y3_countRows 136 [some (.ref 59), some (.int v1), some (.int v2), some (.int ((L3_countRows_43 n v1 v2 v3 m).1)), none, none, none] [] ((L3_countRows_43 n v1 v2 v3 m).2) P) → ax_N 3 Y3_countRows 43 [some (.ref 59), some (.int v1), some (.int v2), some (.int v3), none, none, none] [] m P := by
  intro n
  induction n with
  | zero => intro v1 v2 v3 m hD; exact absurd hD id
  | succ n ih =>
    intro v1 v2 v3 m hD hx
    have E : L3_countRows_43 (n + 1) v1 v2 v3 m = (if v2 < v3 then (v3, m) else L3_countRows_43 n v1 v2 (v3 + 1) (L3_countRows_51 200 v1 v2 v3 0 m).2) := by rw [L3_countRows_43]
    have hD : ((¬ (v2 < v3) → ((E3_countRows_51 200 v1 v2 v3 0 m) ∧ (E3_countRows_43 n v1 v2 (v3 + 1) (L3_countRows_51 200 v1 v2 v3 0 m).2)))) := hD
    refine s_iload_n eX3_countRows_43 rfl rfl ?_
    refine s_iload_n eX3_countRows_44 rfl rfl ?_
    refine s_icmp_gt eX3_countRows_45 (fun h1 => ?_) (fun h1 => ?_)
    · skip
      rw [if_pos h1] at E
      rw [E] at hx
      exact hx
    · skip
      rw [if_neg h1] at E
      have hD := hD h1
      refine s_iconst (v := 0) eX3_countRows_48 rfl ?_
      refine s_istore (ls' := [some (.ref 59), some (.int v1), some (.int v2), some (.int v3), some (.int 0), none, none]) eX3_countRows_49 rfl rfl ?_
      obtain ⟨q2, hD⟩ := hD
      refine clX3_countRows_51 200 v1 v2 v3 0 m q2 ?_
      refine s_iinc (v := v3 + 1) (ls' := [some (.ref 59), some (.int v1), some (.int v2), some (.int (v3 + 1)), some (.int ((L3_countRows_51 200 v1 v2 v3 0 m).1)), none, none]) eX3_countRows_130 rfl rfl rfl rfl ?_
      refine s_goto eX3_countRows_133 ?_
      refine ax_forget (ls' := [some (.ref 59), some (.int v1), some (.int v2), some (.int (v3 + 1)), none, none, none]) rfl ?_
      rw [E] at hx
      exact ih v1 v2 (v3 + 1) ((L3_countRows_51 200 v1 v2 v3 0 m).2) hD hx
theorem uX3_countRows (a1 : Int32) (a2 : Int32) (m : ax_M) (hD : D3_countRows a1 a2 m) : ax_NM 3 Y3_countRows [.ref 59, .int a1, .int a2] m (fun r m1 => r = none ∧ m1 = F3_countRows a1 a2 m) := by
  have E : F3_countRows a1 a2 m = (L3_countRows_43 200 a1 a2 1 (L3_countRows_2 200 a1 a2 0 m).2).2 := rfl
  unfold D3_countRows at hD
  show ax_N 3 Y3_countRows 0 [some (.ref 59), some (.int a1), some (.int a2), none, none, none, none] [] m _
  refine s_iconst (v := 0) eX3_countRows_0 rfl ?_
  refine s_istore_n (ls' := [some (.ref 59), some (.int a1), some (.int a2), some (.int 0), none, none, none]) eX3_countRows_1 rfl rfl rfl ?_
  obtain ⟨q1, hD⟩ := hD
  refine clX3_countRows_2 200 a1 a2 0 m q1 ?_
  refine s_iconst (v := 1) eX3_countRows_41 rfl ?_
  refine s_istore_n (ls' := [some (.ref 59), some (.int a1), some (.int a2), some (.int 1), none, none, none]) eX3_countRows_42 rfl rfl rfl ?_
  have q2 := hD
  refine clX3_countRows_43 200 a1 a2 1 ((L3_countRows_2 200 a1 a2 0 m).2) q2 ?_
  exact s_vret eX3_countRows_136 rfl ⟨rfl, rfl, by rw [E]⟩
theorem clX3_stepOfFirstRow_14 {P : Option Value → ax_M → Prop} : ∀ (n : Nat) (v1 v2 v3 v4 v5 : Int32) (m : ax_M), E3_stepOfFirstRow_14 n v1 v2 v3 v4 v5 m → (ax_N 3 Y3_stepOfFirstRow 43 [some (.ref 59), some (.int v1), some (.int v2), some (.int v3), some (.int v4), some (.int ((L3_stepOfFirstRow_14 n v1 v2 v3 v4 v5 m)))] [] m P) → ax_N 3 Y3_stepOfFirstRow 14 [some (.ref 59), some (.int v1), some (.int v2), some (.int v3), some (.int v4), some (.int v5)] [] m P := by
  intro n
  induction n with
  | zero => intro v1 v2 v3 v4 v5 m hD; exact absurd hD id
  | succ n ih =>
    intro v1 v2 v3 v4 v5 m hD hx
    have E : L3_stepOfFirstRow_14 (n + 1) v1 v2 v3 v4 v5 m = (if (m 59 4) ≤ v5 then v5 else (if (F3_rowsBy v3 v5 (v1 - v4) m) = 0 then L3_stepOfFirstRow_14 n v1 v2 v3 v4 (v5 + 1) m else v5)) := by rw [L3_stepOfFirstRow_14]
    have hD : ((¬ ((m 59 4) ≤ v5) → ((((F3_rowsBy v3 v5 (v1 - v4) m) = 0) → ((E3_stepOfFirstRow_14 n v1 v2 v3 v4 (v5 + 1) m)))))) := hD
    refine s_iload eX3_stepOfFirstRow_14 rfl ?_
    refine s_aload_n eX3_stepOfFirstRow_16 rfl rfl ?_
    refine s_geti eX3_stepOfFirstRow_17 fX3_62 shp_59 rfl ?_
    refine s_icmp_ge eX3_stepOfFirstRow_20 (fun h1 => ?_) (fun h1 => ?_)
    · skip
      rw [if_pos h1] at E
      rw [E] at hx
      exact hx
    · skip
      rw [if_neg h1] at E
      have hD := hD h1
      refine s_aload_n eX3_stepOfFirstRow_23 rfl rfl ?_
      refine s_iload_n eX3_stepOfFirstRow_24 rfl rfl ?_
      refine s_iload eX3_stepOfFirstRow_25 rfl ?_
      refine s_iload_n eX3_stepOfFirstRow_27 rfl rfl ?_
      refine s_iload eX3_stepOfFirstRow_28 rfl ?_
      refine s_isub eX3_stepOfFirstRow_30 ?_
      refine n_callVi (As := [.int v3, .int v5, .int (v1 - v4)]) eX3_stepOfFirstRow_31 kX3_rowsBy lX3_99 rfl rfl shp_59 rfl rfl (Nat.le_of_ble_eq_true rfl) (Nat.le_of_ble_eq_true rfl) (Nat.le_of_ble_eq_true rfl) (uX3_rowsBy v3 v5 (v1 - v4) m) ?_
      refine s_if_ne eX3_stepOfFirstRow_34 (fun h2 => ?_) (fun h2 => ?_)
      · skip
        rw [if_neg h2] at E
        rw [E] at hx
        exact hx
      · skip
        rw [if_pos h2] at E
        have hD := hD h2
        refine s_iinc (v := v5 + 1) (ls' := [some (.ref 59), some (.int v1), some (.int v2), some (.int v3), some (.int v4), some (.int (v5 + 1))]) eX3_stepOfFirstRow_37 rfl rfl rfl rfl ?_
        refine s_goto eX3_stepOfFirstRow_40 ?_
        rw [E] at hx
        exact ih v1 v2 v3 v4 (v5 + 1) m hD hx
theorem clX3_stepOfFirstRow_5 {P : Option Value → ax_M → Prop} : ∀ (n : Nat) (v1 v2 v3 v4 : Int32) (m : ax_M), E3_stepOfFirstRow_5 n v1 v2 v3 v4 m → (∀ r, (L3_stepOfFirstRow_5 n v1 v2 v3 v4 m).1 = some r → P (some (.int r)) m) → ((L3_stepOfFirstRow_5 n v1 v2 v3 v4 m).1 = none → ax_N 3 Y3_stepOfFirstRow 100 [some (.ref 59), some (.int v1), some (.int v2), some (.int ((L3_stepOfFirstRow_5 n v1 v2 v3 v4 m).2.1)), some (.int ((L3_stepOfFirstRow_5 n v1 v2 v3 v4 m).2.2)), none] [] m P) → ax_N 3 Y3_stepOfFirstRow 5 [some (.ref 59), some (.int v1), some (.int v2), some (.int v3), some (.int v4), none] [] m P := by
  intro n
  induction n with
  | zero => intro v1 v2 v3 v4 m hD; exact absurd hD id
  | succ n ih =>
    intro v1 v2 v3 v4 m hD hr hx
    have E : L3_stepOfFirstRow_5 (n + 1) v1 v2 v3 v4 m = (if v1 ≤ v4 then (none, v3, v4) else (if ((L3_stepOfFirstRow_14 200 v1 v2 v3 v4 0 m)) < (m 59 4) then (if v4 = v2 then (some (F7_at 60 120 ((L3_stepOfFirstRow_14 200 v1 v2 v3 v4 0 m)) m), v3, v4) else L3_stepOfFirstRow_5 n v1 v2 (F3_indexOf ((F7_at 65 180 v3 m) ^^^ (F7_at 63 120 ((L3_stepOfFirstRow_14 200 v1 v2 v3 v4 0 m)) m)) m) (v4 + 1) m) else (some ((-4)), v3, v4))) := by rw [L3_stepOfFirstRow_5]
    have hD : ((¬ (v1 ≤ v4) → ((E3_stepOfFirstRow_14 200 v1 v2 v3 v4 0 m) ∧ ((((L3_stepOfFirstRow_14 200 v1 v2 v3 v4 0 m)) < (m 59 4)) → ((¬ (v4 = v2) → ((E3_stepOfFirstRow_5 n v1 v2 (F3_indexOf ((F7_at 65 180 v3 m) ^^^ (F7_at 63 120 ((L3_stepOfFirstRow_14 200 v1 v2 v3 v4 0 m)) m)) m) (v4 + 1) m)))))))) := hD
    refine s_iload eX3_stepOfFirstRow_5 rfl ?_
    refine s_iload_n eX3_stepOfFirstRow_7 rfl rfl ?_
    refine s_icmp_ge eX3_stepOfFirstRow_8 (fun h1 => ?_) (fun h1 => ?_)
    · skip
      rw [if_pos h1] at E
      rw [E] at hx
      exact hx rfl
    · skip
      rw [if_neg h1] at E
      have hD := hD h1
      refine s_iconst (v := 0) eX3_stepOfFirstRow_11 rfl ?_
      refine s_istore (ls' := [some (.ref 59), some (.int v1), some (.int v2), some (.int v3), some (.int v4), some (.int 0)]) eX3_stepOfFirstRow_12 rfl rfl ?_
      obtain ⟨q2, hD⟩ := hD
      refine clX3_stepOfFirstRow_14 200 v1 v2 v3 v4 0 m q2 ?_
      refine s_iload eX3_stepOfFirstRow_43 rfl ?_
      refine s_aload_n eX3_stepOfFirstRow_45 rfl rfl ?_
      refine s_geti eX3_stepOfFirstRow_46 fX3_62 shp_59 rfl ?_
      refine s_icmp_lt eX3_stepOfFirstRow_49 (fun h3 => ?_) (fun h3 => ?_)
      · skip
        rw [if_pos h3] at E
        have hD := hD h3
        refine s_iload eX3_stepOfFirstRow_55 rfl ?_
        refine s_iload_n eX3_stepOfFirstRow_57 rfl rfl ?_
        refine s_icmp_ne eX3_stepOfFirstRow_58 (fun h4 => ?_) (fun h4 => ?_)
        · skip
          rw [if_neg h4] at E
          have hD := hD h4
          refine s_aload_n eX3_stepOfFirstRow_71 rfl rfl ?_
          refine s_aload_n eX3_stepOfFirstRow_72 rfl rfl ?_
          refine s_getr (q := 65) eX3_stepOfFirstRow_73 fX3_27 shp_59 rfl ?_
          refine s_iload_n eX3_stepOfFirstRow_76 rfl rfl ?_
          refine n_callSi (As := [.ref 65, .int v3]) eX3_stepOfFirstRow_77 kX7_at lX3_46 rfl rfl (Nat.le_of_ble_eq_true rfl) (Nat.le_of_ble_eq_true rfl) (Nat.le_of_ble_eq_true rfl) (uX7_at 65 180 v3 m shp_65) ?_
          refine s_aload_n eX3_stepOfFirstRow_80 rfl rfl ?_
          refine s_getr (q := 63) eX3_stepOfFirstRow_81 fX3_21 shp_59 rfl ?_
          refine s_iload eX3_stepOfFirstRow_84 rfl ?_
          refine n_callSi (As := [.ref 63, .int ((L3_stepOfFirstRow_14 200 v1 v2 v3 v4 0 m))]) eX3_stepOfFirstRow_86 kX7_at lX3_46 rfl rfl (Nat.le_of_ble_eq_true rfl) (Nat.le_of_ble_eq_true rfl) (Nat.le_of_ble_eq_true rfl) (uX7_at 63 120 ((L3_stepOfFirstRow_14 200 v1 v2 v3 v4 0 m)) m shp_63) ?_
          refine s_ixor eX3_stepOfFirstRow_89 ?_
          refine n_callVi (As := [.int ((F7_at 65 180 v3 m) ^^^ (F7_at 63 120 ((L3_stepOfFirstRow_14 200 v1 v2 v3 v4 0 m)) m))]) eX3_stepOfFirstRow_90 kX3_indexOf lX3_103 rfl rfl shp_59 rfl rfl (Nat.le_of_ble_eq_true rfl) (Nat.le_of_ble_eq_true rfl) (Nat.le_of_ble_eq_true rfl) (uX3_indexOf ((F7_at 65 180 v3 m) ^^^ (F7_at 63 120 ((L3_stepOfFirstRow_14 200 v1 v2 v3 v4 0 m)) m)) m) ?_
          refine s_istore_n (ls' := [some (.ref 59), some (.int v1), some (.int v2), some (.int (F3_indexOf ((F7_at 65 180 v3 m) ^^^ (F7_at 63 120 ((L3_stepOfFirstRow_14 200 v1 v2 v3 v4 0 m)) m)) m)), some (.int v4), some (.int ((L3_stepOfFirstRow_14 200 v1 v2 v3 v4 0 m)))]) eX3_stepOfFirstRow_93 rfl rfl rfl ?_
          refine s_iinc (v := v4 + 1) (ls' := [some (.ref 59), some (.int v1), some (.int v2), some (.int (F3_indexOf ((F7_at 65 180 v3 m) ^^^ (F7_at 63 120 ((L3_stepOfFirstRow_14 200 v1 v2 v3 v4 0 m)) m)) m)), some (.int (v4 + 1)), some (.int ((L3_stepOfFirstRow_14 200 v1 v2 v3 v4 0 m)))]) eX3_stepOfFirstRow_94 rfl rfl rfl rfl ?_
          refine s_goto eX3_stepOfFirstRow_97 ?_
          refine ax_forget (ls' := [some (.ref 59), some (.int v1), some (.int v2), some (.int (F3_indexOf ((F7_at 65 180 v3 m) ^^^ (F7_at 63 120 ((L3_stepOfFirstRow_14 200 v1 v2 v3 v4 0 m)) m)) m)), some (.int (v4 + 1)), none]) rfl ?_
          rw [E] at hr hx
          exact ih v1 v2 (F3_indexOf ((F7_at 65 180 v3 m) ^^^ (F7_at 63 120 ((L3_stepOfFirstRow_14 200 v1 v2 v3 v4 0 m)) m)) m) (v4 + 1) m hD hr hx
        · skip
          rw [if_pos h4] at E
          refine s_aload_n eX3_stepOfFirstRow_61 rfl rfl ?_
          refine s_getr (q := 60) eX3_stepOfFirstRow_62 fX3_11 shp_59 rfl ?_
          refine s_iload eX3_stepOfFirstRow_65 rfl ?_
          refine n_callSi (As := [.ref 60, .int ((L3_stepOfFirstRow_14 200 v1 v2 v3 v4 0 m))]) eX3_stepOfFirstRow_67 kX7_at lX3_46 rfl rfl (Nat.le_of_ble_eq_true rfl) (Nat.le_of_ble_eq_true rfl) (Nat.le_of_ble_eq_true rfl) (uX7_at 60 120 ((L3_stepOfFirstRow_14 200 v1 v2 v3 v4 0 m)) m shp_60) ?_
          rw [E] at hr
          exact s_iret eX3_stepOfFirstRow_70 rfl ⟨rfl, hr _ rfl⟩
      · skip
        rw [if_neg h3] at E
        refine s_bipush (v := (-4)) eX3_stepOfFirstRow_52 rfl ?_
        rw [E] at hr
        exact s_iret eX3_stepOfFirstRow_54 rfl ⟨rfl, hr _ rfl⟩
theorem uX3_stepOfFirstRow (a1 : Int32) (a2 : Int32) (m : ax_M) (hD : D3_stepOfFirstRow a1 a2 m) : ax_NM 3 Y3_stepOfFirstRow [.ref 59, .int a1, .int a2] m (fun r m1 => r = some (.int (F3_stepOfFirstRow a1 a2 m)) ∧ m1 = m) := by
  have E : F3_stepOfFirstRow a1 a2 m = (if (L3_stepOfFirstRow_5 200 a1 a2 0 0 m).1 = none then ((-4)) else (((L3_stepOfFirstRow_5 200 a1 a2 0 0 m).1).getD 0)) := rfl
  unfold D3_stepOfFirstRow at hD
  show ax_N 3 Y3_stepOfFirstRow 0 [some (.ref 59), some (.int a1), some (.int a2), none, none, none] [] m _
  refine s_iconst (v := 0) eX3_stepOfFirstRow_0 rfl ?_
  refine s_istore_n (ls' := [some (.ref 59), some (.int a1), some (.int a2), some (.int 0), none, none]) eX3_stepOfFirstRow_1 rfl rfl rfl ?_
  refine s_iconst (v := 0) eX3_stepOfFirstRow_2 rfl ?_
  refine s_istore (ls' := [some (.ref 59), some (.int a1), some (.int a2), some (.int 0), some (.int 0), none]) eX3_stepOfFirstRow_3 rfl rfl ?_
  have q1 := hD
  refine clX3_stepOfFirstRow_5 200 a1 a2 0 0 m q1 (fun x2 h3 => ?_) (fun h3 => ?_)
  · skip
    rw [if_neg (by rw [h3]; exact fun hh => by cases hh), h3] at E
    exact ⟨by rw [E]; rfl, rfl⟩
  · skip
    rw [if_pos h3] at E
    refine s_bipush (v := (-4)) eX3_stepOfFirstRow_100 rfl ?_
    exact s_iret eX3_stepOfFirstRow_102 rfl ⟨rfl, by rw [E], rfl⟩
theorem uX4_isLetter (a0 : Int32) (m : ax_M) : ax_NM 0 Y4_isLetter [.int a0] m (fun r m1 => r = some (.int (F4_isLetter a0 m)) ∧ m1 = m) := by
  have E : F4_isLetter a0 m = (if a0 < 97 then 0 else (if 122 < a0 then 0 else 1)) := rfl
  show ax_N 0 Y4_isLetter 0 [some (.int a0)] [] m _
  refine s_iload_n eX4_isLetter_0 rfl rfl ?_
  refine s_bipush (v := 97) eX4_isLetter_1 rfl ?_
  refine s_icmp_lt eX4_isLetter_3 (fun h1 => ?_) (fun h1 => ?_)
  · skip
    rw [if_pos h1] at E
    refine s_iconst (v := 0) eX4_isLetter_16 rfl ?_
    exact s_zret eX4_isLetter_17 rfl (by first | exact Or.inl rfl | exact Or.inr rfl | (split <;> simp) | simp) ⟨rfl, by rw [E], rfl⟩
  · skip
    rw [if_neg h1] at E
    refine s_iload_n eX4_isLetter_6 rfl rfl ?_
    refine s_bipush (v := 122) eX4_isLetter_7 rfl ?_
    refine s_icmp_gt eX4_isLetter_9 (fun h2 => ?_) (fun h2 => ?_)
    · skip
      rw [if_pos h2] at E
      refine s_iconst (v := 0) eX4_isLetter_16 rfl ?_
      exact s_zret eX4_isLetter_17 rfl (by first | exact Or.inl rfl | exact Or.inr rfl | (split <;> simp) | simp) ⟨rfl, by rw [E], rfl⟩
    · skip
      rw [if_neg h2] at E
      refine s_iconst (v := 1) eX4_isLetter_12 rfl ?_
      refine s_goto eX4_isLetter_13 ?_
      exact s_zret eX4_isLetter_17 rfl (by first | exact Or.inl rfl | exact Or.inr rfl | (split <;> simp) | simp) ⟨rfl, by rw [E], rfl⟩
theorem uX4_isFigure (a0 : Int32) (m : ax_M) : ax_NM 0 Y4_isFigure [.int a0] m (fun r m1 => r = some (.int (F4_isFigure a0 m)) ∧ m1 = m) := by
  have E : F4_isFigure a0 m = (if a0 < 48 then 0 else (if 57 < a0 then 0 else 1)) := rfl
  show ax_N 0 Y4_isFigure 0 [some (.int a0)] [] m _
  refine s_iload_n eX4_isFigure_0 rfl rfl ?_
  refine s_bipush (v := 48) eX4_isFigure_1 rfl ?_
  refine s_icmp_lt eX4_isFigure_3 (fun h1 => ?_) (fun h1 => ?_)
  · skip
    rw [if_pos h1] at E
    refine s_iconst (v := 0) eX4_isFigure_16 rfl ?_
    exact s_zret eX4_isFigure_17 rfl (by first | exact Or.inl rfl | exact Or.inr rfl | (split <;> simp) | simp) ⟨rfl, by rw [E], rfl⟩
  · skip
    rw [if_neg h1] at E
    refine s_iload_n eX4_isFigure_6 rfl rfl ?_
    refine s_bipush (v := 57) eX4_isFigure_7 rfl ?_
    refine s_icmp_gt eX4_isFigure_9 (fun h2 => ?_) (fun h2 => ?_)
    · skip
      rw [if_pos h2] at E
      refine s_iconst (v := 0) eX4_isFigure_16 rfl ?_
      exact s_zret eX4_isFigure_17 rfl (by first | exact Or.inl rfl | exact Or.inr rfl | (split <;> simp) | simp) ⟨rfl, by rw [E], rfl⟩
    · skip
      rw [if_neg h2] at E
      refine s_iconst (v := 1) eX4_isFigure_12 rfl ?_
      refine s_goto eX4_isFigure_13 ?_
      exact s_zret eX4_isFigure_17 rfl (by first | exact Or.inl rfl | exact Or.inr rfl | (split <;> simp) | simp) ⟨rfl, by rw [E], rfl⟩
theorem uX4_fail (a1 : Int32) (a2 : Int32) (m : ax_M) : ax_NM 0 Y4_fail [.ref 41, .int a1, .int a2] m (fun r m1 => r = none ∧ m1 = F4_fail a1 a2 m) := by
  have E : F4_fail a1 a2 m = (if (m 41 6) = 0 then (ax_up (ax_up m 41 6 a1) 41 7 a2) else m) := rfl
  show ax_N 0 Y4_fail 0 [some (.ref 41), some (.int a1), some (.int a2)] [] m _
  refine s_aload_n eX4_fail_0 rfl rfl ?_
  refine s_geti eX4_fail_1 fX4_42 shp_41 rfl ?_
  refine s_if_eq eX4_fail_4 (fun h1 => ?_) (fun h1 => ?_)
  · skip
    rw [if_pos h1] at E
    refine s_aload_n eX4_fail_8 rfl rfl ?_
    refine s_iload_n eX4_fail_9 rfl rfl ?_
    refine s_puti eX4_fail_10 fX4_42 pX4_6 rfl rfl shp_41 rfl ?_
    refine s_aload_n eX4_fail_13 rfl rfl ?_
    refine s_iload_n eX4_fail_14 rfl rfl ?_
    refine s_puti eX4_fail_15 fX4_45 pX4_7 rfl rfl shp_41 rfl ?_
    exact s_vret eX4_fail_18 rfl ⟨rfl, rfl, by rw [E]⟩
  · skip
    rw [if_neg h1] at E
    exact s_vret eX4_fail_7 rfl ⟨rfl, rfl, by rw [E]⟩
