/-! X7_read X7_torn X7_count -/
theorem clX7_read_53 {P : Option Value → ax_M → Prop} : ∀ (n : Nat) (v1 v2 v3 v4 v5 v6 v7 : Int32) (m : ax_M), E7_read_53 n v1 v2 v3 v4 v5 v6 v7 m → (∀ r, (L7_read_53 n v1 v2 v3 v4 v5 v6 v7 m).1 = some r → P (some (.int r)) (L7_read_53 n v1 v2 v3 v4 v5 v6 v7 m).2.2.2.2) → ((L7_read_53 n v1 v2 v3 v4 v5 v6 v7 m).1 = none → ax_N 6 Y7_read 163 [some (.ref 0), some (.int v1), some (.int v2), some (.int v3), some (.int v4), some (.int ((L7_read_53 n v1 v2 v3 v4 v5 v6 v7 m).2.1)), some (.int ((L7_read_53 n v1 v2 v3 v4 v5 v6 v7 m).2.2.1)), some (.int ((L7_read_53 n v1 v2 v3 v4 v5 v6 v7 m).2.2.2.1)), none, none, none, none] [] ((L7_read_53 n v1 v2 v3 v4 v5 v6 v7 m).2.2.2.2) P) → ax_N 6 Y7_read 53 [some (.ref 0), some (.int v1), some (.int v2), some (.int v3), some (.int v4), some (.int v5), some (.int v6), some (.int v7), none, none, none, none] [] m P := by
  intro n
  induction n with
  | zero => intro v1 v2 v3 v4 v5 v6 v7 m hD; exact absurd hD id
  | succ n ih =>
    intro v1 v2 v3 v4 v5 v6 v7 m hD hr hx
    have E : L7_read_53 (n + 1) v1 v2 v3 v4 v5 v6 v7 m = (if v4 ≤ v7 then (none, v5, v6, v7, m) else (if (F5_faultAt v1 v2 (v3 + (3 * v7)) 3 m) = 0 then (if 0 ≤ ((F1_tryCrossing 10 (F5_cellAt v1 (v3 + (3 * v7)) m) (F5_cellAt v1 ((v3 + (3 * v7)) + 1) m) (F5_cellAt v1 ((v3 + (3 * v7)) + 2) m) 0 0 m).1) then L7_read_53 n v1 v2 v3 v4 (F5_faultAt v1 v2 (v3 + (3 * v7)) 3 m) (v6 + 1) (v7 + 1) (F1_tryCrossing 10 (F5_cellAt v1 (v3 + (3 * v7)) m) (F5_cellAt v1 ((v3 + (3 * v7)) + 1) m) (F5_cellAt v1 ((v3 + (3 * v7)) + 2) m) 0 0 m).2 else (some (((-20)) - v7), v5, v6, v7, (F1_tryCrossing 10 (F5_cellAt v1 (v3 + (3 * v7)) m) (F5_cellAt v1 ((v3 + (3 * v7)) + 1) m) (F5_cellAt v1 ((v3 + (3 * v7)) + 2) m) 0 0 m).2)) else (none, F5_faultAt v1 v2 (v3 + (3 * v7)) 3 m, v6, v7, m))) := by rw [L7_read_53]
    have hD : ((¬ (v4 ≤ v7) → ((((F5_faultAt v1 v2 (v3 + (3 * v7)) 3 m) = 0) → (((0 ≤ ((F1_tryCrossing 10 (F5_cellAt v1 (v3 + (3 * v7)) m) (F5_cellAt v1 ((v3 + (3 * v7)) + 1) m) (F5_cellAt v1 ((v3 + (3 * v7)) + 2) m) 0 0 m).1)) → ((E7_read_53 n v1 v2 v3 v4 (F5_faultAt v1 v2 (v3 + (3 * v7)) 3 m) (v6 + 1) (v7 + 1) (F1_tryCrossing 10 (F5_cellAt v1 (v3 + (3 * v7)) m) (F5_cellAt v1 ((v3 + (3 * v7)) + 1) m) (F5_cellAt v1 ((v3 + (3 * v7)) + 2) m) 0 0 m).2)))))))) := hD
    refine s_iload eX7_read_53 rfl ?_
    refine s_iload eX7_read_55 rfl ?_
    refine s_icmp_ge eX7_read_57 (fun h1 => ?_) (fun h1 => ?_)
    · skip
      rw [if_pos h1] at E
      rw [E] at hx
      exact hx rfl
    · skip
      rw [if_neg h1] at E
      have hD := hD h1
      refine s_iload_n eX7_read_60 rfl rfl ?_
      refine s_iconst (v := 3) eX7_read_61 rfl ?_
      refine s_iload eX7_read_62 rfl ?_
      refine s_imul eX7_read_64 ?_
      refine s_iadd eX7_read_65 ?_
      refine s_istore (ls' := [some (.ref 0), some (.int v1), some (.int v2), some (.int v3), some (.int v4), some (.int v5), some (.int v6), some (.int v7), some (.int (v3 + (3 * v7))), none, none, none]) eX7_read_66 rfl rfl ?_
      refine s_aload_n eX7_read_68 rfl rfl ?_
      refine s_getr (q := 70) eX7_read_69 fX7_58 shp_0 rfl ?_
      refine s_iload_n eX7_read_72 rfl rfl ?_
      refine s_iload_n eX7_read_73 rfl rfl ?_
      refine s_iload eX7_read_74 rfl ?_
      refine s_iconst (v := 3) eX7_read_76 rfl ?_
      refine n_callVi (As := [.int v1, .int v2, .int (v3 + (3 * v7)), .int 3]) eX7_read_77 kX5_faultAt lX7_306 rfl rfl shp_70 rfl rfl (Nat.le_of_ble_eq_true rfl) (Nat.le_of_ble_eq_true rfl) (Nat.le_of_ble_eq_true rfl) (uX5_faultAt v1 v2 (v3 + (3 * v7)) 3 m) ?_
      refine s_istore (ls' := [some (.ref 0), some (.int v1), some (.int v2), some (.int v3), some (.int v4), some (.int (F5_faultAt v1 v2 (v3 + (3 * v7)) 3 m)), some (.int v6), some (.int v7), some (.int (v3 + (3 * v7))), none, none, none]) eX7_read_80 rfl rfl ?_
      refine s_iload eX7_read_82 rfl ?_
      refine s_if_eq eX7_read_84 (fun h2 => ?_) (fun h2 => ?_)
      · skip
        rw [if_pos h2] at E
        have hD := hD h2
        refine s_aload_n eX7_read_90 rfl rfl ?_
        refine s_getr (q := 70) eX7_read_91 fX7_58 shp_0 rfl ?_
        refine s_iload_n eX7_read_94 rfl rfl ?_
        refine s_iload eX7_read_95 rfl ?_
        refine n_callVi (As := [.int v1, .int (v3 + (3 * v7))]) eX7_read_97 kX5_cellAt lX7_313 rfl rfl shp_70 rfl rfl (Nat.le_of_ble_eq_true rfl) (Nat.le_of_ble_eq_true rfl) (Nat.le_of_ble_eq_true rfl) (uX5_cellAt v1 (v3 + (3 * v7)) m) ?_
        refine s_istore (ls' := [some (.ref 0), some (.int v1), some (.int v2), some (.int v3), some (.int v4), some (.int (F5_faultAt v1 v2 (v3 + (3 * v7)) 3 m)), some (.int v6), some (.int v7), some (.int (v3 + (3 * v7))), some (.int (F5_cellAt v1 (v3 + (3 * v7)) m)), none, none]) eX7_read_100 rfl rfl ?_
        refine s_aload_n eX7_read_102 rfl rfl ?_
        refine s_getr (q := 70) eX7_read_103 fX7_58 shp_0 rfl ?_
        refine s_iload_n eX7_read_106 rfl rfl ?_
        refine s_iload eX7_read_107 rfl ?_
        refine s_iconst (v := 1) eX7_read_109 rfl ?_
        refine s_iadd eX7_read_110 ?_
        refine n_callVi (As := [.int v1, .int ((v3 + (3 * v7)) + 1)]) eX7_read_111 kX5_cellAt lX7_313 rfl rfl shp_70 rfl rfl (Nat.le_of_ble_eq_true rfl) (Nat.le_of_ble_eq_true rfl) (Nat.le_of_ble_eq_true rfl) (uX5_cellAt v1 ((v3 + (3 * v7)) + 1) m) ?_
        refine s_istore (ls' := [some (.ref 0), some (.int v1), some (.int v2), some (.int v3), some (.int v4), some (.int (F5_faultAt v1 v2 (v3 + (3 * v7)) 3 m)), some (.int v6), some (.int v7), some (.int (v3 + (3 * v7))), some (.int (F5_cellAt v1 (v3 + (3 * v7)) m)), some (.int (F5_cellAt v1 ((v3 + (3 * v7)) + 1) m)), none]) eX7_read_114 rfl rfl ?_
        refine s_aload_n eX7_read_116 rfl rfl ?_
        refine s_getr (q := 70) eX7_read_117 fX7_58 shp_0 rfl ?_
        refine s_iload_n eX7_read_120 rfl rfl ?_
        refine s_iload eX7_read_121 rfl ?_
        refine s_iconst (v := 2) eX7_read_123 rfl ?_
        refine s_iadd eX7_read_124 ?_
        refine n_callVi (As := [.int v1, .int ((v3 + (3 * v7)) + 2)]) eX7_read_125 kX5_cellAt lX7_313 rfl rfl shp_70 rfl rfl (Nat.le_of_ble_eq_true rfl) (Nat.le_of_ble_eq_true rfl) (Nat.le_of_ble_eq_true rfl) (uX5_cellAt v1 ((v3 + (3 * v7)) + 2) m) ?_
        refine s_istore (ls' := [some (.ref 0), some (.int v1), some (.int v2), some (.int v3), some (.int v4), some (.int (F5_faultAt v1 v2 (v3 + (3 * v7)) 3 m)), some (.int v6), some (.int v7), some (.int (v3 + (3 * v7))), some (.int (F5_cellAt v1 (v3 + (3 * v7)) m)), some (.int (F5_cellAt v1 ((v3 + (3 * v7)) + 1) m)), some (.int (F5_cellAt v1 ((v3 + (3 * v7)) + 2) m))]) eX7_read_128 rfl rfl ?_
        refine s_aload_n eX7_read_130 rfl rfl ?_
        refine s_getr (q := 10) eX7_read_131 fX7_16 shp_0 rfl ?_
        refine s_iload eX7_read_134 rfl ?_
        refine s_iload eX7_read_136 rfl ?_
        refine s_iload eX7_read_138 rfl ?_
        refine s_iconst (v := 0) eX7_read_140 rfl ?_
        refine s_iconst (v := 0) eX7_read_141 rfl ?_
        refine n_callVi (As := [.int (F5_cellAt v1 (v3 + (3 * v7)) m), .int (F5_cellAt v1 ((v3 + (3 * v7)) + 1) m), .int (F5_cellAt v1 ((v3 + (3 * v7)) + 2) m), .int 0, .int 0]) eX7_read_142 kX1_tryCrossing lX7_193 rfl rfl shp_10 rfl rfl (Nat.le_of_ble_eq_true rfl) (Nat.le_of_ble_eq_true rfl) (Nat.le_of_ble_eq_true rfl) (uX1_tryCrossing 10 (F5_cellAt v1 (v3 + (3 * v7)) m) (F5_cellAt v1 ((v3 + (3 * v7)) + 1) m) (F5_cellAt v1 ((v3 + (3 * v7)) + 2) m) 0 0 m isG_10) ?_
        refine s_if_ge eX7_read_145 (fun h3 => ?_) (fun h3 => ?_)
        · skip
          rw [if_pos h3] at E
          have hD := hD h3
          refine s_iinc (v := v6 + 1) (ls' := [some (.ref 0), some (.int v1), some (.int v2), some (.int v3), some (.int v4), some (.int (F5_faultAt v1 v2 (v3 + (3 * v7)) 3 m)), some (.int (v6 + 1)), some (.int v7), some (.int (v3 + (3 * v7))), some (.int (F5_cellAt v1 (v3 + (3 * v7)) m)), some (.int (F5_cellAt v1 ((v3 + (3 * v7)) + 1) m)), some (.int (F5_cellAt v1 ((v3 + (3 * v7)) + 2) m))]) eX7_read_154 rfl rfl rfl rfl ?_
          refine s_iinc (v := v7 + 1) (ls' := [some (.ref 0), some (.int v1), some (.int v2), some (.int v3), some (.int v4), some (.int (F5_faultAt v1 v2 (v3 + (3 * v7)) 3 m)), some (.int (v6 + 1)), some (.int (v7 + 1)), some (.int (v3 + (3 * v7))), some (.int (F5_cellAt v1 (v3 + (3 * v7)) m)), some (.int (F5_cellAt v1 ((v3 + (3 * v7)) + 1) m)), some (.int (F5_cellAt v1 ((v3 + (3 * v7)) + 2) m))]) eX7_read_157 rfl rfl rfl rfl ?_
          refine s_goto eX7_read_160 ?_
          refine ax_forget (ls' := [some (.ref 0), some (.int v1), some (.int v2), some (.int v3), some (.int v4), some (.int (F5_faultAt v1 v2 (v3 + (3 * v7)) 3 m)), some (.int (v6 + 1)), some (.int (v7 + 1)), none, none, none, none]) rfl ?_
          rw [E] at hr hx
          exact ih v1 v2 v3 v4 (F5_faultAt v1 v2 (v3 + (3 * v7)) 3 m) (v6 + 1) (v7 + 1) ((F1_tryCrossing 10 (F5_cellAt v1 (v3 + (3 * v7)) m) (F5_cellAt v1 ((v3 + (3 * v7)) + 1) m) (F5_cellAt v1 ((v3 + (3 * v7)) + 2) m) 0 0 m).2) hD hr hx
        · skip
          rw [if_neg h3] at E
          refine s_bipush (v := (-20)) eX7_read_148 rfl ?_
          refine s_iload eX7_read_150 rfl ?_
          refine s_isub eX7_read_152 ?_
          rw [E] at hr
          exact s_iret eX7_read_153 rfl ⟨rfl, hr _ rfl⟩
      · skip
        rw [if_neg h2] at E
        refine s_goto eX7_read_87 ?_
        refine ax_forget (ls' := [some (.ref 0), some (.int v1), some (.int v2), some (.int v3), some (.int v4), some (.int (F5_faultAt v1 v2 (v3 + (3 * v7)) 3 m)), some (.int v6), some (.int v7), none, none, none, none]) rfl ?_
        rw [E] at hx
        exact hx rfl
theorem cK7_read_163 (v1 v2 v3 v4 v5 v6 v7 : Int32) (m : ax_M) {P : Option Value → ax_M → Prop} (hP : P (some (.int (K7_read_163 v1 v2 v3 v4 v5 v6 v7 m).1)) (K7_read_163 v1 v2 v3 v4 v5 v6 v7 m).2) : ax_N 6 Y7_read 163 [some (.ref 0), some (.int v1), some (.int v2), some (.int v3), some (.int v4), some (.int v5), some (.int v6), some (.int v7), none, none, none, none] [] m P := by
  have E : K7_read_163 v1 v2 v3 v4 v5 v6 v7 m = (v6, (ax_up (F1_copyFrom 1 10 m) 0 10 v5)) := rfl
  refine s_aload_n eX7_read_163 rfl rfl ?_
  refine s_getr (q := 1) eX7_read_164 fX7_10 shp_0 rfl ?_
  refine s_aload_n eX7_read_167 rfl rfl ?_
  refine s_getr (q := 10) eX7_read_168 fX7_16 shp_0 rfl ?_
  refine n_callVv (As := [.ref 10]) eX7_read_171 kX1_copyFrom lX7_96 rfl rfl shp_1 rfl rfl (Nat.le_of_ble_eq_true rfl) (Nat.le_of_ble_eq_true rfl) (Nat.le_of_ble_eq_true rfl) (uX1_copyFrom 1 10 m isG_1 isG_10) ?_
  refine s_aload_n eX7_read_174 rfl rfl ?_
  refine s_iload eX7_read_175 rfl ?_
  refine s_puti eX7_read_177 fX7_316 pX7_10 rfl rfl shp_0 rfl ?_
  refine s_iload eX7_read_180 rfl ?_
  rw [E] at hP
  exact s_iret eX7_read_182 rfl ⟨rfl, hP⟩
theorem uX7_read (a1 : Int32) (a2 : Int32) (a3 : Int32) (a4 : Int32) (m : ax_M) (hD : D7_read a1 a2 a3 a4 m) : ax_NM 6 Y7_read [.ref 0, .int a1, .int a2, .int a3, .int a4] m (fun r m1 => r = some (.int (F7_read a1 a2 a3 a4 m).1) ∧ m1 = (F7_read a1 a2 a3 a4 m).2) := by
  have E : F7_read a1 a2 a3 a4 m = (if (F7_within a1 0 3 m) = 0 then ((-1), m) else (if (F7_within a2 0 2 m) = 0 then ((-1), m) else (if (F7_within a4 0 13 m) = 0 then ((-1), m) else (if (L7_read_53 64 a1 a2 a3 a4 0 0 0 (F1_copyFrom 10 1 m)).1 = none then (K7_read_163 a1 a2 a3 a4 ((L7_read_53 64 a1 a2 a3 a4 0 0 0 (F1_copyFrom 10 1 m)).2.1) ((L7_read_53 64 a1 a2 a3 a4 0 0 0 (F1_copyFrom 10 1 m)).2.2.1) ((L7_read_53 64 a1 a2 a3 a4 0 0 0 (F1_copyFrom 10 1 m)).2.2.2.1) (L7_read_53 64 a1 a2 a3 a4 0 0 0 (F1_copyFrom 10 1 m)).2.2.2.2) else (((L7_read_53 64 a1 a2 a3 a4 0 0 0 (F1_copyFrom 10 1 m)).1).getD 0, (L7_read_53 64 a1 a2 a3 a4 0 0 0 (F1_copyFrom 10 1 m)).2.2.2.2))))) := rfl
  unfold D7_read at hD
  show ax_N 6 Y7_read 0 [some (.ref 0), some (.int a1), some (.int a2), some (.int a3), some (.int a4), none, none, none, none, none, none, none] [] m _
  refine s_iload_n eX7_read_0 rfl rfl ?_
  refine s_iconst (v := 0) eX7_read_1 rfl ?_
  refine s_iconst (v := 3) eX7_read_2 rfl ?_
  refine n_callSi (As := [.int a1, .int 0, .int 3]) eX7_read_3 kX7_within lX7_76 rfl rfl (Nat.le_of_ble_eq_true rfl) (Nat.le_of_ble_eq_true rfl) (Nat.le_of_ble_eq_true rfl) (uX7_within a1 0 3 m) ?_
  refine s_if_eq eX7_read_6 (fun h1 => ?_) (fun h1 => ?_)
  · skip
    rw [if_pos h1] at E
    refine s_iconst (v := (-1)) eX7_read_18 rfl ?_
    exact s_iret eX7_read_19 rfl ⟨rfl, by rw [E], by rw [E]⟩
  · skip
    rw [if_neg h1] at E
    have hD := hD h1
    refine s_iload_n eX7_read_9 rfl rfl ?_
    refine s_iconst (v := 0) eX7_read_10 rfl ?_
    refine s_iconst (v := 2) eX7_read_11 rfl ?_
    refine n_callSi (As := [.int a2, .int 0, .int 2]) eX7_read_12 kX7_within lX7_76 rfl rfl (Nat.le_of_ble_eq_true rfl) (Nat.le_of_ble_eq_true rfl) (Nat.le_of_ble_eq_true rfl) (uX7_within a2 0 2 m) ?_
    refine s_if_ne eX7_read_15 (fun h2 => ?_) (fun h2 => ?_)
    · skip
      rw [if_neg h2] at E
      have hD := hD h2
      refine s_iload eX7_read_20 rfl ?_
      refine s_iconst (v := 0) eX7_read_22 rfl ?_
      refine s_bipush (v := 13) eX7_read_23 rfl ?_
      refine n_callSi (As := [.int a4, .int 0, .int 13]) eX7_read_25 kX7_within lX7_76 rfl rfl (Nat.le_of_ble_eq_true rfl) (Nat.le_of_ble_eq_true rfl) (Nat.le_of_ble_eq_true rfl) (uX7_within a4 0 13 m) ?_
      refine s_if_ne eX7_read_28 (fun h3 => ?_) (fun h3 => ?_)
      · skip
        rw [if_neg h3] at E
        have hD := hD h3
        refine s_aload_n eX7_read_33 rfl rfl ?_
        refine s_getr (q := 10) eX7_read_34 fX7_16 shp_0 rfl ?_
        refine s_aload_n eX7_read_37 rfl rfl ?_
        refine s_getr (q := 1) eX7_read_38 fX7_10 shp_0 rfl ?_
        refine n_callVv (As := [.ref 1]) eX7_read_41 kX1_copyFrom lX7_96 rfl rfl shp_10 rfl rfl (Nat.le_of_ble_eq_true rfl) (Nat.le_of_ble_eq_true rfl) (Nat.le_of_ble_eq_true rfl) (uX1_copyFrom 10 1 m isG_10 isG_1) ?_
        refine s_iconst (v := 0) eX7_read_44 rfl ?_
        refine s_istore (ls' := [some (.ref 0), some (.int a1), some (.int a2), some (.int a3), some (.int a4), some (.int 0), none, none, none, none, none, none]) eX7_read_45 rfl rfl ?_
        refine s_iconst (v := 0) eX7_read_47 rfl ?_
        refine s_istore (ls' := [some (.ref 0), some (.int a1), some (.int a2), some (.int a3), some (.int a4), some (.int 0), some (.int 0), none, none, none, none, none]) eX7_read_48 rfl rfl ?_
        refine s_iconst (v := 0) eX7_read_50 rfl ?_
        refine s_istore (ls' := [some (.ref 0), some (.int a1), some (.int a2), some (.int a3), some (.int a4), some (.int 0), some (.int 0), some (.int 0), none, none, none, none]) eX7_read_51 rfl rfl ?_
        have q4 := hD
        refine clX7_read_53 64 a1 a2 a3 a4 0 0 0 ((F1_copyFrom 10 1 m)) q4 (fun x5 h6 => ?_) (fun h6 => ?_)
        · skip
          rw [if_neg (by rw [h6]; exact fun hh => by cases hh), h6] at E
          exact ⟨by rw [E]; rfl, by rw [E]⟩
        · skip
          rw [if_pos h6] at E
          refine cK7_read_163 a1 a2 a3 a4 ((L7_read_53 64 a1 a2 a3 a4 0 0 0 (F1_copyFrom 10 1 m)).2.1) ((L7_read_53 64 a1 a2 a3 a4 0 0 0 (F1_copyFrom 10 1 m)).2.2.1) ((L7_read_53 64 a1 a2 a3 a4 0 0 0 (F1_copyFrom 10 1 m)).2.2.2.1) ((L7_read_53 64 a1 a2 a3 a4 0 0 0 (F1_copyFrom 10 1 m)).2.2.2.2) ?_
          exact ⟨by rw [E], by rw [E]⟩
      · skip
        rw [if_pos h3] at E
        refine s_iconst (v := (-1)) eX7_read_31 rfl ?_
        exact s_iret eX7_read_32 rfl ⟨rfl, by rw [E], by rw [E]⟩
    · skip
      rw [if_pos h2] at E
      refine s_iconst (v := (-1)) eX7_read_18 rfl ?_
      exact s_iret eX7_read_19 rfl ⟨rfl, by rw [E], by rw [E]⟩
theorem uX7_torn (m : ax_M) : ax_NM 0 Y7_torn [.ref 0] m (fun r m1 => r = some (.int (F7_torn m)) ∧ m1 = m) := by
  have E : F7_torn m = (m 0 10) := rfl
  show ax_N 0 Y7_torn 0 [some (.ref 0)] [] m _
  refine s_aload_n eX7_torn_0 rfl rfl ?_
  refine s_geti eX7_torn_1 fX7_316 shp_0 rfl ?_
  exact s_iret eX7_torn_4 rfl ⟨rfl, by rw [E], rfl⟩
theorem uX7_count (a1 : Int32) (m : ax_M) (hD : D7_count a1 m) : ax_NM 3 Y7_count [.ref 0, .int a1] m (fun r m1 => r = some (.int (F7_count a1 m)) ∧ m1 = m) := by
  have E : F7_count a1 m = (if a1 = 0 then (F1_atGoals 1 m) else (if a1 = 1 then (m 39 1) else (if a1 = 2 then ((if (F7_isKept 0 m) = 0 then (0 : Int32) else 1) + (if (F7_isKept 1 m) = 0 then (0 : Int32) else 1)) else (if a1 = 3 then (m 42 1) else (if a1 = 4 then (if 0 ≤ (F5_laneOf 0 m) then (F5_sizeOf 0 m) else ((-4))) else (if a1 = 5 then (F1_allStones 1 m) else ((-1)))))))) := rfl
  unfold D7_count at hD
  show ax_N 3 Y7_count 0 [some (.ref 0), some (.int a1)] [] m _
  refine s_iload_n eX7_count_0 rfl rfl ?_
  by_cases h1 : a1 = 0
  · skip
    refine s_tabIn (off := 39) (tgt := 40) ⟨eX7_count_1.1, eX7_count_1.2, by decide⟩ (by rw [h1]; decide) (by rw [h1]; decide) (by rw [h1]; rfl) ?_
    rw [if_pos h1] at E
    have hD := hD.1 h1
    refine s_aload_n eX7_count_40 rfl rfl ?_
    refine s_getr (q := 1) eX7_count_41 fX7_10 shp_0 rfl ?_
    have q2 := hD
    refine n_callVi (As := []) eX7_count_44 kX1_atGoals lX7_293 rfl rfl shp_1 rfl rfl (Nat.le_of_ble_eq_true rfl) (Nat.le_of_ble_eq_true rfl) (Nat.le_of_ble_eq_true rfl) (uX1_atGoals 1 m isG_1 q2) ?_
    exact s_iret eX7_count_47 rfl ⟨rfl, by rw [E], rfl⟩
  rw [if_neg h1] at E
  have hD := hD.2 h1
  by_cases h3 : a1 = 1
  · skip
    refine s_tabIn (off := 47) (tgt := 48) ⟨eX7_count_1.1, eX7_count_1.2, by decide⟩ (by rw [h3]; decide) (by rw [h3]; decide) (by rw [h3]; rfl) ?_
    rw [if_pos h3] at E
    refine s_aload_n eX7_count_48 rfl rfl ?_
    refine s_getr (q := 39) eX7_count_49 fX7_30 shp_0 rfl ?_
    refine s_geti eX7_count_52 fX7_258 shp_39 rfl ?_
    exact s_iret eX7_count_55 rfl ⟨rfl, by rw [E], rfl⟩
  rw [if_neg h3] at E
  have hD := hD h3
  by_cases h4 : a1 = 2
  · skip
    refine s_tabIn (off := 55) (tgt := 56) ⟨eX7_count_1.1, eX7_count_1.2, by decide⟩ (by rw [h4]; decide) (by rw [h4]; decide) (by rw [h4]; rfl) ?_
    rw [if_pos h4] at E
    have hD := hD.1 h4
    refine s_aload_n eX7_count_56 rfl rfl ?_
    refine s_iconst (v := 0) eX7_count_57 rfl ?_
    obtain ⟨q5, hD⟩ := hD
    refine n_callVi (As := [.int 0]) eX7_count_58 kX7_isKept lX7_297 rfl rfl shp_0 rfl rfl (Nat.le_of_ble_eq_true rfl) (Nat.le_of_ble_eq_true rfl) (Nat.le_of_ble_eq_true rfl) (uX7_isKept 0 m q5) ?_
    have J6 : ax_N 3 Y7_count 69 [some (.ref 0), some (.int a1)] [.int (if (F7_isKept 0 m) = 0 then (0 : Int32) else 1)] m (fun r m1 => r = some (.int (F7_count a1 m)) ∧ m1 = m) := by
      refine s_aload_n eX7_count_69 rfl rfl ?_
      refine s_iconst (v := 1) eX7_count_70 rfl ?_
      have q7 := hD
      refine n_callVi (As := [.int 1]) eX7_count_71 kX7_isKept lX7_297 rfl rfl shp_0 rfl rfl (Nat.le_of_ble_eq_true rfl) (Nat.le_of_ble_eq_true rfl) (Nat.le_of_ble_eq_true rfl) (uX7_isKept 1 m q7) ?_
      have J8 : ax_N 3 Y7_count 82 [some (.ref 0), some (.int a1)] [.int (if (F7_isKept 1 m) = 0 then (0 : Int32) else 1), .int (if (F7_isKept 0 m) = 0 then (0 : Int32) else 1)] m (fun r m1 => r = some (.int (F7_count a1 m)) ∧ m1 = m) := by
        refine s_iadd eX7_count_82 ?_
        exact s_iret eX7_count_83 rfl ⟨rfl, by rw [E], rfl⟩
      refine s_if_eq eX7_count_74 (fun h9 => ?_) (fun h9 => ?_)
      · skip
        refine s_iconst (v := 0) eX7_count_81 rfl ?_
        exact ax_eqN rfl (by rw [show (if (F7_isKept 1 m) = 0 then (0 : Int32) else 1 : Int32) = 0 by rw [if_pos h9]]) rfl J8
      · skip
        refine s_iconst (v := 1) eX7_count_77 rfl ?_
        refine s_goto eX7_count_78 ?_
        exact ax_eqN rfl (by rw [show (if (F7_isKept 1 m) = 0 then (0 : Int32) else 1 : Int32) = 1 by rw [if_neg h9]]) rfl J8
    refine s_if_eq eX7_count_61 (fun h10 => ?_) (fun h10 => ?_)
    · skip
      refine s_iconst (v := 0) eX7_count_68 rfl ?_
      exact ax_eqN rfl (by rw [show (if (F7_isKept 0 m) = 0 then (0 : Int32) else 1 : Int32) = 0 by rw [if_pos h10]]) rfl J6
    · skip
      refine s_iconst (v := 1) eX7_count_64 rfl ?_
      refine s_goto eX7_count_65 ?_
      exact ax_eqN rfl (by rw [show (if (F7_isKept 0 m) = 0 then (0 : Int32) else 1 : Int32) = 1 by rw [if_neg h10]]) rfl J6
  rw [if_neg h4] at E
  have hD := hD.2 h4
  by_cases h11 : a1 = 3
  · skip
    refine s_tabIn (off := 83) (tgt := 84) ⟨eX7_count_1.1, eX7_count_1.2, by decide⟩ (by rw [h11]; decide) (by rw [h11]; decide) (by rw [h11]; rfl) ?_
    rw [if_pos h11] at E
    refine s_aload_n eX7_count_84 rfl rfl ?_
    refine s_getr (q := 41) eX7_count_85 fX7_37 shp_0 rfl ?_
    refine s_getr (q := 42) eX7_count_88 fX7_62 shp_41 rfl ?_
    refine s_geti eX7_count_91 fX7_66 shp_42 rfl ?_
    exact s_iret eX7_count_94 rfl ⟨rfl, by rw [E], rfl⟩
  rw [if_neg h11] at E
  have hD := hD h11
  by_cases h12 : a1 = 4
  · skip
    refine s_tabIn (off := 94) (tgt := 95) ⟨eX7_count_1.1, eX7_count_1.2, by decide⟩ (by rw [h12]; decide) (by rw [h12]; decide) (by rw [h12]; rfl) ?_
    rw [if_pos h12] at E
    refine s_aload_n eX7_count_95 rfl rfl ?_
    refine s_getr (q := 70) eX7_count_96 fX7_58 shp_0 rfl ?_
    refine s_iconst (v := 0) eX7_count_99 rfl ?_
    refine n_callVi (As := [.int 0]) eX7_count_100 kX5_laneOf lX7_303 rfl rfl shp_70 rfl rfl (Nat.le_of_ble_eq_true rfl) (Nat.le_of_ble_eq_true rfl) (Nat.le_of_ble_eq_true rfl) (uX5_laneOf 0 m) ?_
    refine s_if_ge eX7_count_103 (fun h13 => ?_) (fun h13 => ?_)
    · skip
      rw [if_pos h13] at E
      refine s_aload_n eX7_count_111 rfl rfl ?_
      refine s_getr (q := 70) eX7_count_112 fX7_58 shp_0 rfl ?_
      refine s_iconst (v := 0) eX7_count_115 rfl ?_
      refine n_callVi (As := [.int 0]) eX7_count_116 kX5_sizeOf lX7_319 rfl rfl shp_70 rfl rfl (Nat.le_of_ble_eq_true rfl) (Nat.le_of_ble_eq_true rfl) (Nat.le_of_ble_eq_true rfl) (uX5_sizeOf 0 m) ?_
      exact s_iret eX7_count_119 rfl ⟨rfl, by rw [E], rfl⟩
    · skip
      rw [if_neg h13] at E
      refine s_bipush (v := (-4)) eX7_count_106 rfl ?_
      refine s_goto eX7_count_108 ?_
      exact s_iret eX7_count_119 rfl ⟨rfl, by rw [E], rfl⟩
  rw [if_neg h12] at E
  have hD := hD h12
  by_cases h14 : a1 = 5
  · skip
    refine s_tabIn (off := 119) (tgt := 120) ⟨eX7_count_1.1, eX7_count_1.2, by decide⟩ (by rw [h14]; decide) (by rw [h14]; decide) (by rw [h14]; rfl) ?_
    rw [if_pos h14] at E
    have hD := hD h14
    refine s_aload_n eX7_count_120 rfl rfl ?_
    refine s_getr (q := 1) eX7_count_121 fX7_10 shp_0 rfl ?_
    have q15 := hD
    refine n_callVi (As := []) eX7_count_124 kX1_allStones lX7_322 rfl rfl shp_1 rfl rfl (Nat.le_of_ble_eq_true rfl) (Nat.le_of_ble_eq_true rfl) (Nat.le_of_ble_eq_true rfl) (uX1_allStones 1 m isG_1 q15) ?_
    exact s_iret eX7_count_127 rfl ⟨rfl, by rw [E], rfl⟩
  rw [if_neg h14] at E
  refine s_tabOut (tgt := 128) ⟨eX7_count_1.1, eX7_count_1.2, by decide⟩ (ax_swout 5 (by decide) (fun k hk => by
    rcases (show k = 0 ∨ k = 1 ∨ k = 2 ∨ k = 3 ∨ k = 4 ∨ k = 5 by omega) with rfl | rfl | rfl | rfl | rfl | rfl
    · exact h1
    · exact h3
    · exact h4
    · exact h11
    · exact h12
    · exact h14)) ?_
  refine s_iconst (v := (-1)) eX7_count_128 rfl ?_
  exact s_iret eX7_count_129 rfl ⟨rfl, by rw [E], rfl⟩
