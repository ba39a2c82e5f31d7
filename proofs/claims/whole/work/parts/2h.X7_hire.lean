/-! X7_hire X7_plan X7_reach X7_ways X7_tell X7_forget X7_judge X7_late X7_isKept -/
theorem clX7_hire_56 {P : Option Value → ax_M → Prop} : ∀ (n : Nat) (v1 v2 v3 v4 v5 v6 v7 : Int32) (m : ax_M), E7_hire_56 n v1 v2 v3 v4 v5 v6 v7 m → (ax_N 12 Y7_hire 138 [some (.ref 0), some (.int v1), some (.int v2), some (.int v3), some (.int ((L7_hire_56 n v1 v2 v3 v4 v5 v6 v7 m).1)), some (.int ((L7_hire_56 n v1 v2 v3 v4 v5 v6 v7 m).2.1)), some (.int ((L7_hire_56 n v1 v2 v3 v4 v5 v6 v7 m).2.2.1)), some (.int ((L7_hire_56 n v1 v2 v3 v4 v5 v6 v7 m).2.2.2.1)), none] [] ((L7_hire_56 n v1 v2 v3 v4 v5 v6 v7 m).2.2.2.2) P) → ax_N 12 Y7_hire 56 [some (.ref 0), some (.int v1), some (.int v2), some (.int v3), some (.int v4), some (.int v5), some (.int v6), some (.int v7), none] [] m P := by
  intro n
  induction n with
  | zero => intro v1 v2 v3 v4 v5 v6 v7 m hD; exact absurd hD id
  | succ n ih =>
    intro v1 v2 v3 v4 v5 v6 v7 m hD hx
    have E : L7_hire_56 (n + 1) v1 v2 v3 v4 v5 v6 v7 m = (if 99 < v7 then (v4, v5, v6, v7, m) else L7_hire_56 n v1 v2 v3 (if (F1_fellowsOfNew 1 v1 v2 v7 m) = v6 then (v4 : Int32) else if ((F2_solve (F2_seatNew v2 (F1_fellowsOfNew 1 v1 v2 v7 m) m)) 55 3) ≤ v4 then (v4 : Int32) else (F2_solve (F2_seatNew v2 (F1_fellowsOfNew 1 v1 v2 v7 m) m)) 55 3) (if (F1_fellowsOfNew 1 v1 v2 v7 m) = v6 then (v5 : Int32) else if ((F2_solve (F2_seatNew v2 (F1_fellowsOfNew 1 v1 v2 v7 m) m)) 55 3) ≤ v4 then (v5 : Int32) else v7) (if (F1_fellowsOfNew 1 v1 v2 v7 m) = v6 then (v6 : Int32) else F1_fellowsOfNew 1 v1 v2 v7 m) (v7 + 1) (if (F1_fellowsOfNew 1 v1 v2 v7 m) = v6 then m else (F2_solve (F2_seatNew v2 (F1_fellowsOfNew 1 v1 v2 v7 m) m)))) := by rw [L7_hire_56]
    have hD : ((¬ (99 < v7) → ((D1_fellowsOfNew 1 v1 v2 v7 m) ∧ (¬ ((F1_fellowsOfNew 1 v1 v2 v7 m) = v6) → ((D2_seatNew v2 (F1_fellowsOfNew 1 v1 v2 v7 m) m) ∧ (D2_solve (F2_seatNew v2 (F1_fellowsOfNew 1 v1 v2 v7 m) m)))) ∧ (E7_hire_56 n v1 v2 v3 (if (F1_fellowsOfNew 1 v1 v2 v7 m) = v6 then (v4 : Int32) else if ((F2_solve (F2_seatNew v2 (F1_fellowsOfNew 1 v1 v2 v7 m) m)) 55 3) ≤ v4 then (v4 : Int32) else (F2_solve (F2_seatNew v2 (F1_fellowsOfNew 1 v1 v2 v7 m) m)) 55 3) (if (F1_fellowsOfNew 1 v1 v2 v7 m) = v6 then (v5 : Int32) else if ((F2_solve (F2_seatNew v2 (F1_fellowsOfNew 1 v1 v2 v7 m) m)) 55 3) ≤ v4 then (v5 : Int32) else v7) (if (F1_fellowsOfNew 1 v1 v2 v7 m) = v6 then (v6 : Int32) else F1_fellowsOfNew 1 v1 v2 v7 m) (v7 + 1) (if (F1_fellowsOfNew 1 v1 v2 v7 m) = v6 then m else (F2_solve (F2_seatNew v2 (F1_fellowsOfNew 1 v1 v2 v7 m) m))))))) := hD
    refine s_iload eX7_hire_56 rfl ?_
    refine s_bipush (v := 99) eX7_hire_58 rfl ?_
    refine s_icmp_gt eX7_hire_60 (fun h1 => ?_) (fun h1 => ?_)
    · skip
      rw [if_pos h1] at E
      rw [E] at hx
      exact hx
    · skip
      rw [if_neg h1] at E
      have hD := hD h1
      refine s_aload_n eX7_hire_63 rfl rfl ?_
      refine s_getr (q := 1) eX7_hire_64 fX7_10 shp_0 rfl ?_
      refine s_iload_n eX7_hire_67 rfl rfl ?_
      refine s_iload_n eX7_hire_68 rfl rfl ?_
      refine s_iload eX7_hire_69 rfl ?_
      obtain ⟨q2, hD⟩ := hD
      refine n_callVi (As := [.int v1, .int v2, .int v7]) eX7_hire_71 kX1_fellowsOfNew lX7_229 rfl rfl shp_1 rfl rfl (Nat.le_of_ble_eq_true rfl) (Nat.le_of_ble_eq_true rfl) (Nat.le_of_ble_eq_true rfl) (uX1_fellowsOfNew 1 v1 v2 v7 m isG_1 q2) ?_
      refine s_istore (ls' := [some (.ref 0), some (.int v1), some (.int v2), some (.int v3), some (.int v4), some (.int v5), some (.int v6), some (.int v7), some (.int (F1_fellowsOfNew 1 v1 v2 v7 m))]) eX7_hire_74 rfl rfl ?_
      refine s_iload eX7_hire_76 rfl ?_
      refine s_iload eX7_hire_78 rfl ?_
      obtain ⟨s3, hD⟩ := hD
      have J4 : ax_N 12 Y7_hire 132 [some (.ref 0), some (.int v1), some (.int v2), some (.int v3), some (.int (if (F1_fellowsOfNew 1 v1 v2 v7 m) = v6 then (v4 : Int32) else if ((F2_solve (F2_seatNew v2 (F1_fellowsOfNew 1 v1 v2 v7 m) m)) 55 3) ≤ v4 then (v4 : Int32) else (F2_solve (F2_seatNew v2 (F1_fellowsOfNew 1 v1 v2 v7 m) m)) 55 3)), some (.int (if (F1_fellowsOfNew 1 v1 v2 v7 m) = v6 then (v5 : Int32) else if ((F2_solve (F2_seatNew v2 (F1_fellowsOfNew 1 v1 v2 v7 m) m)) 55 3) ≤ v4 then (v5 : Int32) else v7)), some (.int (if (F1_fellowsOfNew 1 v1 v2 v7 m) = v6 then (v6 : Int32) else F1_fellowsOfNew 1 v1 v2 v7 m)), some (.int v7), some (.int (F1_fellowsOfNew 1 v1 v2 v7 m))] [] ((if (F1_fellowsOfNew 1 v1 v2 v7 m) = v6 then m else (F2_solve (F2_seatNew v2 (F1_fellowsOfNew 1 v1 v2 v7 m) m)))) P := by
        refine s_iinc (v := v7 + 1) (ls' := [some (.ref 0), some (.int v1), some (.int v2), some (.int v3), some (.int (if (F1_fellowsOfNew 1 v1 v2 v7 m) = v6 then (v4 : Int32) else if ((F2_solve (F2_seatNew v2 (F1_fellowsOfNew 1 v1 v2 v7 m) m)) 55 3) ≤ v4 then (v4 : Int32) else (F2_solve (F2_seatNew v2 (F1_fellowsOfNew 1 v1 v2 v7 m) m)) 55 3)), some (.int (if (F1_fellowsOfNew 1 v1 v2 v7 m) = v6 then (v5 : Int32) else if ((F2_solve (F2_seatNew v2 (F1_fellowsOfNew 1 v1 v2 v7 m) m)) 55 3) ≤ v4 then (v5 : Int32) else v7)), some (.int (if (F1_fellowsOfNew 1 v1 v2 v7 m) = v6 then (v6 : Int32) else F1_fellowsOfNew 1 v1 v2 v7 m)), some (.int (v7 + 1)), some (.int (F1_fellowsOfNew 1 v1 v2 v7 m))]) eX7_hire_132 rfl rfl rfl rfl ?_
        refine s_goto eX7_hire_135 ?_
        refine ax_forget (ls' := [some (.ref 0), some (.int v1), some (.int v2), some (.int v3), some (.int (if (F1_fellowsOfNew 1 v1 v2 v7 m) = v6 then (v4 : Int32) else if ((F2_solve (F2_seatNew v2 (F1_fellowsOfNew 1 v1 v2 v7 m) m)) 55 3) ≤ v4 then (v4 : Int32) else (F2_solve (F2_seatNew v2 (F1_fellowsOfNew 1 v1 v2 v7 m) m)) 55 3)), some (.int (if (F1_fellowsOfNew 1 v1 v2 v7 m) = v6 then (v5 : Int32) else if ((F2_solve (F2_seatNew v2 (F1_fellowsOfNew 1 v1 v2 v7 m) m)) 55 3) ≤ v4 then (v5 : Int32) else v7)), some (.int (if (F1_fellowsOfNew 1 v1 v2 v7 m) = v6 then (v6 : Int32) else F1_fellowsOfNew 1 v1 v2 v7 m)), some (.int (v7 + 1)), none]) rfl ?_
        rw [E] at hx
        exact ih v1 v2 v3 (if (F1_fellowsOfNew 1 v1 v2 v7 m) = v6 then (v4 : Int32) else if ((F2_solve (F2_seatNew v2 (F1_fellowsOfNew 1 v1 v2 v7 m) m)) 55 3) ≤ v4 then (v4 : Int32) else (F2_solve (F2_seatNew v2 (F1_fellowsOfNew 1 v1 v2 v7 m) m)) 55 3) (if (F1_fellowsOfNew 1 v1 v2 v7 m) = v6 then (v5 : Int32) else if ((F2_solve (F2_seatNew v2 (F1_fellowsOfNew 1 v1 v2 v7 m) m)) 55 3) ≤ v4 then (v5 : Int32) else v7) (if (F1_fellowsOfNew 1 v1 v2 v7 m) = v6 then (v6 : Int32) else F1_fellowsOfNew 1 v1 v2 v7 m) (v7 + 1) ((if (F1_fellowsOfNew 1 v1 v2 v7 m) = v6 then m else (F2_solve (F2_seatNew v2 (F1_fellowsOfNew 1 v1 v2 v7 m) m)))) hD hx
      have hD := s3
      refine s_icmp_ne eX7_hire_80 (fun h5 => ?_) (fun h5 => ?_)
      · skip
        have hD := hD h5
        refine s_iload eX7_hire_86 rfl ?_
        refine s_istore (ls' := [some (.ref 0), some (.int v1), some (.int v2), some (.int v3), some (.int v4), some (.int v5), some (.int (F1_fellowsOfNew 1 v1 v2 v7 m)), some (.int v7), some (.int (F1_fellowsOfNew 1 v1 v2 v7 m))]) eX7_hire_88 rfl rfl ?_
        refine s_aload_n eX7_hire_90 rfl rfl ?_
        refine s_getr (q := 55) eX7_hire_91 fX7_44 shp_0 rfl ?_
        refine s_iload_n eX7_hire_94 rfl rfl ?_
        refine s_iload eX7_hire_95 rfl ?_
        obtain ⟨q6, hD⟩ := hD
        refine n_callVv (As := [.int v2, .int (F1_fellowsOfNew 1 v1 v2 v7 m)]) eX7_hire_97 kX2_seatNew lX7_232 rfl rfl shp_55 rfl rfl (Nat.le_of_ble_eq_true rfl) (Nat.le_of_ble_eq_true rfl) (Nat.le_of_ble_eq_true rfl) (uX2_seatNew v2 (F1_fellowsOfNew 1 v1 v2 v7 m) m q6) ?_
        refine s_aload_n eX7_hire_100 rfl rfl ?_
        refine s_getr (q := 55) eX7_hire_101 fX7_44 shp_0 rfl ?_
        have q7 := hD
        refine n_callVv (As := []) eX7_hire_104 kX2_solve lX7_214 rfl rfl shp_55 rfl rfl (Nat.le_of_ble_eq_true rfl) (Nat.le_of_ble_eq_true rfl) (Nat.le_of_ble_eq_true rfl) (uX2_solve ((F2_seatNew v2 (F1_fellowsOfNew 1 v1 v2 v7 m) m)) q7) ?_
        refine s_aload_n eX7_hire_107 rfl rfl ?_
        refine s_getr (q := 55) eX7_hire_108 fX7_44 shp_0 rfl ?_
        refine s_geti eX7_hire_111 fX7_217 shp_55 rfl ?_
        refine s_iload eX7_hire_114 rfl ?_
        refine s_icmp_le eX7_hire_116 (fun h8 => ?_) (fun h8 => ?_)
        · skip
          exact ax_eqN (by rw [show (if (F1_fellowsOfNew 1 v1 v2 v7 m) = v6 then (v4 : Int32) else if ((F2_solve (F2_seatNew v2 (F1_fellowsOfNew 1 v1 v2 v7 m) m)) 55 3) ≤ v4 then (v4 : Int32) else (F2_solve (F2_seatNew v2 (F1_fellowsOfNew 1 v1 v2 v7 m) m)) 55 3 : Int32) = v4 by rw [if_neg h5, if_pos h8], show (if (F1_fellowsOfNew 1 v1 v2 v7 m) = v6 then (v5 : Int32) else if ((F2_solve (F2_seatNew v2 (F1_fellowsOfNew 1 v1 v2 v7 m) m)) 55 3) ≤ v4 then (v5 : Int32) else v7 : Int32) = v5 by rw [if_neg h5, if_pos h8], show (if (F1_fellowsOfNew 1 v1 v2 v7 m) = v6 then (v6 : Int32) else F1_fellowsOfNew 1 v1 v2 v7 m : Int32) = F1_fellowsOfNew 1 v1 v2 v7 m by rw [if_neg h5]]) rfl (by rw [show ((if (F1_fellowsOfNew 1 v1 v2 v7 m) = v6 then m else (F2_solve (F2_seatNew v2 (F1_fellowsOfNew 1 v1 v2 v7 m) m))) : ax_M) = (F2_solve (F2_seatNew v2 (F1_fellowsOfNew 1 v1 v2 v7 m) m)) by rw [if_neg h5]]) J4
        · skip
          refine s_aload_n eX7_hire_119 rfl rfl ?_
          refine s_getr (q := 55) eX7_hire_120 fX7_44 shp_0 rfl ?_
          refine s_geti eX7_hire_123 fX7_217 shp_55 rfl ?_
          refine s_istore (ls' := [some (.ref 0), some (.int v1), some (.int v2), some (.int v3), some (.int ((F2_solve (F2_seatNew v2 (F1_fellowsOfNew 1 v1 v2 v7 m) m)) 55 3)), some (.int v5), some (.int (F1_fellowsOfNew 1 v1 v2 v7 m)), some (.int v7), some (.int (F1_fellowsOfNew 1 v1 v2 v7 m))]) eX7_hire_126 rfl rfl ?_
          refine s_iload eX7_hire_128 rfl ?_
          refine s_istore (ls' := [some (.ref 0), some (.int v1), some (.int v2), some (.int v3), some (.int ((F2_solve (F2_seatNew v2 (F1_fellowsOfNew 1 v1 v2 v7 m) m)) 55 3)), some (.int v7), some (.int (F1_fellowsOfNew 1 v1 v2 v7 m)), some (.int v7), some (.int (F1_fellowsOfNew 1 v1 v2 v7 m))]) eX7_hire_130 rfl rfl ?_
          exact ax_eqN (by rw [show (if (F1_fellowsOfNew 1 v1 v2 v7 m) = v6 then (v4 : Int32) else if ((F2_solve (F2_seatNew v2 (F1_fellowsOfNew 1 v1 v2 v7 m) m)) 55 3) ≤ v4 then (v4 : Int32) else (F2_solve (F2_seatNew v2 (F1_fellowsOfNew 1 v1 v2 v7 m) m)) 55 3 : Int32) = (F2_solve (F2_seatNew v2 (F1_fellowsOfNew 1 v1 v2 v7 m) m)) 55 3 by rw [if_neg h5, if_neg h8], show (if (F1_fellowsOfNew 1 v1 v2 v7 m) = v6 then (v5 : Int32) else if ((F2_solve (F2_seatNew v2 (F1_fellowsOfNew 1 v1 v2 v7 m) m)) 55 3) ≤ v4 then (v5 : Int32) else v7 : Int32) = v7 by rw [if_neg h5, if_neg h8], show (if (F1_fellowsOfNew 1 v1 v2 v7 m) = v6 then (v6 : Int32) else F1_fellowsOfNew 1 v1 v2 v7 m : Int32) = F1_fellowsOfNew 1 v1 v2 v7 m by rw [if_neg h5]]) rfl (by rw [show ((if (F1_fellowsOfNew 1 v1 v2 v7 m) = v6 then m else (F2_solve (F2_seatNew v2 (F1_fellowsOfNew 1 v1 v2 v7 m) m))) : ax_M) = (F2_solve (F2_seatNew v2 (F1_fellowsOfNew 1 v1 v2 v7 m) m)) by rw [if_neg h5]]) J4
      · skip
        refine s_goto eX7_hire_83 ?_
        exact ax_eqN (by rw [show (if (F1_fellowsOfNew 1 v1 v2 v7 m) = v6 then (v4 : Int32) else if ((F2_solve (F2_seatNew v2 (F1_fellowsOfNew 1 v1 v2 v7 m) m)) 55 3) ≤ v4 then (v4 : Int32) else (F2_solve (F2_seatNew v2 (F1_fellowsOfNew 1 v1 v2 v7 m) m)) 55 3 : Int32) = v4 by rw [if_pos h5], show (if (F1_fellowsOfNew 1 v1 v2 v7 m) = v6 then (v5 : Int32) else if ((F2_solve (F2_seatNew v2 (F1_fellowsOfNew 1 v1 v2 v7 m) m)) 55 3) ≤ v4 then (v5 : Int32) else v7 : Int32) = v5 by rw [if_pos h5], show (if (F1_fellowsOfNew 1 v1 v2 v7 m) = v6 then (v6 : Int32) else F1_fellowsOfNew 1 v1 v2 v7 m : Int32) = v6 by rw [if_pos h5]]) rfl (by rw [show ((if (F1_fellowsOfNew 1 v1 v2 v7 m) = v6 then m else (F2_solve (F2_seatNew v2 (F1_fellowsOfNew 1 v1 v2 v7 m) m))) : ax_M) = m by rw [if_pos h5]]) J4
theorem cK7_hire_138 (v1 v2 v3 v4 v5 v6 v7 : Int32) (m : ax_M) {P : Option Value → ax_M → Prop} (hP : P (some (.int (K7_hire_138 v1 v2 v3 v4 v5 v6 v7 m).1)) (K7_hire_138 v1 v2 v3 v4 v5 v6 v7 m).2) : ax_N 12 Y7_hire 138 [some (.ref 0), some (.int v1), some (.int v2), some (.int v3), some (.int v4), some (.int v5), some (.int v6), some (.int v7), none] [] m P := by
  have E : K7_hire_138 v1 v2 v3 v4 v5 v6 v7 m = (if v3 = 0 then (v5, m) else (v4, m)) := rfl
  refine s_iload_n eX7_hire_138 rfl rfl ?_
  refine s_if_ne eX7_hire_139 (fun h1 => ?_) (fun h1 => ?_)
  · skip
    rw [if_neg h1] at E
    refine s_iload eX7_hire_147 rfl ?_
    rw [E] at hP
    exact s_iret eX7_hire_149 rfl ⟨rfl, hP⟩
  · skip
    rw [if_pos h1] at E
    refine s_iload eX7_hire_142 rfl ?_
    refine s_goto eX7_hire_144 ?_
    rw [E] at hP
    exact s_iret eX7_hire_149 rfl ⟨rfl, hP⟩
theorem uX7_hire (a1 : Int32) (a2 : Int32) (a3 : Int32) (m : ax_M) (hD : D7_hire a1 a2 a3 m) : ax_NM 12 Y7_hire [.ref 0, .int a1, .int a2, .int a3] m (fun r m1 => r = some (.int (F7_hire a1 a2 a3 m).1) ∧ m1 = (F7_hire a1 a2 a3 m).2) := by
  have E : F7_hire a1 a2 a3 m = (if (F1_hasBridge 1 a1 m) = 0 then ((-1), m) else (if (F7_within a2 0 1 m) = 0 then ((-1), m) else (if (F7_within a3 0 1 m) = 0 then ((-1), m) else (K7_hire_138 a1 a2 a3 ((L7_hire_56 130 a1 a2 a3 ((-1)) 0 ((-1)) 1 (F2_gather 1 a1 0 m)).1) ((L7_hire_56 130 a1 a2 a3 ((-1)) 0 ((-1)) 1 (F2_gather 1 a1 0 m)).2.1) ((L7_hire_56 130 a1 a2 a3 ((-1)) 0 ((-1)) 1 (F2_gather 1 a1 0 m)).2.2.1) ((L7_hire_56 130 a1 a2 a3 ((-1)) 0 ((-1)) 1 (F2_gather 1 a1 0 m)).2.2.2.1) (L7_hire_56 130 a1 a2 a3 ((-1)) 0 ((-1)) 1 (F2_gather 1 a1 0 m)).2.2.2.2)))) := rfl
  unfold D7_hire at hD
  show ax_N 12 Y7_hire 0 [some (.ref 0), some (.int a1), some (.int a2), some (.int a3), none, none, none, none, none] [] m _
  refine s_aload_n eX7_hire_0 rfl rfl ?_
  refine s_getr (q := 1) eX7_hire_1 fX7_10 shp_0 rfl ?_
  refine s_iload_n eX7_hire_4 rfl rfl ?_
  refine n_callVi (As := [.int a1]) eX7_hire_5 kX1_hasBridge lX7_121 rfl rfl shp_1 rfl rfl (Nat.le_of_ble_eq_true rfl) (Nat.le_of_ble_eq_true rfl) (Nat.le_of_ble_eq_true rfl) (uX1_hasBridge 1 a1 m isG_1) ?_
  refine s_if_eq eX7_hire_8 (fun h1 => ?_) (fun h1 => ?_)
  · skip
    rw [if_pos h1] at E
    refine s_iconst (v := (-1)) eX7_hire_29 rfl ?_
    exact s_iret eX7_hire_30 rfl ⟨rfl, by rw [E], by rw [E]⟩
  · skip
    rw [if_neg h1] at E
    have hD := hD h1
    refine s_iload_n eX7_hire_11 rfl rfl ?_
    refine s_iconst (v := 0) eX7_hire_12 rfl ?_
    refine s_iconst (v := 1) eX7_hire_13 rfl ?_
    refine n_callSi (As := [.int a2, .int 0, .int 1]) eX7_hire_14 kX7_within lX7_76 rfl rfl (Nat.le_of_ble_eq_true rfl) (Nat.le_of_ble_eq_true rfl) (Nat.le_of_ble_eq_true rfl) (uX7_within a2 0 1 m) ?_
    refine s_if_eq eX7_hire_17 (fun h2 => ?_) (fun h2 => ?_)
    · skip
      rw [if_pos h2] at E
      refine s_iconst (v := (-1)) eX7_hire_29 rfl ?_
      exact s_iret eX7_hire_30 rfl ⟨rfl, by rw [E], by rw [E]⟩
    · skip
      rw [if_neg h2] at E
      have hD := hD h2
      refine s_iload_n eX7_hire_20 rfl rfl ?_
      refine s_iconst (v := 0) eX7_hire_21 rfl ?_
      refine s_iconst (v := 1) eX7_hire_22 rfl ?_
      refine n_callSi (As := [.int a3, .int 0, .int 1]) eX7_hire_23 kX7_within lX7_76 rfl rfl (Nat.le_of_ble_eq_true rfl) (Nat.le_of_ble_eq_true rfl) (Nat.le_of_ble_eq_true rfl) (uX7_within a3 0 1 m) ?_
      refine s_if_ne eX7_hire_26 (fun h3 => ?_) (fun h3 => ?_)
      · skip
        rw [if_neg h3] at E
        have hD := hD h3
        refine s_aload_n eX7_hire_31 rfl rfl ?_
        refine s_getr (q := 55) eX7_hire_32 fX7_44 shp_0 rfl ?_
        refine s_aload_n eX7_hire_35 rfl rfl ?_
        refine s_getr (q := 1) eX7_hire_36 fX7_10 shp_0 rfl ?_
        refine s_iload_n eX7_hire_39 rfl rfl ?_
        refine s_iconst (v := 0) eX7_hire_40 rfl ?_
        obtain ⟨q4, hD⟩ := hD
        refine n_callVv (As := [.ref 1, .int a1, .int 0]) eX7_hire_41 kX2_gather lX7_210 rfl rfl shp_55 rfl rfl (Nat.le_of_ble_eq_true rfl) (Nat.le_of_ble_eq_true rfl) (Nat.le_of_ble_eq_true rfl) (uX2_gather 1 a1 0 m isG_1 q4) ?_
        refine s_iconst (v := (-1)) eX7_hire_44 rfl ?_
        refine s_istore (ls' := [some (.ref 0), some (.int a1), some (.int a2), some (.int a3), some (.int ((-1))), none, none, none, none]) eX7_hire_45 rfl rfl ?_
        refine s_iconst (v := 0) eX7_hire_47 rfl ?_
        refine s_istore (ls' := [some (.ref 0), some (.int a1), some (.int a2), some (.int a3), some (.int ((-1))), some (.int 0), none, none, none]) eX7_hire_48 rfl rfl ?_
        refine s_iconst (v := (-1)) eX7_hire_50 rfl ?_
        refine s_istore (ls' := [some (.ref 0), some (.int a1), some (.int a2), some (.int a3), some (.int ((-1))), some (.int 0), some (.int ((-1))), none, none]) eX7_hire_51 rfl rfl ?_
        refine s_iconst (v := 1) eX7_hire_53 rfl ?_
        refine s_istore (ls' := [some (.ref 0), some (.int a1), some (.int a2), some (.int a3), some (.int ((-1))), some (.int 0), some (.int ((-1))), some (.int 1), none]) eX7_hire_54 rfl rfl ?_
        have q5 := hD
        refine clX7_hire_56 130 a1 a2 a3 ((-1)) 0 ((-1)) 1 ((F2_gather 1 a1 0 m)) q5 ?_
        refine cK7_hire_138 a1 a2 a3 ((L7_hire_56 130 a1 a2 a3 ((-1)) 0 ((-1)) 1 (F2_gather 1 a1 0 m)).1) ((L7_hire_56 130 a1 a2 a3 ((-1)) 0 ((-1)) 1 (F2_gather 1 a1 0 m)).2.1) ((L7_hire_56 130 a1 a2 a3 ((-1)) 0 ((-1)) 1 (F2_gather 1 a1 0 m)).2.2.1) ((L7_hire_56 130 a1 a2 a3 ((-1)) 0 ((-1)) 1 (F2_gather 1 a1 0 m)).2.2.2.1) ((L7_hire_56 130 a1 a2 a3 ((-1)) 0 ((-1)) 1 (F2_gather 1 a1 0 m)).2.2.2.2) ?_
        exact ⟨by rw [E], by rw [E]⟩
      · skip
        rw [if_pos h3] at E
        refine s_iconst (v := (-1)) eX7_hire_29 rfl ?_
        exact s_iret eX7_hire_30 rfl ⟨rfl, by rw [E], by rw [E]⟩
theorem uX7_plan (a1 : Int32) (m : ax_M) (hD : D7_plan a1 m) : ax_NM 6 Y7_plan [.ref 0, .int a1] m (fun r m1 => r = some (.int (F7_plan a1 m).1) ∧ m1 = (F7_plan a1 m).2) := by
  have E : F7_plan a1 m = (if a1 = 0 then (if 0 ≤ (F3_indexOf (F1_wished 1 (F3_survey 1 (F1_standing 1 m) m)) (F3_survey 1 (F1_standing 1 m) m)) then (if a1 = 0 then (F3_depthOf (F3_indexOf (F1_wished 1 (F3_survey 1 (F1_standing 1 m) m)) (F3_survey 1 (F1_standing 1 m) m)) (F3_survey 1 (F1_standing 1 m) m), (F3_survey 1 (F1_standing 1 m) m)) else (if (F3_depthOf (F3_indexOf (F1_wished 1 (F3_survey 1 (F1_standing 1 m) m)) (F3_survey 1 (F1_standing 1 m) m)) (F3_survey 1 (F1_standing 1 m) m)) ≤ (a1 - 10) then ((-4), (F3_survey 1 (F1_standing 1 m) m)) else (F3_stepTo (F3_indexOf (F1_wished 1 (F3_survey 1 (F1_standing 1 m) m)) (F3_survey 1 (F1_standing 1 m) m)) (a1 - 10) (F3_survey 1 (F1_standing 1 m) m), (F3_survey 1 (F1_standing 1 m) m)))) else ((-4), (F3_survey 1 (F1_standing 1 m) m))) else (if 10 ≤ a1 then (if 0 ≤ (F3_indexOf (F1_wished 1 (F3_survey 1 (F1_standing 1 m) m)) (F3_survey 1 (F1_standing 1 m) m)) then (if a1 = 0 then (F3_depthOf (F3_indexOf (F1_wished 1 (F3_survey 1 (F1_standing 1 m) m)) (F3_survey 1 (F1_standing 1 m) m)) (F3_survey 1 (F1_standing 1 m) m), (F3_survey 1 (F1_standing 1 m) m)) else (if (F3_depthOf (F3_indexOf (F1_wished 1 (F3_survey 1 (F1_standing 1 m) m)) (F3_survey 1 (F1_standing 1 m) m)) (F3_survey 1 (F1_standing 1 m) m)) ≤ (a1 - 10) then ((-4), (F3_survey 1 (F1_standing 1 m) m)) else (F3_stepTo (F3_indexOf (F1_wished 1 (F3_survey 1 (F1_standing 1 m) m)) (F3_survey 1 (F1_standing 1 m) m)) (a1 - 10) (F3_survey 1 (F1_standing 1 m) m), (F3_survey 1 (F1_standing 1 m) m)))) else ((-4), (F3_survey 1 (F1_standing 1 m) m))) else ((-1), m))) := rfl
  unfold D7_plan at hD
  show ax_N 6 Y7_plan 0 [some (.ref 0), some (.int a1), none, none] [] m _
  refine s_iload_n eX7_plan_0 rfl rfl ?_
  refine s_if_eq eX7_plan_1 (fun h1 => ?_) (fun h1 => ?_)
  · skip
    rw [if_pos h1] at E
    have hD := hD.1 h1
    refine s_aload_n eX7_plan_12 rfl rfl ?_
    refine s_getr (q := 59) eX7_plan_13 fX7_51 shp_0 rfl ?_
    refine s_aload_n eX7_plan_16 rfl rfl ?_
    refine s_getr (q := 1) eX7_plan_17 fX7_10 shp_0 rfl ?_
    refine s_aload_n eX7_plan_20 rfl rfl ?_
    refine s_getr (q := 1) eX7_plan_21 fX7_10 shp_0 rfl ?_
    obtain ⟨q2, hD⟩ := hD
    refine n_callVi (As := []) eX7_plan_24 kX1_standing lX7_235 rfl rfl shp_1 rfl rfl (Nat.le_of_ble_eq_true rfl) (Nat.le_of_ble_eq_true rfl) (Nat.le_of_ble_eq_true rfl) (uX1_standing 1 m isG_1 q2) ?_
    obtain ⟨q3, hD⟩ := hD
    refine n_callVv (As := [.ref 1, .int (F1_standing 1 m)]) eX7_plan_27 kX3_survey lX7_238 rfl rfl shp_59 rfl rfl (Nat.le_of_ble_eq_true rfl) (Nat.le_of_ble_eq_true rfl) (Nat.le_of_ble_eq_true rfl) (uX3_survey 1 (F1_standing 1 m) m isG_1 q3) ?_
    refine s_aload_n eX7_plan_30 rfl rfl ?_
    refine s_getr (q := 59) eX7_plan_31 fX7_51 shp_0 rfl ?_
    refine s_aload_n eX7_plan_34 rfl rfl ?_
    refine s_getr (q := 1) eX7_plan_35 fX7_10 shp_0 rfl ?_
    obtain ⟨q4, hD⟩ := hD
    refine n_callVi (As := []) eX7_plan_38 kX1_wished lX7_242 rfl rfl shp_1 rfl rfl (Nat.le_of_ble_eq_true rfl) (Nat.le_of_ble_eq_true rfl) (Nat.le_of_ble_eq_true rfl) (uX1_wished 1 ((F3_survey 1 (F1_standing 1 m) m)) isG_1 q4) ?_
    refine n_callVi (As := [.int (F1_wished 1 (F3_survey 1 (F1_standing 1 m) m))]) eX7_plan_41 kX3_indexOf lX7_245 rfl rfl shp_59 rfl rfl (Nat.le_of_ble_eq_true rfl) (Nat.le_of_ble_eq_true rfl) (Nat.le_of_ble_eq_true rfl) (uX3_indexOf (F1_wished 1 (F3_survey 1 (F1_standing 1 m) m)) ((F3_survey 1 (F1_standing 1 m) m))) ?_
    refine s_istore_n (ls' := [some (.ref 0), some (.int a1), some (.int (F3_indexOf (F1_wished 1 (F3_survey 1 (F1_standing 1 m) m)) (F3_survey 1 (F1_standing 1 m) m))), none]) eX7_plan_44 rfl rfl rfl ?_
    refine s_iload_n eX7_plan_45 rfl rfl ?_
    refine s_if_ge eX7_plan_46 (fun h5 => ?_) (fun h5 => ?_)
    · skip
      rw [if_pos h5] at E
      have hD := hD h5
      refine s_aload_n eX7_plan_52 rfl rfl ?_
      refine s_getr (q := 59) eX7_plan_53 fX7_51 shp_0 rfl ?_
      refine s_iload_n eX7_plan_56 rfl rfl ?_
      refine n_callVi (As := [.int (F3_indexOf (F1_wished 1 (F3_survey 1 (F1_standing 1 m) m)) (F3_survey 1 (F1_standing 1 m) m))]) eX7_plan_57 kX3_depthOf lX7_248 rfl rfl shp_59 rfl rfl (Nat.le_of_ble_eq_true rfl) (Nat.le_of_ble_eq_true rfl) (Nat.le_of_ble_eq_true rfl) (uX3_depthOf (F3_indexOf (F1_wished 1 (F3_survey 1 (F1_standing 1 m) m)) (F3_survey 1 (F1_standing 1 m) m)) ((F3_survey 1 (F1_standing 1 m) m))) ?_
      refine s_istore_n (ls' := [some (.ref 0), some (.int a1), some (.int (F3_indexOf (F1_wished 1 (F3_survey 1 (F1_standing 1 m) m)) (F3_survey 1 (F1_standing 1 m) m))), some (.int (F3_depthOf (F3_indexOf (F1_wished 1 (F3_survey 1 (F1_standing 1 m) m)) (F3_survey 1 (F1_standing 1 m) m)) (F3_survey 1 (F1_standing 1 m) m)))]) eX7_plan_60 rfl rfl rfl ?_
      refine s_iload_n eX7_plan_61 rfl rfl ?_
      refine s_if_ne eX7_plan_62 (fun h6 => ?_) (fun h6 => ?_)
      · skip
        exact absurd h1 h6
      · skip
        rw [if_pos h6] at E
        refine s_iload_n eX7_plan_65 rfl rfl ?_
        exact s_iret eX7_plan_66 rfl ⟨rfl, by rw [E], by rw [E]⟩
    · skip
      rw [if_neg h5] at E
      refine s_bipush (v := (-4)) eX7_plan_49 rfl ?_
      exact s_iret eX7_plan_51 rfl ⟨rfl, by rw [E], by rw [E]⟩
  · skip
    rw [if_neg h1] at E
    have hD := hD.2 h1
    refine s_iload_n eX7_plan_4 rfl rfl ?_
    refine s_bipush (v := 10) eX7_plan_5 rfl ?_
    refine s_icmp_ge eX7_plan_7 (fun h7 => ?_) (fun h7 => ?_)
    · skip
      rw [if_pos h7] at E
      have hD := hD h7
      refine s_aload_n eX7_plan_12 rfl rfl ?_
      refine s_getr (q := 59) eX7_plan_13 fX7_51 shp_0 rfl ?_
      refine s_aload_n eX7_plan_16 rfl rfl ?_
      refine s_getr (q := 1) eX7_plan_17 fX7_10 shp_0 rfl ?_
      refine s_aload_n eX7_plan_20 rfl rfl ?_
      refine s_getr (q := 1) eX7_plan_21 fX7_10 shp_0 rfl ?_
      obtain ⟨q8, hD⟩ := hD
      refine n_callVi (As := []) eX7_plan_24 kX1_standing lX7_235 rfl rfl shp_1 rfl rfl (Nat.le_of_ble_eq_true rfl) (Nat.le_of_ble_eq_true rfl) (Nat.le_of_ble_eq_true rfl) (uX1_standing 1 m isG_1 q8) ?_
      obtain ⟨q9, hD⟩ := hD
      refine n_callVv (As := [.ref 1, .int (F1_standing 1 m)]) eX7_plan_27 kX3_survey lX7_238 rfl rfl shp_59 rfl rfl (Nat.le_of_ble_eq_true rfl) (Nat.le_of_ble_eq_true rfl) (Nat.le_of_ble_eq_true rfl) (uX3_survey 1 (F1_standing 1 m) m isG_1 q9) ?_
      refine s_aload_n eX7_plan_30 rfl rfl ?_
      refine s_getr (q := 59) eX7_plan_31 fX7_51 shp_0 rfl ?_
      refine s_aload_n eX7_plan_34 rfl rfl ?_
      refine s_getr (q := 1) eX7_plan_35 fX7_10 shp_0 rfl ?_
      obtain ⟨q10, hD⟩ := hD
      refine n_callVi (As := []) eX7_plan_38 kX1_wished lX7_242 rfl rfl shp_1 rfl rfl (Nat.le_of_ble_eq_true rfl) (Nat.le_of_ble_eq_true rfl) (Nat.le_of_ble_eq_true rfl) (uX1_wished 1 ((F3_survey 1 (F1_standing 1 m) m)) isG_1 q10) ?_
      refine n_callVi (As := [.int (F1_wished 1 (F3_survey 1 (F1_standing 1 m) m))]) eX7_plan_41 kX3_indexOf lX7_245 rfl rfl shp_59 rfl rfl (Nat.le_of_ble_eq_true rfl) (Nat.le_of_ble_eq_true rfl) (Nat.le_of_ble_eq_true rfl) (uX3_indexOf (F1_wished 1 (F3_survey 1 (F1_standing 1 m) m)) ((F3_survey 1 (F1_standing 1 m) m))) ?_
      refine s_istore_n (ls' := [some (.ref 0), some (.int a1), some (.int (F3_indexOf (F1_wished 1 (F3_survey 1 (F1_standing 1 m) m)) (F3_survey 1 (F1_standing 1 m) m))), none]) eX7_plan_44 rfl rfl rfl ?_
      refine s_iload_n eX7_plan_45 rfl rfl ?_
      refine s_if_ge eX7_plan_46 (fun h11 => ?_) (fun h11 => ?_)
      · skip
        rw [if_pos h11] at E
        have hD := hD h11
        refine s_aload_n eX7_plan_52 rfl rfl ?_
        refine s_getr (q := 59) eX7_plan_53 fX7_51 shp_0 rfl ?_
        refine s_iload_n eX7_plan_56 rfl rfl ?_
        refine n_callVi (As := [.int (F3_indexOf (F1_wished 1 (F3_survey 1 (F1_standing 1 m) m)) (F3_survey 1 (F1_standing 1 m) m))]) eX7_plan_57 kX3_depthOf lX7_248 rfl rfl shp_59 rfl rfl (Nat.le_of_ble_eq_true rfl) (Nat.le_of_ble_eq_true rfl) (Nat.le_of_ble_eq_true rfl) (uX3_depthOf (F3_indexOf (F1_wished 1 (F3_survey 1 (F1_standing 1 m) m)) (F3_survey 1 (F1_standing 1 m) m)) ((F3_survey 1 (F1_standing 1 m) m))) ?_
        refine s_istore_n (ls' := [some (.ref 0), some (.int a1), some (.int (F3_indexOf (F1_wished 1 (F3_survey 1 (F1_standing 1 m) m)) (F3_survey 1 (F1_standing 1 m) m))), some (.int (F3_depthOf (F3_indexOf (F1_wished 1 (F3_survey 1 (F1_standing 1 m) m)) (F3_survey 1 (F1_standing 1 m) m)) (F3_survey 1 (F1_standing 1 m) m)))]) eX7_plan_60 rfl rfl rfl ?_
        refine s_iload_n eX7_plan_61 rfl rfl ?_
        refine s_if_ne eX7_plan_62 (fun h12 => ?_) (fun h12 => ?_)
        · skip
          rw [if_neg h12] at E
          have hD := hD h12
          refine s_iload_n eX7_plan_67 rfl rfl ?_
          refine s_bipush (v := 10) eX7_plan_68 rfl ?_
          refine s_isub eX7_plan_70 ?_
          refine s_iload_n eX7_plan_71 rfl rfl ?_
          refine s_icmp_ge eX7_plan_72 (fun h13 => ?_) (fun h13 => ?_)
          · skip
            rw [if_pos h13] at E
            refine s_bipush (v := (-4)) eX7_plan_90 rfl ?_
            exact s_iret eX7_plan_92 rfl ⟨rfl, by rw [E], by rw [E]⟩
          · skip
            rw [if_neg h13] at E
            have hD := hD h13
            refine s_aload_n eX7_plan_75 rfl rfl ?_
            refine s_getr (q := 59) eX7_plan_76 fX7_51 shp_0 rfl ?_
            refine s_iload_n eX7_plan_79 rfl rfl ?_
            refine s_iload_n eX7_plan_80 rfl rfl ?_
            refine s_bipush (v := 10) eX7_plan_81 rfl ?_
            refine s_isub eX7_plan_83 ?_
            have q14 := hD
            refine n_callVi (As := [.int (F3_indexOf (F1_wished 1 (F3_survey 1 (F1_standing 1 m) m)) (F3_survey 1 (F1_standing 1 m) m)), .int (a1 - 10)]) eX7_plan_84 kX3_stepTo lX7_251 rfl rfl shp_59 rfl rfl (Nat.le_of_ble_eq_true rfl) (Nat.le_of_ble_eq_true rfl) (Nat.le_of_ble_eq_true rfl) (uX3_stepTo (F3_indexOf (F1_wished 1 (F3_survey 1 (F1_standing 1 m) m)) (F3_survey 1 (F1_standing 1 m) m)) (a1 - 10) ((F3_survey 1 (F1_standing 1 m) m)) q14) ?_
            refine s_goto eX7_plan_87 ?_
            exact s_iret eX7_plan_92 rfl ⟨rfl, by rw [E], by rw [E]⟩
        · skip
          exact absurd h12 h1
      · skip
        rw [if_neg h11] at E
        refine s_bipush (v := (-4)) eX7_plan_49 rfl ?_
        exact s_iret eX7_plan_51 rfl ⟨rfl, by rw [E], by rw [E]⟩
    · skip
      rw [if_neg h7] at E
      refine s_iconst (v := (-1)) eX7_plan_10 rfl ?_
      exact s_iret eX7_plan_11 rfl ⟨rfl, by rw [E], by rw [E]⟩
theorem uX7_reach (a1 : Int32) (m : ax_M) (hD : D7_reach a1 m) : ax_NM 6 Y7_reach [.ref 0, .int a1] m (fun r m1 => r = some (.int (F7_reach a1 m).1) ∧ m1 = (F7_reach a1 m).2) := by
  have E : F7_reach a1 m = (if (F1_hasOne 1 a1 m) = 0 then ((-1), m) else (F3_banksOf a1 (F3_survey 1 (F1_standing 1 m) m), (F3_survey 1 (F1_standing 1 m) m))) := rfl
  unfold D7_reach at hD
  show ax_N 6 Y7_reach 0 [some (.ref 0), some (.int a1)] [] m _
  refine s_aload_n eX7_reach_0 rfl rfl ?_
  refine s_getr (q := 1) eX7_reach_1 fX7_10 shp_0 rfl ?_
  refine s_iload_n eX7_reach_4 rfl rfl ?_
  refine n_callVi (As := [.int a1]) eX7_reach_5 kX1_hasOne lX7_135 rfl rfl shp_1 rfl rfl (Nat.le_of_ble_eq_true rfl) (Nat.le_of_ble_eq_true rfl) (Nat.le_of_ble_eq_true rfl) (uX1_hasOne 1 a1 m isG_1) ?_
  refine s_if_ne eX7_reach_8 (fun h1 => ?_) (fun h1 => ?_)
  · skip
    rw [if_neg h1] at E
    have hD := hD h1
    refine s_aload_n eX7_reach_13 rfl rfl ?_
    refine s_getr (q := 59) eX7_reach_14 fX7_51 shp_0 rfl ?_
    refine s_aload_n eX7_reach_17 rfl rfl ?_
    refine s_getr (q := 1) eX7_reach_18 fX7_10 shp_0 rfl ?_
    refine s_aload_n eX7_reach_21 rfl rfl ?_
    refine s_getr (q := 1) eX7_reach_22 fX7_10 shp_0 rfl ?_
    obtain ⟨q2, hD⟩ := hD
    refine n_callVi (As := []) eX7_reach_25 kX1_standing lX7_235 rfl rfl shp_1 rfl rfl (Nat.le_of_ble_eq_true rfl) (Nat.le_of_ble_eq_true rfl) (Nat.le_of_ble_eq_true rfl) (uX1_standing 1 m isG_1 q2) ?_
    obtain ⟨q3, hD⟩ := hD
    refine n_callVv (As := [.ref 1, .int (F1_standing 1 m)]) eX7_reach_28 kX3_survey lX7_238 rfl rfl shp_59 rfl rfl (Nat.le_of_ble_eq_true rfl) (Nat.le_of_ble_eq_true rfl) (Nat.le_of_ble_eq_true rfl) (uX3_survey 1 (F1_standing 1 m) m isG_1 q3) ?_
    refine s_aload_n eX7_reach_31 rfl rfl ?_
    refine s_getr (q := 59) eX7_reach_32 fX7_51 shp_0 rfl ?_
    refine s_iload_n eX7_reach_35 rfl rfl ?_
    have q4 := hD
    refine n_callVi (As := [.int a1]) eX7_reach_36 kX3_banksOf lX7_254 rfl rfl shp_59 rfl rfl (Nat.le_of_ble_eq_true rfl) (Nat.le_of_ble_eq_true rfl) (Nat.le_of_ble_eq_true rfl) (uX3_banksOf a1 ((F3_survey 1 (F1_standing 1 m) m)) q4) ?_
    exact s_iret eX7_reach_39 rfl ⟨rfl, by rw [E], by rw [E]⟩
  · skip
    rw [if_pos h1] at E
    refine s_iconst (v := (-1)) eX7_reach_11 rfl ?_
    exact s_iret eX7_reach_12 rfl ⟨rfl, by rw [E], by rw [E]⟩
theorem uX7_ways (m : ax_M) (hD : D7_ways m) : ax_NM 6 Y7_ways [.ref 0] m (fun r m1 => r = some (.int (F7_ways m).1) ∧ m1 = (F7_ways m).2) := by
  have E : F7_ways m = ((F3_survey 1 (F1_standing 1 m) m) 59 10, (F3_survey 1 (F1_standing 1 m) m)) := rfl
  unfold D7_ways at hD
  show ax_N 6 Y7_ways 0 [some (.ref 0)] [] m _
  refine s_aload_n eX7_ways_0 rfl rfl ?_
  refine s_getr (q := 59) eX7_ways_1 fX7_51 shp_0 rfl ?_
  refine s_aload_n eX7_ways_4 rfl rfl ?_
  refine s_getr (q := 1) eX7_ways_5 fX7_10 shp_0 rfl ?_
  refine s_aload_n eX7_ways_8 rfl rfl ?_
  refine s_getr (q := 1) eX7_ways_9 fX7_10 shp_0 rfl ?_
  obtain ⟨q1, hD⟩ := hD
  refine n_callVi (As := []) eX7_ways_12 kX1_standing lX7_235 rfl rfl shp_1 rfl rfl (Nat.le_of_ble_eq_true rfl) (Nat.le_of_ble_eq_true rfl) (Nat.le_of_ble_eq_true rfl) (uX1_standing 1 m isG_1 q1) ?_
  have q2 := hD
  refine n_callVv (As := [.ref 1, .int (F1_standing 1 m)]) eX7_ways_15 kX3_survey lX7_238 rfl rfl shp_59 rfl rfl (Nat.le_of_ble_eq_true rfl) (Nat.le_of_ble_eq_true rfl) (Nat.le_of_ble_eq_true rfl) (uX3_survey 1 (F1_standing 1 m) m isG_1 q2) ?_
  refine s_aload_n eX7_ways_18 rfl rfl ?_
  refine s_getr (q := 59) eX7_ways_19 fX7_51 shp_0 rfl ?_
  refine s_geti eX7_ways_22 fX7_257 shp_59 rfl ?_
  exact s_iret eX7_ways_25 rfl ⟨rfl, by rw [E], by rw [E]⟩
theorem uX7_tell (a1 : Int32) (a2 : Int32) (a3 : Int32) (m : ax_M) : ax_NM 2 Y7_tell [.ref 0, .int a1, .int a2, .int a3] m (fun r m1 => r = some (.int (F7_tell a1 a2 a3 m).1) ∧ m1 = (F7_tell a1 a2 a3 m).2) := by
  have E : F7_tell a1 a2 a3 m = (if (F1_isAsked 1 a1 a2 a3 0 0 m) = 0 then ((-1), m) else (if (m 39 1) < 8 then ((F0_append 39 a1 a2 a3 m) 39 1, (F0_append 39 a1 a2 a3 m)) else ((-3), m))) := rfl
  show ax_N 2 Y7_tell 0 [some (.ref 0), some (.int a1), some (.int a2), some (.int a3)] [] m _
  refine s_aload_n eX7_tell_0 rfl rfl ?_
  refine s_getr (q := 1) eX7_tell_1 fX7_10 shp_0 rfl ?_
  refine s_iload_n eX7_tell_4 rfl rfl ?_
  refine s_iload_n eX7_tell_5 rfl rfl ?_
  refine s_iload_n eX7_tell_6 rfl rfl ?_
  refine s_iconst (v := 0) eX7_tell_7 rfl ?_
  refine s_iconst (v := 0) eX7_tell_8 rfl ?_
  refine n_callVi (As := [.int a1, .int a2, .int a3, .int 0, .int 0]) eX7_tell_9 kX1_isAsked lX7_186 rfl rfl shp_1 rfl rfl (Nat.le_of_ble_eq_true rfl) (Nat.le_of_ble_eq_true rfl) (Nat.le_of_ble_eq_true rfl) (uX1_isAsked 1 a1 a2 a3 0 0 m isG_1) ?_
  refine s_if_ne eX7_tell_12 (fun h1 => ?_) (fun h1 => ?_)
  · skip
    rw [if_neg h1] at E
    refine s_aload_n eX7_tell_17 rfl rfl ?_
    refine s_getr (q := 39) eX7_tell_18 fX7_30 shp_0 rfl ?_
    refine s_geti eX7_tell_21 fX7_258 shp_39 rfl ?_
    refine s_bipush (v := 8) eX7_tell_24 rfl ?_
    refine s_icmp_lt eX7_tell_26 (fun h2 => ?_) (fun h2 => ?_)
    · skip
      rw [if_pos h2] at E
      refine s_aload_n eX7_tell_32 rfl rfl ?_
      refine s_getr (q := 39) eX7_tell_33 fX7_30 shp_0 rfl ?_
      refine s_iload_n eX7_tell_36 rfl rfl ?_
      refine s_iload_n eX7_tell_37 rfl rfl ?_
      refine s_iload_n eX7_tell_38 rfl rfl ?_
      refine n_callVv (As := [.int a1, .int a2, .int a3]) eX7_tell_39 kX0_append lX7_259 rfl rfl shp_39 rfl rfl (Nat.le_of_ble_eq_true rfl) (Nat.le_of_ble_eq_true rfl) (Nat.le_of_ble_eq_true rfl) (uX0_append 39 a1 a2 a3 m isD_39) ?_
      refine s_aload_n eX7_tell_42 rfl rfl ?_
      refine s_getr (q := 39) eX7_tell_43 fX7_30 shp_0 rfl ?_
      refine s_geti eX7_tell_46 fX7_258 shp_39 rfl ?_
      exact s_iret eX7_tell_49 rfl ⟨rfl, by rw [E], by rw [E]⟩
    · skip
      rw [if_neg h2] at E
      refine s_bipush (v := (-3)) eX7_tell_29 rfl ?_
      exact s_iret eX7_tell_31 rfl ⟨rfl, by rw [E], by rw [E]⟩
  · skip
    rw [if_pos h1] at E
    refine s_iconst (v := (-1)) eX7_tell_15 rfl ?_
    exact s_iret eX7_tell_16 rfl ⟨rfl, by rw [E], by rw [E]⟩
theorem uX7_forget (a1 : Int32) (m : ax_M) : ax_NM 1 Y7_forget [.ref 0, .int a1] m (fun r m1 => r = some (.int (F7_forget a1 m).1) ∧ m1 = (F7_forget a1 m).2) := by
  have E : F7_forget a1 m = (if (F7_within a1 0 (m 39 1) m) = 0 then ((-1), m) else (m 39 1, (ax_up m 39 1 a1))) := rfl
  show ax_N 1 Y7_forget 0 [some (.ref 0), some (.int a1), none] [] m _
  refine s_iload_n eX7_forget_0 rfl rfl ?_
  refine s_iconst (v := 0) eX7_forget_1 rfl ?_
  refine s_aload_n eX7_forget_2 rfl rfl ?_
  refine s_getr (q := 39) eX7_forget_3 fX7_30 shp_0 rfl ?_
  refine s_geti eX7_forget_6 fX7_258 shp_39 rfl ?_
  refine n_callSi (As := [.int a1, .int 0, .int (m 39 1)]) eX7_forget_9 kX7_within lX7_76 rfl rfl (Nat.le_of_ble_eq_true rfl) (Nat.le_of_ble_eq_true rfl) (Nat.le_of_ble_eq_true rfl) (uX7_within a1 0 (m 39 1) m) ?_
  refine s_if_ne eX7_forget_12 (fun h1 => ?_) (fun h1 => ?_)
  · skip
    rw [if_neg h1] at E
    refine s_aload_n eX7_forget_17 rfl rfl ?_
    refine s_getr (q := 39) eX7_forget_18 fX7_30 shp_0 rfl ?_
    refine s_geti eX7_forget_21 fX7_258 shp_39 rfl ?_
    refine s_istore_n (ls' := [some (.ref 0), some (.int a1), some (.int (m 39 1))]) eX7_forget_24 rfl rfl rfl ?_
    refine s_aload_n eX7_forget_25 rfl rfl ?_
    refine s_getr (q := 39) eX7_forget_26 fX7_30 shp_0 rfl ?_
    refine s_iload_n eX7_forget_29 rfl rfl ?_
    refine s_puti eX7_forget_30 fX7_258 pX0_1 rfl rfl shp_39 rfl ?_
    refine s_iload_n eX7_forget_33 rfl rfl ?_
    exact s_iret eX7_forget_34 rfl ⟨rfl, by rw [E], by rw [E]⟩
  · skip
    rw [if_pos h1] at E
    refine s_iconst (v := (-1)) eX7_forget_15 rfl ?_
    exact s_iret eX7_forget_16 rfl ⟨rfl, by rw [E], by rw [E]⟩
theorem clX7_judge_13 {P : Option Value → ax_M → Prop} : ∀ (n : Nat) (v1 : Int32) (m : ax_M), E7_judge_13 n v1 m → (∀ r, (L7_judge_13 n v1 m).1 = some r → P (some (.int r)) (L7_judge_13 n v1 m).2.2) → ((L7_judge_13 n v1 m).1 = none → ax_N 6 Y7_judge 66 [some (.ref 0), some (.int ((L7_judge_13 n v1 m).2.1))] [] ((L7_judge_13 n v1 m).2.2) P) → ax_N 6 Y7_judge 13 [some (.ref 0), some (.int v1)] [] m P := by
  intro n
  induction n with
  | zero => intro v1 m hD; exact absurd hD id
  | succ n ih =>
    intro v1 m hD hr hx
    have E : L7_judge_13 (n + 1) v1 m = (if (m 39 1) ≤ v1 then (none, v1, m) else (if ((F1_passesAndGoes 10 (F0_bridgeAt 39 v1 m) (F0_aheadAt 39 v1 m) (F0_otherAt 39 v1 m) m).1) = 0 then (some v1, v1, (F1_passesAndGoes 10 (F0_bridgeAt 39 v1 m) (F0_aheadAt 39 v1 m) (F0_otherAt 39 v1 m) m).2) else L7_judge_13 n (v1 + 1) (F1_passesAndGoes 10 (F0_bridgeAt 39 v1 m) (F0_aheadAt 39 v1 m) (F0_otherAt 39 v1 m) m).2)) := by rw [L7_judge_13]
    have hD : ((¬ ((m 39 1) ≤ v1) → ((¬ (((F1_passesAndGoes 10 (F0_bridgeAt 39 v1 m) (F0_aheadAt 39 v1 m) (F0_otherAt 39 v1 m) m).1) = 0) → ((E7_judge_13 n (v1 + 1) (F1_passesAndGoes 10 (F0_bridgeAt 39 v1 m) (F0_aheadAt 39 v1 m) (F0_otherAt 39 v1 m) m).2)))))) := hD
    refine s_iload_n eX7_judge_13 rfl rfl ?_
    refine s_aload_n eX7_judge_14 rfl rfl ?_
    refine s_getr (q := 39) eX7_judge_15 fX7_30 shp_0 rfl ?_
    refine s_geti eX7_judge_18 fX7_258 shp_39 rfl ?_
    refine s_icmp_ge eX7_judge_21 (fun h1 => ?_) (fun h1 => ?_)
    · skip
      rw [if_pos h1] at E
      rw [E] at hx
      exact hx rfl
    · skip
      rw [if_neg h1] at E
      have hD := hD h1
      refine s_aload_n eX7_judge_24 rfl rfl ?_
      refine s_getr (q := 10) eX7_judge_25 fX7_16 shp_0 rfl ?_
      refine s_aload_n eX7_judge_28 rfl rfl ?_
      refine s_getr (q := 39) eX7_judge_29 fX7_30 shp_0 rfl ?_
      refine s_iload_n eX7_judge_32 rfl rfl ?_
      refine n_callVi (As := [.int v1]) eX7_judge_33 kX0_bridgeAt lX7_262 rfl rfl shp_39 rfl rfl (Nat.le_of_ble_eq_true rfl) (Nat.le_of_ble_eq_true rfl) (Nat.le_of_ble_eq_true rfl) (uX0_bridgeAt 39 v1 m isD_39) ?_
      refine s_aload_n eX7_judge_36 rfl rfl ?_
      refine s_getr (q := 39) eX7_judge_37 fX7_30 shp_0 rfl ?_
      refine s_iload_n eX7_judge_40 rfl rfl ?_
      refine n_callVi (As := [.int v1]) eX7_judge_41 kX0_aheadAt lX7_265 rfl rfl shp_39 rfl rfl (Nat.le_of_ble_eq_true rfl) (Nat.le_of_ble_eq_true rfl) (Nat.le_of_ble_eq_true rfl) (uX0_aheadAt 39 v1 m isD_39) ?_
      refine s_aload_n eX7_judge_44 rfl rfl ?_
      refine s_getr (q := 39) eX7_judge_45 fX7_30 shp_0 rfl ?_
      refine s_iload_n eX7_judge_48 rfl rfl ?_
      refine n_callVi (As := [.int v1]) eX7_judge_49 kX0_otherAt lX7_268 rfl rfl shp_39 rfl rfl (Nat.le_of_ble_eq_true rfl) (Nat.le_of_ble_eq_true rfl) (Nat.le_of_ble_eq_true rfl) (uX0_otherAt 39 v1 m isD_39) ?_
      refine n_callVi (As := [.int (F0_bridgeAt 39 v1 m), .int (F0_aheadAt 39 v1 m), .int (F0_otherAt 39 v1 m)]) eX7_judge_52 kX1_passesAndGoes lX7_271 rfl rfl shp_10 rfl rfl (Nat.le_of_ble_eq_true rfl) (Nat.le_of_ble_eq_true rfl) (Nat.le_of_ble_eq_true rfl) (uX1_passesAndGoes 10 (F0_bridgeAt 39 v1 m) (F0_aheadAt 39 v1 m) (F0_otherAt 39 v1 m) m isG_10) ?_
      refine s_if_ne eX7_judge_55 (fun h2 => ?_) (fun h2 => ?_)
      · skip
        rw [if_neg h2] at E
        have hD := hD h2
        refine s_iinc (v := v1 + 1) (ls' := [some (.ref 0), some (.int (v1 + 1))]) eX7_judge_60 rfl rfl rfl rfl ?_
        refine s_goto eX7_judge_63 ?_
        rw [E] at hr hx
        exact ih (v1 + 1) ((F1_passesAndGoes 10 (F0_bridgeAt 39 v1 m) (F0_aheadAt 39 v1 m) (F0_otherAt 39 v1 m) m).2) hD hr hx
      · skip
        rw [if_pos h2] at E
        refine s_iload_n eX7_judge_58 rfl rfl ?_
        rw [E] at hr
        exact s_iret eX7_judge_59 rfl ⟨rfl, hr _ rfl⟩
theorem uX7_judge (m : ax_M) (hD : D7_judge m) : ax_NM 6 Y7_judge [.ref 0] m (fun r m1 => r = some (.int (F7_judge m).1) ∧ m1 = (F7_judge m).2) := by
  have E : F7_judge m = (if (L7_judge_13 64 0 (F1_copyFrom 10 1 m)).1 = none then ((-4), (L7_judge_13 64 0 (F1_copyFrom 10 1 m)).2.2) else (((L7_judge_13 64 0 (F1_copyFrom 10 1 m)).1).getD 0, (L7_judge_13 64 0 (F1_copyFrom 10 1 m)).2.2)) := rfl
  unfold D7_judge at hD
  show ax_N 6 Y7_judge 0 [some (.ref 0), none] [] m _
  refine s_aload_n eX7_judge_0 rfl rfl ?_
  refine s_getr (q := 10) eX7_judge_1 fX7_16 shp_0 rfl ?_
  refine s_aload_n eX7_judge_4 rfl rfl ?_
  refine s_getr (q := 1) eX7_judge_5 fX7_10 shp_0 rfl ?_
  refine n_callVv (As := [.ref 1]) eX7_judge_8 kX1_copyFrom lX7_96 rfl rfl shp_10 rfl rfl (Nat.le_of_ble_eq_true rfl) (Nat.le_of_ble_eq_true rfl) (Nat.le_of_ble_eq_true rfl) (uX1_copyFrom 10 1 m isG_10 isG_1) ?_
  refine s_iconst (v := 0) eX7_judge_11 rfl ?_
  refine s_istore_n (ls' := [some (.ref 0), some (.int 0)]) eX7_judge_12 rfl rfl rfl ?_
  have q1 := hD
  refine clX7_judge_13 64 0 ((F1_copyFrom 10 1 m)) q1 (fun x2 h3 => ?_) (fun h3 => ?_)
  · skip
    rw [if_neg (by rw [h3]; exact fun hh => by cases hh), h3] at E
    exact ⟨by rw [E]; rfl, by rw [E]⟩
  · skip
    rw [if_pos h3] at E
    refine s_bipush (v := (-4)) eX7_judge_66 rfl ?_
    exact s_iret eX7_judge_68 rfl ⟨rfl, by rw [E], by rw [E]⟩
theorem clX7_late_28 {P : Option Value → ax_M → Prop} : ∀ (n : Nat) (v1 v2 v3 : Int32) (m : ax_M), E7_late_28 n v1 v2 v3 m → (ax_N 6 Y7_late 109 [some (.ref 0), some (.int v1), some (.int ((L7_late_28 n v1 v2 v3 m).1)), some (.int ((L7_late_28 n v1 v2 v3 m).2.1))] [] ((L7_late_28 n v1 v2 v3 m).2.2) P) → ax_N 6 Y7_late 28 [some (.ref 0), some (.int v1), some (.int v2), some (.int v3)] [] m P := by
  intro n
  induction n with
  | zero => intro v1 v2 v3 m hD; exact absurd hD id
  | succ n ih =>
    intro v1 v2 v3 m hD hx
    have E : L7_late_28 (n + 1) v1 v2 v3 m = (if (m 39 1) ≤ v3 then (v2, v3, m) else L7_late_28 n v1 (if (F0_aheadAt 39 v3 m) = v1 then (v2 : Int32) else if (F0_otherAt 39 v3 m) = v1 then (v2 : Int32) else if ((F1_passesAndGoes 10 (F0_bridgeAt 39 v3 m) (F0_aheadAt 39 v3 m) (F0_otherAt 39 v3 m) m).1) = 0 then (v2 : Int32) else v2 + 1) (v3 + 1) (if (F0_aheadAt 39 v3 m) = v1 then m else (if (F0_otherAt 39 v3 m) = v1 then m else (F1_passesAndGoes 10 (F0_bridgeAt 39 v3 m) (F0_aheadAt 39 v3 m) (F0_otherAt 39 v3 m) m).2))) := by rw [L7_late_28]
    have hD : ((¬ ((m 39 1) ≤ v3) → ((E7_late_28 n v1 (if (F0_aheadAt 39 v3 m) = v1 then (v2 : Int32) else if (F0_otherAt 39 v3 m) = v1 then (v2 : Int32) else if ((F1_passesAndGoes 10 (F0_bridgeAt 39 v3 m) (F0_aheadAt 39 v3 m) (F0_otherAt 39 v3 m) m).1) = 0 then (v2 : Int32) else v2 + 1) (v3 + 1) (if (F0_aheadAt 39 v3 m) = v1 then m else (if (F0_otherAt 39 v3 m) = v1 then m else (F1_passesAndGoes 10 (F0_bridgeAt 39 v3 m) (F0_aheadAt 39 v3 m) (F0_otherAt 39 v3 m) m).2)))))) := hD
    refine s_iload_n eX7_late_28 rfl rfl ?_
    refine s_aload_n eX7_late_29 rfl rfl ?_
    refine s_getr (q := 39) eX7_late_30 fX7_30 shp_0 rfl ?_
    refine s_geti eX7_late_33 fX7_258 shp_39 rfl ?_
    refine s_icmp_ge eX7_late_36 (fun h1 => ?_) (fun h1 => ?_)
    · skip
      rw [if_pos h1] at E
      rw [E] at hx
      exact hx
    · skip
      rw [if_neg h1] at E
      have hD := hD h1
      refine s_aload_n eX7_late_39 rfl rfl ?_
      refine s_getr (q := 39) eX7_late_40 fX7_30 shp_0 rfl ?_
      refine s_iload_n eX7_late_43 rfl rfl ?_
      refine n_callVi (As := [.int v3]) eX7_late_44 kX0_aheadAt lX7_265 rfl rfl shp_39 rfl rfl (Nat.le_of_ble_eq_true rfl) (Nat.le_of_ble_eq_true rfl) (Nat.le_of_ble_eq_true rfl) (uX0_aheadAt 39 v3 m isD_39) ?_
      refine s_iload_n eX7_late_47 rfl rfl ?_
      have J2 : ax_N 6 Y7_late 103 [some (.ref 0), some (.int v1), some (.int (if (F0_aheadAt 39 v3 m) = v1 then (v2 : Int32) else if (F0_otherAt 39 v3 m) = v1 then (v2 : Int32) else if ((F1_passesAndGoes 10 (F0_bridgeAt 39 v3 m) (F0_aheadAt 39 v3 m) (F0_otherAt 39 v3 m) m).1) = 0 then (v2 : Int32) else v2 + 1)), some (.int v3)] [] ((if (F0_aheadAt 39 v3 m) = v1 then m else (if (F0_otherAt 39 v3 m) = v1 then m else (F1_passesAndGoes 10 (F0_bridgeAt 39 v3 m) (F0_aheadAt 39 v3 m) (F0_otherAt 39 v3 m) m).2))) P := by
        refine s_iinc (v := v3 + 1) (ls' := [some (.ref 0), some (.int v1), some (.int (if (F0_aheadAt 39 v3 m) = v1 then (v2 : Int32) else if (F0_otherAt 39 v3 m) = v1 then (v2 : Int32) else if ((F1_passesAndGoes 10 (F0_bridgeAt 39 v3 m) (F0_aheadAt 39 v3 m) (F0_otherAt 39 v3 m) m).1) = 0 then (v2 : Int32) else v2 + 1)), some (.int (v3 + 1))]) eX7_late_103 rfl rfl rfl rfl ?_
        refine s_goto eX7_late_106 ?_
        rw [E] at hx
        exact ih v1 (if (F0_aheadAt 39 v3 m) = v1 then (v2 : Int32) else if (F0_otherAt 39 v3 m) = v1 then (v2 : Int32) else if ((F1_passesAndGoes 10 (F0_bridgeAt 39 v3 m) (F0_aheadAt 39 v3 m) (F0_otherAt 39 v3 m) m).1) = 0 then (v2 : Int32) else v2 + 1) (v3 + 1) ((if (F0_aheadAt 39 v3 m) = v1 then m else (if (F0_otherAt 39 v3 m) = v1 then m else (F1_passesAndGoes 10 (F0_bridgeAt 39 v3 m) (F0_aheadAt 39 v3 m) (F0_otherAt 39 v3 m) m).2))) hD hx
      refine s_icmp_eq eX7_late_48 (fun h3 => ?_) (fun h3 => ?_)
      · skip
        exact ax_eqN (by rw [show (if (F0_aheadAt 39 v3 m) = v1 then (v2 : Int32) else if (F0_otherAt 39 v3 m) = v1 then (v2 : Int32) else if ((F1_passesAndGoes 10 (F0_bridgeAt 39 v3 m) (F0_aheadAt 39 v3 m) (F0_otherAt 39 v3 m) m).1) = 0 then (v2 : Int32) else v2 + 1 : Int32) = v2 by rw [if_pos h3]]) rfl (by rw [show ((if (F0_aheadAt 39 v3 m) = v1 then m else (if (F0_otherAt 39 v3 m) = v1 then m else (F1_passesAndGoes 10 (F0_bridgeAt 39 v3 m) (F0_aheadAt 39 v3 m) (F0_otherAt 39 v3 m) m).2)) : ax_M) = m by rw [if_pos h3]]) J2
      · skip
        refine s_aload_n eX7_late_51 rfl rfl ?_
        refine s_getr (q := 39) eX7_late_52 fX7_30 shp_0 rfl ?_
        refine s_iload_n eX7_late_55 rfl rfl ?_
        refine n_callVi (As := [.int v3]) eX7_late_56 kX0_otherAt lX7_268 rfl rfl shp_39 rfl rfl (Nat.le_of_ble_eq_true rfl) (Nat.le_of_ble_eq_true rfl) (Nat.le_of_ble_eq_true rfl) (uX0_otherAt 39 v3 m isD_39) ?_
        refine s_iload_n eX7_late_59 rfl rfl ?_
        refine s_icmp_ne eX7_late_60 (fun h4 => ?_) (fun h4 => ?_)
        · skip
          refine s_aload_n eX7_late_66 rfl rfl ?_
          refine s_getr (q := 10) eX7_late_67 fX7_16 shp_0 rfl ?_
          refine s_aload_n eX7_late_70 rfl rfl ?_
          refine s_getr (q := 39) eX7_late_71 fX7_30 shp_0 rfl ?_
          refine s_iload_n eX7_late_74 rfl rfl ?_
          refine n_callVi (As := [.int v3]) eX7_late_75 kX0_bridgeAt lX7_262 rfl rfl shp_39 rfl rfl (Nat.le_of_ble_eq_true rfl) (Nat.le_of_ble_eq_true rfl) (Nat.le_of_ble_eq_true rfl) (uX0_bridgeAt 39 v3 m isD_39) ?_
          refine s_aload_n eX7_late_78 rfl rfl ?_
          refine s_getr (q := 39) eX7_late_79 fX7_30 shp_0 rfl ?_
          refine s_iload_n eX7_late_82 rfl rfl ?_
          refine n_callVi (As := [.int v3]) eX7_late_83 kX0_aheadAt lX7_265 rfl rfl shp_39 rfl rfl (Nat.le_of_ble_eq_true rfl) (Nat.le_of_ble_eq_true rfl) (Nat.le_of_ble_eq_true rfl) (uX0_aheadAt 39 v3 m isD_39) ?_
          refine s_aload_n eX7_late_86 rfl rfl ?_
          refine s_getr (q := 39) eX7_late_87 fX7_30 shp_0 rfl ?_
          refine s_iload_n eX7_late_90 rfl rfl ?_
          refine n_callVi (As := [.int v3]) eX7_late_91 kX0_otherAt lX7_268 rfl rfl shp_39 rfl rfl (Nat.le_of_ble_eq_true rfl) (Nat.le_of_ble_eq_true rfl) (Nat.le_of_ble_eq_true rfl) (uX0_otherAt 39 v3 m isD_39) ?_
          refine n_callVi (As := [.int (F0_bridgeAt 39 v3 m), .int (F0_aheadAt 39 v3 m), .int (F0_otherAt 39 v3 m)]) eX7_late_94 kX1_passesAndGoes lX7_271 rfl rfl shp_10 rfl rfl (Nat.le_of_ble_eq_true rfl) (Nat.le_of_ble_eq_true rfl) (Nat.le_of_ble_eq_true rfl) (uX1_passesAndGoes 10 (F0_bridgeAt 39 v3 m) (F0_aheadAt 39 v3 m) (F0_otherAt 39 v3 m) m isG_10) ?_
          refine s_if_eq eX7_late_97 (fun h5 => ?_) (fun h5 => ?_)
          · skip
            exact ax_eqN (by rw [show (if (F0_aheadAt 39 v3 m) = v1 then (v2 : Int32) else if (F0_otherAt 39 v3 m) = v1 then (v2 : Int32) else if ((F1_passesAndGoes 10 (F0_bridgeAt 39 v3 m) (F0_aheadAt 39 v3 m) (F0_otherAt 39 v3 m) m).1) = 0 then (v2 : Int32) else v2 + 1 : Int32) = v2 by rw [if_neg h3, if_neg h4, if_pos h5]]) rfl (by rw [show ((if (F0_aheadAt 39 v3 m) = v1 then m else (if (F0_otherAt 39 v3 m) = v1 then m else (F1_passesAndGoes 10 (F0_bridgeAt 39 v3 m) (F0_aheadAt 39 v3 m) (F0_otherAt 39 v3 m) m).2)) : ax_M) = (F1_passesAndGoes 10 (F0_bridgeAt 39 v3 m) (F0_aheadAt 39 v3 m) (F0_otherAt 39 v3 m) m).2 by rw [if_neg h3, if_neg h4]]) J2
          · skip
            refine s_iinc (v := v2 + 1) (ls' := [some (.ref 0), some (.int v1), some (.int (v2 + 1)), some (.int v3)]) eX7_late_100 rfl rfl rfl rfl ?_
            exact ax_eqN (by rw [show (if (F0_aheadAt 39 v3 m) = v1 then (v2 : Int32) else if (F0_otherAt 39 v3 m) = v1 then (v2 : Int32) else if ((F1_passesAndGoes 10 (F0_bridgeAt 39 v3 m) (F0_aheadAt 39 v3 m) (F0_otherAt 39 v3 m) m).1) = 0 then (v2 : Int32) else v2 + 1 : Int32) = v2 + 1 by rw [if_neg h3, if_neg h4, if_neg h5]]) rfl (by rw [show ((if (F0_aheadAt 39 v3 m) = v1 then m else (if (F0_otherAt 39 v3 m) = v1 then m else (F1_passesAndGoes 10 (F0_bridgeAt 39 v3 m) (F0_aheadAt 39 v3 m) (F0_otherAt 39 v3 m) m).2)) : ax_M) = (F1_passesAndGoes 10 (F0_bridgeAt 39 v3 m) (F0_aheadAt 39 v3 m) (F0_otherAt 39 v3 m) m).2 by rw [if_neg h3, if_neg h4]]) J2
        · skip
          refine s_goto eX7_late_63 ?_
          exact ax_eqN (by rw [show (if (F0_aheadAt 39 v3 m) = v1 then (v2 : Int32) else if (F0_otherAt 39 v3 m) = v1 then (v2 : Int32) else if ((F1_passesAndGoes 10 (F0_bridgeAt 39 v3 m) (F0_aheadAt 39 v3 m) (F0_otherAt 39 v3 m) m).1) = 0 then (v2 : Int32) else v2 + 1 : Int32) = v2 by rw [if_neg h3, if_pos h4]]) rfl (by rw [show ((if (F0_aheadAt 39 v3 m) = v1 then m else (if (F0_otherAt 39 v3 m) = v1 then m else (F1_passesAndGoes 10 (F0_bridgeAt 39 v3 m) (F0_aheadAt 39 v3 m) (F0_otherAt 39 v3 m) m).2)) : ax_M) = m by rw [if_neg h3, if_pos h4]]) J2
theorem uX7_late (a1 : Int32) (m : ax_M) (hD : D7_late a1 m) : ax_NM 6 Y7_late [.ref 0, .int a1] m (fun r m1 => r = some (.int (F7_late a1 m).1) ∧ m1 = (F7_late a1 m).2) := by
  have E : F7_late a1 m = (if (F1_hasOne 1 a1 m) = 0 then ((-1), m) else ((L7_late_28 64 a1 0 0 (F1_copyFrom 10 1 m)).1, (L7_late_28 64 a1 0 0 (F1_copyFrom 10 1 m)).2.2)) := rfl
  unfold D7_late at hD
  show ax_N 6 Y7_late 0 [some (.ref 0), some (.int a1), none, none] [] m _
  refine s_aload_n eX7_late_0 rfl rfl ?_
  refine s_getr (q := 1) eX7_late_1 fX7_10 shp_0 rfl ?_
  refine s_iload_n eX7_late_4 rfl rfl ?_
  refine n_callVi (As := [.int a1]) eX7_late_5 kX1_hasOne lX7_135 rfl rfl shp_1 rfl rfl (Nat.le_of_ble_eq_true rfl) (Nat.le_of_ble_eq_true rfl) (Nat.le_of_ble_eq_true rfl) (uX1_hasOne 1 a1 m isG_1) ?_
  refine s_if_ne eX7_late_8 (fun h1 => ?_) (fun h1 => ?_)
  · skip
    rw [if_neg h1] at E
    have hD := hD h1
    refine s_aload_n eX7_late_13 rfl rfl ?_
    refine s_getr (q := 10) eX7_late_14 fX7_16 shp_0 rfl ?_
    refine s_aload_n eX7_late_17 rfl rfl ?_
    refine s_getr (q := 1) eX7_late_18 fX7_10 shp_0 rfl ?_
    refine n_callVv (As := [.ref 1]) eX7_late_21 kX1_copyFrom lX7_96 rfl rfl shp_10 rfl rfl (Nat.le_of_ble_eq_true rfl) (Nat.le_of_ble_eq_true rfl) (Nat.le_of_ble_eq_true rfl) (uX1_copyFrom 10 1 m isG_10 isG_1) ?_
    refine s_iconst (v := 0) eX7_late_24 rfl ?_
    refine s_istore_n (ls' := [some (.ref 0), some (.int a1), some (.int 0), none]) eX7_late_25 rfl rfl rfl ?_
    refine s_iconst (v := 0) eX7_late_26 rfl ?_
    refine s_istore_n (ls' := [some (.ref 0), some (.int a1), some (.int 0), some (.int 0)]) eX7_late_27 rfl rfl rfl ?_
    have q2 := hD
    refine clX7_late_28 64 a1 0 0 ((F1_copyFrom 10 1 m)) q2 ?_
    refine s_iload_n eX7_late_109 rfl rfl ?_
    exact s_iret eX7_late_110 rfl ⟨rfl, by rw [E], by rw [E]⟩
  · skip
    rw [if_pos h1] at E
    refine s_iconst (v := (-1)) eX7_late_11 rfl ?_
    exact s_iret eX7_late_12 rfl ⟨rfl, by rw [E], by rw [E]⟩
theorem uX7_isKept (a1 : Int32) (m : ax_M) (hD : D7_isKept a1 m) : ax_NM 0 Y7_isKept [.ref 0, .int a1] m (fun r m1 => r = some (.int (F7_isKept a1 m)) ∧ m1 = m) := by
  have E : F7_isKept a1 m = (if a1 < 0 then 0 else (if 2 ≤ a1 then 0 else (if (m 38 (Int32.toNatClampNeg a1)) = 0 then 0 else 1))) := rfl
  unfold D7_isKept at hD
  show ax_N 0 Y7_isKept 0 [some (.ref 0), some (.int a1)] [] m _
  refine s_iload_n eX7_isKept_0 rfl rfl ?_
  refine s_if_lt eX7_isKept_1 (fun h1 => ?_) (fun h1 => ?_)
  · skip
    rw [if_pos h1] at E
    refine s_iconst (v := 0) eX7_isKept_26 rfl ?_
    exact s_zret eX7_isKept_27 rfl (by first | exact Or.inl rfl | exact Or.inr rfl | (split <;> simp) | simp) ⟨rfl, by rw [E], rfl⟩
  · skip
    rw [if_neg h1] at E
    have hD := hD h1
    refine s_iload_n eX7_isKept_4 rfl rfl ?_
    refine s_aload_n eX7_isKept_5 rfl rfl ?_
    refine s_getr (q := 38) eX7_isKept_6 fX7_23 shp_0 rfl ?_
    refine s_alen (v := 2) eX7_isKept_9 shp_38 rfl ?_
    refine s_icmp_ge eX7_isKept_10 (fun h2 => ?_) (fun h2 => ?_)
    · skip
      rw [if_pos h2] at E
      refine s_iconst (v := 0) eX7_isKept_26 rfl ?_
      exact s_zret eX7_isKept_27 rfl (by first | exact Or.inl rfl | exact Or.inr rfl | (split <;> simp) | simp) ⟨rfl, by rw [E], rfl⟩
    · skip
      rw [if_neg h2] at E
      have hD := hD h2
      refine s_aload_n eX7_isKept_13 rfl rfl ?_
      refine s_getr (q := 38) eX7_isKept_14 fX7_23 shp_0 rfl ?_
      refine s_iload_n eX7_isKept_17 rfl rfl ?_
      have q3 := hD
      refine s_zald eX7_isKept_18 shp_38 q3 ?_
      refine s_if_eq eX7_isKept_19 (fun h4 => ?_) (fun h4 => ?_)
      · skip
        rw [if_pos h4] at E
        refine s_iconst (v := 0) eX7_isKept_26 rfl ?_
        exact s_zret eX7_isKept_27 rfl (by first | exact Or.inl rfl | exact Or.inr rfl | (split <;> simp) | simp) ⟨rfl, by rw [E], rfl⟩
      · skip
        rw [if_neg h4] at E
        refine s_iconst (v := 1) eX7_isKept_22 rfl ?_
        refine s_goto eX7_isKept_23 ?_
        exact s_zret eX7_isKept_27 rfl (by first | exact Or.inl rfl | exact Or.inr rfl | (split <;> simp) | simp) ⟨rfl, by rw [E], rfl⟩
theorem ax_kept {a1 : Int32} {m : ax_M} (h : ¬ F7_isKept a1 m = 0) : ¬ a1 < 0 ∧ ¬ 2 ≤ a1 := by
  unfold F7_isKept at h
  by_cases h1 : a1 < 0
  · rw [if_pos h1] at h; exact absurd rfl h
  · rw [if_neg h1] at h
    by_cases h2 : 2 ≤ a1
    · rw [if_pos h2] at h; exact absurd rfl h
    · exact ⟨h1, h2⟩
theorem uX7_imageAt (a1 : Int32) (m : ax_M) (hD : D7_isKept a1 m) : ax_NM 1 Y7_imageAt [.ref 0, .int a1] m (fun r m1 => r = some (F7_imageAt a1 m) ∧ m1 = m) := by
  show ax_N 1 Y7_imageAt 0 [some (.ref 0), some (.int a1)] [] m _
  have E : F7_imageAt a1 m = (if F7_isKept a1 m = 0 then .null else if a1 = 0 then .ref 20 else .ref 29) := rfl
  refine s_aload_n eX7_imageAt_0 rfl rfl ?_
  refine s_iload_n eX7_imageAt_1 rfl rfl ?_
  refine n_callVi (As := [.int a1]) eX7_imageAt_2 kX7_isKept lX7_297 rfl rfl shp_0 rfl rfl (Nat.le_of_ble_eq_true rfl) (Nat.le_of_ble_eq_true rfl) (Nat.le_of_ble_eq_true rfl) (uX7_isKept a1 m hD) ?_
  refine s_if_eq eX7_imageAt_5 (fun h => ?_) (fun h => ?_)
  · rw [if_pos h] at E
    refine s_null eX7_imageAt_26 ?_
    exact s_aret eX7_imageAt_27 rfl (Or.inl rfl) ⟨rfl, by rw [E], rfl⟩
  · rw [if_neg h] at E
    obtain ⟨h1, h2⟩ := ax_kept h
    refine s_iload_n eX7_imageAt_8 rfl rfl ?_
    refine s_aload_n eX7_imageAt_9 rfl rfl ?_
    refine s_getr (q := 19) eX7_imageAt_10 fX7_19 shp_0 rfl ?_
    refine s_alen (v := 2) eX7_imageAt_13 shp_19 rfl ?_
    refine s_icmp_ge eX7_imageAt_14 (fun h3 => absurd h3 h2) (fun _ => ?_)
    refine s_aload_n eX7_imageAt_17 rfl rfl ?_
    refine s_getr (q := 19) eX7_imageAt_18 fX7_19 shp_0 rfl ?_
    refine s_iload_n eX7_imageAt_21 rfl rfl ?_
    refine n_img eX7_imageAt_22 (ax_vp (n := 2) (by decide) h1 h2) (fun h4 => ?_) (fun h4 => ?_)
    · rw [if_pos h4] at E
      refine s_goto eX7_imageAt_23 ?_
      exact s_aret eX7_imageAt_27 rfl (Or.inr ⟨_, rfl⟩) ⟨rfl, by rw [E], rfl⟩
    · rw [if_neg h4] at E
      refine s_goto eX7_imageAt_23 ?_
      exact s_aret eX7_imageAt_27 rfl (Or.inr ⟨_, rfl⟩) ⟨rfl, by rw [E], rfl⟩
theorem n_imageAt {d : Nat} {y : ax_Y} {pc pc1 idx : Nat} {ls : ax_L} {st : List Value} {m : ax_M} {P : Option Value → ax_M → Prop} {a : Int32} (hd : ax_dc y pc (.invokevirtual idx) 3 pc1) (hm : ax_mv y.1.cls idx Y7_imageAt 1) (hD : D7_isKept a m) (hw : (st.map fun v => v.category).sum ≤ 8) (hdd : 2 ≤ d) (kt : F7_isKept a m = 0 → ax_N d y pc1 ls (.null :: st) m P) (kf : ¬ F7_isKept a m = 0 → (a = 0 → ax_N d y pc1 ls (.ref 20 :: st) m P) ∧ (¬ a = 0 → ax_N d y pc1 ls (.ref 29 :: st) m P)) : ax_N d y pc ls (.int a :: .ref 0 :: st) m P := by
  refine n_callVi (As := [.int a]) (v := F7_imageAt a m) hd kX7_imageAt hm rfl rfl shp_0 rfl rfl hw hdd (Nat.le_of_ble_eq_true rfl) (uX7_imageAt a m hD) ?_
  unfold F7_imageAt
  by_cases h : F7_isKept a m = 0
  · rw [if_pos h]; exact kt h
  · rw [if_neg h]
    by_cases h2 : a = 0
    · rw [if_pos h2]; exact (kf h).1 h2
    · rw [if_neg h2]; exact (kf h).2 h2
