/-! X7_play X7_weigh X7_send X7_feast X7_can X7_cross X7_balance X7_fellows X7_asksOne X7_errands X7_heaved X7_worth -/
theorem uX7_play (a1 : Int32) (a2 : Int32) (m : ax_M) : ax_NM 2 Y7_play [.ref 0, .int a1, .int a2] m (fun r m1 => r = some (.int (F7_play a1 a2 m).1) ∧ m1 = (F7_play a1 a2 m).2) := by
  have E : F7_play a1 a2 m = (if (F1_hasBridge 1 a1 m) = 0 then ((-1), m) else (if (F7_within a2 0 20 m) = 0 then ((-1), m) else (F1_playOf 1 a1 m, (F7_put 5 4 a1 a2 m)))) := rfl
  show ax_N 2 Y7_play 0 [some (.ref 0), some (.int a1), some (.int a2), none] [] m _
  refine s_aload_n eX7_play_0 rfl rfl ?_
  refine s_getr (q := 1) eX7_play_1 fX7_10 shp_0 rfl ?_
  refine s_iload_n eX7_play_4 rfl rfl ?_
  refine n_callVi (As := [.int a1]) eX7_play_5 kX1_hasBridge lX7_121 rfl rfl shp_1 rfl rfl (Nat.le_of_ble_eq_true rfl) (Nat.le_of_ble_eq_true rfl) (Nat.le_of_ble_eq_true rfl) (uX1_hasBridge 1 a1 m isG_1) ?_
  refine s_if_eq eX7_play_8 (fun h1 => ?_) (fun h1 => ?_)
  · skip
    rw [if_pos h1] at E
    refine s_iconst (v := (-1)) eX7_play_21 rfl ?_
    exact s_iret eX7_play_22 rfl ⟨rfl, by rw [E], by rw [E]⟩
  · skip
    rw [if_neg h1] at E
    refine s_iload_n eX7_play_11 rfl rfl ?_
    refine s_iconst (v := 0) eX7_play_12 rfl ?_
    refine s_bipush (v := 20) eX7_play_13 rfl ?_
    refine n_callSi (As := [.int a2, .int 0, .int 20]) eX7_play_15 kX7_within lX7_76 rfl rfl (Nat.le_of_ble_eq_true rfl) (Nat.le_of_ble_eq_true rfl) (Nat.le_of_ble_eq_true rfl) (uX7_within a2 0 20 m) ?_
    refine s_if_ne eX7_play_18 (fun h2 => ?_) (fun h2 => ?_)
    · skip
      rw [if_neg h2] at E
      refine s_aload_n eX7_play_23 rfl rfl ?_
      refine s_getr (q := 1) eX7_play_24 fX7_10 shp_0 rfl ?_
      refine s_iload_n eX7_play_27 rfl rfl ?_
      refine n_callVi (As := [.int a1]) eX7_play_28 kX1_playOf lX7_132 rfl rfl shp_1 rfl rfl (Nat.le_of_ble_eq_true rfl) (Nat.le_of_ble_eq_true rfl) (Nat.le_of_ble_eq_true rfl) (uX1_playOf 1 a1 m isG_1) ?_
      refine s_istore_n (ls' := [some (.ref 0), some (.int a1), some (.int a2), some (.int (F1_playOf 1 a1 m))]) eX7_play_31 rfl rfl rfl ?_
      refine s_aload_n eX7_play_32 rfl rfl ?_
      refine s_getr (q := 1) eX7_play_33 fX7_10 shp_0 rfl ?_
      refine s_getr (q := 5) eX7_play_36 fX7_160 shp_1 rfl ?_
      refine s_iload_n eX7_play_39 rfl rfl ?_
      refine s_iload_n eX7_play_40 rfl rfl ?_
      refine n_callSv (As := [.ref 5, .int a1, .int a2]) eX7_play_41 kX7_put lX7_164 rfl rfl (Nat.le_of_ble_eq_true rfl) (Nat.le_of_ble_eq_true rfl) (Nat.le_of_ble_eq_true rfl) (uX7_put 5 4 a1 a2 m shp_5) ?_
      refine s_iload_n eX7_play_44 rfl rfl ?_
      exact s_iret eX7_play_45 rfl ⟨rfl, by rw [E], by rw [E]⟩
    · skip
      rw [if_pos h2] at E
      refine s_iconst (v := (-1)) eX7_play_21 rfl ?_
      exact s_iret eX7_play_22 rfl ⟨rfl, by rw [E], by rw [E]⟩
theorem uX7_weigh (a1 : Int32) (a2 : Int32) (m : ax_M) : ax_NM 2 Y7_weigh [.ref 0, .int a1, .int a2] m (fun r m1 => r = some (.int (F7_weigh a1 a2 m).1) ∧ m1 = (F7_weigh a1 a2 m).2) := by
  have E : F7_weigh a1 a2 m = (if (F1_hasOne 1 a1 m) = 0 then ((-1), m) else (if (F7_within a2 1 99 m) = 0 then ((-1), m) else (F1_weightOf 1 a1 m, (F7_put 7 6 a1 a2 m)))) := rfl
  show ax_N 2 Y7_weigh 0 [some (.ref 0), some (.int a1), some (.int a2), none] [] m _
  refine s_aload_n eX7_weigh_0 rfl rfl ?_
  refine s_getr (q := 1) eX7_weigh_1 fX7_10 shp_0 rfl ?_
  refine s_iload_n eX7_weigh_4 rfl rfl ?_
  refine n_callVi (As := [.int a1]) eX7_weigh_5 kX1_hasOne lX7_135 rfl rfl shp_1 rfl rfl (Nat.le_of_ble_eq_true rfl) (Nat.le_of_ble_eq_true rfl) (Nat.le_of_ble_eq_true rfl) (uX1_hasOne 1 a1 m isG_1) ?_
  refine s_if_eq eX7_weigh_8 (fun h1 => ?_) (fun h1 => ?_)
  · skip
    rw [if_pos h1] at E
    refine s_iconst (v := (-1)) eX7_weigh_21 rfl ?_
    exact s_iret eX7_weigh_22 rfl ⟨rfl, by rw [E], by rw [E]⟩
  · skip
    rw [if_neg h1] at E
    refine s_iload_n eX7_weigh_11 rfl rfl ?_
    refine s_iconst (v := 1) eX7_weigh_12 rfl ?_
    refine s_bipush (v := 99) eX7_weigh_13 rfl ?_
    refine n_callSi (As := [.int a2, .int 1, .int 99]) eX7_weigh_15 kX7_within lX7_76 rfl rfl (Nat.le_of_ble_eq_true rfl) (Nat.le_of_ble_eq_true rfl) (Nat.le_of_ble_eq_true rfl) (uX7_within a2 1 99 m) ?_
    refine s_if_ne eX7_weigh_18 (fun h2 => ?_) (fun h2 => ?_)
    · skip
      rw [if_neg h2] at E
      refine s_aload_n eX7_weigh_23 rfl rfl ?_
      refine s_getr (q := 1) eX7_weigh_24 fX7_10 shp_0 rfl ?_
      refine s_iload_n eX7_weigh_27 rfl rfl ?_
      refine n_callVi (As := [.int a1]) eX7_weigh_28 kX1_weightOf lX7_141 rfl rfl shp_1 rfl rfl (Nat.le_of_ble_eq_true rfl) (Nat.le_of_ble_eq_true rfl) (Nat.le_of_ble_eq_true rfl) (uX1_weightOf 1 a1 m isG_1) ?_
      refine s_istore_n (ls' := [some (.ref 0), some (.int a1), some (.int a2), some (.int (F1_weightOf 1 a1 m))]) eX7_weigh_31 rfl rfl rfl ?_
      refine s_aload_n eX7_weigh_32 rfl rfl ?_
      refine s_getr (q := 1) eX7_weigh_33 fX7_10 shp_0 rfl ?_
      refine s_getr (q := 7) eX7_weigh_36 fX7_168 shp_1 rfl ?_
      refine s_iload_n eX7_weigh_39 rfl rfl ?_
      refine s_iload_n eX7_weigh_40 rfl rfl ?_
      refine n_callSv (As := [.ref 7, .int a1, .int a2]) eX7_weigh_41 kX7_put lX7_164 rfl rfl (Nat.le_of_ble_eq_true rfl) (Nat.le_of_ble_eq_true rfl) (Nat.le_of_ble_eq_true rfl) (uX7_put 7 6 a1 a2 m shp_7) ?_
      refine s_iload_n eX7_weigh_44 rfl rfl ?_
      exact s_iret eX7_weigh_45 rfl ⟨rfl, by rw [E], by rw [E]⟩
    · skip
      rw [if_pos h2] at E
      refine s_iconst (v := (-1)) eX7_weigh_21 rfl ?_
      exact s_iret eX7_weigh_22 rfl ⟨rfl, by rw [E], by rw [E]⟩
theorem uX7_send (a1 : Int32) (a2 : Int32) (a3 : Int32) (m : ax_M) : ax_NM 2 Y7_send [.ref 0, .int a1, .int a2, .int a3] m (fun r m1 => r = some (.int (F7_send a1 a2 a3 m).1) ∧ m1 = (F7_send a1 a2 a3 m).2) := by
  have E : F7_send a1 a2 a3 m = (if (F1_hasOne 1 a1 m) = 0 then ((-1), m) else (if (F1_hasBank 1 a2 m) = 0 then ((-1), m) else (if (F1_hasBank 1 a3 m) = 0 then ((-1), m) else (F1_bankOf 1 a1 m, (F7_put 9 6 a1 a3 (F7_put 8 6 a1 a2 m)))))) := rfl
  show ax_N 2 Y7_send 0 [some (.ref 0), some (.int a1), some (.int a2), some (.int a3), none] [] m _
  refine s_aload_n eX7_send_0 rfl rfl ?_
  refine s_getr (q := 1) eX7_send_1 fX7_10 shp_0 rfl ?_
  refine s_iload_n eX7_send_4 rfl rfl ?_
  refine n_callVi (As := [.int a1]) eX7_send_5 kX1_hasOne lX7_135 rfl rfl shp_1 rfl rfl (Nat.le_of_ble_eq_true rfl) (Nat.le_of_ble_eq_true rfl) (Nat.le_of_ble_eq_true rfl) (uX1_hasOne 1 a1 m isG_1) ?_
  refine s_if_eq eX7_send_8 (fun h1 => ?_) (fun h1 => ?_)
  · skip
    rw [if_pos h1] at E
    refine s_iconst (v := (-1)) eX7_send_33 rfl ?_
    exact s_iret eX7_send_34 rfl ⟨rfl, by rw [E], by rw [E]⟩
  · skip
    rw [if_neg h1] at E
    refine s_aload_n eX7_send_11 rfl rfl ?_
    refine s_getr (q := 1) eX7_send_12 fX7_10 shp_0 rfl ?_
    refine s_iload_n eX7_send_15 rfl rfl ?_
    refine n_callVi (As := [.int a2]) eX7_send_16 kX1_hasBank lX7_150 rfl rfl shp_1 rfl rfl (Nat.le_of_ble_eq_true rfl) (Nat.le_of_ble_eq_true rfl) (Nat.le_of_ble_eq_true rfl) (uX1_hasBank 1 a2 m isG_1) ?_
    refine s_if_eq eX7_send_19 (fun h2 => ?_) (fun h2 => ?_)
    · skip
      rw [if_pos h2] at E
      refine s_iconst (v := (-1)) eX7_send_33 rfl ?_
      exact s_iret eX7_send_34 rfl ⟨rfl, by rw [E], by rw [E]⟩
    · skip
      rw [if_neg h2] at E
      refine s_aload_n eX7_send_22 rfl rfl ?_
      refine s_getr (q := 1) eX7_send_23 fX7_10 shp_0 rfl ?_
      refine s_iload_n eX7_send_26 rfl rfl ?_
      refine n_callVi (As := [.int a3]) eX7_send_27 kX1_hasBank lX7_150 rfl rfl shp_1 rfl rfl (Nat.le_of_ble_eq_true rfl) (Nat.le_of_ble_eq_true rfl) (Nat.le_of_ble_eq_true rfl) (uX1_hasBank 1 a3 m isG_1) ?_
      refine s_if_ne eX7_send_30 (fun h3 => ?_) (fun h3 => ?_)
      · skip
        rw [if_neg h3] at E
        refine s_aload_n eX7_send_35 rfl rfl ?_
        refine s_getr (q := 1) eX7_send_36 fX7_10 shp_0 rfl ?_
        refine s_iload_n eX7_send_39 rfl rfl ?_
        refine n_callVi (As := [.int a1]) eX7_send_40 kX1_bankOf lX7_144 rfl rfl shp_1 rfl rfl (Nat.le_of_ble_eq_true rfl) (Nat.le_of_ble_eq_true rfl) (Nat.le_of_ble_eq_true rfl) (uX1_bankOf 1 a1 m isG_1) ?_
        refine s_istore (ls' := [some (.ref 0), some (.int a1), some (.int a2), some (.int a3), some (.int (F1_bankOf 1 a1 m))]) eX7_send_43 rfl rfl ?_
        refine s_aload_n eX7_send_45 rfl rfl ?_
        refine s_getr (q := 1) eX7_send_46 fX7_10 shp_0 rfl ?_
        refine s_getr (q := 8) eX7_send_49 fX7_171 shp_1 rfl ?_
        refine s_iload_n eX7_send_52 rfl rfl ?_
        refine s_iload_n eX7_send_53 rfl rfl ?_
        refine n_callSv (As := [.ref 8, .int a1, .int a2]) eX7_send_54 kX7_put lX7_164 rfl rfl (Nat.le_of_ble_eq_true rfl) (Nat.le_of_ble_eq_true rfl) (Nat.le_of_ble_eq_true rfl) (uX7_put 8 6 a1 a2 m shp_8) ?_
        refine s_aload_n eX7_send_57 rfl rfl ?_
        refine s_getr (q := 1) eX7_send_58 fX7_10 shp_0 rfl ?_
        refine s_getr (q := 9) eX7_send_61 fX7_174 shp_1 rfl ?_
        refine s_iload_n eX7_send_64 rfl rfl ?_
        refine s_iload_n eX7_send_65 rfl rfl ?_
        refine n_callSv (As := [.ref 9, .int a1, .int a3]) eX7_send_66 kX7_put lX7_164 rfl rfl (Nat.le_of_ble_eq_true rfl) (Nat.le_of_ble_eq_true rfl) (Nat.le_of_ble_eq_true rfl) (uX7_put 9 6 a1 a3 ((F7_put 8 6 a1 a2 m)) shp_9) ?_
        refine s_iload eX7_send_69 rfl ?_
        exact s_iret eX7_send_71 rfl ⟨rfl, by rw [E], by rw [E]⟩
      · skip
        rw [if_pos h3] at E
        refine s_iconst (v := (-1)) eX7_send_33 rfl ?_
        exact s_iret eX7_send_34 rfl ⟨rfl, by rw [E], by rw [E]⟩
theorem clX7_feast_29 {P : Option Value → ax_M → Prop} : ∀ (n : Nat) (v1 v2 v3 v4 : Int32) (m : ax_M), E7_feast_29 n v1 v2 v3 v4 m → (ax_N 2 Y7_feast 102 [some (.ref 0), some (.int v1), some (.int v2), some (.int ((L7_feast_29 n v1 v2 v3 v4 m).1)), some (.int ((L7_feast_29 n v1 v2 v3 v4 m).2.1)), none] [] ((L7_feast_29 n v1 v2 v3 v4 m).2.2) P) → ax_N 2 Y7_feast 29 [some (.ref 0), some (.int v1), some (.int v2), some (.int v3), some (.int v4), none] [] m P := by
  intro n
  induction n with
  | zero => intro v1 v2 v3 v4 m hD; exact absurd hD id
  | succ n ih =>
    intro v1 v2 v3 v4 m hD hx
    have E : L7_feast_29 (n + 1) v1 v2 v3 v4 m = (if (m 1 2) ≤ v4 then (v3, v4, m) else L7_feast_29 n v1 v2 (if (F1_bankOf 1 v4 m) = v1 then (v3 + 1 : Int32) else v3) (v4 + 1) (if (F1_bankOf 1 v4 m) = v1 then (F7_put 7 6 v4 (if 1 < if (F1_weightOf 1 v4 m) + v2 < 99 then (F1_weightOf 1 v4 m) + v2 else 99 then if (F1_weightOf 1 v4 m) + v2 < 99 then (F1_weightOf 1 v4 m) + v2 else 99 else 1) m) else m)) := by rw [L7_feast_29]
    have hD : ((¬ ((m 1 2) ≤ v4) → ((E7_feast_29 n v1 v2 (if (F1_bankOf 1 v4 m) = v1 then (v3 + 1 : Int32) else v3) (v4 + 1) (if (F1_bankOf 1 v4 m) = v1 then (F7_put 7 6 v4 (if 1 < if (F1_weightOf 1 v4 m) + v2 < 99 then (F1_weightOf 1 v4 m) + v2 else 99 then if (F1_weightOf 1 v4 m) + v2 < 99 then (F1_weightOf 1 v4 m) + v2 else 99 else 1) m) else m))))) := hD
    refine s_iload eX7_feast_29 rfl ?_
    refine s_aload_n eX7_feast_31 rfl rfl ?_
    refine s_getr (q := 1) eX7_feast_32 fX7_10 shp_0 rfl ?_
    refine s_geti eX7_feast_35 fX7_112 shp_1 rfl ?_
    refine s_icmp_ge eX7_feast_38 (fun h1 => ?_) (fun h1 => ?_)
    · skip
      rw [if_pos h1] at E
      rw [E] at hx
      exact hx
    · skip
      rw [if_neg h1] at E
      have hD := hD h1
      refine s_aload_n eX7_feast_41 rfl rfl ?_
      refine s_getr (q := 1) eX7_feast_42 fX7_10 shp_0 rfl ?_
      refine s_iload eX7_feast_45 rfl ?_
      refine n_callVi (As := [.int v4]) eX7_feast_47 kX1_bankOf lX7_144 rfl rfl shp_1 rfl rfl (Nat.le_of_ble_eq_true rfl) (Nat.le_of_ble_eq_true rfl) (Nat.le_of_ble_eq_true rfl) (uX1_bankOf 1 v4 m isG_1) ?_
      refine s_iload_n eX7_feast_50 rfl rfl ?_
      have J2 : ax_N 2 Y7_feast 96 [some (.ref 0), some (.int v1), some (.int v2), some (.int (if (F1_bankOf 1 v4 m) = v1 then (v3 + 1 : Int32) else v3)), some (.int v4), none] [] ((if (F1_bankOf 1 v4 m) = v1 then (F7_put 7 6 v4 (if 1 < if (F1_weightOf 1 v4 m) + v2 < 99 then (F1_weightOf 1 v4 m) + v2 else 99 then if (F1_weightOf 1 v4 m) + v2 < 99 then (F1_weightOf 1 v4 m) + v2 else 99 else 1) m) else m)) P := by
        refine s_iinc (v := v4 + 1) (ls' := [some (.ref 0), some (.int v1), some (.int v2), some (.int (if (F1_bankOf 1 v4 m) = v1 then (v3 + 1 : Int32) else v3)), some (.int (v4 + 1)), none]) eX7_feast_96 rfl rfl rfl rfl ?_
        refine s_goto eX7_feast_99 ?_
        rw [E] at hx
        exact ih v1 v2 (if (F1_bankOf 1 v4 m) = v1 then (v3 + 1 : Int32) else v3) (v4 + 1) ((if (F1_bankOf 1 v4 m) = v1 then (F7_put 7 6 v4 (if 1 < if (F1_weightOf 1 v4 m) + v2 < 99 then (F1_weightOf 1 v4 m) + v2 else 99 then if (F1_weightOf 1 v4 m) + v2 < 99 then (F1_weightOf 1 v4 m) + v2 else 99 else 1) m) else m)) hD hx
      refine s_icmp_eq eX7_feast_51 (fun h3 => ?_) (fun h3 => ?_)
      · skip
        refine s_iinc (v := v3 + 1) (ls' := [some (.ref 0), some (.int v1), some (.int v2), some (.int (v3 + 1)), some (.int v4), none]) eX7_feast_57 rfl rfl rfl rfl ?_
        refine s_aload_n eX7_feast_60 rfl rfl ?_
        refine s_getr (q := 1) eX7_feast_61 fX7_10 shp_0 rfl ?_
        refine s_iload eX7_feast_64 rfl ?_
        refine n_callVi (As := [.int v4]) eX7_feast_66 kX1_weightOf lX7_141 rfl rfl shp_1 rfl rfl (Nat.le_of_ble_eq_true rfl) (Nat.le_of_ble_eq_true rfl) (Nat.le_of_ble_eq_true rfl) (uX1_weightOf 1 v4 m isG_1) ?_
        refine s_iload_n eX7_feast_69 rfl rfl ?_
        refine s_iadd eX7_feast_70 ?_
        refine s_istore (ls' := [some (.ref 0), some (.int v1), some (.int v2), some (.int (v3 + 1)), some (.int v4), some (.int ((F1_weightOf 1 v4 m) + v2))]) eX7_feast_71 rfl rfl ?_
        refine s_aload_n eX7_feast_73 rfl rfl ?_
        refine s_getr (q := 1) eX7_feast_74 fX7_10 shp_0 rfl ?_
        refine s_getr (q := 7) eX7_feast_77 fX7_168 shp_1 rfl ?_
        refine s_iload eX7_feast_80 rfl ?_
        refine s_iconst (v := 1) eX7_feast_82 rfl ?_
        refine s_bipush (v := 99) eX7_feast_83 rfl ?_
        refine s_iload eX7_feast_85 rfl ?_
        refine s_min eX7_feast_87 lX7_177 wM_min (Nat.le_of_ble_eq_true rfl) (Nat.le_of_ble_eq_true rfl) ?_
        refine s_max eX7_feast_90 lX7_183 wM_max (Nat.le_of_ble_eq_true rfl) (Nat.le_of_ble_eq_true rfl) ?_
        refine n_callSv (As := [.ref 7, .int v4, .int (if 1 < if (F1_weightOf 1 v4 m) + v2 < 99 then (F1_weightOf 1 v4 m) + v2 else 99 then if (F1_weightOf 1 v4 m) + v2 < 99 then (F1_weightOf 1 v4 m) + v2 else 99 else 1)]) eX7_feast_93 kX7_put lX7_164 rfl rfl (Nat.le_of_ble_eq_true rfl) (Nat.le_of_ble_eq_true rfl) (Nat.le_of_ble_eq_true rfl) (uX7_put 7 6 v4 (if 1 < if (F1_weightOf 1 v4 m) + v2 < 99 then (F1_weightOf 1 v4 m) + v2 else 99 then if (F1_weightOf 1 v4 m) + v2 < 99 then (F1_weightOf 1 v4 m) + v2 else 99 else 1) m shp_7) ?_
        refine ax_forget (ls' := [some (.ref 0), some (.int v1), some (.int v2), some (.int (v3 + 1)), some (.int v4), none]) rfl ?_
        exact ax_eqN (by rw [show (if (F1_bankOf 1 v4 m) = v1 then (v3 + 1 : Int32) else v3 : Int32) = v3 + 1 by rw [if_pos h3]]) rfl (by rw [show ((if (F1_bankOf 1 v4 m) = v1 then (F7_put 7 6 v4 (if 1 < if (F1_weightOf 1 v4 m) + v2 < 99 then (F1_weightOf 1 v4 m) + v2 else 99 then if (F1_weightOf 1 v4 m) + v2 < 99 then (F1_weightOf 1 v4 m) + v2 else 99 else 1) m) else m) : ax_M) = (F7_put 7 6 v4 (if 1 < if (F1_weightOf 1 v4 m) + v2 < 99 then (F1_weightOf 1 v4 m) + v2 else 99 then if (F1_weightOf 1 v4 m) + v2 < 99 then (F1_weightOf 1 v4 m) + v2 else 99 else 1) m) by rw [if_pos h3]]) J2
      · skip
        refine s_goto eX7_feast_54 ?_
        exact ax_eqN (by rw [show (if (F1_bankOf 1 v4 m) = v1 then (v3 + 1 : Int32) else v3 : Int32) = v3 by rw [if_neg h3]]) rfl (by rw [show ((if (F1_bankOf 1 v4 m) = v1 then (F7_put 7 6 v4 (if 1 < if (F1_weightOf 1 v4 m) + v2 < 99 then (F1_weightOf 1 v4 m) + v2 else 99 then if (F1_weightOf 1 v4 m) + v2 < 99 then (F1_weightOf 1 v4 m) + v2 else 99 else 1) m) else m) : ax_M) = m by rw [if_neg h3]]) J2
theorem uX7_feast (a1 : Int32) (a2 : Int32) (m : ax_M) (hD : D7_feast a1 a2 m) : ax_NM 2 Y7_feast [.ref 0, .int a1, .int a2] m (fun r m1 => r = some (.int (F7_feast a1 a2 m).1) ∧ m1 = (F7_feast a1 a2 m).2) := by
  have E : F7_feast a1 a2 m = (if (F1_hasBank 1 a1 m) = 0 then ((-1), m) else (if (F7_within a2 ((-9)) 9 m) = 0 then ((-1), m) else ((L7_feast_29 64 a1 a2 0 0 m).1, (L7_feast_29 64 a1 a2 0 0 m).2.2))) := rfl
  unfold D7_feast at hD
  show ax_N 2 Y7_feast 0 [some (.ref 0), some (.int a1), some (.int a2), none, none, none] [] m _
  refine s_aload_n eX7_feast_0 rfl rfl ?_
  refine s_getr (q := 1) eX7_feast_1 fX7_10 shp_0 rfl ?_
  refine s_iload_n eX7_feast_4 rfl rfl ?_
  refine n_callVi (As := [.int a1]) eX7_feast_5 kX1_hasBank lX7_150 rfl rfl shp_1 rfl rfl (Nat.le_of_ble_eq_true rfl) (Nat.le_of_ble_eq_true rfl) (Nat.le_of_ble_eq_true rfl) (uX1_hasBank 1 a1 m isG_1) ?_
  refine s_if_eq eX7_feast_8 (fun h1 => ?_) (fun h1 => ?_)
  · skip
    rw [if_pos h1] at E
    refine s_iconst (v := (-1)) eX7_feast_22 rfl ?_
    exact s_iret eX7_feast_23 rfl ⟨rfl, by rw [E], by rw [E]⟩
  · skip
    rw [if_neg h1] at E
    have hD := hD h1
    refine s_iload_n eX7_feast_11 rfl rfl ?_
    refine s_bipush (v := (-9)) eX7_feast_12 rfl ?_
    refine s_bipush (v := 9) eX7_feast_14 rfl ?_
    refine n_callSi (As := [.int a2, .int ((-9)), .int 9]) eX7_feast_16 kX7_within lX7_76 rfl rfl (Nat.le_of_ble_eq_true rfl) (Nat.le_of_ble_eq_true rfl) (Nat.le_of_ble_eq_true rfl) (uX7_within a2 ((-9)) 9 m) ?_
    refine s_if_ne eX7_feast_19 (fun h2 => ?_) (fun h2 => ?_)
    · skip
      rw [if_neg h2] at E
      have hD := hD h2
      refine s_iconst (v := 0) eX7_feast_24 rfl ?_
      refine s_istore_n (ls' := [some (.ref 0), some (.int a1), some (.int a2), some (.int 0), none, none]) eX7_feast_25 rfl rfl rfl ?_
      refine s_iconst (v := 0) eX7_feast_26 rfl ?_
      refine s_istore (ls' := [some (.ref 0), some (.int a1), some (.int a2), some (.int 0), some (.int 0), none]) eX7_feast_27 rfl rfl ?_
      have q3 := hD
      refine clX7_feast_29 64 a1 a2 0 0 m q3 ?_
      refine s_iload_n eX7_feast_102 rfl rfl ?_
      exact s_iret eX7_feast_103 rfl ⟨rfl, by rw [E], by rw [E]⟩
    · skip
      rw [if_pos h2] at E
      refine s_iconst (v := (-1)) eX7_feast_22 rfl ?_
      exact s_iret eX7_feast_23 rfl ⟨rfl, by rw [E], by rw [E]⟩
theorem uX7_can (a1 : Int32) (a2 : Int32) (a3 : Int32) (a4 : Int32) (a5 : Int32) (m : ax_M) : ax_NM 5 Y7_can [.ref 0, .int a1, .int a2, .int a3, .int a4, .int a5] m (fun r m1 => r = some (.int (F7_can a1 a2 a3 a4 a5 m)) ∧ m1 = m) := by
  have E : F7_can a1 a2 a3 a4 a5 m = (if (F1_isAsked 1 a1 a2 a3 a4 a5 m) = 0 then ((-1)) else (if (F1_passes 1 a1 a2 a3 a4 a5 m) = 0 then 0 else 1)) := rfl
  show ax_N 5 Y7_can 0 [some (.ref 0), some (.int a1), some (.int a2), some (.int a3), some (.int a4), some (.int a5)] [] m _
  refine s_aload_n eX7_can_0 rfl rfl ?_
  refine s_getr (q := 1) eX7_can_1 fX7_10 shp_0 rfl ?_
  refine s_iload_n eX7_can_4 rfl rfl ?_
  refine s_iload_n eX7_can_5 rfl rfl ?_
  refine s_iload_n eX7_can_6 rfl rfl ?_
  refine s_iload eX7_can_7 rfl ?_
  refine s_iload eX7_can_9 rfl ?_
  refine n_callVi (As := [.int a1, .int a2, .int a3, .int a4, .int a5]) eX7_can_11 kX1_isAsked lX7_186 rfl rfl shp_1 rfl rfl (Nat.le_of_ble_eq_true rfl) (Nat.le_of_ble_eq_true rfl) (Nat.le_of_ble_eq_true rfl) (uX1_isAsked 1 a1 a2 a3 a4 a5 m isG_1) ?_
  refine s_if_ne eX7_can_14 (fun h1 => ?_) (fun h1 => ?_)
  · skip
    rw [if_neg h1] at E
    refine s_aload_n eX7_can_19 rfl rfl ?_
    refine s_getr (q := 1) eX7_can_20 fX7_10 shp_0 rfl ?_
    refine s_iload_n eX7_can_23 rfl rfl ?_
    refine s_iload_n eX7_can_24 rfl rfl ?_
    refine s_iload_n eX7_can_25 rfl rfl ?_
    refine s_iload eX7_can_26 rfl ?_
    refine s_iload eX7_can_28 rfl ?_
    refine n_callVi (As := [.int a1, .int a2, .int a3, .int a4, .int a5]) eX7_can_30 kX1_passes lX7_190 rfl rfl shp_1 rfl rfl (Nat.le_of_ble_eq_true rfl) (Nat.le_of_ble_eq_true rfl) (Nat.le_of_ble_eq_true rfl) (uX1_passes 1 a1 a2 a3 a4 a5 m isG_1) ?_
    refine s_if_eq eX7_can_33 (fun h2 => ?_) (fun h2 => ?_)
    · skip
      rw [if_pos h2] at E
      refine s_iconst (v := 0) eX7_can_40 rfl ?_
      exact s_iret eX7_can_41 rfl ⟨rfl, by rw [E], rfl⟩
    · skip
      rw [if_neg h2] at E
      refine s_iconst (v := 1) eX7_can_36 rfl ?_
      refine s_goto eX7_can_37 ?_
      exact s_iret eX7_can_41 rfl ⟨rfl, by rw [E], rfl⟩
  · skip
    rw [if_pos h1] at E
    refine s_iconst (v := (-1)) eX7_can_17 rfl ?_
    exact s_iret eX7_can_18 rfl ⟨rfl, by rw [E], rfl⟩
theorem uX7_cross (a1 : Int32) (a2 : Int32) (a3 : Int32) (a4 : Int32) (a5 : Int32) (m : ax_M) : ax_NM 6 Y7_cross [.ref 0, .int a1, .int a2, .int a3, .int a4, .int a5] m (fun r m1 => r = some (.int (F7_cross a1 a2 a3 a4 a5 m).1) ∧ m1 = (F7_cross a1 a2 a3 a4 a5 m).2) := by
  have E : F7_cross a1 a2 a3 a4 a5 m = ((F1_tryCrossing 1 a1 a2 a3 a4 a5 m).1, (F1_tryCrossing 1 a1 a2 a3 a4 a5 m).2) := rfl
  show ax_N 6 Y7_cross 0 [some (.ref 0), some (.int a1), some (.int a2), some (.int a3), some (.int a4), some (.int a5)] [] m _
  refine s_aload_n eX7_cross_0 rfl rfl ?_
  refine s_getr (q := 1) eX7_cross_1 fX7_10 shp_0 rfl ?_
  refine s_iload_n eX7_cross_4 rfl rfl ?_
  refine s_iload_n eX7_cross_5 rfl rfl ?_
  refine s_iload_n eX7_cross_6 rfl rfl ?_
  refine s_iload eX7_cross_7 rfl ?_
  refine s_iload eX7_cross_9 rfl ?_
  refine n_callVi (As := [.int a1, .int a2, .int a3, .int a4, .int a5]) eX7_cross_11 kX1_tryCrossing lX7_193 rfl rfl shp_1 rfl rfl (Nat.le_of_ble_eq_true rfl) (Nat.le_of_ble_eq_true rfl) (Nat.le_of_ble_eq_true rfl) (uX1_tryCrossing 1 a1 a2 a3 a4 a5 m isG_1) ?_
  exact s_iret eX7_cross_14 rfl ⟨rfl, by rw [E], by rw [E]⟩
theorem uX7_balance (a1 : Int32) (a2 : Int32) (a3 : Int32) (a4 : Int32) (m : ax_M) (hD : D7_balance a1 a2 a3 a4 m) : ax_NM 5 Y7_balance [.ref 0, .int a1, .int a2, .int a3, .int a4] m (fun r m1 => r = some (.int (F7_balance a1 a2 a3 a4 m)) ∧ m1 = m) := by
  have E : F7_balance a1 a2 a3 a4 m = (if (F1_isAsked 1 a1 a2 a3 0 0 m) = 0 then ((-1)) else (if (F7_within a4 0 2 m) = 0 then ((-1)) else (if (F1_isPair 1 a1 a2 a3 m) = 0 then ((-2)) else (if (F1_isExileAgainst 1 a1 a2 a3 m) = 0 then (if 0 ≤ (F1_lightestLoad 1 a1 a2 a3 m) then (if a4 = 0 then (((F1_lightestLoad 1 a1 a2 a3 m) / 10) + ((F1_lightestLoad 1 a1 a2 a3 m) - (F1_lightestLoad 1 a1 a2 a3 m) / 10 * 10)) else (if a4 = 1 then ((F1_lightestLoad 1 a1 a2 a3 m) / 10) else ((F1_lightestLoad 1 a1 a2 a3 m) - (F1_lightestLoad 1 a1 a2 a3 m) / 10 * 10))) else ((-4))) else ((-2)))))) := rfl
  unfold D7_balance at hD
  show ax_N 5 Y7_balance 0 [some (.ref 0), some (.int a1), some (.int a2), some (.int a3), some (.int a4), none, none, none] [] m _
  refine s_aload_n eX7_balance_0 rfl rfl ?_
  refine s_getr (q := 1) eX7_balance_1 fX7_10 shp_0 rfl ?_
  refine s_iload_n eX7_balance_4 rfl rfl ?_
  refine s_iload_n eX7_balance_5 rfl rfl ?_
  refine s_iload_n eX7_balance_6 rfl rfl ?_
  refine s_iconst (v := 0) eX7_balance_7 rfl ?_
  refine s_iconst (v := 0) eX7_balance_8 rfl ?_
  refine n_callVi (As := [.int a1, .int a2, .int a3, .int 0, .int 0]) eX7_balance_9 kX1_isAsked lX7_186 rfl rfl shp_1 rfl rfl (Nat.le_of_ble_eq_true rfl) (Nat.le_of_ble_eq_true rfl) (Nat.le_of_ble_eq_true rfl) (uX1_isAsked 1 a1 a2 a3 0 0 m isG_1) ?_
  refine s_if_eq eX7_balance_12 (fun h1 => ?_) (fun h1 => ?_)
  · skip
    rw [if_pos h1] at E
    refine s_iconst (v := (-1)) eX7_balance_25 rfl ?_
    exact s_iret eX7_balance_26 rfl ⟨rfl, by rw [E], rfl⟩
  · skip
    rw [if_neg h1] at E
    have hD := hD h1
    refine s_iload eX7_balance_15 rfl ?_
    refine s_iconst (v := 0) eX7_balance_17 rfl ?_
    refine s_iconst (v := 2) eX7_balance_18 rfl ?_
    refine n_callSi (As := [.int a4, .int 0, .int 2]) eX7_balance_19 kX7_within lX7_76 rfl rfl (Nat.le_of_ble_eq_true rfl) (Nat.le_of_ble_eq_true rfl) (Nat.le_of_ble_eq_true rfl) (uX7_within a4 0 2 m) ?_
    refine s_if_ne eX7_balance_22 (fun h2 => ?_) (fun h2 => ?_)
    · skip
      rw [if_neg h2] at E
      have hD := hD h2
      refine s_aload_n eX7_balance_27 rfl rfl ?_
      refine s_getr (q := 1) eX7_balance_28 fX7_10 shp_0 rfl ?_
      refine s_iload_n eX7_balance_31 rfl rfl ?_
      refine s_iload_n eX7_balance_32 rfl rfl ?_
      refine s_iload_n eX7_balance_33 rfl rfl ?_
      refine n_callVi (As := [.int a1, .int a2, .int a3]) eX7_balance_34 kX1_isPair lX7_197 rfl rfl shp_1 rfl rfl (Nat.le_of_ble_eq_true rfl) (Nat.le_of_ble_eq_true rfl) (Nat.le_of_ble_eq_true rfl) (uX1_isPair 1 a1 a2 a3 m isG_1) ?_
      refine s_if_eq eX7_balance_37 (fun h3 => ?_) (fun h3 => ?_)
      · skip
        rw [if_pos h3] at E
        refine s_bipush (v := (-2)) eX7_balance_53 rfl ?_
        exact s_iret eX7_balance_55 rfl ⟨rfl, by rw [E], rfl⟩
      · skip
        rw [if_neg h3] at E
        have hD := hD h3
        refine s_aload_n eX7_balance_40 rfl rfl ?_
        refine s_getr (q := 1) eX7_balance_41 fX7_10 shp_0 rfl ?_
        refine s_iload_n eX7_balance_44 rfl rfl ?_
        refine s_iload_n eX7_balance_45 rfl rfl ?_
        refine s_iload_n eX7_balance_46 rfl rfl ?_
        refine n_callVi (As := [.int a1, .int a2, .int a3]) eX7_balance_47 kX1_isExileAgainst lX7_200 rfl rfl shp_1 rfl rfl (Nat.le_of_ble_eq_true rfl) (Nat.le_of_ble_eq_true rfl) (Nat.le_of_ble_eq_true rfl) (uX1_isExileAgainst 1 a1 a2 a3 m isG_1) ?_
        refine s_if_eq eX7_balance_50 (fun h4 => ?_) (fun h4 => ?_)
        · skip
          rw [if_pos h4] at E
          have hD := hD h4
          refine s_aload_n eX7_balance_56 rfl rfl ?_
          refine s_getr (q := 1) eX7_balance_57 fX7_10 shp_0 rfl ?_
          refine s_iload_n eX7_balance_60 rfl rfl ?_
          refine s_iload_n eX7_balance_61 rfl rfl ?_
          refine s_iload_n eX7_balance_62 rfl rfl ?_
          have q5 := hD
          refine n_callVi (As := [.int a1, .int a2, .int a3]) eX7_balance_63 kX1_lightestLoad lX7_203 rfl rfl shp_1 rfl rfl (Nat.le_of_ble_eq_true rfl) (Nat.le_of_ble_eq_true rfl) (Nat.le_of_ble_eq_true rfl) (uX1_lightestLoad 1 a1 a2 a3 m isG_1 q5) ?_
          refine s_istore (ls' := [some (.ref 0), some (.int a1), some (.int a2), some (.int a3), some (.int a4), some (.int (F1_lightestLoad 1 a1 a2 a3 m)), none, none]) eX7_balance_66 rfl rfl ?_
          refine s_iload eX7_balance_68 rfl ?_
          refine s_if_ge eX7_balance_70 (fun h6 => ?_) (fun h6 => ?_)
          · skip
            rw [if_pos h6] at E
            refine s_iload eX7_balance_76 rfl ?_
            refine s_bipush (v := 10) eX7_balance_78 rfl ?_
            refine s_idiv eX7_balance_80 (by decide) ?_
            refine s_istore (ls' := [some (.ref 0), some (.int a1), some (.int a2), some (.int a3), some (.int a4), some (.int (F1_lightestLoad 1 a1 a2 a3 m)), some (.int ((F1_lightestLoad 1 a1 a2 a3 m) / 10)), none]) eX7_balance_81 rfl rfl ?_
            refine s_iload eX7_balance_83 rfl ?_
            refine s_bipush (v := 10) eX7_balance_85 rfl ?_
            refine s_irem eX7_balance_87 (by decide) ?_
            refine s_istore (ls' := [some (.ref 0), some (.int a1), some (.int a2), some (.int a3), some (.int a4), some (.int (F1_lightestLoad 1 a1 a2 a3 m)), some (.int ((F1_lightestLoad 1 a1 a2 a3 m) / 10)), some (.int ((F1_lightestLoad 1 a1 a2 a3 m) - (F1_lightestLoad 1 a1 a2 a3 m) / 10 * 10))]) eX7_balance_88 rfl rfl ?_
            refine s_iload eX7_balance_90 rfl ?_
            refine s_if_ne eX7_balance_92 (fun h7 => ?_) (fun h7 => ?_)
            · skip
              rw [if_neg h7] at E
              refine s_iload eX7_balance_101 rfl ?_
              refine s_iconst (v := 1) eX7_balance_103 rfl ?_
              refine s_icmp_ne eX7_balance_104 (fun h8 => ?_) (fun h8 => ?_)
              · skip
                rw [if_neg h8] at E
                refine s_iload eX7_balance_112 rfl ?_
                exact s_iret eX7_balance_114 rfl ⟨rfl, by rw [E], rfl⟩
              · skip
                rw [if_pos h8] at E
                refine s_iload eX7_balance_107 rfl ?_
                refine s_goto eX7_balance_109 ?_
                exact s_iret eX7_balance_114 rfl ⟨rfl, by rw [E], rfl⟩
            · skip
              rw [if_pos h7] at E
              refine s_iload eX7_balance_95 rfl ?_
              refine s_iload eX7_balance_97 rfl ?_
              refine s_iadd eX7_balance_99 ?_
              exact s_iret eX7_balance_100 rfl ⟨rfl, by rw [E], rfl⟩
          · skip
            rw [if_neg h6] at E
            refine s_bipush (v := (-4)) eX7_balance_73 rfl ?_
            exact s_iret eX7_balance_75 rfl ⟨rfl, by rw [E], rfl⟩
        · skip
          rw [if_neg h4] at E
          refine s_bipush (v := (-2)) eX7_balance_53 rfl ?_
          exact s_iret eX7_balance_55 rfl ⟨rfl, by rw [E], rfl⟩
    · skip
      rw [if_pos h2] at E
      refine s_iconst (v := (-1)) eX7_balance_25 rfl ?_
      exact s_iret eX7_balance_26 rfl ⟨rfl, by rw [E], rfl⟩
theorem clX7_fellows_81 {P : Option Value → ax_M → Prop} : ∀ (n : Nat) (v1 v2 v3 v4 v5 : Int32) (m : ax_M), E7_fellows_81 n v1 v2 v3 v4 v5 m → (ax_N 5 Y7_fellows 148 [some (.ref 0), some (.int v1), some (.int v2), some (.int v3), some (.int ((L7_fellows_81 n v1 v2 v3 v4 v5 m).1)), some (.int ((L7_fellows_81 n v1 v2 v3 v4 v5 m).2)), none] [] m P) → ax_N 5 Y7_fellows 81 [some (.ref 0), some (.int v1), some (.int v2), some (.int v3), some (.int v4), some (.int v5), none] [] m P := by
  intro n
  induction n with
  | zero => intro v1 v2 v3 v4 v5 m hD; exact absurd hD id
  | succ n ih =>
    intro v1 v2 v3 v4 v5 m hD hx
    have E : L7_fellows_81 (n + 1) v1 v2 v3 v4 v5 m = (if (m 1 2) ≤ v5 then (v4, v5) else L7_fellows_81 n v1 v2 v3 (if (if v3 = 0 then (F1_passes 1 v1 v5 v2 0 0 m : Int32) else F1_passes 1 v1 v2 v5 0 0 m) = 0 then (v4 : Int32) else v4 ||| ((1 : Int32) <<< (v5 &&& (31 : Int32)))) (v5 + 1) m) := by rw [L7_fellows_81]
    have hD : ((¬ ((m 1 2) ≤ v5) → ((E7_fellows_81 n v1 v2 v3 (if (if v3 = 0 then (F1_passes 1 v1 v5 v2 0 0 m : Int32) else F1_passes 1 v1 v2 v5 0 0 m) = 0 then (v4 : Int32) else v4 ||| ((1 : Int32) <<< (v5 &&& (31 : Int32)))) (v5 + 1) m)))) := hD
    refine s_iload eX7_fellows_81 rfl ?_
    refine s_aload_n eX7_fellows_83 rfl rfl ?_
    refine s_getr (q := 1) eX7_fellows_84 fX7_10 shp_0 rfl ?_
    refine s_geti eX7_fellows_87 fX7_112 shp_1 rfl ?_
    refine s_icmp_ge eX7_fellows_90 (fun h1 => ?_) (fun h1 => ?_)
    · skip
      rw [if_pos h1] at E
      rw [E] at hx
      exact hx
    · skip
      rw [if_neg h1] at E
      have hD := hD h1
      refine s_iload_n eX7_fellows_93 rfl rfl ?_
      have J2 : ax_N 5 Y7_fellows 126 [some (.ref 0), some (.int v1), some (.int v2), some (.int v3), some (.int v4), some (.int v5), none] [.int (if v3 = 0 then (F1_passes 1 v1 v5 v2 0 0 m : Int32) else F1_passes 1 v1 v2 v5 0 0 m)] m P := by
        refine s_istore (ls' := [some (.ref 0), some (.int v1), some (.int v2), some (.int v3), some (.int v4), some (.int v5), some (.int (if v3 = 0 then (F1_passes 1 v1 v5 v2 0 0 m : Int32) else F1_passes 1 v1 v2 v5 0 0 m))]) eX7_fellows_126 rfl rfl ?_
        refine s_iload eX7_fellows_128 rfl ?_
        have J3 : ax_N 5 Y7_fellows 142 [some (.ref 0), some (.int v1), some (.int v2), some (.int v3), some (.int (if (if v3 = 0 then (F1_passes 1 v1 v5 v2 0 0 m : Int32) else F1_passes 1 v1 v2 v5 0 0 m) = 0 then (v4 : Int32) else v4 ||| ((1 : Int32) <<< (v5 &&& (31 : Int32))))), some (.int v5), some (.int (if v3 = 0 then (F1_passes 1 v1 v5 v2 0 0 m : Int32) else F1_passes 1 v1 v2 v5 0 0 m))] [] m P := by
          refine s_iinc (v := v5 + 1) (ls' := [some (.ref 0), some (.int v1), some (.int v2), some (.int v3), some (.int (if (if v3 = 0 then (F1_passes 1 v1 v5 v2 0 0 m : Int32) else F1_passes 1 v1 v2 v5 0 0 m) = 0 then (v4 : Int32) else v4 ||| ((1 : Int32) <<< (v5 &&& (31 : Int32))))), some (.int (v5 + 1)), some (.int (if v3 = 0 then (F1_passes 1 v1 v5 v2 0 0 m : Int32) else F1_passes 1 v1 v2 v5 0 0 m))]) eX7_fellows_142 rfl rfl rfl rfl ?_
          refine s_goto eX7_fellows_145 ?_
          refine ax_forget (ls' := [some (.ref 0), some (.int v1), some (.int v2), some (.int v3), some (.int (if (if v3 = 0 then (F1_passes 1 v1 v5 v2 0 0 m : Int32) else F1_passes 1 v1 v2 v5 0 0 m) = 0 then (v4 : Int32) else v4 ||| ((1 : Int32) <<< (v5 &&& (31 : Int32))))), some (.int (v5 + 1)), none]) rfl ?_
          rw [E] at hx
          exact ih v1 v2 v3 (if (if v3 = 0 then (F1_passes 1 v1 v5 v2 0 0 m : Int32) else F1_passes 1 v1 v2 v5 0 0 m) = 0 then (v4 : Int32) else v4 ||| ((1 : Int32) <<< (v5 &&& (31 : Int32)))) (v5 + 1) m hD hx
        refine s_if_eq eX7_fellows_130 (fun h4 => ?_) (fun h4 => ?_)
        · skip
          exact ax_eqN (by rw [show (if (if v3 = 0 then (F1_passes 1 v1 v5 v2 0 0 m : Int32) else F1_passes 1 v1 v2 v5 0 0 m) = 0 then (v4 : Int32) else v4 ||| ((1 : Int32) <<< (v5 &&& (31 : Int32))) : Int32) = v4 by rw [if_pos h4]]) rfl rfl J3
        · skip
          refine s_iload eX7_fellows_133 rfl ?_
          refine s_iconst (v := 1) eX7_fellows_135 rfl ?_
          refine s_iload eX7_fellows_136 rfl ?_
          refine s_ishl eX7_fellows_138 ?_
          refine s_ior eX7_fellows_139 ?_
          refine s_istore (ls' := [some (.ref 0), some (.int v1), some (.int v2), some (.int v3), some (.int (v4 ||| ((1 : Int32) <<< (v5 &&& (31 : Int32))))), some (.int v5), some (.int (if v3 = 0 then (F1_passes 1 v1 v5 v2 0 0 m : Int32) else F1_passes 1 v1 v2 v5 0 0 m))]) eX7_fellows_140 rfl rfl ?_
          exact ax_eqN (by rw [show (if (if v3 = 0 then (F1_passes 1 v1 v5 v2 0 0 m : Int32) else F1_passes 1 v1 v2 v5 0 0 m) = 0 then (v4 : Int32) else v4 ||| ((1 : Int32) <<< (v5 &&& (31 : Int32))) : Int32) = v4 ||| ((1 : Int32) <<< (v5 &&& (31 : Int32))) by rw [if_neg h4]]) rfl rfl J3
      refine s_if_eq eX7_fellows_94 (fun h5 => ?_) (fun h5 => ?_)
      · skip
        refine s_aload_n eX7_fellows_113 rfl rfl ?_
        refine s_getr (q := 1) eX7_fellows_114 fX7_10 shp_0 rfl ?_
        refine s_iload_n eX7_fellows_117 rfl rfl ?_
        refine s_iload eX7_fellows_118 rfl ?_
        refine s_iload_n eX7_fellows_120 rfl rfl ?_
        refine s_iconst (v := 0) eX7_fellows_121 rfl ?_
        refine s_iconst (v := 0) eX7_fellows_122 rfl ?_
        refine n_callVi (As := [.int v1, .int v5, .int v2, .int 0, .int 0]) eX7_fellows_123 kX1_passes lX7_190 rfl rfl shp_1 rfl rfl (Nat.le_of_ble_eq_true rfl) (Nat.le_of_ble_eq_true rfl) (Nat.le_of_ble_eq_true rfl) (uX1_passes 1 v1 v5 v2 0 0 m isG_1) ?_
        exact ax_eqN rfl (by rw [show (if v3 = 0 then (F1_passes 1 v1 v5 v2 0 0 m : Int32) else F1_passes 1 v1 v2 v5 0 0 m : Int32) = F1_passes 1 v1 v5 v2 0 0 m by rw [if_pos h5]]) rfl J2
      · skip
        refine s_aload_n eX7_fellows_97 rfl rfl ?_
        refine s_getr (q := 1) eX7_fellows_98 fX7_10 shp_0 rfl ?_
        refine s_iload_n eX7_fellows_101 rfl rfl ?_
        refine s_iload_n eX7_fellows_102 rfl rfl ?_
        refine s_iload eX7_fellows_103 rfl ?_
        refine s_iconst (v := 0) eX7_fellows_105 rfl ?_
        refine s_iconst (v := 0) eX7_fellows_106 rfl ?_
        refine n_callVi (As := [.int v1, .int v2, .int v5, .int 0, .int 0]) eX7_fellows_107 kX1_passes lX7_190 rfl rfl shp_1 rfl rfl (Nat.le_of_ble_eq_true rfl) (Nat.le_of_ble_eq_true rfl) (Nat.le_of_ble_eq_true rfl) (uX1_passes 1 v1 v2 v5 0 0 m isG_1) ?_
        refine s_goto eX7_fellows_110 ?_
        exact ax_eqN rfl (by rw [show (if v3 = 0 then (F1_passes 1 v1 v5 v2 0 0 m : Int32) else F1_passes 1 v1 v2 v5 0 0 m : Int32) = F1_passes 1 v1 v2 v5 0 0 m by rw [if_neg h5]]) rfl J2
theorem uX7_fellows (a1 : Int32) (a2 : Int32) (m : ax_M) (hD : D7_fellows a1 a2 m) : ax_NM 5 Y7_fellows [.ref 0, .int a1, .int a2] m (fun r m1 => r = some (.int (F7_fellows a1 a2 m)) ∧ m1 = m) := by
  have E : F7_fellows a1 a2 m = (if (F1_hasBridge 1 a1 m) = 0 then ((-1)) else (if (F1_hasOne 1 a2 m) = 0 then ((-1)) else (if (if (F1_bankOf 1 a2 m) = (F1_firstBank 1 a1 m) then (1 : Int32) else 0) = 0 then (if (F1_bankOf 1 a2 m) = (F1_secondBank 1 a1 m) then ((L7_fellows_81 64 a1 a2 (if (F1_bankOf 1 a2 m) = (F1_firstBank 1 a1 m) then (1 : Int32) else 0) 0 0 m).1) else ((-2))) else ((L7_fellows_81 64 a1 a2 (if (F1_bankOf 1 a2 m) = (F1_firstBank 1 a1 m) then (1 : Int32) else 0) 0 0 m).1)))) := rfl
  unfold D7_fellows at hD
  show ax_N 5 Y7_fellows 0 [some (.ref 0), some (.int a1), some (.int a2), none, none, none, none] [] m _
  refine s_aload_n eX7_fellows_0 rfl rfl ?_
  refine s_getr (q := 1) eX7_fellows_1 fX7_10 shp_0 rfl ?_
  refine s_iload_n eX7_fellows_4 rfl rfl ?_
  refine n_callVi (As := [.int a1]) eX7_fellows_5 kX1_hasBridge lX7_121 rfl rfl shp_1 rfl rfl (Nat.le_of_ble_eq_true rfl) (Nat.le_of_ble_eq_true rfl) (Nat.le_of_ble_eq_true rfl) (uX1_hasBridge 1 a1 m isG_1) ?_
  refine s_if_eq eX7_fellows_8 (fun h1 => ?_) (fun h1 => ?_)
  · skip
    rw [if_pos h1] at E
    refine s_iconst (v := (-1)) eX7_fellows_22 rfl ?_
    exact s_iret eX7_fellows_23 rfl ⟨rfl, by rw [E], rfl⟩
  · skip
    rw [if_neg h1] at E
    have hD := hD h1
    refine s_aload_n eX7_fellows_11 rfl rfl ?_
    refine s_getr (q := 1) eX7_fellows_12 fX7_10 shp_0 rfl ?_
    refine s_iload_n eX7_fellows_15 rfl rfl ?_
    refine n_callVi (As := [.int a2]) eX7_fellows_16 kX1_hasOne lX7_135 rfl rfl shp_1 rfl rfl (Nat.le_of_ble_eq_true rfl) (Nat.le_of_ble_eq_true rfl) (Nat.le_of_ble_eq_true rfl) (uX1_hasOne 1 a2 m isG_1) ?_
    refine s_if_ne eX7_fellows_19 (fun h2 => ?_) (fun h2 => ?_)
    · skip
      rw [if_neg h2] at E
      have hD := hD h2
      refine s_aload_n eX7_fellows_24 rfl rfl ?_
      refine s_getr (q := 1) eX7_fellows_25 fX7_10 shp_0 rfl ?_
      refine s_iload_n eX7_fellows_28 rfl rfl ?_
      refine n_callVi (As := [.int a2]) eX7_fellows_29 kX1_bankOf lX7_144 rfl rfl shp_1 rfl rfl (Nat.le_of_ble_eq_true rfl) (Nat.le_of_ble_eq_true rfl) (Nat.le_of_ble_eq_true rfl) (uX1_bankOf 1 a2 m isG_1) ?_
      refine s_aload_n eX7_fellows_32 rfl rfl ?_
      refine s_getr (q := 1) eX7_fellows_33 fX7_10 shp_0 rfl ?_
      refine s_iload_n eX7_fellows_36 rfl rfl ?_
      refine n_callVi (As := [.int a1]) eX7_fellows_37 kX1_firstBank lX7_125 rfl rfl shp_1 rfl rfl (Nat.le_of_ble_eq_true rfl) (Nat.le_of_ble_eq_true rfl) (Nat.le_of_ble_eq_true rfl) (uX1_firstBank 1 a1 m isG_1) ?_
      have J3 : ax_N 5 Y7_fellows 48 [some (.ref 0), some (.int a1), some (.int a2), none, none, none, none] [.int (if (F1_bankOf 1 a2 m) = (F1_firstBank 1 a1 m) then (1 : Int32) else 0)] m (fun r m1 => r = some (.int (F7_fellows a1 a2 m)) ∧ m1 = m) := by
        refine s_istore_n (ls' := [some (.ref 0), some (.int a1), some (.int a2), some (.int (if (F1_bankOf 1 a2 m) = (F1_firstBank 1 a1 m) then (1 : Int32) else 0)), none, none, none]) eX7_fellows_48 rfl rfl rfl ?_
        refine s_iload_n eX7_fellows_49 rfl rfl ?_
        refine s_if_ne eX7_fellows_50 (fun h4 => ?_) (fun h4 => ?_)
        · skip
          rw [if_neg h4] at E
          have hD := hD.2 h4
          refine s_iconst (v := 0) eX7_fellows_75 rfl ?_
          refine s_istore (ls' := [some (.ref 0), some (.int a1), some (.int a2), some (.int (if (F1_bankOf 1 a2 m) = (F1_firstBank 1 a1 m) then (1 : Int32) else 0)), some (.int 0), none, none]) eX7_fellows_76 rfl rfl ?_
          refine s_iconst (v := 0) eX7_fellows_78 rfl ?_
          refine s_istore (ls' := [some (.ref 0), some (.int a1), some (.int a2), some (.int (if (F1_bankOf 1 a2 m) = (F1_firstBank 1 a1 m) then (1 : Int32) else 0)), some (.int 0), some (.int 0), none]) eX7_fellows_79 rfl rfl ?_
          have q5 := hD
          refine clX7_fellows_81 64 a1 a2 (if (F1_bankOf 1 a2 m) = (F1_firstBank 1 a1 m) then (1 : Int32) else 0) 0 0 m q5 ?_
          refine s_iload eX7_fellows_148 rfl ?_
          exact s_iret eX7_fellows_150 rfl ⟨rfl, by rw [E], rfl⟩
        · skip
          rw [if_pos h4] at E
          have hD := hD.1 h4
          refine s_aload_n eX7_fellows_53 rfl rfl ?_
          refine s_getr (q := 1) eX7_fellows_54 fX7_10 shp_0 rfl ?_
          refine s_iload_n eX7_fellows_57 rfl rfl ?_
          refine n_callVi (As := [.int a2]) eX7_fellows_58 kX1_bankOf lX7_144 rfl rfl shp_1 rfl rfl (Nat.le_of_ble_eq_true rfl) (Nat.le_of_ble_eq_true rfl) (Nat.le_of_ble_eq_true rfl) (uX1_bankOf 1 a2 m isG_1) ?_
          refine s_aload_n eX7_fellows_61 rfl rfl ?_
          refine s_getr (q := 1) eX7_fellows_62 fX7_10 shp_0 rfl ?_
          refine s_iload_n eX7_fellows_65 rfl rfl ?_
          refine n_callVi (As := [.int a1]) eX7_fellows_66 kX1_secondBank lX7_129 rfl rfl shp_1 rfl rfl (Nat.le_of_ble_eq_true rfl) (Nat.le_of_ble_eq_true rfl) (Nat.le_of_ble_eq_true rfl) (uX1_secondBank 1 a1 m isG_1) ?_
          refine s_icmp_eq eX7_fellows_69 (fun h6 => ?_) (fun h6 => ?_)
          · skip
            rw [if_pos h6] at E
            have hD := hD h6
            refine s_iconst (v := 0) eX7_fellows_75 rfl ?_
            refine s_istore (ls' := [some (.ref 0), some (.int a1), some (.int a2), some (.int (if (F1_bankOf 1 a2 m) = (F1_firstBank 1 a1 m) then (1 : Int32) else 0)), some (.int 0), none, none]) eX7_fellows_76 rfl rfl ?_
            refine s_iconst (v := 0) eX7_fellows_78 rfl ?_
            refine s_istore (ls' := [some (.ref 0), some (.int a1), some (.int a2), some (.int (if (F1_bankOf 1 a2 m) = (F1_firstBank 1 a1 m) then (1 : Int32) else 0)), some (.int 0), some (.int 0), none]) eX7_fellows_79 rfl rfl ?_
            have q7 := hD
            refine clX7_fellows_81 64 a1 a2 (if (F1_bankOf 1 a2 m) = (F1_firstBank 1 a1 m) then (1 : Int32) else 0) 0 0 m q7 ?_
            refine s_iload eX7_fellows_148 rfl ?_
            exact s_iret eX7_fellows_150 rfl ⟨rfl, by rw [E], rfl⟩
          · skip
            rw [if_neg h6] at E
            refine s_bipush (v := (-2)) eX7_fellows_72 rfl ?_
            exact s_iret eX7_fellows_74 rfl ⟨rfl, by rw [E], rfl⟩
      refine s_icmp_ne eX7_fellows_40 (fun h8 => ?_) (fun h8 => ?_)
      · skip
        refine s_iconst (v := 0) eX7_fellows_47 rfl ?_
        exact ax_eqN rfl (by rw [show (if (F1_bankOf 1 a2 m) = (F1_firstBank 1 a1 m) then (1 : Int32) else 0 : Int32) = 0 by rw [if_neg h8]]) rfl J3
      · skip
        refine s_iconst (v := 1) eX7_fellows_43 rfl ?_
        refine s_goto eX7_fellows_44 ?_
        exact ax_eqN rfl (by rw [show (if (F1_bankOf 1 a2 m) = (F1_firstBank 1 a1 m) then (1 : Int32) else 0 : Int32) = 1 by rw [if_pos h8]]) rfl J3
    · skip
      rw [if_pos h2] at E
      refine s_iconst (v := (-1)) eX7_fellows_22 rfl ?_
      exact s_iret eX7_fellows_23 rfl ⟨rfl, by rw [E], rfl⟩
theorem uX7_asksOne (a1 : Int32) (m : ax_M) : ax_NM 1 Y7_asksOne [.ref 0, .int a1] m (fun r m1 => r = some (.int (F7_asksOne a1 m)) ∧ m1 = m) := by
  have E : F7_asksOne a1 m = (if a1 < 10 then 0 else (if (F1_hasOne 1 (a1 - 10) m) = 0 then 0 else 1)) := rfl
  show ax_N 1 Y7_asksOne 0 [some (.ref 0), some (.int a1)] [] m _
  refine s_iload_n eX7_asksOne_0 rfl rfl ?_
  refine s_bipush (v := 10) eX7_asksOne_1 rfl ?_
  refine s_icmp_lt eX7_asksOne_3 (fun h1 => ?_) (fun h1 => ?_)
  · skip
    rw [if_pos h1] at E
    refine s_iconst (v := 0) eX7_asksOne_24 rfl ?_
    exact s_zret eX7_asksOne_25 rfl (by first | exact Or.inl rfl | exact Or.inr rfl | (split <;> simp) | simp) ⟨rfl, by rw [E], rfl⟩
  · skip
    rw [if_neg h1] at E
    refine s_aload_n eX7_asksOne_6 rfl rfl ?_
    refine s_getr (q := 1) eX7_asksOne_7 fX7_10 shp_0 rfl ?_
    refine s_iload_n eX7_asksOne_10 rfl rfl ?_
    refine s_bipush (v := 10) eX7_asksOne_11 rfl ?_
    refine s_isub eX7_asksOne_13 ?_
    refine n_callVi (As := [.int (a1 - 10)]) eX7_asksOne_14 kX1_hasOne lX7_135 rfl rfl shp_1 rfl rfl (Nat.le_of_ble_eq_true rfl) (Nat.le_of_ble_eq_true rfl) (Nat.le_of_ble_eq_true rfl) (uX1_hasOne 1 (a1 - 10) m isG_1) ?_
    refine s_if_eq eX7_asksOne_17 (fun h2 => ?_) (fun h2 => ?_)
    · skip
      rw [if_pos h2] at E
      refine s_iconst (v := 0) eX7_asksOne_24 rfl ?_
      exact s_zret eX7_asksOne_25 rfl (by first | exact Or.inl rfl | exact Or.inr rfl | (split <;> simp) | simp) ⟨rfl, by rw [E], rfl⟩
    · skip
      rw [if_neg h2] at E
      refine s_iconst (v := 1) eX7_asksOne_20 rfl ?_
      refine s_goto eX7_asksOne_21 ?_
      exact s_zret eX7_asksOne_25 rfl (by first | exact Or.inl rfl | exact Or.inr rfl | (split <;> simp) | simp) ⟨rfl, by rw [E], rfl⟩
theorem uX7_errands (a1 : Int32) (a2 : Int32) (m : ax_M) (hD : D7_errands a1 a2 m) : ax_NM 12 Y7_errands [.ref 0, .int a1, .int a2] m (fun r m1 => r = some (.int (F7_errands a1 a2 m).1) ∧ m1 = (F7_errands a1 a2 m).2) := by
  have E : F7_errands a1 a2 m = (if (F1_hasBridge 1 a1 m) = 0 then ((-1), m) else (if a2 = 0 then (if a2 = 0 then ((F2_solve (F2_gather 1 a1 0 m)) 55 3, (F2_solve (F2_gather 1 a1 0 m))) else (F2_fellowOf (a2 - 10) (F2_solve (F2_gather 1 a1 0 m)), (F2_solve (F2_gather 1 a1 0 m)))) else (if (F7_asksOne a2 m) = 0 then ((-1), m) else (if a2 = 0 then ((F2_solve (F2_gather 1 a1 0 m)) 55 3, (F2_solve (F2_gather 1 a1 0 m))) else (F2_fellowOf (a2 - 10) (F2_solve (F2_gather 1 a1 0 m)), (F2_solve (F2_gather 1 a1 0 m))))))) := rfl
  unfold D7_errands at hD
  show ax_N 12 Y7_errands 0 [some (.ref 0), some (.int a1), some (.int a2)] [] m _
  refine s_aload_n eX7_errands_0 rfl rfl ?_
  refine s_getr (q := 1) eX7_errands_1 fX7_10 shp_0 rfl ?_
  refine s_iload_n eX7_errands_4 rfl rfl ?_
  refine n_callVi (As := [.int a1]) eX7_errands_5 kX1_hasBridge lX7_121 rfl rfl shp_1 rfl rfl (Nat.le_of_ble_eq_true rfl) (Nat.le_of_ble_eq_true rfl) (Nat.le_of_ble_eq_true rfl) (uX1_hasBridge 1 a1 m isG_1) ?_
  refine s_if_eq eX7_errands_8 (fun h1 => ?_) (fun h1 => ?_)
  · skip
    rw [if_pos h1] at E
    refine s_iconst (v := (-1)) eX7_errands_23 rfl ?_
    exact s_iret eX7_errands_24 rfl ⟨rfl, by rw [E], by rw [E]⟩
  · skip
    rw [if_neg h1] at E
    have hD := hD h1
    refine s_iload_n eX7_errands_11 rfl rfl ?_
    refine s_if_eq eX7_errands_12 (fun h2 => ?_) (fun h2 => ?_)
    · skip
      rw [if_pos h2] at E
      have hD := hD.1 h2
      refine s_aload_n eX7_errands_25 rfl rfl ?_
      refine s_getr (q := 55) eX7_errands_26 fX7_44 shp_0 rfl ?_
      refine s_aload_n eX7_errands_29 rfl rfl ?_
      refine s_getr (q := 1) eX7_errands_30 fX7_10 shp_0 rfl ?_
      refine s_iload_n eX7_errands_33 rfl rfl ?_
      refine s_iconst (v := 0) eX7_errands_34 rfl ?_
      obtain ⟨q3, hD⟩ := hD
      refine n_callVv (As := [.ref 1, .int a1, .int 0]) eX7_errands_35 kX2_gather lX7_210 rfl rfl shp_55 rfl rfl (Nat.le_of_ble_eq_true rfl) (Nat.le_of_ble_eq_true rfl) (Nat.le_of_ble_eq_true rfl) (uX2_gather 1 a1 0 m isG_1 q3) ?_
      refine s_aload_n eX7_errands_38 rfl rfl ?_
      refine s_getr (q := 55) eX7_errands_39 fX7_44 shp_0 rfl ?_
      obtain ⟨q4, hD⟩ := hD
      refine n_callVv (As := []) eX7_errands_42 kX2_solve lX7_214 rfl rfl shp_55 rfl rfl (Nat.le_of_ble_eq_true rfl) (Nat.le_of_ble_eq_true rfl) (Nat.le_of_ble_eq_true rfl) (uX2_solve ((F2_gather 1 a1 0 m)) q4) ?_
      refine s_iload_n eX7_errands_45 rfl rfl ?_
      refine s_if_ne eX7_errands_46 (fun h5 => ?_) (fun h5 => ?_)
      · skip
        exact absurd h2 h5
      · skip
        rw [if_pos h5] at E
        refine s_aload_n eX7_errands_49 rfl rfl ?_
        refine s_getr (q := 55) eX7_errands_50 fX7_44 shp_0 rfl ?_
        refine s_geti eX7_errands_53 fX7_217 shp_55 rfl ?_
        refine s_goto eX7_errands_56 ?_
        exact s_iret eX7_errands_70 rfl ⟨rfl, by rw [E], by rw [E]⟩
    · skip
      rw [if_neg h2] at E
      have hD := hD.2 h2
      refine s_aload_n eX7_errands_15 rfl rfl ?_
      refine s_iload_n eX7_errands_16 rfl rfl ?_
      refine n_callVi (As := [.int a2]) eX7_errands_17 kX7_asksOne lX7_207 rfl rfl shp_0 rfl rfl (Nat.le_of_ble_eq_true rfl) (Nat.le_of_ble_eq_true rfl) (Nat.le_of_ble_eq_true rfl) (uX7_asksOne a2 m) ?_
      refine s_if_ne eX7_errands_20 (fun h6 => ?_) (fun h6 => ?_)
      · skip
        rw [if_neg h6] at E
        have hD := hD h6
        refine s_aload_n eX7_errands_25 rfl rfl ?_
        refine s_getr (q := 55) eX7_errands_26 fX7_44 shp_0 rfl ?_
        refine s_aload_n eX7_errands_29 rfl rfl ?_
        refine s_getr (q := 1) eX7_errands_30 fX7_10 shp_0 rfl ?_
        refine s_iload_n eX7_errands_33 rfl rfl ?_
        refine s_iconst (v := 0) eX7_errands_34 rfl ?_
        obtain ⟨q7, hD⟩ := hD
        refine n_callVv (As := [.ref 1, .int a1, .int 0]) eX7_errands_35 kX2_gather lX7_210 rfl rfl shp_55 rfl rfl (Nat.le_of_ble_eq_true rfl) (Nat.le_of_ble_eq_true rfl) (Nat.le_of_ble_eq_true rfl) (uX2_gather 1 a1 0 m isG_1 q7) ?_
        refine s_aload_n eX7_errands_38 rfl rfl ?_
        refine s_getr (q := 55) eX7_errands_39 fX7_44 shp_0 rfl ?_
        obtain ⟨q8, hD⟩ := hD
        refine n_callVv (As := []) eX7_errands_42 kX2_solve lX7_214 rfl rfl shp_55 rfl rfl (Nat.le_of_ble_eq_true rfl) (Nat.le_of_ble_eq_true rfl) (Nat.le_of_ble_eq_true rfl) (uX2_solve ((F2_gather 1 a1 0 m)) q8) ?_
        refine s_iload_n eX7_errands_45 rfl rfl ?_
        refine s_if_ne eX7_errands_46 (fun h9 => ?_) (fun h9 => ?_)
        · skip
          rw [if_neg h9] at E
          have hD := hD h9
          refine s_aload_n eX7_errands_59 rfl rfl ?_
          refine s_getr (q := 55) eX7_errands_60 fX7_44 shp_0 rfl ?_
          refine s_iload_n eX7_errands_63 rfl rfl ?_
          refine s_bipush (v := 10) eX7_errands_64 rfl ?_
          refine s_isub eX7_errands_66 ?_
          have q10 := hD
          refine n_callVi (As := [.int (a2 - 10)]) eX7_errands_67 kX2_fellowOf lX7_220 rfl rfl shp_55 rfl rfl (Nat.le_of_ble_eq_true rfl) (Nat.le_of_ble_eq_true rfl) (Nat.le_of_ble_eq_true rfl) (uX2_fellowOf (a2 - 10) ((F2_solve (F2_gather 1 a1 0 m))) q10) ?_
          exact s_iret eX7_errands_70 rfl ⟨rfl, by rw [E], by rw [E]⟩
        · skip
          exact absurd h9 h2
      · skip
        rw [if_pos h6] at E
        refine s_iconst (v := (-1)) eX7_errands_23 rfl ?_
        exact s_iret eX7_errands_24 rfl ⟨rfl, by rw [E], by rw [E]⟩
theorem uX7_heaved (a1 : Int32) (a2 : Int32) (m : ax_M) (hD : D7_heaved a1 a2 m) : ax_NM 12 Y7_heaved [.ref 0, .int a1, .int a2] m (fun r m1 => r = some (.int (F7_heaved a1 a2 m).1) ∧ m1 = (F7_heaved a1 a2 m).2) := by
  have E : F7_heaved a1 a2 m = (if (F1_hasBridge 1 a1 m) = 0 then ((-1), m) else (if (F7_within a2 0 1 m) = 0 then (if (F7_asksOne a2 m) = 0 then ((-1), m) else (if a2 = 0 then ((F2_solve (F2_gather 1 a1 1 m)) 55 3, (F2_solve (F2_gather 1 a1 1 m))) else (if a2 = 1 then ((F2_solve (F2_gather 1 a1 1 m)) 55 4, (F2_solve (F2_gather 1 a1 1 m))) else (F2_fellowOf (a2 - 10) (F2_solve (F2_gather 1 a1 1 m)), (F2_solve (F2_gather 1 a1 1 m)))))) else (if a2 = 0 then ((F2_solve (F2_gather 1 a1 1 m)) 55 3, (F2_solve (F2_gather 1 a1 1 m))) else (if a2 = 1 then ((F2_solve (F2_gather 1 a1 1 m)) 55 4, (F2_solve (F2_gather 1 a1 1 m))) else (F2_fellowOf (a2 - 10) (F2_solve (F2_gather 1 a1 1 m)), (F2_solve (F2_gather 1 a1 1 m))))))) := rfl
  unfold D7_heaved at hD
  show ax_N 12 Y7_heaved 0 [some (.ref 0), some (.int a1), some (.int a2)] [] m _
  refine s_aload_n eX7_heaved_0 rfl rfl ?_
  refine s_getr (q := 1) eX7_heaved_1 fX7_10 shp_0 rfl ?_
  refine s_iload_n eX7_heaved_4 rfl rfl ?_
  refine n_callVi (As := [.int a1]) eX7_heaved_5 kX1_hasBridge lX7_121 rfl rfl shp_1 rfl rfl (Nat.le_of_ble_eq_true rfl) (Nat.le_of_ble_eq_true rfl) (Nat.le_of_ble_eq_true rfl) (uX1_hasBridge 1 a1 m isG_1) ?_
  refine s_if_eq eX7_heaved_8 (fun h1 => ?_) (fun h1 => ?_)
  · skip
    rw [if_pos h1] at E
    refine s_iconst (v := (-1)) eX7_heaved_28 rfl ?_
    exact s_iret eX7_heaved_29 rfl ⟨rfl, by rw [E], by rw [E]⟩
  · skip
    rw [if_neg h1] at E
    have hD := hD h1
    refine s_iload_n eX7_heaved_11 rfl rfl ?_
    refine s_iconst (v := 0) eX7_heaved_12 rfl ?_
    refine s_iconst (v := 1) eX7_heaved_13 rfl ?_
    refine n_callSi (As := [.int a2, .int 0, .int 1]) eX7_heaved_14 kX7_within lX7_76 rfl rfl (Nat.le_of_ble_eq_true rfl) (Nat.le_of_ble_eq_true rfl) (Nat.le_of_ble_eq_true rfl) (uX7_within a2 0 1 m) ?_
    refine s_if_ne eX7_heaved_17 (fun h2 => ?_) (fun h2 => ?_)
    · skip
      rw [if_neg h2] at E
      have hD := hD.2 h2
      refine s_aload_n eX7_heaved_30 rfl rfl ?_
      refine s_getr (q := 55) eX7_heaved_31 fX7_44 shp_0 rfl ?_
      refine s_aload_n eX7_heaved_34 rfl rfl ?_
      refine s_getr (q := 1) eX7_heaved_35 fX7_10 shp_0 rfl ?_
      refine s_iload_n eX7_heaved_38 rfl rfl ?_
      refine s_iconst (v := 1) eX7_heaved_39 rfl ?_
      obtain ⟨q3, hD⟩ := hD
      refine n_callVv (As := [.ref 1, .int a1, .int 1]) eX7_heaved_40 kX2_gather lX7_210 rfl rfl shp_55 rfl rfl (Nat.le_of_ble_eq_true rfl) (Nat.le_of_ble_eq_true rfl) (Nat.le_of_ble_eq_true rfl) (uX2_gather 1 a1 1 m isG_1 q3) ?_
      refine s_aload_n eX7_heaved_43 rfl rfl ?_
      refine s_getr (q := 55) eX7_heaved_44 fX7_44 shp_0 rfl ?_
      obtain ⟨q4, hD⟩ := hD
      refine n_callVv (As := []) eX7_heaved_47 kX2_solve lX7_214 rfl rfl shp_55 rfl rfl (Nat.le_of_ble_eq_true rfl) (Nat.le_of_ble_eq_true rfl) (Nat.le_of_ble_eq_true rfl) (uX2_solve ((F2_gather 1 a1 1 m)) q4) ?_
      refine s_iload_n eX7_heaved_50 rfl rfl ?_
      refine s_if_ne eX7_heaved_51 (fun h5 => ?_) (fun h5 => ?_)
      · skip
        rw [if_neg h5] at E
        have hD := hD h5
        refine s_iload_n eX7_heaved_62 rfl rfl ?_
        refine s_iconst (v := 1) eX7_heaved_63 rfl ?_
        refine s_icmp_ne eX7_heaved_64 (fun h6 => ?_) (fun h6 => ?_)
        · skip
          rw [if_neg h6] at E
          have hD := hD h6
          refine s_aload_n eX7_heaved_77 rfl rfl ?_
          refine s_getr (q := 55) eX7_heaved_78 fX7_44 shp_0 rfl ?_
          refine s_iload_n eX7_heaved_81 rfl rfl ?_
          refine s_bipush (v := 10) eX7_heaved_82 rfl ?_
          refine s_isub eX7_heaved_84 ?_
          have q7 := hD
          refine n_callVi (As := [.int (a2 - 10)]) eX7_heaved_85 kX2_fellowOf lX7_220 rfl rfl shp_55 rfl rfl (Nat.le_of_ble_eq_true rfl) (Nat.le_of_ble_eq_true rfl) (Nat.le_of_ble_eq_true rfl) (uX2_fellowOf (a2 - 10) ((F2_solve (F2_gather 1 a1 1 m))) q7) ?_
          exact s_iret eX7_heaved_88 rfl ⟨rfl, by rw [E], by rw [E]⟩
        · skip
          rw [if_pos h6] at E
          refine s_aload_n eX7_heaved_67 rfl rfl ?_
          refine s_getr (q := 55) eX7_heaved_68 fX7_44 shp_0 rfl ?_
          refine s_geti eX7_heaved_71 fX7_223 shp_55 rfl ?_
          refine s_goto eX7_heaved_74 ?_
          exact s_iret eX7_heaved_88 rfl ⟨rfl, by rw [E], by rw [E]⟩
      · skip
        rw [if_pos h5] at E
        refine s_aload_n eX7_heaved_54 rfl rfl ?_
        refine s_getr (q := 55) eX7_heaved_55 fX7_44 shp_0 rfl ?_
        refine s_geti eX7_heaved_58 fX7_217 shp_55 rfl ?_
        exact s_iret eX7_heaved_61 rfl ⟨rfl, by rw [E], by rw [E]⟩
    · skip
      rw [if_pos h2] at E
      have hD := hD.1 h2
      refine s_aload_n eX7_heaved_20 rfl rfl ?_
      refine s_iload_n eX7_heaved_21 rfl rfl ?_
      refine n_callVi (As := [.int a2]) eX7_heaved_22 kX7_asksOne lX7_207 rfl rfl shp_0 rfl rfl (Nat.le_of_ble_eq_true rfl) (Nat.le_of_ble_eq_true rfl) (Nat.le_of_ble_eq_true rfl) (uX7_asksOne a2 m) ?_
      refine s_if_ne eX7_heaved_25 (fun h8 => ?_) (fun h8 => ?_)
      · skip
        rw [if_neg h8] at E
        have hD := hD h8
        refine s_aload_n eX7_heaved_30 rfl rfl ?_
        refine s_getr (q := 55) eX7_heaved_31 fX7_44 shp_0 rfl ?_
        refine s_aload_n eX7_heaved_34 rfl rfl ?_
        refine s_getr (q := 1) eX7_heaved_35 fX7_10 shp_0 rfl ?_
        refine s_iload_n eX7_heaved_38 rfl rfl ?_
        refine s_iconst (v := 1) eX7_heaved_39 rfl ?_
        obtain ⟨q9, hD⟩ := hD
        refine n_callVv (As := [.ref 1, .int a1, .int 1]) eX7_heaved_40 kX2_gather lX7_210 rfl rfl shp_55 rfl rfl (Nat.le_of_ble_eq_true rfl) (Nat.le_of_ble_eq_true rfl) (Nat.le_of_ble_eq_true rfl) (uX2_gather 1 a1 1 m isG_1 q9) ?_
        refine s_aload_n eX7_heaved_43 rfl rfl ?_
        refine s_getr (q := 55) eX7_heaved_44 fX7_44 shp_0 rfl ?_
        obtain ⟨q10, hD⟩ := hD
        refine n_callVv (As := []) eX7_heaved_47 kX2_solve lX7_214 rfl rfl shp_55 rfl rfl (Nat.le_of_ble_eq_true rfl) (Nat.le_of_ble_eq_true rfl) (Nat.le_of_ble_eq_true rfl) (uX2_solve ((F2_gather 1 a1 1 m)) q10) ?_
        refine s_iload_n eX7_heaved_50 rfl rfl ?_
        refine s_if_ne eX7_heaved_51 (fun h11 => ?_) (fun h11 => ?_)
        · skip
          rw [if_neg h11] at E
          have hD := hD h11
          refine s_iload_n eX7_heaved_62 rfl rfl ?_
          refine s_iconst (v := 1) eX7_heaved_63 rfl ?_
          refine s_icmp_ne eX7_heaved_64 (fun h12 => ?_) (fun h12 => ?_)
          · skip
            rw [if_neg h12] at E
            have hD := hD h12
            refine s_aload_n eX7_heaved_77 rfl rfl ?_
            refine s_getr (q := 55) eX7_heaved_78 fX7_44 shp_0 rfl ?_
            refine s_iload_n eX7_heaved_81 rfl rfl ?_
            refine s_bipush (v := 10) eX7_heaved_82 rfl ?_
            refine s_isub eX7_heaved_84 ?_
            have q13 := hD
            refine n_callVi (As := [.int (a2 - 10)]) eX7_heaved_85 kX2_fellowOf lX7_220 rfl rfl shp_55 rfl rfl (Nat.le_of_ble_eq_true rfl) (Nat.le_of_ble_eq_true rfl) (Nat.le_of_ble_eq_true rfl) (uX2_fellowOf (a2 - 10) ((F2_solve (F2_gather 1 a1 1 m))) q13) ?_
            exact s_iret eX7_heaved_88 rfl ⟨rfl, by rw [E], by rw [E]⟩
          · skip
            rw [if_pos h12] at E
            refine s_aload_n eX7_heaved_67 rfl rfl ?_
            refine s_getr (q := 55) eX7_heaved_68 fX7_44 shp_0 rfl ?_
            refine s_geti eX7_heaved_71 fX7_223 shp_55 rfl ?_
            refine s_goto eX7_heaved_74 ?_
            exact s_iret eX7_heaved_88 rfl ⟨rfl, by rw [E], by rw [E]⟩
        · skip
          rw [if_pos h11] at E
          refine s_aload_n eX7_heaved_54 rfl rfl ?_
          refine s_getr (q := 55) eX7_heaved_55 fX7_44 shp_0 rfl ?_
          refine s_geti eX7_heaved_58 fX7_217 shp_55 rfl ?_
          exact s_iret eX7_heaved_61 rfl ⟨rfl, by rw [E], by rw [E]⟩
      · skip
        rw [if_pos h8] at E
        refine s_iconst (v := (-1)) eX7_heaved_28 rfl ?_
        exact s_iret eX7_heaved_29 rfl ⟨rfl, by rw [E], by rw [E]⟩
theorem uX7_worth (a1 : Int32) (a2 : Int32) (m : ax_M) (hD : D7_worth a1 a2 m) : ax_NM 12 Y7_worth [.ref 0, .int a1, .int a2] m (fun r m1 => r = some (.int (F7_worth a1 a2 m).1) ∧ m1 = (F7_worth a1 a2 m).2) := by
  have E : F7_worth a1 a2 m = (if (F1_hasBridge 1 a1 m) = 0 then ((-1), m) else (if (F1_hasOne 1 a2 m) = 0 then ((-1), m) else (((F2_solve (F2_gather 1 a1 0 m)) 55 3) - ((F2_solve (F2_leaveOut a2 (F2_solve (F2_gather 1 a1 0 m)))) 55 3), (F2_solve (F2_leaveOut a2 (F2_solve (F2_gather 1 a1 0 m))))))) := rfl
  unfold D7_worth at hD
  show ax_N 12 Y7_worth 0 [some (.ref 0), some (.int a1), some (.int a2), none] [] m _
  refine s_aload_n eX7_worth_0 rfl rfl ?_
  refine s_getr (q := 1) eX7_worth_1 fX7_10 shp_0 rfl ?_
  refine s_iload_n eX7_worth_4 rfl rfl ?_
  refine n_callVi (As := [.int a1]) eX7_worth_5 kX1_hasBridge lX7_121 rfl rfl shp_1 rfl rfl (Nat.le_of_ble_eq_true rfl) (Nat.le_of_ble_eq_true rfl) (Nat.le_of_ble_eq_true rfl) (uX1_hasBridge 1 a1 m isG_1) ?_
  refine s_if_eq eX7_worth_8 (fun h1 => ?_) (fun h1 => ?_)
  · skip
    rw [if_pos h1] at E
    refine s_iconst (v := (-1)) eX7_worth_22 rfl ?_
    exact s_iret eX7_worth_23 rfl ⟨rfl, by rw [E], by rw [E]⟩
  · skip
    rw [if_neg h1] at E
    have hD := hD h1
    refine s_aload_n eX7_worth_11 rfl rfl ?_
    refine s_getr (q := 1) eX7_worth_12 fX7_10 shp_0 rfl ?_
    refine s_iload_n eX7_worth_15 rfl rfl ?_
    refine n_callVi (As := [.int a2]) eX7_worth_16 kX1_hasOne lX7_135 rfl rfl shp_1 rfl rfl (Nat.le_of_ble_eq_true rfl) (Nat.le_of_ble_eq_true rfl) (Nat.le_of_ble_eq_true rfl) (uX1_hasOne 1 a2 m isG_1) ?_
    refine s_if_ne eX7_worth_19 (fun h2 => ?_) (fun h2 => ?_)
    · skip
      rw [if_neg h2] at E
      have hD := hD h2
      refine s_aload_n eX7_worth_24 rfl rfl ?_
      refine s_getr (q := 55) eX7_worth_25 fX7_44 shp_0 rfl ?_
      refine s_aload_n eX7_worth_28 rfl rfl ?_
      refine s_getr (q := 1) eX7_worth_29 fX7_10 shp_0 rfl ?_
      refine s_iload_n eX7_worth_32 rfl rfl ?_
      refine s_iconst (v := 0) eX7_worth_33 rfl ?_
      obtain ⟨q3, hD⟩ := hD
      refine n_callVv (As := [.ref 1, .int a1, .int 0]) eX7_worth_34 kX2_gather lX7_210 rfl rfl shp_55 rfl rfl (Nat.le_of_ble_eq_true rfl) (Nat.le_of_ble_eq_true rfl) (Nat.le_of_ble_eq_true rfl) (uX2_gather 1 a1 0 m isG_1 q3) ?_
      refine s_aload_n eX7_worth_37 rfl rfl ?_
      refine s_getr (q := 55) eX7_worth_38 fX7_44 shp_0 rfl ?_
      obtain ⟨q4, hD⟩ := hD
      refine n_callVv (As := []) eX7_worth_41 kX2_solve lX7_214 rfl rfl shp_55 rfl rfl (Nat.le_of_ble_eq_true rfl) (Nat.le_of_ble_eq_true rfl) (Nat.le_of_ble_eq_true rfl) (uX2_solve ((F2_gather 1 a1 0 m)) q4) ?_
      refine s_aload_n eX7_worth_44 rfl rfl ?_
      refine s_getr (q := 55) eX7_worth_45 fX7_44 shp_0 rfl ?_
      refine s_geti eX7_worth_48 fX7_217 shp_55 rfl ?_
      refine s_istore_n (ls' := [some (.ref 0), some (.int a1), some (.int a2), some (.int ((F2_solve (F2_gather 1 a1 0 m)) 55 3))]) eX7_worth_51 rfl rfl rfl ?_
      refine s_aload_n eX7_worth_52 rfl rfl ?_
      refine s_getr (q := 55) eX7_worth_53 fX7_44 shp_0 rfl ?_
      refine s_iload_n eX7_worth_56 rfl rfl ?_
      obtain ⟨q5, hD⟩ := hD
      refine n_callVv (As := [.int a2]) eX7_worth_57 kX2_leaveOut lX7_226 rfl rfl shp_55 rfl rfl (Nat.le_of_ble_eq_true rfl) (Nat.le_of_ble_eq_true rfl) (Nat.le_of_ble_eq_true rfl) (uX2_leaveOut a2 ((F2_solve (F2_gather 1 a1 0 m))) q5) ?_
      refine s_aload_n eX7_worth_60 rfl rfl ?_
      refine s_getr (q := 55) eX7_worth_61 fX7_44 shp_0 rfl ?_
      have q6 := hD
      refine n_callVv (As := []) eX7_worth_64 kX2_solve lX7_214 rfl rfl shp_55 rfl rfl (Nat.le_of_ble_eq_true rfl) (Nat.le_of_ble_eq_true rfl) (Nat.le_of_ble_eq_true rfl) (uX2_solve ((F2_leaveOut a2 (F2_solve (F2_gather 1 a1 0 m)))) q6) ?_
      refine s_iload_n eX7_worth_67 rfl rfl ?_
      refine s_aload_n eX7_worth_68 rfl rfl ?_
      refine s_getr (q := 55) eX7_worth_69 fX7_44 shp_0 rfl ?_
      refine s_geti eX7_worth_72 fX7_217 shp_55 rfl ?_
      refine s_isub eX7_worth_75 ?_
      exact s_iret eX7_worth_76 rfl ⟨rfl, by rw [E], by rw [E]⟩
    · skip
      rw [if_pos h2] at E
      refine s_iconst (v := (-1)) eX7_worth_22 rfl ?_
      exact s_iret eX7_worth_23 rfl ⟨rfl, by rw [E], by rw [E]⟩
