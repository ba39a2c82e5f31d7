/-! X8_season X8_copies X8_keep X8_back X8_sheet X8_lay -/
theorem clX8_season_58 {P : Option Value → ax_M → Prop} : ∀ (n : Nat) (v1 v2 v3 v4 v5 v6 : Int32) (m : ax_M), E8_season_58 n v1 v2 v3 v4 v5 v6 m → (ax_N 3 Y8_season 135 [some (.ref 74), some (.int v1), some (.int v2), some (.int v3), some (.int v4), some (.int ((L8_season_58 n v1 v2 v3 v4 v5 v6 m).1)), some (.int ((L8_season_58 n v1 v2 v3 v4 v5 v6 m).2.1)), none, none, none] [] ((L8_season_58 n v1 v2 v3 v4 v5 v6 m).2.2) P) → ax_N 3 Y8_season 58 [some (.ref 74), some (.int v1), some (.int v2), some (.int v3), some (.int v4), some (.int v5), some (.int v6), none, none, none] [] m P := by
  intro n
  induction n with
  | zero => intro v1 v2 v3 v4 v5 v6 m hD; exact absurd hD id
  | succ n ih =>
    intro v1 v2 v3 v4 v5 v6 m hD hx
    have E : L8_season_58 (n + 1) v1 v2 v3 v4 v5 v6 m = (if v2 ≤ v6 then (v5, v6, m) else L8_season_58 n v1 v2 v3 v4 (if ((F8_draws ((F8_draws (m 74 2) m).2 74 3) (F8_draws (m 74 2) m).2).1) = ((F8_draws ((F8_draws ((F8_draws (m 74 2) m).2 74 3) (F8_draws (m 74 2) m).2).2 74 3) (F8_draws ((F8_draws (m 74 2) m).2 74 3) (F8_draws (m 74 2) m).2).2).1) then (v5 : Int32) else if (F8_canCross ((F8_draws (m 74 2) m).1) ((F8_draws ((F8_draws (m 74 2) m).2 74 3) (F8_draws (m 74 2) m).2).1) ((F8_draws ((F8_draws ((F8_draws (m 74 2) m).2 74 3) (F8_draws (m 74 2) m).2).2 74 3) (F8_draws ((F8_draws (m 74 2) m).2 74 3) (F8_draws (m 74 2) m).2).2).1) 0 0 (F8_draws ((F8_draws ((F8_draws (m 74 2) m).2 74 3) (F8_draws (m 74 2) m).2).2 74 3) (F8_draws ((F8_draws (m 74 2) m).2 74 3) (F8_draws (m 74 2) m).2).2).2) = 0 then (v5 : Int32) else v5 + 1) (v6 + 1) (if ((F8_draws ((F8_draws (m 74 2) m).2 74 3) (F8_draws (m 74 2) m).2).1) = ((F8_draws ((F8_draws ((F8_draws (m 74 2) m).2 74 3) (F8_draws (m 74 2) m).2).2 74 3) (F8_draws ((F8_draws (m 74 2) m).2 74 3) (F8_draws (m 74 2) m).2).2).1) then (F8_draws ((F8_draws ((F8_draws (m 74 2) m).2 74 3) (F8_draws (m 74 2) m).2).2 74 3) (F8_draws ((F8_draws (m 74 2) m).2 74 3) (F8_draws (m 74 2) m).2).2).2 else (if (F8_canCross ((F8_draws (m 74 2) m).1) ((F8_draws ((F8_draws (m 74 2) m).2 74 3) (F8_draws (m 74 2) m).2).1) ((F8_draws ((F8_draws ((F8_draws (m 74 2) m).2 74 3) (F8_draws (m 74 2) m).2).2 74 3) (F8_draws ((F8_draws (m 74 2) m).2 74 3) (F8_draws (m 74 2) m).2).2).1) 0 0 (F8_draws ((F8_draws ((F8_draws (m 74 2) m).2 74 3) (F8_draws (m 74 2) m).2).2 74 3) (F8_draws ((F8_draws (m 74 2) m).2 74 3) (F8_draws (m 74 2) m).2).2).2) = 0 then (F8_draws ((F8_draws ((F8_draws (m 74 2) m).2 74 3) (F8_draws (m 74 2) m).2).2 74 3) (F8_draws ((F8_draws (m 74 2) m).2 74 3) (F8_draws (m 74 2) m).2).2).2 else (F8_swaps ((F8_draws (m 74 2) m).1) ((F8_draws ((F8_draws (m 74 2) m).2 74 3) (F8_draws (m 74 2) m).2).1) ((F8_draws ((F8_draws ((F8_draws (m 74 2) m).2 74 3) (F8_draws (m 74 2) m).2).2 74 3) (F8_draws ((F8_draws (m 74 2) m).2 74 3) (F8_draws (m 74 2) m).2).2).1) (F8_draws ((F8_draws ((F8_draws (m 74 2) m).2 74 3) (F8_draws (m 74 2) m).2).2 74 3) (F8_draws ((F8_draws (m 74 2) m).2 74 3) (F8_draws (m 74 2) m).2).2).2)))) := by rw [L8_season_58]
    have hD : ((¬ (v2 ≤ v6) → ((D8_draws (m 74 2) m) ∧ (D8_draws ((F8_draws (m 74 2) m).2 74 3) (F8_draws (m 74 2) m).2) ∧ (D8_draws ((F8_draws ((F8_draws (m 74 2) m).2 74 3) (F8_draws (m 74 2) m).2).2 74 3) (F8_draws ((F8_draws (m 74 2) m).2 74 3) (F8_draws (m 74 2) m).2).2) ∧ (¬ (((F8_draws ((F8_draws (m 74 2) m).2 74 3) (F8_draws (m 74 2) m).2).1) = ((F8_draws ((F8_draws ((F8_draws (m 74 2) m).2 74 3) (F8_draws (m 74 2) m).2).2 74 3) (F8_draws ((F8_draws (m 74 2) m).2 74 3) (F8_draws (m 74 2) m).2).2).1)) → ((D8_canCross ((F8_draws (m 74 2) m).1) ((F8_draws ((F8_draws (m 74 2) m).2 74 3) (F8_draws (m 74 2) m).2).1) ((F8_draws ((F8_draws ((F8_draws (m 74 2) m).2 74 3) (F8_draws (m 74 2) m).2).2 74 3) (F8_draws ((F8_draws (m 74 2) m).2 74 3) (F8_draws (m 74 2) m).2).2).1) 0 0 (F8_draws ((F8_draws ((F8_draws (m 74 2) m).2 74 3) (F8_draws (m 74 2) m).2).2 74 3) (F8_draws ((F8_draws (m 74 2) m).2 74 3) (F8_draws (m 74 2) m).2).2).2) ∧ (¬ ((F8_canCross ((F8_draws (m 74 2) m).1) ((F8_draws ((F8_draws (m 74 2) m).2 74 3) (F8_draws (m 74 2) m).2).1) ((F8_draws ((F8_draws ((F8_draws (m 74 2) m).2 74 3) (F8_draws (m 74 2) m).2).2 74 3) (F8_draws ((F8_draws (m 74 2) m).2 74 3) (F8_draws (m 74 2) m).2).2).1) 0 0 (F8_draws ((F8_draws ((F8_draws (m 74 2) m).2 74 3) (F8_draws (m 74 2) m).2).2 74 3) (F8_draws ((F8_draws (m 74 2) m).2 74 3) (F8_draws (m 74 2) m).2).2).2) = 0) → ((D8_swaps ((F8_draws (m 74 2) m).1) ((F8_draws ((F8_draws (m 74 2) m).2 74 3) (F8_draws (m 74 2) m).2).1) ((F8_draws ((F8_draws ((F8_draws (m 74 2) m).2 74 3) (F8_draws (m 74 2) m).2).2 74 3) (F8_draws ((F8_draws (m 74 2) m).2 74 3) (F8_draws (m 74 2) m).2).2).1) (F8_draws ((F8_draws ((F8_draws (m 74 2) m).2 74 3) (F8_draws (m 74 2) m).2).2 74 3) (F8_draws ((F8_draws (m 74 2) m).2 74 3) (F8_draws (m 74 2) m).2).2).2))))) ∧ (E8_season_58 n v1 v2 v3 v4 (if ((F8_draws ((F8_draws (m 74 2) m).2 74 3) (F8_draws (m 74 2) m).2).1) = ((F8_draws ((F8_draws ((F8_draws (m 74 2) m).2 74 3) (F8_draws (m 74 2) m).2).2 74 3) (F8_draws ((F8_draws (m 74 2) m).2 74 3) (F8_draws (m 74 2) m).2).2).1) then (v5 : Int32) else if (F8_canCross ((F8_draws (m 74 2) m).1) ((F8_draws ((F8_draws (m 74 2) m).2 74 3) (F8_draws (m 74 2) m).2).1) ((F8_draws ((F8_draws ((F8_draws (m 74 2) m).2 74 3) (F8_draws (m 74 2) m).2).2 74 3) (F8_draws ((F8_draws (m 74 2) m).2 74 3) (F8_draws (m 74 2) m).2).2).1) 0 0 (F8_draws ((F8_draws ((F8_draws (m 74 2) m).2 74 3) (F8_draws (m 74 2) m).2).2 74 3) (F8_draws ((F8_draws (m 74 2) m).2 74 3) (F8_draws (m 74 2) m).2).2).2) = 0 then (v5 : Int32) else v5 + 1) (v6 + 1) (if ((F8_draws ((F8_draws (m 74 2) m).2 74 3) (F8_draws (m 74 2) m).2).1) = ((F8_draws ((F8_draws ((F8_draws (m 74 2) m).2 74 3) (F8_draws (m 74 2) m).2).2 74 3) (F8_draws ((F8_draws (m 74 2) m).2 74 3) (F8_draws (m 74 2) m).2).2).1) then (F8_draws ((F8_draws ((F8_draws (m 74 2) m).2 74 3) (F8_draws (m 74 2) m).2).2 74 3) (F8_draws ((F8_draws (m 74 2) m).2 74 3) (F8_draws (m 74 2) m).2).2).2 else (if (F8_canCross ((F8_draws (m 74 2) m).1) ((F8_draws ((F8_draws (m 74 2) m).2 74 3) (F8_draws (m 74 2) m).2).1) ((F8_draws ((F8_draws ((F8_draws (m 74 2) m).2 74 3) (F8_draws (m 74 2) m).2).2 74 3) (F8_draws ((F8_draws (m 74 2) m).2 74 3) (F8_draws (m 74 2) m).2).2).1) 0 0 (F8_draws ((F8_draws ((F8_draws (m 74 2) m).2 74 3) (F8_draws (m 74 2) m).2).2 74 3) (F8_draws ((F8_draws (m 74 2) m).2 74 3) (F8_draws (m 74 2) m).2).2).2) = 0 then (F8_draws ((F8_draws ((F8_draws (m 74 2) m).2 74 3) (F8_draws (m 74 2) m).2).2 74 3) (F8_draws ((F8_draws (m 74 2) m).2 74 3) (F8_draws (m 74 2) m).2).2).2 else (F8_swaps ((F8_draws (m 74 2) m).1) ((F8_draws ((F8_draws (m 74 2) m).2 74 3) (F8_draws (m 74 2) m).2).1) ((F8_draws ((F8_draws ((F8_draws (m 74 2) m).2 74 3) (F8_draws (m 74 2) m).2).2 74 3) (F8_draws ((F8_draws (m 74 2) m).2 74 3) (F8_draws (m 74 2) m).2).2).1) (F8_draws ((F8_draws ((F8_draws (m 74 2) m).2 74 3) (F8_draws (m 74 2) m).2).2 74 3) (F8_draws ((F8_draws (m 74 2) m).2 74 3) (F8_draws (m 74 2) m).2).2).2))))))) := hD
    refine s_iload eX8_season_58 rfl ?_
    refine s_iload_n eX8_season_60 rfl rfl ?_
    refine s_icmp_ge eX8_season_61 (fun h1 => ?_) (fun h1 => ?_)
    · skip
      rw [if_pos h1] at E
      rw [E] at hx
      exact hx
    · skip
      rw [if_neg h1] at E
      have hD := hD h1
      refine s_aload_n eX8_season_64 rfl rfl ?_
      refine s_aload_n eX8_season_65 rfl rfl ?_
      refine s_geti eX8_season_66 fX8_199 shp_74 rfl ?_
      obtain ⟨q2, hD⟩ := hD
      refine n_callVi (As := [.int (m 74 2)]) eX8_season_69 kX8_draws lX8_339 rfl rfl shp_74 rfl rfl (Nat.le_of_ble_eq_true rfl) (Nat.le_of_ble_eq_true rfl) (Nat.le_of_ble_eq_true rfl) (uX8_draws (m 74 2) m q2) ?_
      refine s_istore (ls' := [some (.ref 74), some (.int v1), some (.int v2), some (.int v3), some (.int v4), some (.int v5), some (.int v6), some (.int ((F8_draws (m 74 2) m).1)), none, none]) eX8_season_72 rfl rfl ?_
      refine s_aload_n eX8_season_74 rfl rfl ?_
      refine s_aload_n eX8_season_75 rfl rfl ?_
      refine s_geti eX8_season_76 fX8_202 shp_74 rfl ?_
      obtain ⟨q3, hD⟩ := hD
      refine n_callVi (As := [.int ((F8_draws (m 74 2) m).2 74 3)]) eX8_season_79 kX8_draws lX8_339 rfl rfl shp_74 rfl rfl (Nat.le_of_ble_eq_true rfl) (Nat.le_of_ble_eq_true rfl) (Nat.le_of_ble_eq_true rfl) (uX8_draws ((F8_draws (m 74 2) m).2 74 3) ((F8_draws (m 74 2) m).2) q3) ?_
      refine s_istore (ls' := [some (.ref 74), some (.int v1), some (.int v2), some (.int v3), some (.int v4), some (.int v5), some (.int v6), some (.int ((F8_draws (m 74 2) m).1)), some (.int ((F8_draws ((F8_draws (m 74 2) m).2 74 3) (F8_draws (m 74 2) m).2).1)), none]) eX8_season_82 rfl rfl ?_
      refine s_aload_n eX8_season_84 rfl rfl ?_
      refine s_aload_n eX8_season_85 rfl rfl ?_
      refine s_geti eX8_season_86 fX8_202 shp_74 rfl ?_
      obtain ⟨q4, hD⟩ := hD
      refine n_callVi (As := [.int ((F8_draws ((F8_draws (m 74 2) m).2 74 3) (F8_draws (m 74 2) m).2).2 74 3)]) eX8_season_89 kX8_draws lX8_339 rfl rfl shp_74 rfl rfl (Nat.le_of_ble_eq_true rfl) (Nat.le_of_ble_eq_true rfl) (Nat.le_of_ble_eq_true rfl) (uX8_draws ((F8_draws ((F8_draws (m 74 2) m).2 74 3) (F8_draws (m 74 2) m).2).2 74 3) ((F8_draws ((F8_draws (m 74 2) m).2 74 3) (F8_draws (m 74 2) m).2).2) q4) ?_
      refine s_istore (ls' := [some (.ref 74), some (.int v1), some (.int v2), some (.int v3), some (.int v4), some (.int v5), some (.int v6), some (.int ((F8_draws (m 74 2) m).1)), some (.int ((F8_draws ((F8_draws (m 74 2) m).2 74 3) (F8_draws (m 74 2) m).2).1)), some (.int ((F8_draws ((F8_draws ((F8_draws (m 74 2) m).2 74 3) (F8_draws (m 74 2) m).2).2 74 3) (F8_draws ((F8_draws (m 74 2) m).2 74 3) (F8_draws (m 74 2) m).2).2).1))]) eX8_season_92 rfl rfl ?_
      refine s_iload eX8_season_94 rfl ?_
      refine s_iload eX8_season_96 rfl ?_
      obtain ⟨s5, hD⟩ := hD
      have J6 : ax_N 3 Y8_season 129 [some (.ref 74), some (.int v1), some (.int v2), some (.int v3), some (.int v4), some (.int (if ((F8_draws ((F8_draws (m 74 2) m).2 74 3) (F8_draws (m 74 2) m).2).1) = ((F8_draws ((F8_draws ((F8_draws (m 74 2) m).2 74 3) (F8_draws (m 74 2) m).2).2 74 3) (F8_draws ((F8_draws (m 74 2) m).2 74 3) (F8_draws (m 74 2) m).2).2).1) then (v5 : Int32) else if (F8_canCross ((F8_draws (m 74 2) m).1) ((F8_draws ((F8_draws (m 74 2) m).2 74 3) (F8_draws (m 74 2) m).2).1) ((F8_draws ((F8_draws ((F8_draws (m 74 2) m).2 74 3) (F8_draws (m 74 2) m).2).2 74 3) (F8_draws ((F8_draws (m 74 2) m).2 74 3) (F8_draws (m 74 2) m).2).2).1) 0 0 (F8_draws ((F8_draws ((F8_draws (m 74 2) m).2 74 3) (F8_draws (m 74 2) m).2).2 74 3) (F8_draws ((F8_draws (m 74 2) m).2 74 3) (F8_draws (m 74 2) m).2).2).2) = 0 then (v5 : Int32) else v5 + 1)), some (.int v6), some (.int ((F8_draws (m 74 2) m).1)), some (.int ((F8_draws ((F8_draws (m 74 2) m).2 74 3) (F8_draws (m 74 2) m).2).1)), some (.int ((F8_draws ((F8_draws ((F8_draws (m 74 2) m).2 74 3) (F8_draws (m 74 2) m).2).2 74 3) (F8_draws ((F8_draws (m 74 2) m).2 74 3) (F8_draws (m 74 2) m).2).2).1))] [] ((if ((F8_draws ((F8_draws (m 74 2) m).2 74 3) (F8_draws (m 74 2) m).2).1) = ((F8_draws ((F8_draws ((F8_draws (m 74 2) m).2 74 3) (F8_draws (m 74 2) m).2).2 74 3) (F8_draws ((F8_draws (m 74 2) m).2 74 3) (F8_draws (m 74 2) m).2).2).1) then (F8_draws ((F8_draws ((F8_draws (m 74 2) m).2 74 3) (F8_draws (m 74 2) m).2).2 74 3) (F8_draws ((F8_draws (m 74 2) m).2 74 3) (F8_draws (m 74 2) m).2).2).2 else (if (F8_canCross ((F8_draws (m 74 2) m).1) ((F8_draws ((F8_draws (m 74 2) m).2 74 3) (F8_draws (m 74 2) m).2).1) ((F8_draws ((F8_draws ((F8_draws (m 74 2) m).2 74 3) (F8_draws (m 74 2) m).2).2 74 3) (F8_draws ((F8_draws (m 74 2) m).2 74 3) (F8_draws (m 74 2) m).2).2).1) 0 0 (F8_draws ((F8_draws ((F8_draws (m 74 2) m).2 74 3) (F8_draws (m 74 2) m).2).2 74 3) (F8_draws ((F8_draws (m 74 2) m).2 74 3) (F8_draws (m 74 2) m).2).2).2) = 0 then (F8_draws ((F8_draws ((F8_draws (m 74 2) m).2 74 3) (F8_draws (m 74 2) m).2).2 74 3) (F8_draws ((F8_draws (m 74 2) m).2 74 3) (F8_draws (m 74 2) m).2).2).2 else (F8_swaps ((F8_draws (m 74 2) m).1) ((F8_draws ((F8_draws (m 74 2) m).2 74 3) (F8_draws (m 74 2) m).2).1) ((F8_draws ((F8_draws ((F8_draws (m 74 2) m).2 74 3) (F8_draws (m 74 2) m).2).2 74 3) (F8_draws ((F8_draws (m 74 2) m).2 74 3) (F8_draws (m 74 2) m).2).2).1) (F8_draws ((F8_draws ((F8_draws (m 74 2) m).2 74 3) (F8_draws (m 74 2) m).2).2 74 3) (F8_draws ((F8_draws (m 74 2) m).2 74 3) (F8_draws (m 74 2) m).2).2).2)))) P := by
        refine s_iinc (v := v6 + 1) (ls' := [some (.ref 74), some (.int v1), some (.int v2), some (.int v3), some (.int v4), some (.int (if ((F8_draws ((F8_draws (m 74 2) m).2 74 3) (F8_draws (m 74 2) m).2).1) = ((F8_draws ((F8_draws ((F8_draws (m 74 2) m).2 74 3) (F8_draws (m 74 2) m).2).2 74 3) (F8_draws ((F8_draws (m 74 2) m).2 74 3) (F8_draws (m 74 2) m).2).2).1) then (v5 : Int32) else if (F8_canCross ((F8_draws (m 74 2) m).1) ((F8_draws ((F8_draws (m 74 2) m).2 74 3) (F8_draws (m 74 2) m).2).1) ((F8_draws ((F8_draws ((F8_draws (m 74 2) m).2 74 3) (F8_draws (m 74 2) m).2).2 74 3) (F8_draws ((F8_draws (m 74 2) m).2 74 3) (F8_draws (m 74 2) m).2).2).1) 0 0 (F8_draws ((F8_draws ((F8_draws (m 74 2) m).2 74 3) (F8_draws (m 74 2) m).2).2 74 3) (F8_draws ((F8_draws (m 74 2) m).2 74 3) (F8_draws (m 74 2) m).2).2).2) = 0 then (v5 : Int32) else v5 + 1)), some (.int (v6 + 1)), some (.int ((F8_draws (m 74 2) m).1)), some (.int ((F8_draws ((F8_draws (m 74 2) m).2 74 3) (F8_draws (m 74 2) m).2).1)), some (.int ((F8_draws ((F8_draws ((F8_draws (m 74 2) m).2 74 3) (F8_draws (m 74 2) m).2).2 74 3) (F8_draws ((F8_draws (m 74 2) m).2 74 3) (F8_draws (m 74 2) m).2).2).1))]) eX8_season_129 rfl rfl rfl rfl ?_
        refine s_goto eX8_season_132 ?_
        refine ax_forget (ls' := [some (.ref 74), some (.int v1), some (.int v2), some (.int v3), some (.int v4), some (.int (if ((F8_draws ((F8_draws (m 74 2) m).2 74 3) (F8_draws (m 74 2) m).2).1) = ((F8_draws ((F8_draws ((F8_draws (m 74 2) m).2 74 3) (F8_draws (m 74 2) m).2).2 74 3) (F8_draws ((F8_draws (m 74 2) m).2 74 3) (F8_draws (m 74 2) m).2).2).1) then (v5 : Int32) else if (F8_canCross ((F8_draws (m 74 2) m).1) ((F8_draws ((F8_draws (m 74 2) m).2 74 3) (F8_draws (m 74 2) m).2).1) ((F8_draws ((F8_draws ((F8_draws (m 74 2) m).2 74 3) (F8_draws (m 74 2) m).2).2 74 3) (F8_draws ((F8_draws (m 74 2) m).2 74 3) (F8_draws (m 74 2) m).2).2).1) 0 0 (F8_draws ((F8_draws ((F8_draws (m 74 2) m).2 74 3) (F8_draws (m 74 2) m).2).2 74 3) (F8_draws ((F8_draws (m 74 2) m).2 74 3) (F8_draws (m 74 2) m).2).2).2) = 0 then (v5 : Int32) else v5 + 1)), some (.int (v6 + 1)), none, none, none]) rfl ?_
        rw [E] at hx
        exact ih v1 v2 v3 v4 (if ((F8_draws ((F8_draws (m 74 2) m).2 74 3) (F8_draws (m 74 2) m).2).1) = ((F8_draws ((F8_draws ((F8_draws (m 74 2) m).2 74 3) (F8_draws (m 74 2) m).2).2 74 3) (F8_draws ((F8_draws (m 74 2) m).2 74 3) (F8_draws (m 74 2) m).2).2).1) then (v5 : Int32) else if (F8_canCross ((F8_draws (m 74 2) m).1) ((F8_draws ((F8_draws (m 74 2) m).2 74 3) (F8_draws (m 74 2) m).2).1) ((F8_draws ((F8_draws ((F8_draws (m 74 2) m).2 74 3) (F8_draws (m 74 2) m).2).2 74 3) (F8_draws ((F8_draws (m 74 2) m).2 74 3) (F8_draws (m 74 2) m).2).2).1) 0 0 (F8_draws ((F8_draws ((F8_draws (m 74 2) m).2 74 3) (F8_draws (m 74 2) m).2).2 74 3) (F8_draws ((F8_draws (m 74 2) m).2 74 3) (F8_draws (m 74 2) m).2).2).2) = 0 then (v5 : Int32) else v5 + 1) (v6 + 1) ((if ((F8_draws ((F8_draws (m 74 2) m).2 74 3) (F8_draws (m 74 2) m).2).1) = ((F8_draws ((F8_draws ((F8_draws (m 74 2) m).2 74 3) (F8_draws (m 74 2) m).2).2 74 3) (F8_draws ((F8_draws (m 74 2) m).2 74 3) (F8_draws (m 74 2) m).2).2).1) then (F8_draws ((F8_draws ((F8_draws (m 74 2) m).2 74 3) (F8_draws (m 74 2) m).2).2 74 3) (F8_draws ((F8_draws (m 74 2) m).2 74 3) (F8_draws (m 74 2) m).2).2).2 else (if (F8_canCross ((F8_draws (m 74 2) m).1) ((F8_draws ((F8_draws (m 74 2) m).2 74 3) (F8_draws (m 74 2) m).2).1) ((F8_draws ((F8_draws ((F8_draws (m 74 2) m).2 74 3) (F8_draws (m 74 2) m).2).2 74 3) (F8_draws ((F8_draws (m 74 2) m).2 74 3) (F8_draws (m 74 2) m).2).2).1) 0 0 (F8_draws ((F8_draws ((F8_draws (m 74 2) m).2 74 3) (F8_draws (m 74 2) m).2).2 74 3) (F8_draws ((F8_draws (m 74 2) m).2 74 3) (F8_draws (m 74 2) m).2).2).2) = 0 then (F8_draws ((F8_draws ((F8_draws (m 74 2) m).2 74 3) (F8_draws (m 74 2) m).2).2 74 3) (F8_draws ((F8_draws (m 74 2) m).2 74 3) (F8_draws (m 74 2) m).2).2).2 else (F8_swaps ((F8_draws (m 74 2) m).1) ((F8_draws ((F8_draws (m 74 2) m).2 74 3) (F8_draws (m 74 2) m).2).1) ((F8_draws ((F8_draws ((F8_draws (m 74 2) m).2 74 3) (F8_draws (m 74 2) m).2).2 74 3) (F8_draws ((F8_draws (m 74 2) m).2 74 3) (F8_draws (m 74 2) m).2).2).1) (F8_draws ((F8_draws ((F8_draws (m 74 2) m).2 74 3) (F8_draws (m 74 2) m).2).2 74 3) (F8_draws ((F8_draws (m 74 2) m).2 74 3) (F8_draws (m 74 2) m).2).2).2)))) hD hx
      have hD := s5
      refine s_icmp_eq eX8_season_98 (fun h7 => ?_) (fun h7 => ?_)
      · skip
        exact ax_eqN (by rw [show (if ((F8_draws ((F8_draws (m 74 2) m).2 74 3) (F8_draws (m 74 2) m).2).1) = ((F8_draws ((F8_draws ((F8_draws (m 74 2) m).2 74 3) (F8_draws (m 74 2) m).2).2 74 3) (F8_draws ((F8_draws (m 74 2) m).2 74 3) (F8_draws (m 74 2) m).2).2).1) then (v5 : Int32) else if (F8_canCross ((F8_draws (m 74 2) m).1) ((F8_draws ((F8_draws (m 74 2) m).2 74 3) (F8_draws (m 74 2) m).2).1) ((F8_draws ((F8_draws ((F8_draws (m 74 2) m).2 74 3) (F8_draws (m 74 2) m).2).2 74 3) (F8_draws ((F8_draws (m 74 2) m).2 74 3) (F8_draws (m 74 2) m).2).2).1) 0 0 (F8_draws ((F8_draws ((F8_draws (m 74 2) m).2 74 3) (F8_draws (m 74 2) m).2).2 74 3) (F8_draws ((F8_draws (m 74 2) m).2 74 3) (F8_draws (m 74 2) m).2).2).2) = 0 then (v5 : Int32) else v5 + 1 : Int32) = v5 by rw [if_pos h7]]) rfl (by rw [show ((if ((F8_draws ((F8_draws (m 74 2) m).2 74 3) (F8_draws (m 74 2) m).2).1) = ((F8_draws ((F8_draws ((F8_draws (m 74 2) m).2 74 3) (F8_draws (m 74 2) m).2).2 74 3) (F8_draws ((F8_draws (m 74 2) m).2 74 3) (F8_draws (m 74 2) m).2).2).1) then (F8_draws ((F8_draws ((F8_draws (m 74 2) m).2 74 3) (F8_draws (m 74 2) m).2).2 74 3) (F8_draws ((F8_draws (m 74 2) m).2 74 3) (F8_draws (m 74 2) m).2).2).2 else (if (F8_canCross ((F8_draws (m 74 2) m).1) ((F8_draws ((F8_draws (m 74 2) m).2 74 3) (F8_draws (m 74 2) m).2).1) ((F8_draws ((F8_draws ((F8_draws (m 74 2) m).2 74 3) (F8_draws (m 74 2) m).2).2 74 3) (F8_draws ((F8_draws (m 74 2) m).2 74 3) (F8_draws (m 74 2) m).2).2).1) 0 0 (F8_draws ((F8_draws ((F8_draws (m 74 2) m).2 74 3) (F8_draws (m 74 2) m).2).2 74 3) (F8_draws ((F8_draws (m 74 2) m).2 74 3) (F8_draws (m 74 2) m).2).2).2) = 0 then (F8_draws ((F8_draws ((F8_draws (m 74 2) m).2 74 3) (F8_draws (m 74 2) m).2).2 74 3) (F8_draws ((F8_draws (m 74 2) m).2 74 3) (F8_draws (m 74 2) m).2).2).2 else (F8_swaps ((F8_draws (m 74 2) m).1) ((F8_draws ((F8_draws (m 74 2) m).2 74 3) (F8_draws (m 74 2) m).2).1) ((F8_draws ((F8_draws ((F8_draws (m 74 2) m).2 74 3) (F8_draws (m 74 2) m).2).2 74 3) (F8_draws ((F8_draws (m 74 2) m).2 74 3) (F8_draws (m 74 2) m).2).2).1) (F8_draws ((F8_draws ((F8_draws (m 74 2) m).2 74 3) (F8_draws (m 74 2) m).2).2 74 3) (F8_draws ((F8_draws (m 74 2) m).2 74 3) (F8_draws (m 74 2) m).2).2).2))) : ax_M) = (F8_draws ((F8_draws ((F8_draws (m 74 2) m).2 74 3) (F8_draws (m 74 2) m).2).2 74 3) (F8_draws ((F8_draws (m 74 2) m).2 74 3) (F8_draws (m 74 2) m).2).2).2 by rw [if_pos h7]]) J6
      · skip
        have hD := hD h7
        refine s_aload_n eX8_season_101 rfl rfl ?_
        refine s_iload eX8_season_102 rfl ?_
        refine s_iload eX8_season_104 rfl ?_
        refine s_iload eX8_season_106 rfl ?_
        refine s_iconst (v := 0) eX8_season_108 rfl ?_
        refine s_iconst (v := 0) eX8_season_109 rfl ?_
        obtain ⟨q8, hD⟩ := hD
        refine n_callVi (As := [.int ((F8_draws (m 74 2) m).1), .int ((F8_draws ((F8_draws (m 74 2) m).2 74 3) (F8_draws (m 74 2) m).2).1), .int ((F8_draws ((F8_draws ((F8_draws (m 74 2) m).2 74 3) (F8_draws (m 74 2) m).2).2 74 3) (F8_draws ((F8_draws (m 74 2) m).2 74 3) (F8_draws (m 74 2) m).2).2).1), .int 0, .int 0]) eX8_season_110 kX8_canCross lX8_262 rfl rfl shp_74 rfl rfl (Nat.le_of_ble_eq_true rfl) (Nat.le_of_ble_eq_true rfl) (Nat.le_of_ble_eq_true rfl) (uX8_canCross ((F8_draws (m 74 2) m).1) ((F8_draws ((F8_draws (m 74 2) m).2 74 3) (F8_draws (m 74 2) m).2).1) ((F8_draws ((F8_draws ((F8_draws (m 74 2) m).2 74 3) (F8_draws (m 74 2) m).2).2 74 3) (F8_draws ((F8_draws (m 74 2) m).2 74 3) (F8_draws (m 74 2) m).2).2).1) 0 0 ((F8_draws ((F8_draws ((F8_draws (m 74 2) m).2 74 3) (F8_draws (m 74 2) m).2).2 74 3) (F8_draws ((F8_draws (m 74 2) m).2 74 3) (F8_draws (m 74 2) m).2).2).2) q8) ?_
        refine s_if_eq eX8_season_113 (fun h9 => ?_) (fun h9 => ?_)
        · skip
          exact ax_eqN (by rw [show (if ((F8_draws ((F8_draws (m 74 2) m).2 74 3) (F8_draws (m 74 2) m).2).1) = ((F8_draws ((F8_draws ((F8_draws (m 74 2) m).2 74 3) (F8_draws (m 74 2) m).2).2 74 3) (F8_draws ((F8_draws (m 74 2) m).2 74 3) (F8_draws (m 74 2) m).2).2).1) then (v5 : Int32) else if (F8_canCross ((F8_draws (m 74 2) m).1) ((F8_draws ((F8_draws (m 74 2) m).2 74 3) (F8_draws (m 74 2) m).2).1) ((F8_draws ((F8_draws ((F8_draws (m 74 2) m).2 74 3) (F8_draws (m 74 2) m).2).2 74 3) (F8_draws ((F8_draws (m 74 2) m).2 74 3) (F8_draws (m 74 2) m).2).2).1) 0 0 (F8_draws ((F8_draws ((F8_draws (m 74 2) m).2 74 3) (F8_draws (m 74 2) m).2).2 74 3) (F8_draws ((F8_draws (m 74 2) m).2 74 3) (F8_draws (m 74 2) m).2).2).2) = 0 then (v5 : Int32) else v5 + 1 : Int32) = v5 by rw [if_neg h7, if_pos h9]]) rfl (by rw [show ((if ((F8_draws ((F8_draws (m 74 2) m).2 74 3) (F8_draws (m 74 2) m).2).1) = ((F8_draws ((F8_draws ((F8_draws (m 74 2) m).2 74 3) (F8_draws (m 74 2) m).2).2 74 3) (F8_draws ((F8_draws (m 74 2) m).2 74 3) (F8_draws (m 74 2) m).2).2).1) then (F8_draws ((F8_draws ((F8_draws (m 74 2) m).2 74 3) (F8_draws (m 74 2) m).2).2 74 3) (F8_draws ((F8_draws (m 74 2) m).2 74 3) (F8_draws (m 74 2) m).2).2).2 else (if (F8_canCross ((F8_draws (m 74 2) m).1) ((F8_draws ((F8_draws (m 74 2) m).2 74 3) (F8_draws (m 74 2) m).2).1) ((F8_draws ((F8_draws ((F8_draws (m 74 2) m).2 74 3) (F8_draws (m 74 2) m).2).2 74 3) (F8_draws ((F8_draws (m 74 2) m).2 74 3) (F8_draws (m 74 2) m).2).2).1) 0 0 (F8_draws ((F8_draws ((F8_draws (m 74 2) m).2 74 3) (F8_draws (m 74 2) m).2).2 74 3) (F8_draws ((F8_draws (m 74 2) m).2 74 3) (F8_draws (m 74 2) m).2).2).2) = 0 then (F8_draws ((F8_draws ((F8_draws (m 74 2) m).2 74 3) (F8_draws (m 74 2) m).2).2 74 3) (F8_draws ((F8_draws (m 74 2) m).2 74 3) (F8_draws (m 74 2) m).2).2).2 else (F8_swaps ((F8_draws (m 74 2) m).1) ((F8_draws ((F8_draws (m 74 2) m).2 74 3) (F8_draws (m 74 2) m).2).1) ((F8_draws ((F8_draws ((F8_draws (m 74 2) m).2 74 3) (F8_draws (m 74 2) m).2).2 74 3) (F8_draws ((F8_draws (m 74 2) m).2 74 3) (F8_draws (m 74 2) m).2).2).1) (F8_draws ((F8_draws ((F8_draws (m 74 2) m).2 74 3) (F8_draws (m 74 2) m).2).2 74 3) (F8_draws ((F8_draws (m 74 2) m).2 74 3) (F8_draws (m 74 2) m).2).2).2))) : ax_M) = (F8_draws ((F8_draws ((F8_draws (m 74 2) m).2 74 3) (F8_draws (m 74 2) m).2).2 74 3) (F8_draws ((F8_draws (m 74 2) m).2 74 3) (F8_draws (m 74 2) m).2).2).2 by rw [if_neg h7, if_pos h9]]) J6
        · skip
          have hD := hD h9
          refine s_aload_n eX8_season_116 rfl rfl ?_
          refine s_iload eX8_season_117 rfl ?_
          refine s_iload eX8_season_119 rfl ?_
          refine s_iload eX8_season_121 rfl ?_
          have q10 := hD
          refine n_callVv (As := [.int ((F8_draws (m 74 2) m).1), .int ((F8_draws ((F8_draws (m 74 2) m).2 74 3) (F8_draws (m 74 2) m).2).1), .int ((F8_draws ((F8_draws ((F8_draws (m 74 2) m).2 74 3) (F8_draws (m 74 2) m).2).2 74 3) (F8_draws ((F8_draws (m 74 2) m).2 74 3) (F8_draws (m 74 2) m).2).2).1)]) eX8_season_123 kX8_swaps lX8_265 rfl rfl shp_74 rfl rfl (Nat.le_of_ble_eq_true rfl) (Nat.le_of_ble_eq_true rfl) (Nat.le_of_ble_eq_true rfl) (uX8_swaps ((F8_draws (m 74 2) m).1) ((F8_draws ((F8_draws (m 74 2) m).2 74 3) (F8_draws (m 74 2) m).2).1) ((F8_draws ((F8_draws ((F8_draws (m 74 2) m).2 74 3) (F8_draws (m 74 2) m).2).2 74 3) (F8_draws ((F8_draws (m 74 2) m).2 74 3) (F8_draws (m 74 2) m).2).2).1) ((F8_draws ((F8_draws ((F8_draws (m 74 2) m).2 74 3) (F8_draws (m 74 2) m).2).2 74 3) (F8_draws ((F8_draws (m 74 2) m).2 74 3) (F8_draws (m 74 2) m).2).2).2) q10) ?_
          refine s_iinc (v := v5 + 1) (ls' := [some (.ref 74), some (.int v1), some (.int v2), some (.int v3), some (.int v4), some (.int (v5 + 1)), some (.int v6), some (.int ((F8_draws (m 74 2) m).1)), some (.int ((F8_draws ((F8_draws (m 74 2) m).2 74 3) (F8_draws (m 74 2) m).2).1)), some (.int ((F8_draws ((F8_draws ((F8_draws (m 74 2) m).2 74 3) (F8_draws (m 74 2) m).2).2 74 3) (F8_draws ((F8_draws (m 74 2) m).2 74 3) (F8_draws (m 74 2) m).2).2).1))]) eX8_season_126 rfl rfl rfl rfl ?_
          exact ax_eqN (by rw [show (if ((F8_draws ((F8_draws (m 74 2) m).2 74 3) (F8_draws (m 74 2) m).2).1) = ((F8_draws ((F8_draws ((F8_draws (m 74 2) m).2 74 3) (F8_draws (m 74 2) m).2).2 74 3) (F8_draws ((F8_draws (m 74 2) m).2 74 3) (F8_draws (m 74 2) m).2).2).1) then (v5 : Int32) else if (F8_canCross ((F8_draws (m 74 2) m).1) ((F8_draws ((F8_draws (m 74 2) m).2 74 3) (F8_draws (m 74 2) m).2).1) ((F8_draws ((F8_draws ((F8_draws (m 74 2) m).2 74 3) (F8_draws (m 74 2) m).2).2 74 3) (F8_draws ((F8_draws (m 74 2) m).2 74 3) (F8_draws (m 74 2) m).2).2).1) 0 0 (F8_draws ((F8_draws ((F8_draws (m 74 2) m).2 74 3) (F8_draws (m 74 2) m).2).2 74 3) (F8_draws ((F8_draws (m 74 2) m).2 74 3) (F8_draws (m 74 2) m).2).2).2) = 0 then (v5 : Int32) else v5 + 1 : Int32) = v5 + 1 by rw [if_neg h7, if_neg h9]]) rfl (by rw [show ((if ((F8_draws ((F8_draws (m 74 2) m).2 74 3) (F8_draws (m 74 2) m).2).1) = ((F8_draws ((F8_draws ((F8_draws (m 74 2) m).2 74 3) (F8_draws (m 74 2) m).2).2 74 3) (F8_draws ((F8_draws (m 74 2) m).2 74 3) (F8_draws (m 74 2) m).2).2).1) then (F8_draws ((F8_draws ((F8_draws (m 74 2) m).2 74 3) (F8_draws (m 74 2) m).2).2 74 3) (F8_draws ((F8_draws (m 74 2) m).2 74 3) (F8_draws (m 74 2) m).2).2).2 else (if (F8_canCross ((F8_draws (m 74 2) m).1) ((F8_draws ((F8_draws (m 74 2) m).2 74 3) (F8_draws (m 74 2) m).2).1) ((F8_draws ((F8_draws ((F8_draws (m 74 2) m).2 74 3) (F8_draws (m 74 2) m).2).2 74 3) (F8_draws ((F8_draws (m 74 2) m).2 74 3) (F8_draws (m 74 2) m).2).2).1) 0 0 (F8_draws ((F8_draws ((F8_draws (m 74 2) m).2 74 3) (F8_draws (m 74 2) m).2).2 74 3) (F8_draws ((F8_draws (m 74 2) m).2 74 3) (F8_draws (m 74 2) m).2).2).2) = 0 then (F8_draws ((F8_draws ((F8_draws (m 74 2) m).2 74 3) (F8_draws (m 74 2) m).2).2 74 3) (F8_draws ((F8_draws (m 74 2) m).2 74 3) (F8_draws (m 74 2) m).2).2).2 else (F8_swaps ((F8_draws (m 74 2) m).1) ((F8_draws ((F8_draws (m 74 2) m).2 74 3) (F8_draws (m 74 2) m).2).1) ((F8_draws ((F8_draws ((F8_draws (m 74 2) m).2 74 3) (F8_draws (m 74 2) m).2).2 74 3) (F8_draws ((F8_draws (m 74 2) m).2 74 3) (F8_draws (m 74 2) m).2).2).1) (F8_draws ((F8_draws ((F8_draws (m 74 2) m).2 74 3) (F8_draws (m 74 2) m).2).2 74 3) (F8_draws ((F8_draws (m 74 2) m).2 74 3) (F8_draws (m 74 2) m).2).2).2))) : ax_M) = (F8_swaps ((F8_draws (m 74 2) m).1) ((F8_draws ((F8_draws (m 74 2) m).2 74 3) (F8_draws (m 74 2) m).2).1) ((F8_draws ((F8_draws ((F8_draws (m 74 2) m).2 74 3) (F8_draws (m 74 2) m).2).2 74 3) (F8_draws ((F8_draws (m 74 2) m).2 74 3) (F8_draws (m 74 2) m).2).2).1) (F8_draws ((F8_draws ((F8_draws (m 74 2) m).2 74 3) (F8_draws (m 74 2) m).2).2 74 3) (F8_draws ((F8_draws (m 74 2) m).2 74 3) (F8_draws (m 74 2) m).2).2).2) by rw [if_neg h7, if_neg h9]]) J6
theorem cK8_season_135 (v1 v2 v3 v4 v5 v6 : Int32) (m : ax_M) {P : Option Value → ax_M → Prop} (hD : HK8_season_135 v1 v2 v3 v4 v5 v6 m) (hP : P (some (.int (K8_season_135 v1 v2 v3 v4 v5 v6 m).1)) (K8_season_135 v1 v2 v3 v4 v5 v6 m).2) : ax_N 3 Y8_season 135 [some (.ref 74), some (.int v1), some (.int v2), some (.int v3), some (.int v4), some (.int v5), some (.int v6), none, none, none] [] m P := by
  have E : K8_season_135 v1 v2 v3 v4 v5 v6 m = (if v3 = 0 then (v5, (F8_stand v4 m)) else (F8_atGoals m, (F8_stand v4 m))) := rfl
  unfold HK8_season_135 at hD
  refine s_aload_n eX8_season_135 rfl rfl ?_
  obtain ⟨q1, hD⟩ := hD
  refine n_callVi (As := []) eX8_season_136 kX8_atGoals lX8_342 rfl rfl shp_74 rfl rfl (Nat.le_of_ble_eq_true rfl) (Nat.le_of_ble_eq_true rfl) (Nat.le_of_ble_eq_true rfl) (uX8_atGoals m q1) ?_
  refine s_istore (ls' := [some (.ref 74), some (.int v1), some (.int v2), some (.int v3), some (.int v4), some (.int v5), some (.int (F8_atGoals m)), none, none, none]) eX8_season_139 rfl rfl ?_
  refine s_aload_n eX8_season_141 rfl rfl ?_
  refine s_iload eX8_season_142 rfl ?_
  have q2 := hD
  refine n_callVv (As := [.int v4]) eX8_season_144 kX8_stand lX8_324 rfl rfl shp_74 rfl rfl (Nat.le_of_ble_eq_true rfl) (Nat.le_of_ble_eq_true rfl) (Nat.le_of_ble_eq_true rfl) (uX8_stand v4 m q2) ?_
  refine s_iload_n eX8_season_147 rfl rfl ?_
  refine s_if_ne eX8_season_148 (fun h3 => ?_) (fun h3 => ?_)
  · skip
    rw [if_neg h3] at E
    refine s_iload eX8_season_156 rfl ?_
    rw [E] at hP
    exact s_iret eX8_season_158 rfl ⟨rfl, hP⟩
  · skip
    rw [if_pos h3] at E
    refine s_iload eX8_season_151 rfl ?_
    refine s_goto eX8_season_153 ?_
    rw [E] at hP
    exact s_iret eX8_season_158 rfl ⟨rfl, hP⟩
theorem uX8_season (a1 : Int32) (a2 : Int32) (a3 : Int32) (m : ax_M) (hD : D8_season a1 a2 a3 m) : ax_NM 3 Y8_season [.ref 74, .int a1, .int a2, .int a3] m (fun r m1 => r = some (.int (F8_season a1 a2 a3 m).1) ∧ m1 = (F8_season a1 a2 a3 m).2) := by
  have E : F8_season a1 a2 a3 m = (if (F8_in (Int32.toInt64 a2) 1 100 m) = 0 then ((-1), m) else (if (F8_in (Int32.toInt64 a3) 0 1 m) = 0 then ((-1), m) else (if (m 74 2) = 0 then ((-2), m) else (if (m 74 3) = 0 then ((-2), m) else (K8_season_135 a1 a2 a3 (F8_codeNow m) ((L8_season_58 130 a1 a2 a3 (F8_codeNow m) 0 0 (ax_up m 74 46 a1)).1) ((L8_season_58 130 a1 a2 a3 (F8_codeNow m) 0 0 (ax_up m 74 46 a1)).2.1) (L8_season_58 130 a1 a2 a3 (F8_codeNow m) 0 0 (ax_up m 74 46 a1)).2.2))))) := rfl
  unfold D8_season at hD
  show ax_N 3 Y8_season 0 [some (.ref 74), some (.int a1), some (.int a2), some (.int a3), none, none, none, none, none, none] [] m _
  refine s_iload_n eX8_season_0 rfl rfl ?_
  refine s_i2l eX8_season_1 ?_
  refine s_lconst (v := 1) eX8_season_2 rfl ?_
  refine s_ldc2 eX8_season_3 qX8_337 ?_
  refine n_callSi (As := [.long (Int32.toInt64 a2), .long 1, .long 100]) eX8_season_6 kX8_in lX8_87 rfl rfl (Nat.le_of_ble_eq_true rfl) (Nat.le_of_ble_eq_true rfl) (Nat.le_of_ble_eq_true rfl) (uX8_in (Int32.toInt64 a2) 1 100 m) ?_
  refine s_if_eq eX8_season_9 (fun h1 => ?_) (fun h1 => ?_)
  · skip
    rw [if_pos h1] at E
    refine s_iconst (v := (-1)) eX8_season_22 rfl ?_
    exact s_iret eX8_season_23 rfl ⟨rfl, by rw [E], by rw [E]⟩
  · skip
    rw [if_neg h1] at E
    have hD := hD h1
    refine s_iload_n eX8_season_12 rfl rfl ?_
    refine s_i2l eX8_season_13 ?_
    refine s_lconst (v := 0) eX8_season_14 rfl ?_
    refine s_lconst (v := 1) eX8_season_15 rfl ?_
    refine n_callSi (As := [.long (Int32.toInt64 a3), .long 0, .long 1]) eX8_season_16 kX8_in lX8_87 rfl rfl (Nat.le_of_ble_eq_true rfl) (Nat.le_of_ble_eq_true rfl) (Nat.le_of_ble_eq_true rfl) (uX8_in (Int32.toInt64 a3) 0 1 m) ?_
    refine s_if_ne eX8_season_19 (fun h2 => ?_) (fun h2 => ?_)
    · skip
      rw [if_neg h2] at E
      have hD := hD h2
      refine s_aload_n eX8_season_24 rfl rfl ?_
      refine s_geti eX8_season_25 fX8_199 shp_74 rfl ?_
      refine s_if_eq eX8_season_28 (fun h3 => ?_) (fun h3 => ?_)
      · skip
        rw [if_pos h3] at E
        refine s_bipush (v := (-2)) eX8_season_38 rfl ?_
        exact s_iret eX8_season_40 rfl ⟨rfl, by rw [E], by rw [E]⟩
      · skip
        rw [if_neg h3] at E
        have hD := hD h3
        refine s_aload_n eX8_season_31 rfl rfl ?_
        refine s_geti eX8_season_32 fX8_202 shp_74 rfl ?_
        refine s_if_ne eX8_season_35 (fun h4 => ?_) (fun h4 => ?_)
        · skip
          rw [if_neg h4] at E
          have hD := hD h4
          refine s_aload_n eX8_season_41 rfl rfl ?_
          obtain ⟨q5, hD⟩ := hD
          refine n_callVi (As := []) eX8_season_42 kX8_codeNow lX8_305 rfl rfl shp_74 rfl rfl (Nat.le_of_ble_eq_true rfl) (Nat.le_of_ble_eq_true rfl) (Nat.le_of_ble_eq_true rfl) (uX8_codeNow m q5) ?_
          refine s_istore (ls' := [some (.ref 74), some (.int a1), some (.int a2), some (.int a3), some (.int (F8_codeNow m)), none, none, none, none, none]) eX8_season_45 rfl rfl ?_
          refine s_iconst (v := 0) eX8_season_47 rfl ?_
          refine s_istore (ls' := [some (.ref 74), some (.int a1), some (.int a2), some (.int a3), some (.int (F8_codeNow m)), some (.int 0), none, none, none, none]) eX8_season_48 rfl rfl ?_
          refine s_aload_n eX8_season_50 rfl rfl ?_
          refine s_iload_n eX8_season_51 rfl rfl ?_
          refine s_puti eX8_season_52 fX8_333 pX8_46 rfl rfl shp_74 rfl ?_
          refine s_iconst (v := 0) eX8_season_55 rfl ?_
          refine s_istore (ls' := [some (.ref 74), some (.int a1), some (.int a2), some (.int a3), some (.int (F8_codeNow m)), some (.int 0), some (.int 0), none, none, none]) eX8_season_56 rfl rfl ?_
          obtain ⟨q6, hD⟩ := hD
          refine clX8_season_58 130 a1 a2 a3 (F8_codeNow m) 0 0 ((ax_up m 74 46 a1)) q6 ?_
          refine cK8_season_135 a1 a2 a3 (F8_codeNow m) ((L8_season_58 130 a1 a2 a3 (F8_codeNow m) 0 0 (ax_up m 74 46 a1)).1) ((L8_season_58 130 a1 a2 a3 (F8_codeNow m) 0 0 (ax_up m 74 46 a1)).2.1) ((L8_season_58 130 a1 a2 a3 (F8_codeNow m) 0 0 (ax_up m 74 46 a1)).2.2) hD ?_
          exact ⟨by rw [E], by rw [E]⟩
        · skip
          rw [if_pos h4] at E
          refine s_bipush (v := (-2)) eX8_season_38 rfl ?_
          exact s_iret eX8_season_40 rfl ⟨rfl, by rw [E], by rw [E]⟩
    · skip
      rw [if_pos h2] at E
      refine s_iconst (v := (-1)) eX8_season_22 rfl ?_
      exact s_iret eX8_season_23 rfl ⟨rfl, by rw [E], by rw [E]⟩
theorem clX8_copies_2 {P : Option Value → ax_M → Prop} : ∀ (n : Nat) (v1 v2 v3 : Int32) (m : ax_M), E8_copies_2 n v1 v2 v3 m → (ax_N 0 Y8_copies 30 [some (.ref 74), some (.int v1), some (.int v2), some (.int ((L8_copies_2 n v1 v2 v3 m).1))] [] ((L8_copies_2 n v1 v2 v3 m).2) P) → ax_N 0 Y8_copies 2 [some (.ref 74), some (.int v1), some (.int v2), some (.int v3)] [] m P := by
  intro n
  induction n with
  | zero => intro v1 v2 v3 m hD; exact absurd hD id
  | succ n ih =>
    intro v1 v2 v3 m hD hx
    have E : L8_copies_2 (n + 1) v1 v2 v3 m = (if 33 ≤ v3 then (v3, m) else L8_copies_2 n v1 v2 (v3 + 1) (ax_up m 75 (Int32.toNatClampNeg (v2 + v3)) (m 75 (Int32.toNatClampNeg (v1 + v3))))) := by rw [L8_copies_2]
    have hD : ((¬ (33 ≤ v3) → ((vp_in (v1 + v3) 132) ∧ (vp_in (v2 + v3) 132) ∧ (E8_copies_2 n v1 v2 (v3 + 1) (ax_up m 75 (Int32.toNatClampNeg (v2 + v3)) (m 75 (Int32.toNatClampNeg (v1 + v3)))))))) := hD
    refine s_iload_n eX8_copies_2 rfl rfl ?_
    refine s_bipush (v := 33) eX8_copies_3 rfl ?_
    refine s_icmp_ge eX8_copies_5 (fun h1 => ?_) (fun h1 => ?_)
    · skip
      rw [if_pos h1] at E
      rw [E] at hx
      exact hx
    · skip
      rw [if_neg h1] at E
      have hD := hD h1
      refine s_aload_n eX8_copies_8 rfl rfl ?_
      refine s_getr (q := 75) eX8_copies_9 fX8_7 shp_74 rfl ?_
      refine s_iload_n eX8_copies_12 rfl rfl ?_
      refine s_iload_n eX8_copies_13 rfl rfl ?_
      refine s_iadd eX8_copies_14 ?_
      refine s_aload_n eX8_copies_15 rfl rfl ?_
      refine s_getr (q := 75) eX8_copies_16 fX8_7 shp_74 rfl ?_
      refine s_iload_n eX8_copies_19 rfl rfl ?_
      refine s_iload_n eX8_copies_20 rfl rfl ?_
      refine s_iadd eX8_copies_21 ?_
      obtain ⟨q2, hD⟩ := hD
      refine s_iald eX8_copies_22 shp_75 q2 ?_
      obtain ⟨q3, hD⟩ := hD
      refine s_iast eX8_copies_23 shp_75 q3 ?_
      refine s_iinc (v := v3 + 1) (ls' := [some (.ref 74), some (.int v1), some (.int v2), some (.int (v3 + 1))]) eX8_copies_24 rfl rfl rfl rfl ?_
      refine s_goto eX8_copies_27 ?_
      rw [E] at hx
      exact ih v1 v2 (v3 + 1) ((ax_up m 75 (Int32.toNatClampNeg (v2 + v3)) (m 75 (Int32.toNatClampNeg (v1 + v3))))) hD hx
theorem uX8_copies (a1 : Int32) (a2 : Int32) (m : ax_M) (hD : D8_copies a1 a2 m) : ax_NM 0 Y8_copies [.ref 74, .int a1, .int a2] m (fun r m1 => r = none ∧ m1 = F8_copies a1 a2 m) := by
  have E : F8_copies a1 a2 m = (L8_copies_2 64 a1 a2 0 m).2 := rfl
  unfold D8_copies at hD
  show ax_N 0 Y8_copies 0 [some (.ref 74), some (.int a1), some (.int a2), none] [] m _
  refine s_iconst (v := 0) eX8_copies_0 rfl ?_
  refine s_istore_n (ls' := [some (.ref 74), some (.int a1), some (.int a2), some (.int 0)]) eX8_copies_1 rfl rfl rfl ?_
  have q1 := hD
  refine clX8_copies_2 64 a1 a2 0 m q1 ?_
  exact s_vret eX8_copies_30 rfl ⟨rfl, rfl, by rw [E]⟩
theorem cK8_keep_45 (v1 v2 : Int32) (m : ax_M) {P : Option Value → ax_M → Prop} (hP : P (some (.int (K8_keep_45 v1 v2 m).1)) (K8_keep_45 v1 v2 m).2) : ax_N 1 Y8_keep 45 [some (.ref 74), some (.int v1), some (.int v2)] [] m P := by
  have E : K8_keep_45 v1 v2 m = (v2, m) := rfl
  refine s_iload_n eX8_keep_45 rfl rfl ?_
  rw [E] at hP
  exact s_iret eX8_keep_46 rfl ⟨rfl, hP⟩
theorem uX8_keep (a1 : Int32) (m : ax_M) (hD : D8_keep a1 m) : ax_NM 1 Y8_keep [.ref 74, .int a1] m (fun r m1 => r = some (.int (F8_keep a1 m).1) ∧ m1 = (F8_keep a1 m).2) := by
  have E : F8_keep a1 m = (if (F8_in (Int32.toInt64 a1) 0 1 m) = 0 then ((-1), m) else (K8_keep_45 a1 (if ((F8_copies 0 (33 * (a1 + 1)) m) 93 (Int32.toNatClampNeg a1)) = 0 then (0 : Int32) else 1) (ax_up (F8_copies 0 (33 * (a1 + 1)) m) 93 (Int32.toNatClampNeg a1) 1))) := rfl
  unfold D8_keep at hD
  show ax_N 1 Y8_keep 0 [some (.ref 74), some (.int a1), none] [] m _
  refine s_iload_n eX8_keep_0 rfl rfl ?_
  refine s_i2l eX8_keep_1 ?_
  refine s_lconst (v := 0) eX8_keep_2 rfl ?_
  refine s_lconst (v := 1) eX8_keep_3 rfl ?_
  refine n_callSi (As := [.long (Int32.toInt64 a1), .long 0, .long 1]) eX8_keep_4 kX8_in lX8_87 rfl rfl (Nat.le_of_ble_eq_true rfl) (Nat.le_of_ble_eq_true rfl) (Nat.le_of_ble_eq_true rfl) (uX8_in (Int32.toInt64 a1) 0 1 m) ?_
  refine s_if_ne eX8_keep_7 (fun h1 => ?_) (fun h1 => ?_)
  · skip
    rw [if_neg h1] at E
    have hD := hD h1
    refine s_aload_n eX8_keep_12 rfl rfl ?_
    refine s_iconst (v := 0) eX8_keep_13 rfl ?_
    refine s_bipush (v := 33) eX8_keep_14 rfl ?_
    refine s_iload_n eX8_keep_16 rfl rfl ?_
    refine s_iconst (v := 1) eX8_keep_17 rfl ?_
    refine s_iadd eX8_keep_18 ?_
    refine s_imul eX8_keep_19 ?_
    obtain ⟨q2, hD⟩ := hD
    refine n_callVv (As := [.int 0, .int (33 * (a1 + 1))]) eX8_keep_20 kX8_copies lX8_345 rfl rfl shp_74 rfl rfl (Nat.le_of_ble_eq_true rfl) (Nat.le_of_ble_eq_true rfl) (Nat.le_of_ble_eq_true rfl) (uX8_copies 0 (33 * (a1 + 1)) m q2) ?_
    refine s_aload_n eX8_keep_23 rfl rfl ?_
    refine s_getr (q := 93) eX8_keep_24 fX8_71 shp_74 rfl ?_
    refine s_iload_n eX8_keep_27 rfl rfl ?_
    obtain ⟨q3, hD⟩ := hD
    refine s_zald eX8_keep_28 shp_93 q3 ?_
    have J4 : ax_N 1 Y8_keep 37 [some (.ref 74), some (.int a1), none] [.int (if ((F8_copies 0 (33 * (a1 + 1)) m) 93 (Int32.toNatClampNeg a1)) = 0 then (0 : Int32) else 1)] ((F8_copies 0 (33 * (a1 + 1)) m)) (fun r m1 => r = some (.int (F8_keep a1 m).1) ∧ m1 = (F8_keep a1 m).2) := by
      refine s_istore_n (ls' := [some (.ref 74), some (.int a1), some (.int (if ((F8_copies 0 (33 * (a1 + 1)) m) 93 (Int32.toNatClampNeg a1)) = 0 then (0 : Int32) else 1))]) eX8_keep_37 rfl rfl rfl ?_
      refine s_aload_n eX8_keep_38 rfl rfl ?_
      refine s_getr (q := 93) eX8_keep_39 fX8_71 shp_74 rfl ?_
      refine s_iload_n eX8_keep_42 rfl rfl ?_
      refine s_iconst (v := 1) eX8_keep_43 rfl ?_
      have q5 := hD
      refine s_zast (x' := 1) eX8_keep_44 shp_93 q5 rfl ?_
      refine cK8_keep_45 a1 (if ((F8_copies 0 (33 * (a1 + 1)) m) 93 (Int32.toNatClampNeg a1)) = 0 then (0 : Int32) else 1) ((ax_up (F8_copies 0 (33 * (a1 + 1)) m) 93 (Int32.toNatClampNeg a1) 1)) ?_
      exact ⟨by rw [E], by rw [E]⟩
    refine s_if_eq eX8_keep_29 (fun h6 => ?_) (fun h6 => ?_)
    · skip
      refine s_iconst (v := 0) eX8_keep_36 rfl ?_
      exact ax_eqN rfl (by rw [show (if ((F8_copies 0 (33 * (a1 + 1)) m) 93 (Int32.toNatClampNeg a1)) = 0 then (0 : Int32) else 1 : Int32) = 0 by rw [if_pos h6]]) rfl J4
    · skip
      refine s_iconst (v := 1) eX8_keep_32 rfl ?_
      refine s_goto eX8_keep_33 ?_
      exact ax_eqN rfl (by rw [show (if ((F8_copies 0 (33 * (a1 + 1)) m) 93 (Int32.toNatClampNeg a1)) = 0 then (0 : Int32) else 1 : Int32) = 1 by rw [if_neg h6]]) rfl J4
  · skip
    rw [if_pos h1] at E
    refine s_iconst (v := (-1)) eX8_keep_10 rfl ?_
    exact s_iret eX8_keep_11 rfl ⟨rfl, by rw [E], by rw [E]⟩
theorem uX8_back (a1 : Int32) (m : ax_M) (hD : D8_back a1 m) : ax_NM 1 Y8_back [.ref 74, .int a1] m (fun r m1 => r = some (.int (F8_back a1 m).1) ∧ m1 = (F8_back a1 m).2) := by
  have E : F8_back a1 m = (if (F8_in (Int32.toInt64 a1) 0 1 m) = 0 then ((-1), m) else (if (m 93 (Int32.toNatClampNeg a1)) = 0 then ((-2), m) else ((F8_copies (33 * (a1 + 1)) 0 m) 75 (Int32.toNatClampNeg 32), (F8_copies (33 * (a1 + 1)) 0 m)))) := rfl
  unfold D8_back at hD
  show ax_N 1 Y8_back 0 [some (.ref 74), some (.int a1)] [] m _
  refine s_iload_n eX8_back_0 rfl rfl ?_
  refine s_i2l eX8_back_1 ?_
  refine s_lconst (v := 0) eX8_back_2 rfl ?_
  refine s_lconst (v := 1) eX8_back_3 rfl ?_
  refine n_callSi (As := [.long (Int32.toInt64 a1), .long 0, .long 1]) eX8_back_4 kX8_in lX8_87 rfl rfl (Nat.le_of_ble_eq_true rfl) (Nat.le_of_ble_eq_true rfl) (Nat.le_of_ble_eq_true rfl) (uX8_in (Int32.toInt64 a1) 0 1 m) ?_
  refine s_if_ne eX8_back_7 (fun h1 => ?_) (fun h1 => ?_)
  · skip
    rw [if_neg h1] at E
    have hD := hD h1
    refine s_aload_n eX8_back_12 rfl rfl ?_
    refine s_getr (q := 93) eX8_back_13 fX8_71 shp_74 rfl ?_
    refine s_iload_n eX8_back_16 rfl rfl ?_
    obtain ⟨q2, hD⟩ := hD
    refine s_zald eX8_back_17 shp_93 q2 ?_
    refine s_if_ne eX8_back_18 (fun h3 => ?_) (fun h3 => ?_)
    · skip
      rw [if_neg h3] at E
      have hD := hD h3
      refine s_aload_n eX8_back_24 rfl rfl ?_
      refine s_bipush (v := 33) eX8_back_25 rfl ?_
      refine s_iload_n eX8_back_27 rfl rfl ?_
      refine s_iconst (v := 1) eX8_back_28 rfl ?_
      refine s_iadd eX8_back_29 ?_
      refine s_imul eX8_back_30 ?_
      refine s_iconst (v := 0) eX8_back_31 rfl ?_
      have q4 := hD
      refine n_callVv (As := [.int (33 * (a1 + 1)), .int 0]) eX8_back_32 kX8_copies lX8_345 rfl rfl shp_74 rfl rfl (Nat.le_of_ble_eq_true rfl) (Nat.le_of_ble_eq_true rfl) (Nat.le_of_ble_eq_true rfl) (uX8_copies (33 * (a1 + 1)) 0 m q4) ?_
      refine s_aload_n eX8_back_35 rfl rfl ?_
      refine s_getr (q := 75) eX8_back_36 fX8_7 shp_74 rfl ?_
      refine s_bipush (v := 32) eX8_back_39 rfl ?_
      refine s_iald eX8_back_41 shp_75 (by unfold vp_in; decide) ?_
      exact s_iret eX8_back_42 rfl ⟨rfl, by rw [E], by rw [E]⟩
    · skip
      rw [if_pos h3] at E
      refine s_bipush (v := (-2)) eX8_back_21 rfl ?_
      exact s_iret eX8_back_23 rfl ⟨rfl, by rw [E], by rw [E]⟩
  · skip
    rw [if_pos h1] at E
    refine s_iconst (v := (-1)) eX8_back_10 rfl ?_
    exact s_iret eX8_back_11 rfl ⟨rfl, by rw [E], by rw [E]⟩
theorem clX8_sheet_56 {P : Option Value → ax_M → Prop} : ∀ (n : Nat) (v1 v2 v3 v4 : Int32) (m : ax_M), E8_sheet_56 n v1 v2 v3 v4 m → (ax_N 1 Y8_sheet 82 [some (.ref 74), some (.int v1), some (.int v2), some (.int v3), some (.int ((L8_sheet_56 n v1 v2 v3 v4 m).1))] [] ((L8_sheet_56 n v1 v2 v3 v4 m).2) P) → ax_N 1 Y8_sheet 56 [some (.ref 74), some (.int v1), some (.int v2), some (.int v3), some (.int v4)] [] m P := by
  intro n
  induction n with
  | zero => intro v1 v2 v3 v4 m hD; exact absurd hD id
  | succ n ih =>
    intro v1 v2 v3 v4 m hD hx
    have E : L8_sheet_56 (n + 1) v1 v2 v3 v4 m = (if 40 ≤ v4 then (v4, m) else L8_sheet_56 n v1 v2 v3 (v4 + 1) (ax_up m 96 (Int32.toNatClampNeg ((40 * v1) + v4)) 0)) := by rw [L8_sheet_56]
    have hD : ((¬ (40 ≤ v4) → ((vp_in ((40 * v1) + v4) 160) ∧ (E8_sheet_56 n v1 v2 v3 (v4 + 1) (ax_up m 96 (Int32.toNatClampNeg ((40 * v1) + v4)) 0))))) := hD
    refine s_iload eX8_sheet_56 rfl ?_
    refine s_bipush (v := 40) eX8_sheet_58 rfl ?_
    refine s_icmp_ge eX8_sheet_60 (fun h1 => ?_) (fun h1 => ?_)
    · skip
      rw [if_pos h1] at E
      rw [E] at hx
      exact hx
    · skip
      rw [if_neg h1] at E
      have hD := hD h1
      refine s_aload_n eX8_sheet_63 rfl rfl ?_
      refine s_getr (q := 96) eX8_sheet_64 fX8_81 shp_74 rfl ?_
      refine s_bipush (v := 40) eX8_sheet_67 rfl ?_
      refine s_iload_n eX8_sheet_69 rfl rfl ?_
      refine s_imul eX8_sheet_70 ?_
      refine s_iload eX8_sheet_71 rfl ?_
      refine s_iadd eX8_sheet_73 ?_
      refine s_iconst (v := 0) eX8_sheet_74 rfl ?_
      obtain ⟨q2, hD⟩ := hD
      refine s_iast eX8_sheet_75 shp_96 q2 ?_
      refine s_iinc (v := v4 + 1) (ls' := [some (.ref 74), some (.int v1), some (.int v2), some (.int v3), some (.int (v4 + 1))]) eX8_sheet_76 rfl rfl rfl rfl ?_
      refine s_goto eX8_sheet_79 ?_
      rw [E] at hx
      exact ih v1 v2 v3 (v4 + 1) ((ax_up m 96 (Int32.toNatClampNeg ((40 * v1) + v4)) 0)) hD hx
theorem cK8_sheet_53 (v1 v2 v3 : Int32) (m : ax_M) {P : Option Value → ax_M → Prop} (hD : HK8_sheet_53 v1 v2 v3 m) (hP : P (some (.int (K8_sheet_53 v1 v2 v3 m).1)) (K8_sheet_53 v1 v2 v3 m).2) : ax_N 1 Y8_sheet 53 [some (.ref 74), some (.int v1), some (.int v2), some (.int v3), none] [] m P := by
  have E : K8_sheet_53 v1 v2 v3 m = (1, (L8_sheet_56 64 v1 v2 v3 0 m).2) := rfl
  unfold HK8_sheet_53 at hD
  refine s_iconst (v := 0) eX8_sheet_53 rfl ?_
  refine s_istore (ls' := [some (.ref 74), some (.int v1), some (.int v2), some (.int v3), some (.int 0)]) eX8_sheet_54 rfl rfl ?_
  have q1 := hD
  refine clX8_sheet_56 64 v1 v2 v3 0 m q1 ?_
  refine s_iconst (v := 1) eX8_sheet_82 rfl ?_
  rw [E] at hP
  exact s_iret eX8_sheet_83 rfl ⟨rfl, hP⟩
theorem uX8_sheet (a1 : Int32) (a2 : Int32) (a3 : Int32) (m : ax_M) (hD : D8_sheet a1 a2 a3 m) : ax_NM 1 Y8_sheet [.ref 74, .int a1, .int a2, .int a3] m (fun r m1 => r = some (.int (F8_sheet a1 a2 a3 m).1) ∧ m1 = (F8_sheet a1 a2 a3 m).2) := by
  have E : F8_sheet a1 a2 a3 m = (if (F8_in (Int32.toInt64 a1) 0 3 m) = 0 then ((-1), m) else (if (F8_in (Int32.toInt64 a2) 0 2 m) = 0 then ((-1), m) else (if a3 ≤ 40 then (if 0 ≤ a3 then (K8_sheet_53 a1 a2 a3 (ax_up (ax_up m 94 (Int32.toNatClampNeg a1) a2) 95 (Int32.toNatClampNeg a1) a3)) else ((-14), m)) else ((-1), m)))) := rfl
  unfold D8_sheet at hD
  show ax_N 1 Y8_sheet 0 [some (.ref 74), some (.int a1), some (.int a2), some (.int a3), none] [] m _
  refine s_iload_n eX8_sheet_0 rfl rfl ?_
  refine s_i2l eX8_sheet_1 ?_
  refine s_lconst (v := 0) eX8_sheet_2 rfl ?_
  refine s_ldc2 eX8_sheet_3 qX8_217 ?_
  refine n_callSi (As := [.long (Int32.toInt64 a1), .long 0, .long 3]) eX8_sheet_6 kX8_in lX8_87 rfl rfl (Nat.le_of_ble_eq_true rfl) (Nat.le_of_ble_eq_true rfl) (Nat.le_of_ble_eq_true rfl) (uX8_in (Int32.toInt64 a1) 0 3 m) ?_
  refine s_if_eq eX8_sheet_9 (fun h1 => ?_) (fun h1 => ?_)
  · skip
    rw [if_pos h1] at E
    refine s_iconst (v := (-1)) eX8_sheet_30 rfl ?_
    exact s_iret eX8_sheet_31 rfl ⟨rfl, by rw [E], by rw [E]⟩
  · skip
    rw [if_neg h1] at E
    have hD := hD h1
    refine s_iload_n eX8_sheet_12 rfl rfl ?_
    refine s_i2l eX8_sheet_13 ?_
    refine s_lconst (v := 0) eX8_sheet_14 rfl ?_
    refine s_ldc2 eX8_sheet_15 qX8_215 ?_
    refine n_callSi (As := [.long (Int32.toInt64 a2), .long 0, .long 2]) eX8_sheet_18 kX8_in lX8_87 rfl rfl (Nat.le_of_ble_eq_true rfl) (Nat.le_of_ble_eq_true rfl) (Nat.le_of_ble_eq_true rfl) (uX8_in (Int32.toInt64 a2) 0 2 m) ?_
    refine s_if_eq eX8_sheet_21 (fun h2 => ?_) (fun h2 => ?_)
    · skip
      rw [if_pos h2] at E
      refine s_iconst (v := (-1)) eX8_sheet_30 rfl ?_
      exact s_iret eX8_sheet_31 rfl ⟨rfl, by rw [E], by rw [E]⟩
    · skip
      rw [if_neg h2] at E
      have hD := hD h2
      refine s_iload_n eX8_sheet_24 rfl rfl ?_
      refine s_bipush (v := 40) eX8_sheet_25 rfl ?_
      refine s_icmp_le eX8_sheet_27 (fun h3 => ?_) (fun h3 => ?_)
      · skip
        rw [if_pos h3] at E
        have hD := hD h3
        refine s_iload_n eX8_sheet_32 rfl rfl ?_
        refine s_if_ge eX8_sheet_33 (fun h4 => ?_) (fun h4 => ?_)
        · skip
          rw [if_pos h4] at E
          have hD := hD h4
          refine s_aload_n eX8_sheet_39 rfl rfl ?_
          refine s_getr (q := 94) eX8_sheet_40 fX8_75 shp_74 rfl ?_
          refine s_iload_n eX8_sheet_43 rfl rfl ?_
          refine s_iload_n eX8_sheet_44 rfl rfl ?_
          obtain ⟨q5, hD⟩ := hD
          refine s_iast eX8_sheet_45 shp_94 q5 ?_
          refine s_aload_n eX8_sheet_46 rfl rfl ?_
          refine s_getr (q := 95) eX8_sheet_47 fX8_78 shp_74 rfl ?_
          refine s_iload_n eX8_sheet_50 rfl rfl ?_
          refine s_iload_n eX8_sheet_51 rfl rfl ?_
          obtain ⟨q6, hD⟩ := hD
          refine s_iast eX8_sheet_52 shp_95 q6 ?_
          refine cK8_sheet_53 a1 a2 a3 ((ax_up (ax_up m 94 (Int32.toNatClampNeg a1) a2) 95 (Int32.toNatClampNeg a1) a3)) hD ?_
          exact ⟨by rw [E], by rw [E]⟩
        · skip
          rw [if_neg h4] at E
          refine s_bipush (v := (-14)) eX8_sheet_36 rfl ?_
          exact s_iret eX8_sheet_38 rfl ⟨rfl, by rw [E], by rw [E]⟩
      · skip
        rw [if_neg h3] at E
        refine s_iconst (v := (-1)) eX8_sheet_30 rfl ?_
        exact s_iret eX8_sheet_31 rfl ⟨rfl, by rw [E], by rw [E]⟩
theorem cK8_lay_100 (v1 v2 v3 : Int32) (m : ax_M) {P : Option Value → ax_M → Prop} (hP : P (some (.int (K8_lay_100 v1 v2 v3 m).1)) (K8_lay_100 v1 v2 v3 m).2) : ax_N 1 Y8_lay 100 [some (.ref 74), some (.int v1), some (.int v2), some (.int v3)] [] m P := by
  have E : K8_lay_100 v1 v2 v3 m = (1, m) := rfl
  refine s_iconst (v := 1) eX8_lay_100 rfl ?_
  rw [E] at hP
  exact s_iret eX8_lay_101 rfl ⟨rfl, hP⟩
theorem uX8_lay (a1 : Int32) (a2 : Int32) (a3 : Int32) (m : ax_M) (hD : D8_lay a1 a2 a3 m) : ax_NM 1 Y8_lay [.ref 74, .int a1, .int a2, .int a3] m (fun r m1 => r = some (.int (F8_lay a1 a2 a3 m).1) ∧ m1 = (F8_lay a1 a2 a3 m).2) := by
  have E : F8_lay a1 a2 a3 m = (if (F8_in (Int32.toInt64 a1) 0 3 m) = 0 then ((-1), m) else (if (m 94 (Int32.toNatClampNeg a1)) = ((-4)) then ((-11), m) else (if (F8_in (Int32.toInt64 a2) 0 (Int32.toInt64 ((m 95 (Int32.toNatClampNeg a1)) - 1)) m) = 0 then ((-12), m) else (K8_lay_100 a1 a2 a3 (ax_up m 96 (Int32.toNatClampNeg ((40 * a1) + a2)) (if (m 94 (Int32.toNatClampNeg a1)) = 0 then ((a3 <<< (24 &&& (31 : Int32))) >>> (24 &&& (31 : Int32)) : Int32) else if (m 94 (Int32.toNatClampNeg a1)) = 1 then ((a3 <<< (16 &&& (31 : Int32))) >>> (16 &&& (31 : Int32)) : Int32) else a3)))))) := rfl
  unfold D8_lay at hD
  show ax_N 1 Y8_lay 0 [some (.ref 74), some (.int a1), some (.int a2), some (.int a3)] [] m _
  refine s_iload_n eX8_lay_0 rfl rfl ?_
  refine s_i2l eX8_lay_1 ?_
  refine s_lconst (v := 0) eX8_lay_2 rfl ?_
  refine s_ldc2 eX8_lay_3 qX8_217 ?_
  refine n_callSi (As := [.long (Int32.toInt64 a1), .long 0, .long 3]) eX8_lay_6 kX8_in lX8_87 rfl rfl (Nat.le_of_ble_eq_true rfl) (Nat.le_of_ble_eq_true rfl) (Nat.le_of_ble_eq_true rfl) (uX8_in (Int32.toInt64 a1) 0 3 m) ?_
  refine s_if_ne eX8_lay_9 (fun h1 => ?_) (fun h1 => ?_)
  · skip
    rw [if_neg h1] at E
    have hD := hD h1
    refine s_aload_n eX8_lay_14 rfl rfl ?_
    refine s_getr (q := 94) eX8_lay_15 fX8_75 shp_74 rfl ?_
    refine s_iload_n eX8_lay_18 rfl rfl ?_
    obtain ⟨q2, hD⟩ := hD
    refine s_iald eX8_lay_19 shp_94 q2 ?_
    refine s_bipush (v := (-4)) eX8_lay_20 rfl ?_
    refine s_icmp_ne eX8_lay_22 (fun h3 => ?_) (fun h3 => ?_)
    · skip
      rw [if_neg h3] at E
      have hD := hD h3
      refine s_iload_n eX8_lay_28 rfl rfl ?_
      refine s_i2l eX8_lay_29 ?_
      refine s_lconst (v := 0) eX8_lay_30 rfl ?_
      refine s_aload_n eX8_lay_31 rfl rfl ?_
      refine s_getr (q := 95) eX8_lay_32 fX8_78 shp_74 rfl ?_
      refine s_iload_n eX8_lay_35 rfl rfl ?_
      obtain ⟨q4, hD⟩ := hD
      refine s_iald eX8_lay_36 shp_95 q4 ?_
      refine s_iconst (v := 1) eX8_lay_37 rfl ?_
      refine s_isub eX8_lay_38 ?_
      refine s_i2l eX8_lay_39 ?_
      refine n_callSi (As := [.long (Int32.toInt64 a2), .long 0, .long (Int32.toInt64 ((m 95 (Int32.toNatClampNeg a1)) - 1))]) eX8_lay_40 kX8_in lX8_87 rfl rfl (Nat.le_of_ble_eq_true rfl) (Nat.le_of_ble_eq_true rfl) (Nat.le_of_ble_eq_true rfl) (uX8_in (Int32.toInt64 a2) 0 (Int32.toInt64 ((m 95 (Int32.toNatClampNeg a1)) - 1)) m) ?_
      refine s_if_ne eX8_lay_43 (fun h5 => ?_) (fun h5 => ?_)
      · skip
        rw [if_neg h5] at E
        have hD := hD h5
        refine s_aload_n eX8_lay_49 rfl rfl ?_
        refine s_getr (q := 96) eX8_lay_50 fX8_81 shp_74 rfl ?_
        refine s_bipush (v := 40) eX8_lay_53 rfl ?_
        refine s_iload_n eX8_lay_55 rfl rfl ?_
        refine s_imul eX8_lay_56 ?_
        refine s_iload_n eX8_lay_57 rfl rfl ?_
        refine s_iadd eX8_lay_58 ?_
        refine s_aload_n eX8_lay_59 rfl rfl ?_
        refine s_getr (q := 94) eX8_lay_60 fX8_75 shp_74 rfl ?_
        refine s_iload_n eX8_lay_63 rfl rfl ?_
        obtain ⟨q6, hD⟩ := hD
        refine s_iald eX8_lay_64 shp_94 q6 ?_
        obtain ⟨s7, hD⟩ := hD
        have J8 : ax_N 1 Y8_lay 99 [some (.ref 74), some (.int a1), some (.int a2), some (.int a3)] [.int (if (m 94 (Int32.toNatClampNeg a1)) = 0 then ((a3 <<< (24 &&& (31 : Int32))) >>> (24 &&& (31 : Int32)) : Int32) else if (m 94 (Int32.toNatClampNeg a1)) = 1 then ((a3 <<< (16 &&& (31 : Int32))) >>> (16 &&& (31 : Int32)) : Int32) else a3), .int ((40 * a1) + a2), .ref 96] m (fun r m1 => r = some (.int (F8_lay a1 a2 a3 m).1) ∧ m1 = (F8_lay a1 a2 a3 m).2) := by
          have q9 := hD
          refine s_iast eX8_lay_99 shp_96 q9 ?_
          refine cK8_lay_100 a1 a2 a3 ((ax_up m 96 (Int32.toNatClampNeg ((40 * a1) + a2)) (if (m 94 (Int32.toNatClampNeg a1)) = 0 then ((a3 <<< (24 &&& (31 : Int32))) >>> (24 &&& (31 : Int32)) : Int32) else if (m 94 (Int32.toNatClampNeg a1)) = 1 then ((a3 <<< (16 &&& (31 : Int32))) >>> (16 &&& (31 : Int32)) : Int32) else a3))) ?_
          exact ⟨by rw [E], by rw [E]⟩
        have hD := s7
        refine s_if_ne eX8_lay_65 (fun h10 => ?_) (fun h10 => ?_)
        · skip
          have hD := hD h10
          refine s_aload_n eX8_lay_78 rfl rfl ?_
          refine s_getr (q := 94) eX8_lay_79 fX8_75 shp_74 rfl ?_
          refine s_iload_n eX8_lay_82 rfl rfl ?_
          have q11 := hD
          refine s_iald eX8_lay_83 shp_94 q11 ?_
          refine s_iconst (v := 1) eX8_lay_84 rfl ?_
          refine s_icmp_ne eX8_lay_85 (fun h12 => ?_) (fun h12 => ?_)
          · skip
            refine s_iload_n eX8_lay_98 rfl rfl ?_
            exact ax_eqN rfl (by rw [show (if (m 94 (Int32.toNatClampNeg a1)) = 0 then ((a3 <<< (24 &&& (31 : Int32))) >>> (24 &&& (31 : Int32)) : Int32) else if (m 94 (Int32.toNatClampNeg a1)) = 1 then ((a3 <<< (16 &&& (31 : Int32))) >>> (16 &&& (31 : Int32)) : Int32) else a3 : Int32) = a3 by rw [if_neg h10, if_neg h12]]) rfl J8
          · skip
            refine s_iload_n eX8_lay_88 rfl rfl ?_
            refine s_bipush (v := 16) eX8_lay_89 rfl ?_
            refine s_ishl eX8_lay_91 ?_
            refine s_bipush (v := 16) eX8_lay_92 rfl ?_
            refine s_ishr eX8_lay_94 ?_
            refine s_goto eX8_lay_95 ?_
            exact ax_eqN rfl (by rw [show (if (m 94 (Int32.toNatClampNeg a1)) = 0 then ((a3 <<< (24 &&& (31 : Int32))) >>> (24 &&& (31 : Int32)) : Int32) else if (m 94 (Int32.toNatClampNeg a1)) = 1 then ((a3 <<< (16 &&& (31 : Int32))) >>> (16 &&& (31 : Int32)) : Int32) else a3 : Int32) = (a3 <<< (16 &&& (31 : Int32))) >>> (16 &&& (31 : Int32)) by rw [if_neg h10, if_pos h12]]) rfl J8
        · skip
          refine s_iload_n eX8_lay_68 rfl rfl ?_
          refine s_bipush (v := 24) eX8_lay_69 rfl ?_
          refine s_ishl eX8_lay_71 ?_
          refine s_bipush (v := 24) eX8_lay_72 rfl ?_
          refine s_ishr eX8_lay_74 ?_
          refine s_goto eX8_lay_75 ?_
          exact ax_eqN rfl (by rw [show (if (m 94 (Int32.toNatClampNeg a1)) = 0 then ((a3 <<< (24 &&& (31 : Int32))) >>> (24 &&& (31 : Int32)) : Int32) else if (m 94 (Int32.toNatClampNeg a1)) = 1 then ((a3 <<< (16 &&& (31 : Int32))) >>> (16 &&& (31 : Int32)) : Int32) else a3 : Int32) = (a3 <<< (24 &&& (31 : Int32))) >>> (24 &&& (31 : Int32)) by rw [if_pos h10]]) rfl J8
      · skip
        rw [if_pos h5] at E
        refine s_bipush (v := (-12)) eX8_lay_46 rfl ?_
        exact s_iret eX8_lay_48 rfl ⟨rfl, by rw [E], by rw [E]⟩
    · skip
      rw [if_pos h3] at E
      refine s_bipush (v := (-11)) eX8_lay_25 rfl ?_
      exact s_iret eX8_lay_27 rfl ⟨rfl, by rw [E], by rw [E]⟩
  · skip
    rw [if_pos h1] at E
    refine s_iconst (v := (-1)) eX8_lay_12 rfl ?_
    exact s_iret eX8_lay_13 rfl ⟨rfl, by rw [E], by rw [E]⟩
