/-! X1_isAsked X1_isPair X1_isExileAgainst X1_carries X1_playFor X1_isLevel X1_carriesSo X1_passes X1_go X1_passesAndGoes X1_tryCrossing X1_lightestLoad X1_errandStones -/
theorem uX1_isAsked (g : Nat) (a1 : Int32) (a2 : Int32) (a3 : Int32) (a4 : Int32) (a5 : Int32) (m : ax_M) (hg : isG g) : ax_NM 1 Y1_isAsked [.ref g, .int a1, .int a2, .int a3, .int a4, .int a5] m (fun r m1 => r = some (.int (F1_isAsked g a1 a2 a3 a4 a5 m)) ∧ m1 = m) := by
  have E : F1_isAsked g a1 a2 a3 a4 a5 m = (if (F1_hasBridge g a1 m) = 0 then 0 else (if (F1_hasOne g a2 m) = 0 then 0 else (if (F1_hasOne g a3 m) = 0 then 0 else (if a2 = a3 then 0 else (if (F7_within a4 0 3 m) = 0 then 0 else (if (F7_within a5 0 3 m) = 0 then 0 else 1)))))) := rfl
  show ax_N 1 Y1_isAsked 0 [some (.ref g), some (.int a1), some (.int a2), some (.int a3), some (.int a4), some (.int a5)] [] m _
  refine s_aload_n eX1_isAsked_0 rfl rfl ?_
  refine s_iload_n eX1_isAsked_1 rfl rfl ?_
  refine n_callVi (As := [.int a1]) eX1_isAsked_2 kX1_hasBridge lX1_74 rfl rfl hg.1 rfl rfl (Nat.le_of_ble_eq_true rfl) (Nat.le_of_ble_eq_true rfl) (Nat.le_of_ble_eq_true rfl) (uX1_hasBridge g a1 m hg) ?_
  refine s_if_eq eX1_isAsked_5 (fun h1 => ?_) (fun h1 => ?_)
  · skip
    rw [if_pos h1] at E
    refine s_iconst (v := 0) eX1_isAsked_53 rfl ?_
    exact s_zret eX1_isAsked_54 rfl (by first | exact Or.inl rfl | exact Or.inr rfl | (split <;> simp) | simp) ⟨rfl, by rw [E], rfl⟩
  · skip
    rw [if_neg h1] at E
    refine s_aload_n eX1_isAsked_8 rfl rfl ?_
    refine s_iload_n eX1_isAsked_9 rfl rfl ?_
    refine n_callVi (As := [.int a2]) eX1_isAsked_10 kX1_hasOne lX1_78 rfl rfl hg.1 rfl rfl (Nat.le_of_ble_eq_true rfl) (Nat.le_of_ble_eq_true rfl) (Nat.le_of_ble_eq_true rfl) (uX1_hasOne g a2 m hg) ?_
    refine s_if_eq eX1_isAsked_13 (fun h2 => ?_) (fun h2 => ?_)
    · skip
      rw [if_pos h2] at E
      refine s_iconst (v := 0) eX1_isAsked_53 rfl ?_
      exact s_zret eX1_isAsked_54 rfl (by first | exact Or.inl rfl | exact Or.inr rfl | (split <;> simp) | simp) ⟨rfl, by rw [E], rfl⟩
    · skip
      rw [if_neg h2] at E
      refine s_aload_n eX1_isAsked_16 rfl rfl ?_
      refine s_iload_n eX1_isAsked_17 rfl rfl ?_
      refine n_callVi (As := [.int a3]) eX1_isAsked_18 kX1_hasOne lX1_78 rfl rfl hg.1 rfl rfl (Nat.le_of_ble_eq_true rfl) (Nat.le_of_ble_eq_true rfl) (Nat.le_of_ble_eq_true rfl) (uX1_hasOne g a3 m hg) ?_
      refine s_if_eq eX1_isAsked_21 (fun h3 => ?_) (fun h3 => ?_)
      · skip
        rw [if_pos h3] at E
        refine s_iconst (v := 0) eX1_isAsked_53 rfl ?_
        exact s_zret eX1_isAsked_54 rfl (by first | exact Or.inl rfl | exact Or.inr rfl | (split <;> simp) | simp) ⟨rfl, by rw [E], rfl⟩
      · skip
        rw [if_neg h3] at E
        refine s_iload_n eX1_isAsked_24 rfl rfl ?_
        refine s_iload_n eX1_isAsked_25 rfl rfl ?_
        refine s_icmp_eq eX1_isAsked_26 (fun h4 => ?_) (fun h4 => ?_)
        · skip
          rw [if_pos h4] at E
          refine s_iconst (v := 0) eX1_isAsked_53 rfl ?_
          exact s_zret eX1_isAsked_54 rfl (by first | exact Or.inl rfl | exact Or.inr rfl | (split <;> simp) | simp) ⟨rfl, by rw [E], rfl⟩
        · skip
          rw [if_neg h4] at E
          refine s_iload eX1_isAsked_29 rfl ?_
          refine s_iconst (v := 0) eX1_isAsked_31 rfl ?_
          refine s_iconst (v := 3) eX1_isAsked_32 rfl ?_
          refine n_callSi (As := [.int a4, .int 0, .int 3]) eX1_isAsked_33 kX7_within lX1_81 rfl rfl (Nat.le_of_ble_eq_true rfl) (Nat.le_of_ble_eq_true rfl) (Nat.le_of_ble_eq_true rfl) (uX7_within a4 0 3 m) ?_
          refine s_if_eq eX1_isAsked_36 (fun h5 => ?_) (fun h5 => ?_)
          · skip
            rw [if_pos h5] at E
            refine s_iconst (v := 0) eX1_isAsked_53 rfl ?_
            exact s_zret eX1_isAsked_54 rfl (by first | exact Or.inl rfl | exact Or.inr rfl | (split <;> simp) | simp) ⟨rfl, by rw [E], rfl⟩
          · skip
            rw [if_neg h5] at E
            refine s_iload eX1_isAsked_39 rfl ?_
            refine s_iconst (v := 0) eX1_isAsked_41 rfl ?_
            refine s_iconst (v := 3) eX1_isAsked_42 rfl ?_
            refine n_callSi (As := [.int a5, .int 0, .int 3]) eX1_isAsked_43 kX7_within lX1_81 rfl rfl (Nat.le_of_ble_eq_true rfl) (Nat.le_of_ble_eq_true rfl) (Nat.le_of_ble_eq_true rfl) (uX7_within a5 0 3 m) ?_
            refine s_if_eq eX1_isAsked_46 (fun h6 => ?_) (fun h6 => ?_)
            · skip
              rw [if_pos h6] at E
              refine s_iconst (v := 0) eX1_isAsked_53 rfl ?_
              exact s_zret eX1_isAsked_54 rfl (by first | exact Or.inl rfl | exact Or.inr rfl | (split <;> simp) | simp) ⟨rfl, by rw [E], rfl⟩
            · skip
              rw [if_neg h6] at E
              refine s_iconst (v := 1) eX1_isAsked_49 rfl ?_
              refine s_goto eX1_isAsked_50 ?_
              exact s_zret eX1_isAsked_54 rfl (by first | exact Or.inl rfl | exact Or.inr rfl | (split <;> simp) | simp) ⟨rfl, by rw [E], rfl⟩
theorem uX1_isPair (g : Nat) (a1 : Int32) (a2 : Int32) (a3 : Int32) (m : ax_M) (hg : isG g) : ax_NM 2 Y1_isPair [.ref g, .int a1, .int a2, .int a3] m (fun r m1 => r = some (.int (F1_isPair g a1 a2 a3 m)) ∧ m1 = m) := by
  have E : F1_isPair g a1 a2 a3 m = (if a2 = a3 then 0 else (if (F1_bankOf g a2 m) = (F1_firstBank g a1 m) then (if (F1_bankOf g a3 m) = (F1_secondBank g a1 m) then 1 else 0) else 0)) := rfl
  show ax_N 2 Y1_isPair 0 [some (.ref g), some (.int a1), some (.int a2), some (.int a3)] [] m _
  refine s_iload_n eX1_isPair_0 rfl rfl ?_
  refine s_iload_n eX1_isPair_1 rfl rfl ?_
  refine s_icmp_eq eX1_isPair_2 (fun h1 => ?_) (fun h1 => ?_)
  · skip
    rw [if_pos h1] at E
    refine s_iconst (v := 0) eX1_isPair_35 rfl ?_
    exact s_zret eX1_isPair_36 rfl (by first | exact Or.inl rfl | exact Or.inr rfl | (split <;> simp) | simp) ⟨rfl, by rw [E], rfl⟩
  · skip
    rw [if_neg h1] at E
    refine s_aload_n eX1_isPair_5 rfl rfl ?_
    refine s_iload_n eX1_isPair_6 rfl rfl ?_
    refine n_callVi (As := [.int a2]) eX1_isPair_7 kX1_bankOf lX1_68 rfl rfl hg.1 rfl rfl (Nat.le_of_ble_eq_true rfl) (Nat.le_of_ble_eq_true rfl) (Nat.le_of_ble_eq_true rfl) (uX1_bankOf g a2 m hg) ?_
    refine s_aload_n eX1_isPair_10 rfl rfl ?_
    refine s_iload_n eX1_isPair_11 rfl rfl ?_
    refine n_callVi (As := [.int a1]) eX1_isPair_12 kX1_firstBank lX1_85 rfl rfl hg.1 rfl rfl (Nat.le_of_ble_eq_true rfl) (Nat.le_of_ble_eq_true rfl) (Nat.le_of_ble_eq_true rfl) (uX1_firstBank g a1 m hg) ?_
    refine s_icmp_ne eX1_isPair_15 (fun h2 => ?_) (fun h2 => ?_)
    · skip
      rw [if_neg h2] at E
      refine s_iconst (v := 0) eX1_isPair_35 rfl ?_
      exact s_zret eX1_isPair_36 rfl (by first | exact Or.inl rfl | exact Or.inr rfl | (split <;> simp) | simp) ⟨rfl, by rw [E], rfl⟩
    · skip
      rw [if_pos h2] at E
      refine s_aload_n eX1_isPair_18 rfl rfl ?_
      refine s_iload_n eX1_isPair_19 rfl rfl ?_
      refine n_callVi (As := [.int a3]) eX1_isPair_20 kX1_bankOf lX1_68 rfl rfl hg.1 rfl rfl (Nat.le_of_ble_eq_true rfl) (Nat.le_of_ble_eq_true rfl) (Nat.le_of_ble_eq_true rfl) (uX1_bankOf g a3 m hg) ?_
      refine s_aload_n eX1_isPair_23 rfl rfl ?_
      refine s_iload_n eX1_isPair_24 rfl rfl ?_
      refine n_callVi (As := [.int a1]) eX1_isPair_25 kX1_secondBank lX1_88 rfl rfl hg.1 rfl rfl (Nat.le_of_ble_eq_true rfl) (Nat.le_of_ble_eq_true rfl) (Nat.le_of_ble_eq_true rfl) (uX1_secondBank g a1 m hg) ?_
      refine s_icmp_ne eX1_isPair_28 (fun h3 => ?_) (fun h3 => ?_)
      · skip
        rw [if_neg h3] at E
        refine s_iconst (v := 0) eX1_isPair_35 rfl ?_
        exact s_zret eX1_isPair_36 rfl (by first | exact Or.inl rfl | exact Or.inr rfl | (split <;> simp) | simp) ⟨rfl, by rw [E], rfl⟩
      · skip
        rw [if_pos h3] at E
        refine s_iconst (v := 1) eX1_isPair_31 rfl ?_
        refine s_goto eX1_isPair_32 ?_
        exact s_zret eX1_isPair_36 rfl (by first | exact Or.inl rfl | exact Or.inr rfl | (split <;> simp) | simp) ⟨rfl, by rw [E], rfl⟩
theorem uX1_isExileAgainst (g : Nat) (a1 : Int32) (a2 : Int32) (a3 : Int32) (m : ax_M) (hg : isG g) : ax_NM 2 Y1_isExileAgainst [.ref g, .int a1, .int a2, .int a3] m (fun r m1 => r = some (.int (F1_isExileAgainst g a1 a2 a3 m)) ∧ m1 = m) := by
  have E : F1_isExileAgainst g a1 a2 a3 m = (if (F1_kindOf g a2 m) = 1 then (if (F1_secondBank g a1 m) = 0 then 1 else (if (F1_kindOf g a3 m) = 1 then (if (F1_firstBank g a1 m) = 0 then 1 else 0) else 0)) else (if (F1_kindOf g a3 m) = 1 then (if (F1_firstBank g a1 m) = 0 then 1 else 0) else 0)) := rfl
  show ax_N 2 Y1_isExileAgainst 0 [some (.ref g), some (.int a1), some (.int a2), some (.int a3)] [] m _
  refine s_aload_n eX1_isExileAgainst_0 rfl rfl ?_
  refine s_iload_n eX1_isExileAgainst_1 rfl rfl ?_
  refine n_callVi (As := [.int a2]) eX1_isExileAgainst_2 kX1_kindOf lX1_91 rfl rfl hg.1 rfl rfl (Nat.le_of_ble_eq_true rfl) (Nat.le_of_ble_eq_true rfl) (Nat.le_of_ble_eq_true rfl) (uX1_kindOf g a2 m hg) ?_
  refine s_iconst (v := 1) eX1_isExileAgainst_5 rfl ?_
  refine s_icmp_ne eX1_isExileAgainst_6 (fun h1 => ?_) (fun h1 => ?_)
  · skip
    rw [if_neg h1] at E
    refine s_aload_n eX1_isExileAgainst_17 rfl rfl ?_
    refine s_iload_n eX1_isExileAgainst_18 rfl rfl ?_
    refine n_callVi (As := [.int a3]) eX1_isExileAgainst_19 kX1_kindOf lX1_91 rfl rfl hg.1 rfl rfl (Nat.le_of_ble_eq_true rfl) (Nat.le_of_ble_eq_true rfl) (Nat.le_of_ble_eq_true rfl) (uX1_kindOf g a3 m hg) ?_
    refine s_iconst (v := 1) eX1_isExileAgainst_22 rfl ?_
    refine s_icmp_ne eX1_isExileAgainst_23 (fun h2 => ?_) (fun h2 => ?_)
    · skip
      rw [if_neg h2] at E
      refine s_iconst (v := 0) eX1_isExileAgainst_38 rfl ?_
      exact s_zret eX1_isExileAgainst_39 rfl (by first | exact Or.inl rfl | exact Or.inr rfl | (split <;> simp) | simp) ⟨rfl, by rw [E], rfl⟩
    · skip
      rw [if_pos h2] at E
      refine s_aload_n eX1_isExileAgainst_26 rfl rfl ?_
      refine s_iload_n eX1_isExileAgainst_27 rfl rfl ?_
      refine n_callVi (As := [.int a1]) eX1_isExileAgainst_28 kX1_firstBank lX1_85 rfl rfl hg.1 rfl rfl (Nat.le_of_ble_eq_true rfl) (Nat.le_of_ble_eq_true rfl) (Nat.le_of_ble_eq_true rfl) (uX1_firstBank g a1 m hg) ?_
      refine s_if_ne eX1_isExileAgainst_31 (fun h3 => ?_) (fun h3 => ?_)
      · skip
        rw [if_neg h3] at E
        refine s_iconst (v := 0) eX1_isExileAgainst_38 rfl ?_
        exact s_zret eX1_isExileAgainst_39 rfl (by first | exact Or.inl rfl | exact Or.inr rfl | (split <;> simp) | simp) ⟨rfl, by rw [E], rfl⟩
      · skip
        rw [if_pos h3] at E
        refine s_iconst (v := 1) eX1_isExileAgainst_34 rfl ?_
        refine s_goto eX1_isExileAgainst_35 ?_
        exact s_zret eX1_isExileAgainst_39 rfl (by first | exact Or.inl rfl | exact Or.inr rfl | (split <;> simp) | simp) ⟨rfl, by rw [E], rfl⟩
  · skip
    rw [if_pos h1] at E
    refine s_aload_n eX1_isExileAgainst_9 rfl rfl ?_
    refine s_iload_n eX1_isExileAgainst_10 rfl rfl ?_
    refine n_callVi (As := [.int a1]) eX1_isExileAgainst_11 kX1_secondBank lX1_88 rfl rfl hg.1 rfl rfl (Nat.le_of_ble_eq_true rfl) (Nat.le_of_ble_eq_true rfl) (Nat.le_of_ble_eq_true rfl) (uX1_secondBank g a1 m hg) ?_
    refine s_if_eq eX1_isExileAgainst_14 (fun h4 => ?_) (fun h4 => ?_)
    · skip
      rw [if_pos h4] at E
      refine s_iconst (v := 1) eX1_isExileAgainst_34 rfl ?_
      refine s_goto eX1_isExileAgainst_35 ?_
      exact s_zret eX1_isExileAgainst_39 rfl (by first | exact Or.inl rfl | exact Or.inr rfl | (split <;> simp) | simp) ⟨rfl, by rw [E], rfl⟩
    · skip
      rw [if_neg h4] at E
      refine s_aload_n eX1_isExileAgainst_17 rfl rfl ?_
      refine s_iload_n eX1_isExileAgainst_18 rfl rfl ?_
      refine n_callVi (As := [.int a3]) eX1_isExileAgainst_19 kX1_kindOf lX1_91 rfl rfl hg.1 rfl rfl (Nat.le_of_ble_eq_true rfl) (Nat.le_of_ble_eq_true rfl) (Nat.le_of_ble_eq_true rfl) (uX1_kindOf g a3 m hg) ?_
      refine s_iconst (v := 1) eX1_isExileAgainst_22 rfl ?_
      refine s_icmp_ne eX1_isExileAgainst_23 (fun h5 => ?_) (fun h5 => ?_)
      · skip
        rw [if_neg h5] at E
        refine s_iconst (v := 0) eX1_isExileAgainst_38 rfl ?_
        exact s_zret eX1_isExileAgainst_39 rfl (by first | exact Or.inl rfl | exact Or.inr rfl | (split <;> simp) | simp) ⟨rfl, by rw [E], rfl⟩
      · skip
        rw [if_pos h5] at E
        refine s_aload_n eX1_isExileAgainst_26 rfl rfl ?_
        refine s_iload_n eX1_isExileAgainst_27 rfl rfl ?_
        refine n_callVi (As := [.int a1]) eX1_isExileAgainst_28 kX1_firstBank lX1_85 rfl rfl hg.1 rfl rfl (Nat.le_of_ble_eq_true rfl) (Nat.le_of_ble_eq_true rfl) (Nat.le_of_ble_eq_true rfl) (uX1_firstBank g a1 m hg) ?_
        refine s_if_ne eX1_isExileAgainst_31 (fun h6 => ?_) (fun h6 => ?_)
        · skip
          rw [if_neg h6] at E
          refine s_iconst (v := 0) eX1_isExileAgainst_38 rfl ?_
          exact s_zret eX1_isExileAgainst_39 rfl (by first | exact Or.inl rfl | exact Or.inr rfl | (split <;> simp) | simp) ⟨rfl, by rw [E], rfl⟩
        · skip
          rw [if_pos h6] at E
          refine s_iconst (v := 1) eX1_isExileAgainst_34 rfl ?_
          refine s_goto eX1_isExileAgainst_35 ?_
          exact s_zret eX1_isExileAgainst_39 rfl (by first | exact Or.inl rfl | exact Or.inr rfl | (split <;> simp) | simp) ⟨rfl, by rw [E], rfl⟩
theorem uX1_carries (g : Nat) (a1 : Int32) (m : ax_M) (hg : isG g) : ax_NM 2 Y1_carries [.ref g, .int a1] m (fun r m1 => r = some (.int (F1_carries g a1 m)) ∧ m1 = m) := by
  have E : F1_carries g a1 m = (if (F1_kindOf g a1 m) = 2 then 3 else 1) := rfl
  show ax_N 2 Y1_carries 0 [some (.ref g), some (.int a1)] [] m _
  refine s_aload_n eX1_carries_0 rfl rfl ?_
  refine s_iload_n eX1_carries_1 rfl rfl ?_
  refine n_callVi (As := [.int a1]) eX1_carries_2 kX1_kindOf lX1_91 rfl rfl hg.1 rfl rfl (Nat.le_of_ble_eq_true rfl) (Nat.le_of_ble_eq_true rfl) (Nat.le_of_ble_eq_true rfl) (uX1_kindOf g a1 m hg) ?_
  refine s_iconst (v := 2) eX1_carries_5 rfl ?_
  refine s_icmp_ne eX1_carries_6 (fun h1 => ?_) (fun h1 => ?_)
  · skip
    rw [if_neg h1] at E
    refine s_iconst (v := 1) eX1_carries_13 rfl ?_
    exact s_iret eX1_carries_14 rfl ⟨rfl, by rw [E], rfl⟩
  · skip
    rw [if_pos h1] at E
    refine s_iconst (v := 3) eX1_carries_9 rfl ?_
    refine s_goto eX1_carries_10 ?_
    exact s_iret eX1_carries_14 rfl ⟨rfl, by rw [E], rfl⟩
theorem uX1_playFor (g : Nat) (a1 : Int32) (a2 : Int32) (a3 : Int32) (m : ax_M) (hg : isG g) : ax_NM 2 Y1_playFor [.ref g, .int a1, .int a2, .int a3] m (fun r m1 => r = some (.int (F1_playFor g a1 a2 a3 m)) ∧ m1 = m) := by
  have E : F1_playFor g a1 a2 a3 m = (if a2 = 3 then ((F1_playOf g a1 m) / 2) else (if a3 = 3 then ((F1_playOf g a1 m) / 2) else (if a2 = 4 then ((F1_playOf g a1 m) * 2) else (if a3 = 4 then ((F1_playOf g a1 m) * 2) else (F1_playOf g a1 m))))) := rfl
  show ax_N 2 Y1_playFor 0 [some (.ref g), some (.int a1), some (.int a2), some (.int a3)] [] m _
  refine s_iload_n eX1_playFor_0 rfl rfl ?_
  refine s_iconst (v := 3) eX1_playFor_1 rfl ?_
  refine s_icmp_eq eX1_playFor_2 (fun h1 => ?_) (fun h1 => ?_)
  · skip
    rw [if_pos h1] at E
    refine s_aload_n eX1_playFor_10 rfl rfl ?_
    refine s_iload_n eX1_playFor_11 rfl rfl ?_
    refine n_callVi (As := [.int a1]) eX1_playFor_12 kX1_playOf lX1_94 rfl rfl hg.1 rfl rfl (Nat.le_of_ble_eq_true rfl) (Nat.le_of_ble_eq_true rfl) (Nat.le_of_ble_eq_true rfl) (uX1_playOf g a1 m hg) ?_
    refine s_iconst (v := 2) eX1_playFor_15 rfl ?_
    refine s_idiv eX1_playFor_16 (by decide) ?_
    exact s_iret eX1_playFor_17 rfl ⟨rfl, by rw [E], rfl⟩
  · skip
    rw [if_neg h1] at E
    refine s_iload_n eX1_playFor_5 rfl rfl ?_
    refine s_iconst (v := 3) eX1_playFor_6 rfl ?_
    refine s_icmp_ne eX1_playFor_7 (fun h2 => ?_) (fun h2 => ?_)
    · skip
      rw [if_neg h2] at E
      refine s_iload_n eX1_playFor_18 rfl rfl ?_
      refine s_iconst (v := 4) eX1_playFor_19 rfl ?_
      refine s_icmp_eq eX1_playFor_20 (fun h3 => ?_) (fun h3 => ?_)
      · skip
        rw [if_pos h3] at E
        refine s_aload_n eX1_playFor_28 rfl rfl ?_
        refine s_iload_n eX1_playFor_29 rfl rfl ?_
        refine n_callVi (As := [.int a1]) eX1_playFor_30 kX1_playOf lX1_94 rfl rfl hg.1 rfl rfl (Nat.le_of_ble_eq_true rfl) (Nat.le_of_ble_eq_true rfl) (Nat.le_of_ble_eq_true rfl) (uX1_playOf g a1 m hg) ?_
        refine s_iconst (v := 2) eX1_playFor_33 rfl ?_
        refine s_imul eX1_playFor_34 ?_
        exact s_iret eX1_playFor_35 rfl ⟨rfl, by rw [E], rfl⟩
      · skip
        rw [if_neg h3] at E
        refine s_iload_n eX1_playFor_23 rfl rfl ?_
        refine s_iconst (v := 4) eX1_playFor_24 rfl ?_
        refine s_icmp_ne eX1_playFor_25 (fun h4 => ?_) (fun h4 => ?_)
        · skip
          rw [if_neg h4] at E
          refine s_aload_n eX1_playFor_36 rfl rfl ?_
          refine s_iload_n eX1_playFor_37 rfl rfl ?_
          refine n_callVi (As := [.int a1]) eX1_playFor_38 kX1_playOf lX1_94 rfl rfl hg.1 rfl rfl (Nat.le_of_ble_eq_true rfl) (Nat.le_of_ble_eq_true rfl) (Nat.le_of_ble_eq_true rfl) (uX1_playOf g a1 m hg) ?_
          exact s_iret eX1_playFor_41 rfl ⟨rfl, by rw [E], rfl⟩
        · skip
          rw [if_pos h4] at E
          refine s_aload_n eX1_playFor_28 rfl rfl ?_
          refine s_iload_n eX1_playFor_29 rfl rfl ?_
          refine n_callVi (As := [.int a1]) eX1_playFor_30 kX1_playOf lX1_94 rfl rfl hg.1 rfl rfl (Nat.le_of_ble_eq_true rfl) (Nat.le_of_ble_eq_true rfl) (Nat.le_of_ble_eq_true rfl) (uX1_playOf g a1 m hg) ?_
          refine s_iconst (v := 2) eX1_playFor_33 rfl ?_
          refine s_imul eX1_playFor_34 ?_
          exact s_iret eX1_playFor_35 rfl ⟨rfl, by rw [E], rfl⟩
    · skip
      rw [if_pos h2] at E
      refine s_aload_n eX1_playFor_10 rfl rfl ?_
      refine s_iload_n eX1_playFor_11 rfl rfl ?_
      refine n_callVi (As := [.int a1]) eX1_playFor_12 kX1_playOf lX1_94 rfl rfl hg.1 rfl rfl (Nat.le_of_ble_eq_true rfl) (Nat.le_of_ble_eq_true rfl) (Nat.le_of_ble_eq_true rfl) (uX1_playOf g a1 m hg) ?_
      refine s_iconst (v := 2) eX1_playFor_15 rfl ?_
      refine s_idiv eX1_playFor_16 (by decide) ?_
      exact s_iret eX1_playFor_17 rfl ⟨rfl, by rw [E], rfl⟩
theorem uX1_isLevel (g : Nat) (a1 : Int32) (a2 : Int32) (a3 : Int32) (a4 : Int32) (a5 : Int32) (m : ax_M) (hg : isG g) : ax_NM 3 Y1_isLevel [.ref g, .int a1, .int a2, .int a3, .int a4, .int a5] m (fun r m1 => r = some (.int (F1_isLevel g a1 a2 a3 a4 a5 m)) ∧ m1 = m) := by
  have E : F1_isLevel g a1 a2 a3 a4 a5 m = (if (F1_playFor g a1 (F1_kindOf g a2 m) (F1_kindOf g a3 m) m) < (if 0 ≤ ((F1_weightOf g a2 m) + (a4 * (m g 3))) - ((F1_weightOf g a3 m) + (a5 * (m g 3))) then ((F1_weightOf g a2 m) + (a4 * (m g 3))) - ((F1_weightOf g a3 m) + (a5 * (m g 3))) else 0 - (((F1_weightOf g a2 m) + (a4 * (m g 3))) - ((F1_weightOf g a3 m) + (a5 * (m g 3))))) then 0 else 1) := rfl
  show ax_N 3 Y1_isLevel 0 [some (.ref g), some (.int a1), some (.int a2), some (.int a3), some (.int a4), some (.int a5), none, none] [] m _
  refine s_aload_n eX1_isLevel_0 rfl rfl ?_
  refine s_iload_n eX1_isLevel_1 rfl rfl ?_
  refine n_callVi (As := [.int a2]) eX1_isLevel_2 kX1_weightOf lX1_97 rfl rfl hg.1 rfl rfl (Nat.le_of_ble_eq_true rfl) (Nat.le_of_ble_eq_true rfl) (Nat.le_of_ble_eq_true rfl) (uX1_weightOf g a2 m hg) ?_
  refine s_iload eX1_isLevel_5 rfl ?_
  refine s_aload_n eX1_isLevel_7 rfl rfl ?_
  refine s_geti eX1_isLevel_8 fX1_15 hg.1 rfl ?_
  refine s_imul eX1_isLevel_11 ?_
  refine s_iadd eX1_isLevel_12 ?_
  refine s_istore (ls' := [some (.ref g), some (.int a1), some (.int a2), some (.int a3), some (.int a4), some (.int a5), some (.int ((F1_weightOf g a2 m) + (a4 * (m g 3)))), none]) eX1_isLevel_13 rfl rfl ?_
  refine s_aload_n eX1_isLevel_15 rfl rfl ?_
  refine s_iload_n eX1_isLevel_16 rfl rfl ?_
  refine n_callVi (As := [.int a3]) eX1_isLevel_17 kX1_weightOf lX1_97 rfl rfl hg.1 rfl rfl (Nat.le_of_ble_eq_true rfl) (Nat.le_of_ble_eq_true rfl) (Nat.le_of_ble_eq_true rfl) (uX1_weightOf g a3 m hg) ?_
  refine s_iload eX1_isLevel_20 rfl ?_
  refine s_aload_n eX1_isLevel_22 rfl rfl ?_
  refine s_geti eX1_isLevel_23 fX1_15 hg.1 rfl ?_
  refine s_imul eX1_isLevel_26 ?_
  refine s_iadd eX1_isLevel_27 ?_
  refine s_istore (ls' := [some (.ref g), some (.int a1), some (.int a2), some (.int a3), some (.int a4), some (.int a5), some (.int ((F1_weightOf g a2 m) + (a4 * (m g 3)))), some (.int ((F1_weightOf g a3 m) + (a5 * (m g 3))))]) eX1_isLevel_28 rfl rfl ?_
  refine s_iload eX1_isLevel_30 rfl ?_
  refine s_iload eX1_isLevel_32 rfl ?_
  refine s_isub eX1_isLevel_34 ?_
  refine s_abs eX1_isLevel_35 lX1_100 wM_abs (Nat.le_of_ble_eq_true rfl) (Nat.le_of_ble_eq_true rfl) ?_
  refine s_aload_n eX1_isLevel_38 rfl rfl ?_
  refine s_iload_n eX1_isLevel_39 rfl rfl ?_
  refine s_aload_n eX1_isLevel_40 rfl rfl ?_
  refine s_iload_n eX1_isLevel_41 rfl rfl ?_
  refine n_callVi (As := [.int a2]) eX1_isLevel_42 kX1_kindOf lX1_91 rfl rfl hg.1 rfl rfl (Nat.le_of_ble_eq_true rfl) (Nat.le_of_ble_eq_true rfl) (Nat.le_of_ble_eq_true rfl) (uX1_kindOf g a2 m hg) ?_
  refine s_aload_n eX1_isLevel_45 rfl rfl ?_
  refine s_iload_n eX1_isLevel_46 rfl rfl ?_
  refine n_callVi (As := [.int a3]) eX1_isLevel_47 kX1_kindOf lX1_91 rfl rfl hg.1 rfl rfl (Nat.le_of_ble_eq_true rfl) (Nat.le_of_ble_eq_true rfl) (Nat.le_of_ble_eq_true rfl) (uX1_kindOf g a3 m hg) ?_
  refine n_callVi (As := [.int a1, .int (F1_kindOf g a2 m), .int (F1_kindOf g a3 m)]) eX1_isLevel_50 kX1_playFor lX1_105 rfl rfl hg.1 rfl rfl (Nat.le_of_ble_eq_true rfl) (Nat.le_of_ble_eq_true rfl) (Nat.le_of_ble_eq_true rfl) (uX1_playFor g a1 (F1_kindOf g a2 m) (F1_kindOf g a3 m) m hg) ?_
  refine s_icmp_gt eX1_isLevel_53 (fun h1 => ?_) (fun h1 => ?_)
  · skip
    rw [if_pos h1] at E
    refine s_iconst (v := 0) eX1_isLevel_60 rfl ?_
    exact s_zret eX1_isLevel_61 rfl (by first | exact Or.inl rfl | exact Or.inr rfl | (split <;> simp) | simp) ⟨rfl, by rw [E], rfl⟩
  · skip
    rw [if_neg h1] at E
    refine s_iconst (v := 1) eX1_isLevel_56 rfl ?_
    refine s_goto eX1_isLevel_57 ?_
    exact s_zret eX1_isLevel_61 rfl (by first | exact Or.inl rfl | exact Or.inr rfl | (split <;> simp) | simp) ⟨rfl, by rw [E], rfl⟩
theorem uX1_carriesSo (g : Nat) (a1 : Int32) (a2 : Int32) (m : ax_M) (hg : isG g) : ax_NM 3 Y1_carriesSo [.ref g, .int a1, .int a2] m (fun r m1 => r = some (.int (F1_carriesSo g a1 a2 m)) ∧ m1 = m) := by
  have E : F1_carriesSo g a1 a2 m = (if (F1_carries g a1 m) < a2 then 0 else (if (F1_stonesOn g (F1_bankOf g a1 m) m) < a2 then 0 else 1)) := rfl
  show ax_N 3 Y1_carriesSo 0 [some (.ref g), some (.int a1), some (.int a2)] [] m _
  refine s_iload_n eX1_carriesSo_0 rfl rfl ?_
  refine s_aload_n eX1_carriesSo_1 rfl rfl ?_
  refine s_iload_n eX1_carriesSo_2 rfl rfl ?_
  refine n_callVi (As := [.int a1]) eX1_carriesSo_3 kX1_carries lX1_109 rfl rfl hg.1 rfl rfl (Nat.le_of_ble_eq_true rfl) (Nat.le_of_ble_eq_true rfl) (Nat.le_of_ble_eq_true rfl) (uX1_carries g a1 m hg) ?_
  refine s_icmp_gt eX1_carriesSo_6 (fun h1 => ?_) (fun h1 => ?_)
  · skip
    rw [if_pos h1] at E
    refine s_iconst (v := 0) eX1_carriesSo_26 rfl ?_
    exact s_zret eX1_carriesSo_27 rfl (by first | exact Or.inl rfl | exact Or.inr rfl | (split <;> simp) | simp) ⟨rfl, by rw [E], rfl⟩
  · skip
    rw [if_neg h1] at E
    refine s_iload_n eX1_carriesSo_9 rfl rfl ?_
    refine s_aload_n eX1_carriesSo_10 rfl rfl ?_
    refine s_aload_n eX1_carriesSo_11 rfl rfl ?_
    refine s_iload_n eX1_carriesSo_12 rfl rfl ?_
    refine n_callVi (As := [.int a1]) eX1_carriesSo_13 kX1_bankOf lX1_68 rfl rfl hg.1 rfl rfl (Nat.le_of_ble_eq_true rfl) (Nat.le_of_ble_eq_true rfl) (Nat.le_of_ble_eq_true rfl) (uX1_bankOf g a1 m hg) ?_
    refine n_callVi (As := [.int (F1_bankOf g a1 m)]) eX1_carriesSo_16 kX1_stonesOn lX1_64 rfl rfl hg.1 rfl rfl (Nat.le_of_ble_eq_true rfl) (Nat.le_of_ble_eq_true rfl) (Nat.le_of_ble_eq_true rfl) (uX1_stonesOn g (F1_bankOf g a1 m) m hg) ?_
    refine s_icmp_gt eX1_carriesSo_19 (fun h2 => ?_) (fun h2 => ?_)
    · skip
      rw [if_pos h2] at E
      refine s_iconst (v := 0) eX1_carriesSo_26 rfl ?_
      exact s_zret eX1_carriesSo_27 rfl (by first | exact Or.inl rfl | exact Or.inr rfl | (split <;> simp) | simp) ⟨rfl, by rw [E], rfl⟩
    · skip
      rw [if_neg h2] at E
      refine s_iconst (v := 1) eX1_carriesSo_22 rfl ?_
      refine s_goto eX1_carriesSo_23 ?_
      exact s_zret eX1_carriesSo_27 rfl (by first | exact Or.inl rfl | exact Or.inr rfl | (split <;> simp) | simp) ⟨rfl, by rw [E], rfl⟩
theorem uX1_passes (g : Nat) (a1 : Int32) (a2 : Int32) (a3 : Int32) (a4 : Int32) (a5 : Int32) (m : ax_M) (hg : isG g) : ax_NM 4 Y1_passes [.ref g, .int a1, .int a2, .int a3, .int a4, .int a5] m (fun r m1 => r = some (.int (F1_passes g a1 a2 a3 a4 a5 m)) ∧ m1 = m) := by
  have E : F1_passes g a1 a2 a3 a4 a5 m = (if (F1_isPair g a1 a2 a3 m) = 0 then 0 else (if (F1_carriesSo g a2 a4 m) = 0 then 0 else (if (F1_carriesSo g a3 a5 m) = 0 then 0 else (if (F1_isExileAgainst g a1 a2 a3 m) = 0 then (if (F1_isLevel g a1 a2 a3 a4 a5 m) = 0 then 0 else 1) else 0)))) := rfl
  show ax_N 4 Y1_passes 0 [some (.ref g), some (.int a1), some (.int a2), some (.int a3), some (.int a4), some (.int a5)] [] m _
  refine s_aload_n eX1_passes_0 rfl rfl ?_
  refine s_iload_n eX1_passes_1 rfl rfl ?_
  refine s_iload_n eX1_passes_2 rfl rfl ?_
  refine s_iload_n eX1_passes_3 rfl rfl ?_
  refine n_callVi (As := [.int a1, .int a2, .int a3]) eX1_passes_4 kX1_isPair lX1_112 rfl rfl hg.1 rfl rfl (Nat.le_of_ble_eq_true rfl) (Nat.le_of_ble_eq_true rfl) (Nat.le_of_ble_eq_true rfl) (uX1_isPair g a1 a2 a3 m hg) ?_
  refine s_if_eq eX1_passes_7 (fun h1 => ?_) (fun h1 => ?_)
  · skip
    rw [if_pos h1] at E
    refine s_iconst (v := 0) eX1_passes_58 rfl ?_
    exact s_zret eX1_passes_59 rfl (by first | exact Or.inl rfl | exact Or.inr rfl | (split <;> simp) | simp) ⟨rfl, by rw [E], rfl⟩
  · skip
    rw [if_neg h1] at E
    refine s_aload_n eX1_passes_10 rfl rfl ?_
    refine s_iload_n eX1_passes_11 rfl rfl ?_
    refine s_iload eX1_passes_12 rfl ?_
    refine n_callVi (As := [.int a2, .int a4]) eX1_passes_14 kX1_carriesSo lX1_115 rfl rfl hg.1 rfl rfl (Nat.le_of_ble_eq_true rfl) (Nat.le_of_ble_eq_true rfl) (Nat.le_of_ble_eq_true rfl) (uX1_carriesSo g a2 a4 m hg) ?_
    refine s_if_eq eX1_passes_17 (fun h2 => ?_) (fun h2 => ?_)
    · skip
      rw [if_pos h2] at E
      refine s_iconst (v := 0) eX1_passes_58 rfl ?_
      exact s_zret eX1_passes_59 rfl (by first | exact Or.inl rfl | exact Or.inr rfl | (split <;> simp) | simp) ⟨rfl, by rw [E], rfl⟩
    · skip
      rw [if_neg h2] at E
      refine s_aload_n eX1_passes_20 rfl rfl ?_
      refine s_iload_n eX1_passes_21 rfl rfl ?_
      refine s_iload eX1_passes_22 rfl ?_
      refine n_callVi (As := [.int a3, .int a5]) eX1_passes_24 kX1_carriesSo lX1_115 rfl rfl hg.1 rfl rfl (Nat.le_of_ble_eq_true rfl) (Nat.le_of_ble_eq_true rfl) (Nat.le_of_ble_eq_true rfl) (uX1_carriesSo g a3 a5 m hg) ?_
      refine s_if_eq eX1_passes_27 (fun h3 => ?_) (fun h3 => ?_)
      · skip
        rw [if_pos h3] at E
        refine s_iconst (v := 0) eX1_passes_58 rfl ?_
        exact s_zret eX1_passes_59 rfl (by first | exact Or.inl rfl | exact Or.inr rfl | (split <;> simp) | simp) ⟨rfl, by rw [E], rfl⟩
      · skip
        rw [if_neg h3] at E
        refine s_aload_n eX1_passes_30 rfl rfl ?_
        refine s_iload_n eX1_passes_31 rfl rfl ?_
        refine s_iload_n eX1_passes_32 rfl rfl ?_
        refine s_iload_n eX1_passes_33 rfl rfl ?_
        refine n_callVi (As := [.int a1, .int a2, .int a3]) eX1_passes_34 kX1_isExileAgainst lX1_119 rfl rfl hg.1 rfl rfl (Nat.le_of_ble_eq_true rfl) (Nat.le_of_ble_eq_true rfl) (Nat.le_of_ble_eq_true rfl) (uX1_isExileAgainst g a1 a2 a3 m hg) ?_
        refine s_if_ne eX1_passes_37 (fun h4 => ?_) (fun h4 => ?_)
        · skip
          rw [if_neg h4] at E
          refine s_iconst (v := 0) eX1_passes_58 rfl ?_
          exact s_zret eX1_passes_59 rfl (by first | exact Or.inl rfl | exact Or.inr rfl | (split <;> simp) | simp) ⟨rfl, by rw [E], rfl⟩
        · skip
          rw [if_pos h4] at E
          refine s_aload_n eX1_passes_40 rfl rfl ?_
          refine s_iload_n eX1_passes_41 rfl rfl ?_
          refine s_iload_n eX1_passes_42 rfl rfl ?_
          refine s_iload_n eX1_passes_43 rfl rfl ?_
          refine s_iload eX1_passes_44 rfl ?_
          refine s_iload eX1_passes_46 rfl ?_
          refine n_callVi (As := [.int a1, .int a2, .int a3, .int a4, .int a5]) eX1_passes_48 kX1_isLevel lX1_122 rfl rfl hg.1 rfl rfl (Nat.le_of_ble_eq_true rfl) (Nat.le_of_ble_eq_true rfl) (Nat.le_of_ble_eq_true rfl) (uX1_isLevel g a1 a2 a3 a4 a5 m hg) ?_
          refine s_if_eq eX1_passes_51 (fun h5 => ?_) (fun h5 => ?_)
          · skip
            rw [if_pos h5] at E
            refine s_iconst (v := 0) eX1_passes_58 rfl ?_
            exact s_zret eX1_passes_59 rfl (by first | exact Or.inl rfl | exact Or.inr rfl | (split <;> simp) | simp) ⟨rfl, by rw [E], rfl⟩
          · skip
            rw [if_neg h5] at E
            refine s_iconst (v := 1) eX1_passes_54 rfl ?_
            refine s_goto eX1_passes_55 ?_
            exact s_zret eX1_passes_59 rfl (by first | exact Or.inl rfl | exact Or.inr rfl | (split <;> simp) | simp) ⟨rfl, by rw [E], rfl⟩
theorem cK1_go_70 (g : Nat) (hg : isG g) (v1 v2 v3 v4 v5 v6 v7 : Int32) (m : ax_M) {P : Option Value → ax_M → Prop} (hP : P none (K1_go_70 g v1 v2 v3 v4 v5 v6 v7 m)) : ax_N 2 Y1_go 70 [some (.ref g), some (.int v1), some (.int v2), some (.int v3), some (.int v4), some (.int v5), some (.int v6), some (.int v7)] [] m P := by
  have E : K1_go_70 g v1 v2 v3 v4 v5 v6 v7 m = (ax_up m g 4 ((m g 4) + 1)) := rfl
  refine s_aload_n eX1_go_70 rfl rfl ?_
  refine s_dup eX1_go_71 rfl ?_
  refine s_geti eX1_go_72 fX1_49 hg.1 rfl ?_
  refine s_iconst (v := 1) eX1_go_75 rfl ?_
  refine s_iadd eX1_go_76 ?_
  refine s_puti eX1_go_77 fX1_49 pX1_4 rfl rfl hg.1 rfl ?_
  rw [E] at hP
  exact s_vret eX1_go_80 rfl ⟨rfl, hP⟩
theorem cK1_go_34 (g : Nat) (hg : isG g) (v1 v2 v3 v4 v5 v6 v7 : Int32) (m : ax_M) {P : Option Value → ax_M → Prop} (hP : P none (K1_go_34 g v1 v2 v3 v4 v5 v6 v7 m)) : ax_N 2 Y1_go 34 [some (.ref g), some (.int v1), some (.int v2), some (.int v3), some (.int v4), some (.int v5), some (.int v6), some (.int v7)] [] m P := by
  have E : K1_go_34 g v1 v2 v3 v4 v5 v6 v7 m = (K1_go_70 g v1 v2 v3 v4 v5 v6 v7 (F1_setStones g v7 (((F1_stonesOn g v7 (F1_setStones g v6 (((F1_stonesOn g v6 m) - v4) + v5) m)) - v5) + v4) (F1_setStones g v6 (((F1_stonesOn g v6 m) - v4) + v5) m))) := rfl
  refine s_aload_n eX1_go_34 rfl rfl ?_
  refine s_iload eX1_go_35 rfl ?_
  refine s_aload_n eX1_go_37 rfl rfl ?_
  refine s_iload eX1_go_38 rfl ?_
  refine n_callVi (As := [.int v6]) eX1_go_40 kX1_stonesOn lX1_64 rfl rfl hg.1 rfl rfl (Nat.le_of_ble_eq_true rfl) (Nat.le_of_ble_eq_true rfl) (Nat.le_of_ble_eq_true rfl) (uX1_stonesOn g v6 m hg) ?_
  refine s_iload eX1_go_43 rfl ?_
  refine s_isub eX1_go_45 ?_
  refine s_iload eX1_go_46 rfl ?_
  refine s_iadd eX1_go_48 ?_
  refine n_callVv (As := [.int v6, .int (((F1_stonesOn g v6 m) - v4) + v5)]) eX1_go_49 kX1_setStones lX1_126 rfl rfl hg.1 rfl rfl (Nat.le_of_ble_eq_true rfl) (Nat.le_of_ble_eq_true rfl) (Nat.le_of_ble_eq_true rfl) (uX1_setStones g v6 (((F1_stonesOn g v6 m) - v4) + v5) m hg) ?_
  refine s_aload_n eX1_go_52 rfl rfl ?_
  refine s_iload eX1_go_53 rfl ?_
  refine s_aload_n eX1_go_55 rfl rfl ?_
  refine s_iload eX1_go_56 rfl ?_
  refine n_callVi (As := [.int v7]) eX1_go_58 kX1_stonesOn lX1_64 rfl rfl hg.1 rfl rfl (Nat.le_of_ble_eq_true rfl) (Nat.le_of_ble_eq_true rfl) (Nat.le_of_ble_eq_true rfl) (uX1_stonesOn g v7 ((F1_setStones g v6 (((F1_stonesOn g v6 m) - v4) + v5) m)) hg) ?_
  refine s_iload eX1_go_61 rfl ?_
  refine s_isub eX1_go_63 ?_
  refine s_iload eX1_go_64 rfl ?_
  refine s_iadd eX1_go_66 ?_
  refine n_callVv (As := [.int v7, .int (((F1_stonesOn g v7 (F1_setStones g v6 (((F1_stonesOn g v6 m) - v4) + v5) m)) - v5) + v4)]) eX1_go_67 kX1_setStones lX1_126 rfl rfl hg.1 rfl rfl (Nat.le_of_ble_eq_true rfl) (Nat.le_of_ble_eq_true rfl) (Nat.le_of_ble_eq_true rfl) (uX1_setStones g v7 (((F1_stonesOn g v7 (F1_setStones g v6 (((F1_stonesOn g v6 m) - v4) + v5) m)) - v5) + v4) ((F1_setStones g v6 (((F1_stonesOn g v6 m) - v4) + v5) m)) hg) ?_
  refine cK1_go_70 g hg v1 v2 v3 v4 v5 v6 v7 ((F1_setStones g v7 (((F1_stonesOn g v7 (F1_setStones g v6 (((F1_stonesOn g v6 m) - v4) + v5) m)) - v5) + v4) (F1_setStones g v6 (((F1_stonesOn g v6 m) - v4) + v5) m))) ?_
  rw [E] at hP
  exact hP
theorem uX1_go (g : Nat) (a1 : Int32) (a2 : Int32) (a3 : Int32) (a4 : Int32) (a5 : Int32) (m : ax_M) (hg : isG g) : ax_NM 2 Y1_go [.ref g, .int a1, .int a2, .int a3, .int a4, .int a5] m (fun r m1 => r = none ∧ m1 = F1_go g a1 a2 a3 a4 a5 m) := by
  have E : F1_go g a1 a2 a3 a4 a5 m = (K1_go_34 g a1 a2 a3 a4 a5 (F1_firstBank g a1 m) (F1_secondBank g a1 m) (F7_put (g + 7) 6 a3 (F1_firstBank g a1 m) (F7_put (g + 7) 6 a2 (F1_secondBank g a1 m) m))) := rfl
  show ax_N 2 Y1_go 0 [some (.ref g), some (.int a1), some (.int a2), some (.int a3), some (.int a4), some (.int a5), none, none] [] m _
  refine s_aload_n eX1_go_0 rfl rfl ?_
  refine s_iload_n eX1_go_1 rfl rfl ?_
  refine n_callVi (As := [.int a1]) eX1_go_2 kX1_firstBank lX1_85 rfl rfl hg.1 rfl rfl (Nat.le_of_ble_eq_true rfl) (Nat.le_of_ble_eq_true rfl) (Nat.le_of_ble_eq_true rfl) (uX1_firstBank g a1 m hg) ?_
  refine s_istore (ls' := [some (.ref g), some (.int a1), some (.int a2), some (.int a3), some (.int a4), some (.int a5), some (.int (F1_firstBank g a1 m)), none]) eX1_go_5 rfl rfl ?_
  refine s_aload_n eX1_go_7 rfl rfl ?_
  refine s_iload_n eX1_go_8 rfl rfl ?_
  refine n_callVi (As := [.int a1]) eX1_go_9 kX1_secondBank lX1_88 rfl rfl hg.1 rfl rfl (Nat.le_of_ble_eq_true rfl) (Nat.le_of_ble_eq_true rfl) (Nat.le_of_ble_eq_true rfl) (uX1_secondBank g a1 m hg) ?_
  refine s_istore (ls' := [some (.ref g), some (.int a1), some (.int a2), some (.int a3), some (.int a4), some (.int a5), some (.int (F1_firstBank g a1 m)), some (.int (F1_secondBank g a1 m))]) eX1_go_12 rfl rfl ?_
  refine s_aload_n eX1_go_14 rfl rfl ?_
  refine s_getr (q := g + 7) eX1_go_15 fX1_37 hg.1 rfl ?_
  refine s_iload_n eX1_go_18 rfl rfl ?_
  refine s_iload eX1_go_19 rfl ?_
  refine n_callSv (As := [.ref (g + 7), .int a2, .int (F1_secondBank g a1 m)]) eX1_go_21 kX7_put lX1_52 rfl rfl (Nat.le_of_ble_eq_true rfl) (Nat.le_of_ble_eq_true rfl) (Nat.le_of_ble_eq_true rfl) (uX7_put (g + 7) 6 a2 (F1_secondBank g a1 m) m hg.2.2.2.2.2.2.2.1) ?_
  refine s_aload_n eX1_go_24 rfl rfl ?_
  refine s_getr (q := g + 7) eX1_go_25 fX1_37 hg.1 rfl ?_
  refine s_iload_n eX1_go_28 rfl rfl ?_
  refine s_iload eX1_go_29 rfl ?_
  refine n_callSv (As := [.ref (g + 7), .int a3, .int (F1_firstBank g a1 m)]) eX1_go_31 kX7_put lX1_52 rfl rfl (Nat.le_of_ble_eq_true rfl) (Nat.le_of_ble_eq_true rfl) (Nat.le_of_ble_eq_true rfl) (uX7_put (g + 7) 6 a3 (F1_firstBank g a1 m) ((F7_put (g + 7) 6 a2 (F1_secondBank g a1 m) m)) hg.2.2.2.2.2.2.2.1) ?_
  refine cK1_go_34 g hg a1 a2 a3 a4 a5 (F1_firstBank g a1 m) (F1_secondBank g a1 m) ((F7_put (g + 7) 6 a3 (F1_firstBank g a1 m) (F7_put (g + 7) 6 a2 (F1_secondBank g a1 m) m))) ?_
  exact ⟨rfl, by rw [E]⟩
theorem uX1_passesAndGoes (g : Nat) (a1 : Int32) (a2 : Int32) (a3 : Int32) (m : ax_M) (hg : isG g) : ax_NM 5 Y1_passesAndGoes [.ref g, .int a1, .int a2, .int a3] m (fun r m1 => r = some (.int (F1_passesAndGoes g a1 a2 a3 m).1) ∧ m1 = (F1_passesAndGoes g a1 a2 a3 m).2) := by
  have E : F1_passesAndGoes g a1 a2 a3 m = (if (F1_passes g a1 a2 a3 0 0 m) = 0 then (0, m) else (1, (F1_go g a1 a2 a3 0 0 m))) := rfl
  show ax_N 5 Y1_passesAndGoes 0 [some (.ref g), some (.int a1), some (.int a2), some (.int a3)] [] m _
  refine s_aload_n eX1_passesAndGoes_0 rfl rfl ?_
  refine s_iload_n eX1_passesAndGoes_1 rfl rfl ?_
  refine s_iload_n eX1_passesAndGoes_2 rfl rfl ?_
  refine s_iload_n eX1_passesAndGoes_3 rfl rfl ?_
  refine s_iconst (v := 0) eX1_passesAndGoes_4 rfl ?_
  refine s_iconst (v := 0) eX1_passesAndGoes_5 rfl ?_
  refine n_callVi (As := [.int a1, .int a2, .int a3, .int 0, .int 0]) eX1_passesAndGoes_6 kX1_passes lX1_130 rfl rfl hg.1 rfl rfl (Nat.le_of_ble_eq_true rfl) (Nat.le_of_ble_eq_true rfl) (Nat.le_of_ble_eq_true rfl) (uX1_passes g a1 a2 a3 0 0 m hg) ?_
  refine s_if_ne eX1_passesAndGoes_9 (fun h1 => ?_) (fun h1 => ?_)
  · skip
    rw [if_neg h1] at E
    refine s_aload_n eX1_passesAndGoes_14 rfl rfl ?_
    refine s_iload_n eX1_passesAndGoes_15 rfl rfl ?_
    refine s_iload_n eX1_passesAndGoes_16 rfl rfl ?_
    refine s_iload_n eX1_passesAndGoes_17 rfl rfl ?_
    refine s_iconst (v := 0) eX1_passesAndGoes_18 rfl ?_
    refine s_iconst (v := 0) eX1_passesAndGoes_19 rfl ?_
    refine n_callVv (As := [.int a1, .int a2, .int a3, .int 0, .int 0]) eX1_passesAndGoes_20 kX1_go lX1_133 rfl rfl hg.1 rfl rfl (Nat.le_of_ble_eq_true rfl) (Nat.le_of_ble_eq_true rfl) (Nat.le_of_ble_eq_true rfl) (uX1_go g a1 a2 a3 0 0 m hg) ?_
    refine s_iconst (v := 1) eX1_passesAndGoes_23 rfl ?_
    exact s_zret eX1_passesAndGoes_24 rfl (by first | exact Or.inl rfl | exact Or.inr rfl | (split <;> simp) | simp) ⟨rfl, by rw [E], by rw [E]⟩
  · skip
    rw [if_pos h1] at E
    refine s_iconst (v := 0) eX1_passesAndGoes_12 rfl ?_
    exact s_zret eX1_passesAndGoes_13 rfl (by first | exact Or.inl rfl | exact Or.inr rfl | (split <;> simp) | simp) ⟨rfl, by rw [E], by rw [E]⟩
theorem uX1_tryCrossing (g : Nat) (a1 : Int32) (a2 : Int32) (a3 : Int32) (a4 : Int32) (a5 : Int32) (m : ax_M) (hg : isG g) : ax_NM 5 Y1_tryCrossing [.ref g, .int a1, .int a2, .int a3, .int a4, .int a5] m (fun r m1 => r = some (.int (F1_tryCrossing g a1 a2 a3 a4 a5 m).1) ∧ m1 = (F1_tryCrossing g a1 a2 a3 a4 a5 m).2) := by
  have E : F1_tryCrossing g a1 a2 a3 a4 a5 m = (if (F1_isAsked g a1 a2 a3 a4 a5 m) = 0 then ((-1), m) else (if (F1_passes g a1 a2 a3 a4 a5 m) = 0 then ((-4), m) else (if (m g 4) < 999 then (if (((F1_stonesOn g (F1_firstBank g a1 m) m) - a4) + a5) ≤ 20 then (if (((F1_stonesOn g (F1_secondBank g a1 m) m) - a5) + a4) ≤ 20 then ((F1_go g a1 a2 a3 a4 a5 m) g 4, (F1_go g a1 a2 a3 a4 a5 m)) else ((-3), m)) else ((-3), m)) else ((-3), m)))) := rfl
  show ax_N 5 Y1_tryCrossing 0 [some (.ref g), some (.int a1), some (.int a2), some (.int a3), some (.int a4), some (.int a5)] [] m _
  refine s_aload_n eX1_tryCrossing_0 rfl rfl ?_
  refine s_iload_n eX1_tryCrossing_1 rfl rfl ?_
  refine s_iload_n eX1_tryCrossing_2 rfl rfl ?_
  refine s_iload_n eX1_tryCrossing_3 rfl rfl ?_
  refine s_iload eX1_tryCrossing_4 rfl ?_
  refine s_iload eX1_tryCrossing_6 rfl ?_
  refine n_callVi (As := [.int a1, .int a2, .int a3, .int a4, .int a5]) eX1_tryCrossing_8 kX1_isAsked lX1_137 rfl rfl hg.1 rfl rfl (Nat.le_of_ble_eq_true rfl) (Nat.le_of_ble_eq_true rfl) (Nat.le_of_ble_eq_true rfl) (uX1_isAsked g a1 a2 a3 a4 a5 m hg) ?_
  refine s_if_ne eX1_tryCrossing_11 (fun h1 => ?_) (fun h1 => ?_)
  · skip
    rw [if_neg h1] at E
    refine s_aload_n eX1_tryCrossing_16 rfl rfl ?_
    refine s_iload_n eX1_tryCrossing_17 rfl rfl ?_
    refine s_iload_n eX1_tryCrossing_18 rfl rfl ?_
    refine s_iload_n eX1_tryCrossing_19 rfl rfl ?_
    refine s_iload eX1_tryCrossing_20 rfl ?_
    refine s_iload eX1_tryCrossing_22 rfl ?_
    refine n_callVi (As := [.int a1, .int a2, .int a3, .int a4, .int a5]) eX1_tryCrossing_24 kX1_passes lX1_130 rfl rfl hg.1 rfl rfl (Nat.le_of_ble_eq_true rfl) (Nat.le_of_ble_eq_true rfl) (Nat.le_of_ble_eq_true rfl) (uX1_passes g a1 a2 a3 a4 a5 m hg) ?_
    refine s_if_ne eX1_tryCrossing_27 (fun h2 => ?_) (fun h2 => ?_)
    · skip
      rw [if_neg h2] at E
      refine s_aload_n eX1_tryCrossing_33 rfl rfl ?_
      refine s_geti eX1_tryCrossing_34 fX1_49 hg.1 rfl ?_
      refine s_sipush (v := 999) eX1_tryCrossing_37 rfl ?_
      refine s_icmp_lt eX1_tryCrossing_40 (fun h3 => ?_) (fun h3 => ?_)
      · skip
        rw [if_pos h3] at E
        refine s_aload_n eX1_tryCrossing_46 rfl rfl ?_
        refine s_aload_n eX1_tryCrossing_47 rfl rfl ?_
        refine s_iload_n eX1_tryCrossing_48 rfl rfl ?_
        refine n_callVi (As := [.int a1]) eX1_tryCrossing_49 kX1_firstBank lX1_85 rfl rfl hg.1 rfl rfl (Nat.le_of_ble_eq_true rfl) (Nat.le_of_ble_eq_true rfl) (Nat.le_of_ble_eq_true rfl) (uX1_firstBank g a1 m hg) ?_
        refine n_callVi (As := [.int (F1_firstBank g a1 m)]) eX1_tryCrossing_52 kX1_stonesOn lX1_64 rfl rfl hg.1 rfl rfl (Nat.le_of_ble_eq_true rfl) (Nat.le_of_ble_eq_true rfl) (Nat.le_of_ble_eq_true rfl) (uX1_stonesOn g (F1_firstBank g a1 m) m hg) ?_
        refine s_iload eX1_tryCrossing_55 rfl ?_
        refine s_isub eX1_tryCrossing_57 ?_
        refine s_iload eX1_tryCrossing_58 rfl ?_
        refine s_iadd eX1_tryCrossing_60 ?_
        refine s_bipush (v := 20) eX1_tryCrossing_61 rfl ?_
        refine s_icmp_le eX1_tryCrossing_63 (fun h4 => ?_) (fun h4 => ?_)
        · skip
          rw [if_pos h4] at E
          refine s_aload_n eX1_tryCrossing_69 rfl rfl ?_
          refine s_aload_n eX1_tryCrossing_70 rfl rfl ?_
          refine s_iload_n eX1_tryCrossing_71 rfl rfl ?_
          refine n_callVi (As := [.int a1]) eX1_tryCrossing_72 kX1_secondBank lX1_88 rfl rfl hg.1 rfl rfl (Nat.le_of_ble_eq_true rfl) (Nat.le_of_ble_eq_true rfl) (Nat.le_of_ble_eq_true rfl) (uX1_secondBank g a1 m hg) ?_
          refine n_callVi (As := [.int (F1_secondBank g a1 m)]) eX1_tryCrossing_75 kX1_stonesOn lX1_64 rfl rfl hg.1 rfl rfl (Nat.le_of_ble_eq_true rfl) (Nat.le_of_ble_eq_true rfl) (Nat.le_of_ble_eq_true rfl) (uX1_stonesOn g (F1_secondBank g a1 m) m hg) ?_
          refine s_iload eX1_tryCrossing_78 rfl ?_
          refine s_isub eX1_tryCrossing_80 ?_
          refine s_iload eX1_tryCrossing_81 rfl ?_
          refine s_iadd eX1_tryCrossing_83 ?_
          refine s_bipush (v := 20) eX1_tryCrossing_84 rfl ?_
          refine s_icmp_le eX1_tryCrossing_86 (fun h5 => ?_) (fun h5 => ?_)
          · skip
            rw [if_pos h5] at E
            refine s_aload_n eX1_tryCrossing_92 rfl rfl ?_
            refine s_iload_n eX1_tryCrossing_93 rfl rfl ?_
            refine s_iload_n eX1_tryCrossing_94 rfl rfl ?_
            refine s_iload_n eX1_tryCrossing_95 rfl rfl ?_
            refine s_iload eX1_tryCrossing_96 rfl ?_
            refine s_iload eX1_tryCrossing_98 rfl ?_
            refine n_callVv (As := [.int a1, .int a2, .int a3, .int a4, .int a5]) eX1_tryCrossing_100 kX1_go lX1_133 rfl rfl hg.1 rfl rfl (Nat.le_of_ble_eq_true rfl) (Nat.le_of_ble_eq_true rfl) (Nat.le_of_ble_eq_true rfl) (uX1_go g a1 a2 a3 a4 a5 m hg) ?_
            refine s_aload_n eX1_tryCrossing_103 rfl rfl ?_
            refine s_geti eX1_tryCrossing_104 fX1_49 hg.1 rfl ?_
            exact s_iret eX1_tryCrossing_107 rfl ⟨rfl, by rw [E], by rw [E]⟩
          · skip
            rw [if_neg h5] at E
            refine s_bipush (v := (-3)) eX1_tryCrossing_89 rfl ?_
            exact s_iret eX1_tryCrossing_91 rfl ⟨rfl, by rw [E], by rw [E]⟩
        · skip
          rw [if_neg h4] at E
          refine s_bipush (v := (-3)) eX1_tryCrossing_66 rfl ?_
          exact s_iret eX1_tryCrossing_68 rfl ⟨rfl, by rw [E], by rw [E]⟩
      · skip
        rw [if_neg h3] at E
        refine s_bipush (v := (-3)) eX1_tryCrossing_43 rfl ?_
        exact s_iret eX1_tryCrossing_45 rfl ⟨rfl, by rw [E], by rw [E]⟩
    · skip
      rw [if_pos h2] at E
      refine s_bipush (v := (-4)) eX1_tryCrossing_30 rfl ?_
      exact s_iret eX1_tryCrossing_32 rfl ⟨rfl, by rw [E], by rw [E]⟩
  · skip
    rw [if_pos h1] at E
    refine s_iconst (v := (-1)) eX1_tryCrossing_14 rfl ?_
    exact s_iret eX1_tryCrossing_15 rfl ⟨rfl, by rw [E], by rw [E]⟩
theorem clX1_lightestLoad_13 (g : Nat) (hg : isG g) {P : Option Value → ax_M → Prop} : ∀ (n : Nat) (v1 v2 v3 v4 v5 : Int32) (m : ax_M), E1_lightestLoad_13 g n v1 v2 v3 v4 v5 m → (∀ r, (L1_lightestLoad_13 g n v1 v2 v3 v4 v5 m).1 = some r → P (some (.int r)) m) → ((L1_lightestLoad_13 g n v1 v2 v3 v4 v5 m).1 = none → ax_N 4 Y1_lightestLoad 79 [some (.ref g), some (.int v1), some (.int v2), some (.int v3), some (.int v4), some (.int ((L1_lightestLoad_13 g n v1 v2 v3 v4 v5 m).2)), none] [] m P) → ax_N 4 Y1_lightestLoad 13 [some (.ref g), some (.int v1), some (.int v2), some (.int v3), some (.int v4), some (.int v5), none] [] m P := by
  intro n
  induction n with
  | zero => intro v1 v2 v3 v4 v5 m hD; exact absurd hD id
  | succ n ih =>
    intro v1 v2 v3 v4 v5 m hD hr hx
    have E : L1_lightestLoad_13 g (n + 1) v1 v2 v3 v4 v5 m = (if v4 < v5 then (none, v5) else (if (F1_carries g v2 m) < v5 then L1_lightestLoad_13 g n v1 v2 v3 v4 (v5 + 1) m else (if (v4 - v5) ≤ (F1_carries g v3 m) then (if (F1_isLevel g v1 v2 v3 v5 (v4 - v5) m) = 0 then L1_lightestLoad_13 g n v1 v2 v3 v4 (v5 + 1) m else (some ((10 * v5) + (v4 - v5)), v5)) else L1_lightestLoad_13 g n v1 v2 v3 v4 (v5 + 1) m))) := by rw [L1_lightestLoad_13]
    have hD : ((¬ (v4 < v5) → (((((F1_carries g v2 m) < v5) → ((E1_lightestLoad_13 g n v1 v2 v3 v4 (v5 + 1) m))) ∧ (¬ ((F1_carries g v2 m) < v5) → (((((v4 - v5) ≤ (F1_carries g v3 m)) → ((((F1_isLevel g v1 v2 v3 v5 (v4 - v5) m) = 0) → ((E1_lightestLoad_13 g n v1 v2 v3 v4 (v5 + 1) m))))) ∧ (¬ ((v4 - v5) ≤ (F1_carries g v3 m)) → ((E1_lightestLoad_13 g n v1 v2 v3 v4 (v5 + 1) m)))))))))) := hD
    refine s_iload eX1_lightestLoad_13 rfl ?_
    refine s_iload eX1_lightestLoad_15 rfl ?_
    refine s_icmp_gt eX1_lightestLoad_17 (fun h1 => ?_) (fun h1 => ?_)
    · skip
      rw [if_pos h1] at E
      rw [E] at hx
      exact hx rfl
    · skip
      rw [if_neg h1] at E
      have hD := hD h1
      refine s_iload eX1_lightestLoad_20 rfl ?_
      refine s_iload eX1_lightestLoad_22 rfl ?_
      refine s_isub eX1_lightestLoad_24 ?_
      refine s_istore (ls' := [some (.ref g), some (.int v1), some (.int v2), some (.int v3), some (.int v4), some (.int v5), some (.int (v4 - v5))]) eX1_lightestLoad_25 rfl rfl ?_
      refine s_iload eX1_lightestLoad_27 rfl ?_
      refine s_aload_n eX1_lightestLoad_29 rfl rfl ?_
      refine s_iload_n eX1_lightestLoad_30 rfl rfl ?_
      refine n_callVi (As := [.int v2]) eX1_lightestLoad_31 kX1_carries lX1_109 rfl rfl hg.1 rfl rfl (Nat.le_of_ble_eq_true rfl) (Nat.le_of_ble_eq_true rfl) (Nat.le_of_ble_eq_true rfl) (uX1_carries g v2 m hg) ?_
      refine s_icmp_gt eX1_lightestLoad_34 (fun h2 => ?_) (fun h2 => ?_)
      · skip
        rw [if_pos h2] at E
        have hD := hD.1 h2
        refine s_iinc (v := v5 + 1) (ls' := [some (.ref g), some (.int v1), some (.int v2), some (.int v3), some (.int v4), some (.int (v5 + 1)), some (.int (v4 - v5))]) eX1_lightestLoad_73 rfl rfl rfl rfl ?_
        refine s_goto eX1_lightestLoad_76 ?_
        refine ax_forget (ls' := [some (.ref g), some (.int v1), some (.int v2), some (.int v3), some (.int v4), some (.int (v5 + 1)), none]) rfl ?_
        rw [E] at hr hx
        exact ih v1 v2 v3 v4 (v5 + 1) m hD hr hx
      · skip
        rw [if_neg h2] at E
        have hD := hD.2 h2
        refine s_iload eX1_lightestLoad_37 rfl ?_
        refine s_aload_n eX1_lightestLoad_39 rfl rfl ?_
        refine s_iload_n eX1_lightestLoad_40 rfl rfl ?_
        refine n_callVi (As := [.int v3]) eX1_lightestLoad_41 kX1_carries lX1_109 rfl rfl hg.1 rfl rfl (Nat.le_of_ble_eq_true rfl) (Nat.le_of_ble_eq_true rfl) (Nat.le_of_ble_eq_true rfl) (uX1_carries g v3 m hg) ?_
        refine s_icmp_le eX1_lightestLoad_44 (fun h3 => ?_) (fun h3 => ?_)
        · skip
          rw [if_pos h3] at E
          have hD := hD.1 h3
          refine s_aload_n eX1_lightestLoad_50 rfl rfl ?_
          refine s_iload_n eX1_lightestLoad_51 rfl rfl ?_
          refine s_iload_n eX1_lightestLoad_52 rfl rfl ?_
          refine s_iload_n eX1_lightestLoad_53 rfl rfl ?_
          refine s_iload eX1_lightestLoad_54 rfl ?_
          refine s_iload eX1_lightestLoad_56 rfl ?_
          refine n_callVi (As := [.int v1, .int v2, .int v3, .int v5, .int (v4 - v5)]) eX1_lightestLoad_58 kX1_isLevel lX1_122 rfl rfl hg.1 rfl rfl (Nat.le_of_ble_eq_true rfl) (Nat.le_of_ble_eq_true rfl) (Nat.le_of_ble_eq_true rfl) (uX1_isLevel g v1 v2 v3 v5 (v4 - v5) m hg) ?_
          refine s_if_eq eX1_lightestLoad_61 (fun h4 => ?_) (fun h4 => ?_)
          · skip
            rw [if_pos h4] at E
            have hD := hD h4
            refine s_iinc (v := v5 + 1) (ls' := [some (.ref g), some (.int v1), some (.int v2), some (.int v3), some (.int v4), some (.int (v5 + 1)), some (.int (v4 - v5))]) eX1_lightestLoad_73 rfl rfl rfl rfl ?_
            refine s_goto eX1_lightestLoad_76 ?_
            refine ax_forget (ls' := [some (.ref g), some (.int v1), some (.int v2), some (.int v3), some (.int v4), some (.int (v5 + 1)), none]) rfl ?_
            rw [E] at hr hx
            exact ih v1 v2 v3 v4 (v5 + 1) m hD hr hx
          · skip
            rw [if_neg h4] at E
            refine s_bipush (v := 10) eX1_lightestLoad_64 rfl ?_
            refine s_iload eX1_lightestLoad_66 rfl ?_
            refine s_imul eX1_lightestLoad_68 ?_
            refine s_iload eX1_lightestLoad_69 rfl ?_
            refine s_iadd eX1_lightestLoad_71 ?_
            rw [E] at hr
            exact s_iret eX1_lightestLoad_72 rfl ⟨rfl, hr _ rfl⟩
        · skip
          rw [if_neg h3] at E
          have hD := hD.2 h3
          refine s_goto eX1_lightestLoad_47 ?_
          refine s_iinc (v := v5 + 1) (ls' := [some (.ref g), some (.int v1), some (.int v2), some (.int v3), some (.int v4), some (.int (v5 + 1)), some (.int (v4 - v5))]) eX1_lightestLoad_73 rfl rfl rfl rfl ?_
          refine s_goto eX1_lightestLoad_76 ?_
          refine ax_forget (ls' := [some (.ref g), some (.int v1), some (.int v2), some (.int v3), some (.int v4), some (.int (v5 + 1)), none]) rfl ?_
          rw [E] at hr hx
          exact ih v1 v2 v3 v4 (v5 + 1) m hD hr hx
theorem clX1_lightestLoad_3 (g : Nat) (hg : isG g) {P : Option Value → ax_M → Prop} : ∀ (n : Nat) (v1 v2 v3 v4 : Int32) (m : ax_M), E1_lightestLoad_3 g n v1 v2 v3 v4 m → (∀ r, (L1_lightestLoad_3 g n v1 v2 v3 v4 m).1 = some r → P (some (.int r)) m) → ((L1_lightestLoad_3 g n v1 v2 v3 v4 m).1 = none → ax_N 4 Y1_lightestLoad 85 [some (.ref g), some (.int v1), some (.int v2), some (.int v3), some (.int ((L1_lightestLoad_3 g n v1 v2 v3 v4 m).2)), none, none] [] m P) → ax_N 4 Y1_lightestLoad 3 [some (.ref g), some (.int v1), some (.int v2), some (.int v3), some (.int v4), none, none] [] m P := by
  intro n
  induction n with
  | zero => intro v1 v2 v3 v4 m hD; exact absurd hD id
  | succ n ih =>
    intro v1 v2 v3 v4 m hD hr hx
    have E : L1_lightestLoad_3 g (n + 1) v1 v2 v3 v4 m = (if 6 < v4 then (none, v4) else (if (L1_lightestLoad_13 g 64 v1 v2 v3 v4 0 m).1 = none then L1_lightestLoad_3 g n v1 v2 v3 (v4 + 1) m else (some (((L1_lightestLoad_13 g 64 v1 v2 v3 v4 0 m).1).getD 0), v4))) := by rw [L1_lightestLoad_3]
    have hD : ((¬ (6 < v4) → ((E1_lightestLoad_13 g 64 v1 v2 v3 v4 0 m) ∧ (((L1_lightestLoad_13 g 64 v1 v2 v3 v4 0 m).1 = none) → ((E1_lightestLoad_3 g n v1 v2 v3 (v4 + 1) m)))))) := hD
    refine s_iload eX1_lightestLoad_3 rfl ?_
    refine s_bipush (v := 6) eX1_lightestLoad_5 rfl ?_
    refine s_icmp_gt eX1_lightestLoad_7 (fun h1 => ?_) (fun h1 => ?_)
    · skip
      rw [if_pos h1] at E
      rw [E] at hx
      exact hx rfl
    · skip
      rw [if_neg h1] at E
      have hD := hD h1
      refine s_iconst (v := 0) eX1_lightestLoad_10 rfl ?_
      refine s_istore (ls' := [some (.ref g), some (.int v1), some (.int v2), some (.int v3), some (.int v4), some (.int 0), none]) eX1_lightestLoad_11 rfl rfl ?_
      obtain ⟨q2, hD⟩ := hD
      refine clX1_lightestLoad_13 g hg 64 v1 v2 v3 v4 0 m q2 (fun x3 h4 => ?_) (fun h4 => ?_)
      · skip
        rw [if_neg (by rw [h4]; exact fun hh => by cases hh), h4] at E
        rw [E] at hr
        exact hr _ rfl
      · skip
        rw [if_pos h4] at E
        have hD := hD h4
        refine s_iinc (v := v4 + 1) (ls' := [some (.ref g), some (.int v1), some (.int v2), some (.int v3), some (.int (v4 + 1)), some (.int ((L1_lightestLoad_13 g 64 v1 v2 v3 v4 0 m).2)), none]) eX1_lightestLoad_79 rfl rfl rfl rfl ?_
        refine s_goto eX1_lightestLoad_82 ?_
        refine ax_forget (ls' := [some (.ref g), some (.int v1), some (.int v2), some (.int v3), some (.int (v4 + 1)), none, none]) rfl ?_
        rw [E] at hr hx
        exact ih v1 v2 v3 (v4 + 1) m hD hr hx
theorem uX1_lightestLoad (g : Nat) (a1 : Int32) (a2 : Int32) (a3 : Int32) (m : ax_M) (hg : isG g) (hD : D1_lightestLoad g a1 a2 a3 m) : ax_NM 4 Y1_lightestLoad [.ref g, .int a1, .int a2, .int a3] m (fun r m1 => r = some (.int (F1_lightestLoad g a1 a2 a3 m)) ∧ m1 = m) := by
  have E : F1_lightestLoad g a1 a2 a3 m = (if (L1_lightestLoad_3 g 64 a1 a2 a3 0 m).1 = none then ((-1)) else (((L1_lightestLoad_3 g 64 a1 a2 a3 0 m).1).getD 0)) := rfl
  unfold D1_lightestLoad at hD
  show ax_N 4 Y1_lightestLoad 0 [some (.ref g), some (.int a1), some (.int a2), some (.int a3), none, none, none] [] m _
  refine s_iconst (v := 0) eX1_lightestLoad_0 rfl ?_
  refine s_istore (ls' := [some (.ref g), some (.int a1), some (.int a2), some (.int a3), some (.int 0), none, none]) eX1_lightestLoad_1 rfl rfl ?_
  have q1 := hD
  refine clX1_lightestLoad_3 g hg 64 a1 a2 a3 0 m q1 (fun x2 h3 => ?_) (fun h3 => ?_)
  · skip
    rw [if_neg (by rw [h3]; exact fun hh => by cases hh), h3] at E
    exact ⟨by rw [E]; rfl, rfl⟩
  · skip
    rw [if_pos h3] at E
    refine s_iconst (v := (-1)) eX1_lightestLoad_85 rfl ?_
    exact s_iret eX1_lightestLoad_86 rfl ⟨rfl, by rw [E], rfl⟩
theorem uX1_errandStones (g : Nat) (a1 : Int32) (a2 : Int32) (a3 : Int32) (a4 : Int32) (m : ax_M) (hg : isG g) (hD : D1_errandStones g a1 a2 a3 a4 m) : ax_NM 5 Y1_errandStones [.ref g, .int a1, .int a2, .int a3, .int a4] m (fun r m1 => r = some (.int (F1_errandStones g a1 a2 a3 a4 m)) ∧ m1 = m) := by
  have E : F1_errandStones g a1 a2 a3 a4 m = (if (F1_hasOne g a2 m) = 0 then ((-1)) else (if (F1_hasOne g a3 m) = 0 then ((-1)) else (if (F1_isPair g a1 a2 a3 m) = 0 then ((-1)) else (if (F1_goalOf g a2 m) = (F1_secondBank g a1 m) then (if (F1_goalOf g a3 m) = (F1_firstBank g a1 m) then (if (F1_isExileAgainst g a1 a2 a3 m) = 0 then (if a4 = 0 then (if (F1_isLevel g a1 a2 a3 0 0 m) = 0 then ((-1)) else 0) else (if 0 ≤ (F1_lightestLoad g a1 a2 a3 m) then (((F1_lightestLoad g a1 a2 a3 m) / 10) + ((F1_lightestLoad g a1 a2 a3 m) - (F1_lightestLoad g a1 a2 a3 m) / 10 * 10)) else ((-1)))) else ((-1))) else ((-1))) else ((-1)))))) := rfl
  unfold D1_errandStones at hD
  show ax_N 5 Y1_errandStones 0 [some (.ref g), some (.int a1), some (.int a2), some (.int a3), some (.int a4), none] [] m _
  refine s_aload_n eX1_errandStones_0 rfl rfl ?_
  refine s_iload_n eX1_errandStones_1 rfl rfl ?_
  refine n_callVi (As := [.int a2]) eX1_errandStones_2 kX1_hasOne lX1_78 rfl rfl hg.1 rfl rfl (Nat.le_of_ble_eq_true rfl) (Nat.le_of_ble_eq_true rfl) (Nat.le_of_ble_eq_true rfl) (uX1_hasOne g a2 m hg) ?_
  refine s_if_eq eX1_errandStones_5 (fun h1 => ?_) (fun h1 => ?_)
  · skip
    rw [if_pos h1] at E
    refine s_iconst (v := (-1)) eX1_errandStones_26 rfl ?_
    exact s_iret eX1_errandStones_27 rfl ⟨rfl, by rw [E], rfl⟩
  · skip
    rw [if_neg h1] at E
    have hD := hD h1
    refine s_aload_n eX1_errandStones_8 rfl rfl ?_
    refine s_iload_n eX1_errandStones_9 rfl rfl ?_
    refine n_callVi (As := [.int a3]) eX1_errandStones_10 kX1_hasOne lX1_78 rfl rfl hg.1 rfl rfl (Nat.le_of_ble_eq_true rfl) (Nat.le_of_ble_eq_true rfl) (Nat.le_of_ble_eq_true rfl) (uX1_hasOne g a3 m hg) ?_
    refine s_if_eq eX1_errandStones_13 (fun h2 => ?_) (fun h2 => ?_)
    · skip
      rw [if_pos h2] at E
      refine s_iconst (v := (-1)) eX1_errandStones_26 rfl ?_
      exact s_iret eX1_errandStones_27 rfl ⟨rfl, by rw [E], rfl⟩
    · skip
      rw [if_neg h2] at E
      have hD := hD h2
      refine s_aload_n eX1_errandStones_16 rfl rfl ?_
      refine s_iload_n eX1_errandStones_17 rfl rfl ?_
      refine s_iload_n eX1_errandStones_18 rfl rfl ?_
      refine s_iload_n eX1_errandStones_19 rfl rfl ?_
      refine n_callVi (As := [.int a1, .int a2, .int a3]) eX1_errandStones_20 kX1_isPair lX1_112 rfl rfl hg.1 rfl rfl (Nat.le_of_ble_eq_true rfl) (Nat.le_of_ble_eq_true rfl) (Nat.le_of_ble_eq_true rfl) (uX1_isPair g a1 a2 a3 m hg) ?_
      refine s_if_ne eX1_errandStones_23 (fun h3 => ?_) (fun h3 => ?_)
      · skip
        rw [if_neg h3] at E
        have hD := hD h3
        refine s_aload_n eX1_errandStones_28 rfl rfl ?_
        refine s_iload_n eX1_errandStones_29 rfl rfl ?_
        refine n_callVi (As := [.int a2]) eX1_errandStones_30 kX1_goalOf lX1_71 rfl rfl hg.1 rfl rfl (Nat.le_of_ble_eq_true rfl) (Nat.le_of_ble_eq_true rfl) (Nat.le_of_ble_eq_true rfl) (uX1_goalOf g a2 m hg) ?_
        refine s_aload_n eX1_errandStones_33 rfl rfl ?_
        refine s_iload_n eX1_errandStones_34 rfl rfl ?_
        refine n_callVi (As := [.int a1]) eX1_errandStones_35 kX1_secondBank lX1_88 rfl rfl hg.1 rfl rfl (Nat.le_of_ble_eq_true rfl) (Nat.le_of_ble_eq_true rfl) (Nat.le_of_ble_eq_true rfl) (uX1_secondBank g a1 m hg) ?_
        refine s_icmp_ne eX1_errandStones_38 (fun h4 => ?_) (fun h4 => ?_)
        · skip
          rw [if_neg h4] at E
          refine s_iconst (v := (-1)) eX1_errandStones_54 rfl ?_
          exact s_iret eX1_errandStones_55 rfl ⟨rfl, by rw [E], rfl⟩
        · skip
          rw [if_pos h4] at E
          have hD := hD h4
          refine s_aload_n eX1_errandStones_41 rfl rfl ?_
          refine s_iload_n eX1_errandStones_42 rfl rfl ?_
          refine n_callVi (As := [.int a3]) eX1_errandStones_43 kX1_goalOf lX1_71 rfl rfl hg.1 rfl rfl (Nat.le_of_ble_eq_true rfl) (Nat.le_of_ble_eq_true rfl) (Nat.le_of_ble_eq_true rfl) (uX1_goalOf g a3 m hg) ?_
          refine s_aload_n eX1_errandStones_46 rfl rfl ?_
          refine s_iload_n eX1_errandStones_47 rfl rfl ?_
          refine n_callVi (As := [.int a1]) eX1_errandStones_48 kX1_firstBank lX1_85 rfl rfl hg.1 rfl rfl (Nat.le_of_ble_eq_true rfl) (Nat.le_of_ble_eq_true rfl) (Nat.le_of_ble_eq_true rfl) (uX1_firstBank g a1 m hg) ?_
          refine s_icmp_eq eX1_errandStones_51 (fun h5 => ?_) (fun h5 => ?_)
          · skip
            rw [if_pos h5] at E
            have hD := hD h5
            refine s_aload_n eX1_errandStones_56 rfl rfl ?_
            refine s_iload_n eX1_errandStones_57 rfl rfl ?_
            refine s_iload_n eX1_errandStones_58 rfl rfl ?_
            refine s_iload_n eX1_errandStones_59 rfl rfl ?_
            refine n_callVi (As := [.int a1, .int a2, .int a3]) eX1_errandStones_60 kX1_isExileAgainst lX1_119 rfl rfl hg.1 rfl rfl (Nat.le_of_ble_eq_true rfl) (Nat.le_of_ble_eq_true rfl) (Nat.le_of_ble_eq_true rfl) (uX1_isExileAgainst g a1 a2 a3 m hg) ?_
            refine s_if_eq eX1_errandStones_63 (fun h6 => ?_) (fun h6 => ?_)
            · skip
              rw [if_pos h6] at E
              have hD := hD h6
              refine s_iload eX1_errandStones_68 rfl ?_
              refine s_if_ne eX1_errandStones_70 (fun h7 => ?_) (fun h7 => ?_)
              · skip
                rw [if_neg h7] at E
                have hD := hD h7
                refine s_aload_n eX1_errandStones_91 rfl rfl ?_
                refine s_iload_n eX1_errandStones_92 rfl rfl ?_
                refine s_iload_n eX1_errandStones_93 rfl rfl ?_
                refine s_iload_n eX1_errandStones_94 rfl rfl ?_
                have q8 := hD
                refine n_callVi (As := [.int a1, .int a2, .int a3]) eX1_errandStones_95 kX1_lightestLoad lX1_140 rfl rfl hg.1 rfl rfl (Nat.le_of_ble_eq_true rfl) (Nat.le_of_ble_eq_true rfl) (Nat.le_of_ble_eq_true rfl) (uX1_lightestLoad g a1 a2 a3 m hg q8) ?_
                refine s_istore (ls' := [some (.ref g), some (.int a1), some (.int a2), some (.int a3), some (.int a4), some (.int (F1_lightestLoad g a1 a2 a3 m))]) eX1_errandStones_98 rfl rfl ?_
                refine s_iload eX1_errandStones_100 rfl ?_
                refine s_if_ge eX1_errandStones_102 (fun h9 => ?_) (fun h9 => ?_)
                · skip
                  rw [if_pos h9] at E
                  refine s_iload eX1_errandStones_109 rfl ?_
                  refine s_bipush (v := 10) eX1_errandStones_111 rfl ?_
                  refine s_idiv eX1_errandStones_113 (by decide) ?_
                  refine s_iload eX1_errandStones_114 rfl ?_
                  refine s_bipush (v := 10) eX1_errandStones_116 rfl ?_
                  refine s_irem eX1_errandStones_118 (by decide) ?_
                  refine s_iadd eX1_errandStones_119 ?_
                  exact s_iret eX1_errandStones_120 rfl ⟨rfl, by rw [E], rfl⟩
                · skip
                  rw [if_neg h9] at E
                  refine s_iconst (v := (-1)) eX1_errandStones_105 rfl ?_
                  refine s_goto eX1_errandStones_106 ?_
                  exact s_iret eX1_errandStones_120 rfl ⟨rfl, by rw [E], rfl⟩
              · skip
                rw [if_pos h7] at E
                refine s_aload_n eX1_errandStones_73 rfl rfl ?_
                refine s_iload_n eX1_errandStones_74 rfl rfl ?_
                refine s_iload_n eX1_errandStones_75 rfl rfl ?_
                refine s_iload_n eX1_errandStones_76 rfl rfl ?_
                refine s_iconst (v := 0) eX1_errandStones_77 rfl ?_
                refine s_iconst (v := 0) eX1_errandStones_78 rfl ?_
                refine n_callVi (As := [.int a1, .int a2, .int a3, .int 0, .int 0]) eX1_errandStones_79 kX1_isLevel lX1_122 rfl rfl hg.1 rfl rfl (Nat.le_of_ble_eq_true rfl) (Nat.le_of_ble_eq_true rfl) (Nat.le_of_ble_eq_true rfl) (uX1_isLevel g a1 a2 a3 0 0 m hg) ?_
                refine s_if_eq eX1_errandStones_82 (fun h10 => ?_) (fun h10 => ?_)
                · skip
                  rw [if_pos h10] at E
                  refine s_iconst (v := (-1)) eX1_errandStones_89 rfl ?_
                  exact s_iret eX1_errandStones_90 rfl ⟨rfl, by rw [E], rfl⟩
                · skip
                  rw [if_neg h10] at E
                  refine s_iconst (v := 0) eX1_errandStones_85 rfl ?_
                  refine s_goto eX1_errandStones_86 ?_
                  exact s_iret eX1_errandStones_90 rfl ⟨rfl, by rw [E], rfl⟩
            · skip
              rw [if_neg h6] at E
              refine s_iconst (v := (-1)) eX1_errandStones_66 rfl ?_
              exact s_iret eX1_errandStones_67 rfl ⟨rfl, by rw [E], rfl⟩
          · skip
            rw [if_neg h5] at E
            refine s_iconst (v := (-1)) eX1_errandStones_54 rfl ?_
            exact s_iret eX1_errandStones_55 rfl ⟨rfl, by rw [E], rfl⟩
      · skip
        rw [if_pos h3] at E
        refine s_iconst (v := (-1)) eX1_errandStones_26 rfl ?_
        exact s_iret eX1_errandStones_27 rfl ⟨rfl, by rw [E], rfl⟩
