/-! X6_append X6_byteAt X0_append X0_copyFrom X0_bridgeAt X0_aheadAt X0_otherAt X5_laneOf X5_sizeOf X5_renew X5_cellAt X5_setCell X5_faultAt X1_clear X1_copyFrom X1_addBridge X1_addOne X1_setStones X1_hasBank X1_hasBridge X1_hasOne X1_firstBank X1_secondBank X1_playOf X1_kindOf X1_weightOf X1_bankOf X1_goalOf X1_stonesOn X1_allStones X1_atGoals X1_standing X1_wished X7_within -/
theorem uX6_append (a1 : Int32) (m : ax_M) : ax_NM 1 Y6_append [.ref 42, .int a1] m (fun r m1 => r = none ∧ m1 = F6_append a1 m) := by
  have E : F6_append a1 m = (if (m 42 1) < 320 then (ax_up (F7_put 43 320 (m 42 1) a1 m) 42 1 (((F7_put 43 320 (m 42 1) a1 m) 42 1) + 1)) else m) := rfl
  show ax_N 1 Y6_append 0 [some (.ref 42), some (.int a1)] [] m _
  refine s_aload_n eX6_append_0 rfl rfl ?_
  refine s_geti eX6_append_1 fX6_15 shp_42 rfl ?_
  refine s_sipush (v := 320) eX6_append_4 rfl ?_
  refine s_icmp_lt eX6_append_7 (fun h1 => ?_) (fun h1 => ?_)
  · skip
    rw [if_pos h1] at E
    refine s_aload_n eX6_append_11 rfl rfl ?_
    refine s_getr (q := 43) eX6_append_12 fX6_9 shp_42 rfl ?_
    refine s_aload_n eX6_append_15 rfl rfl ?_
    refine s_geti eX6_append_16 fX6_15 shp_42 rfl ?_
    refine s_iload_n eX6_append_19 rfl rfl ?_
    refine n_callSv (As := [.ref 43, .int (m 42 1), .int a1]) eX6_append_20 kX7_put lX6_19 rfl rfl (Nat.le_of_ble_eq_true rfl) (Nat.le_of_ble_eq_true rfl) (Nat.le_of_ble_eq_true rfl) (uX7_put 43 320 (m 42 1) a1 m shp_43) ?_
    refine s_aload_n eX6_append_23 rfl rfl ?_
    refine s_dup eX6_append_24 rfl ?_
    refine s_geti eX6_append_25 fX6_15 shp_42 rfl ?_
    refine s_iconst (v := 1) eX6_append_28 rfl ?_
    refine s_iadd eX6_append_29 ?_
    refine s_puti eX6_append_30 fX6_15 pX6_1 rfl rfl shp_42 rfl ?_
    exact s_vret eX6_append_33 rfl ⟨rfl, rfl, by rw [E]⟩
  · skip
    rw [if_neg h1] at E
    exact s_vret eX6_append_10 rfl ⟨rfl, rfl, by rw [E]⟩
theorem uX6_byteAt (a1 : Int32) (m : ax_M) : ax_NM 0 Y6_byteAt [.ref 42, .int a1] m (fun r m1 => r = some (.int (F6_byteAt a1 m)) ∧ m1 = m) := by
  have E : F6_byteAt a1 m = (if a1 < 0 then ((-1)) else (if (m 42 1) ≤ a1 then ((-1)) else (if 320 ≤ a1 then ((-1)) else (m 43 (Int32.toNatClampNeg a1))))) := rfl
  have hD : D6_byteAt a1 m := fun h1 _ h3 => ax_vp (n := 320) (by decide) h1 h3
  unfold D6_byteAt at hD
  show ax_N 0 Y6_byteAt 0 [some (.ref 42), some (.int a1)] [] m _
  refine s_iload_n eX6_byteAt_0 rfl rfl ?_
  refine s_if_lt eX6_byteAt_1 (fun h1 => ?_) (fun h1 => ?_)
  · skip
    rw [if_pos h1] at E
    refine s_iconst (v := (-1)) eX6_byteAt_30 rfl ?_
    exact s_iret eX6_byteAt_31 rfl ⟨rfl, by rw [E], rfl⟩
  · skip
    rw [if_neg h1] at E
    have hD := hD h1
    refine s_iload_n eX6_byteAt_4 rfl rfl ?_
    refine s_aload_n eX6_byteAt_5 rfl rfl ?_
    refine s_geti eX6_byteAt_6 fX6_15 shp_42 rfl ?_
    refine s_icmp_ge eX6_byteAt_9 (fun h2 => ?_) (fun h2 => ?_)
    · skip
      rw [if_pos h2] at E
      refine s_iconst (v := (-1)) eX6_byteAt_30 rfl ?_
      exact s_iret eX6_byteAt_31 rfl ⟨rfl, by rw [E], rfl⟩
    · skip
      rw [if_neg h2] at E
      have hD := hD h2
      refine s_iload_n eX6_byteAt_12 rfl rfl ?_
      refine s_aload_n eX6_byteAt_13 rfl rfl ?_
      refine s_getr (q := 43) eX6_byteAt_14 fX6_9 shp_42 rfl ?_
      refine s_alen (v := 320) eX6_byteAt_17 shp_43 rfl ?_
      refine s_icmp_ge eX6_byteAt_18 (fun h3 => ?_) (fun h3 => ?_)
      · skip
        rw [if_pos h3] at E
        refine s_iconst (v := (-1)) eX6_byteAt_30 rfl ?_
        exact s_iret eX6_byteAt_31 rfl ⟨rfl, by rw [E], rfl⟩
      · skip
        rw [if_neg h3] at E
        have hD := hD h3
        refine s_aload_n eX6_byteAt_21 rfl rfl ?_
        refine s_getr (q := 43) eX6_byteAt_22 fX6_9 shp_42 rfl ?_
        refine s_iload_n eX6_byteAt_25 rfl rfl ?_
        have q4 := hD
        refine s_iald eX6_byteAt_26 shp_43 q4 ?_
        refine s_goto eX6_byteAt_27 ?_
        exact s_iret eX6_byteAt_31 rfl ⟨rfl, by rw [E], rfl⟩
theorem cK0_append_40 (g : Nat) (hg : isD g) (v1 v2 v3 : Int32) (m : ax_M) {P : Option Value → ax_M → Prop} (hP : P none (K0_append_40 g v1 v2 v3 m)) : ax_N 1 Y0_append 40 [some (.ref g), some (.int v1), some (.int v2), some (.int v3)] [] m P := by
  have E : K0_append_40 g v1 v2 v3 m = (ax_up (F7_put (g + 1) 24 ((3 * (m g 1)) + 2) v3 m) g 1 (((F7_put (g + 1) 24 ((3 * (m g 1)) + 2) v3 m) g 1) + 1)) := rfl
  refine s_aload_n eX0_append_40 rfl rfl ?_
  refine s_getr (q := g + 1) eX0_append_41 fX0_9 hg.1 rfl ?_
  refine s_iconst (v := 3) eX0_append_44 rfl ?_
  refine s_aload_n eX0_append_45 rfl rfl ?_
  refine s_geti eX0_append_46 fX0_15 hg.1 rfl ?_
  refine s_imul eX0_append_49 ?_
  refine s_iconst (v := 2) eX0_append_50 rfl ?_
  refine s_iadd eX0_append_51 ?_
  refine s_iload_n eX0_append_52 rfl rfl ?_
  refine n_callSv (As := [.ref (g + 1), .int ((3 * (m g 1)) + 2), .int v3]) eX0_append_53 kX7_put lX0_19 rfl rfl (Nat.le_of_ble_eq_true rfl) (Nat.le_of_ble_eq_true rfl) (Nat.le_of_ble_eq_true rfl) (uX7_put (g + 1) 24 ((3 * (m g 1)) + 2) v3 m hg.2) ?_
  refine s_aload_n eX0_append_56 rfl rfl ?_
  refine s_dup eX0_append_57 rfl ?_
  refine s_geti eX0_append_58 fX0_15 hg.1 rfl ?_
  refine s_iconst (v := 1) eX0_append_61 rfl ?_
  refine s_iadd eX0_append_62 ?_
  refine s_puti eX0_append_63 fX0_15 pX0_1 rfl rfl hg.1 rfl ?_
  rw [E] at hP
  exact s_vret eX0_append_66 rfl ⟨rfl, hP⟩
theorem uX0_append (g : Nat) (a1 : Int32) (a2 : Int32) (a3 : Int32) (m : ax_M) (hg : isD g) : ax_NM 1 Y0_append [.ref g, .int a1, .int a2, .int a3] m (fun r m1 => r = none ∧ m1 = F0_append g a1 a2 a3 m) := by
  have E : F0_append g a1 a2 a3 m = (if (m g 1) < 8 then (K0_append_40 g a1 a2 a3 (F7_put (g + 1) 24 ((3 * ((F7_put (g + 1) 24 (3 * (m g 1)) a1 m) g 1)) + 1) a2 (F7_put (g + 1) 24 (3 * (m g 1)) a1 m))) else m) := rfl
  show ax_N 1 Y0_append 0 [some (.ref g), some (.int a1), some (.int a2), some (.int a3)] [] m _
  refine s_aload_n eX0_append_0 rfl rfl ?_
  refine s_geti eX0_append_1 fX0_15 hg.1 rfl ?_
  refine s_bipush (v := 8) eX0_append_4 rfl ?_
  refine s_icmp_lt eX0_append_6 (fun h1 => ?_) (fun h1 => ?_)
  · skip
    rw [if_pos h1] at E
    refine s_aload_n eX0_append_10 rfl rfl ?_
    refine s_getr (q := g + 1) eX0_append_11 fX0_9 hg.1 rfl ?_
    refine s_iconst (v := 3) eX0_append_14 rfl ?_
    refine s_aload_n eX0_append_15 rfl rfl ?_
    refine s_geti eX0_append_16 fX0_15 hg.1 rfl ?_
    refine s_imul eX0_append_19 ?_
    refine s_iload_n eX0_append_20 rfl rfl ?_
    refine n_callSv (As := [.ref (g + 1), .int (3 * (m g 1)), .int a1]) eX0_append_21 kX7_put lX0_19 rfl rfl (Nat.le_of_ble_eq_true rfl) (Nat.le_of_ble_eq_true rfl) (Nat.le_of_ble_eq_true rfl) (uX7_put (g + 1) 24 (3 * (m g 1)) a1 m hg.2) ?_
    refine s_aload_n eX0_append_24 rfl rfl ?_
    refine s_getr (q := g + 1) eX0_append_25 fX0_9 hg.1 rfl ?_
    refine s_iconst (v := 3) eX0_append_28 rfl ?_
    refine s_aload_n eX0_append_29 rfl rfl ?_
    refine s_geti eX0_append_30 fX0_15 hg.1 rfl ?_
    refine s_imul eX0_append_33 ?_
    refine s_iconst (v := 1) eX0_append_34 rfl ?_
    refine s_iadd eX0_append_35 ?_
    refine s_iload_n eX0_append_36 rfl rfl ?_
    refine n_callSv (As := [.ref (g + 1), .int ((3 * ((F7_put (g + 1) 24 (3 * (m g 1)) a1 m) g 1)) + 1), .int a2]) eX0_append_37 kX7_put lX0_19 rfl rfl (Nat.le_of_ble_eq_true rfl) (Nat.le_of_ble_eq_true rfl) (Nat.le_of_ble_eq_true rfl) (uX7_put (g + 1) 24 ((3 * ((F7_put (g + 1) 24 (3 * (m g 1)) a1 m) g 1)) + 1) a2 ((F7_put (g + 1) 24 (3 * (m g 1)) a1 m)) hg.2) ?_
    refine cK0_append_40 g hg a1 a2 a3 ((F7_put (g + 1) 24 ((3 * ((F7_put (g + 1) 24 (3 * (m g 1)) a1 m) g 1)) + 1) a2 (F7_put (g + 1) 24 (3 * (m g 1)) a1 m))) ?_
    exact ⟨rfl, by rw [E]⟩
  · skip
    rw [if_neg h1] at E
    exact s_vret eX0_append_9 rfl ⟨rfl, rfl, by rw [E]⟩
theorem uX0_copyFrom (g : Nat) (g1 : Nat) (m : ax_M) (hg : isD g) (hg1 : isD g1) : ax_NM 2 Y0_copyFrom [.ref g, .ref g1] m (fun r m1 => r = none ∧ m1 = F0_copyFrom g g1 m) := by
  have E : F0_copyFrom g g1 m = (ax_up (F7_copyRow (g1 + 1) 24 (g + 1) 24 m) g 1 ((F7_copyRow (g1 + 1) 24 (g + 1) 24 m) g1 1)) := rfl
  show ax_N 2 Y0_copyFrom 0 [some (.ref g), some (.ref g1)] [] m _
  refine s_aload_n eX0_copyFrom_0 rfl rfl ?_
  refine s_getr (q := g1 + 1) eX0_copyFrom_1 fX0_9 hg1.1 rfl ?_
  refine s_aload_n eX0_copyFrom_4 rfl rfl ?_
  refine s_getr (q := g + 1) eX0_copyFrom_5 fX0_9 hg.1 rfl ?_
  refine n_callSv (As := [.ref (g1 + 1), .ref (g + 1)]) eX0_copyFrom_8 kX7_copyRow lX0_23 rfl rfl (Nat.le_of_ble_eq_true rfl) (Nat.le_of_ble_eq_true rfl) (Nat.le_of_ble_eq_true rfl) (uX7_copyRow (g1 + 1) 24 (g + 1) 24 m hg1.2 hg.2) ?_
  refine s_aload_n eX0_copyFrom_11 rfl rfl ?_
  refine s_aload_n eX0_copyFrom_12 rfl rfl ?_
  refine s_geti eX0_copyFrom_13 fX0_15 hg1.1 rfl ?_
  refine s_puti eX0_copyFrom_16 fX0_15 pX0_1 rfl rfl hg.1 rfl ?_
  exact s_vret eX0_copyFrom_19 rfl ⟨rfl, rfl, by rw [E]⟩
theorem uX0_bridgeAt (g : Nat) (a1 : Int32) (m : ax_M) (hg : isD g) : ax_NM 1 Y0_bridgeAt [.ref g, .int a1] m (fun r m1 => r = some (.int (F0_bridgeAt g a1 m)) ∧ m1 = m) := by
  have E : F0_bridgeAt g a1 m = (F7_at (g + 1) 24 (3 * a1) m) := rfl
  show ax_N 1 Y0_bridgeAt 0 [some (.ref g), some (.int a1)] [] m _
  refine s_aload_n eX0_bridgeAt_0 rfl rfl ?_
  refine s_getr (q := g + 1) eX0_bridgeAt_1 fX0_9 hg.1 rfl ?_
  refine s_iconst (v := 3) eX0_bridgeAt_4 rfl ?_
  refine s_iload_n eX0_bridgeAt_5 rfl rfl ?_
  refine s_imul eX0_bridgeAt_6 ?_
  refine n_callSi (As := [.ref (g + 1), .int (3 * a1)]) eX0_bridgeAt_7 kX7_at lX0_27 rfl rfl (Nat.le_of_ble_eq_true rfl) (Nat.le_of_ble_eq_true rfl) (Nat.le_of_ble_eq_true rfl) (uX7_at (g + 1) 24 (3 * a1) m hg.2) ?_
  exact s_iret eX0_bridgeAt_10 rfl ⟨rfl, by rw [E], rfl⟩
theorem uX0_aheadAt (g : Nat) (a1 : Int32) (m : ax_M) (hg : isD g) : ax_NM 1 Y0_aheadAt [.ref g, .int a1] m (fun r m1 => r = some (.int (F0_aheadAt g a1 m)) ∧ m1 = m) := by
  have E : F0_aheadAt g a1 m = (F7_at (g + 1) 24 ((3 * a1) + 1) m) := rfl
  show ax_N 1 Y0_aheadAt 0 [some (.ref g), some (.int a1)] [] m _
  refine s_aload_n eX0_aheadAt_0 rfl rfl ?_
  refine s_getr (q := g + 1) eX0_aheadAt_1 fX0_9 hg.1 rfl ?_
  refine s_iconst (v := 3) eX0_aheadAt_4 rfl ?_
  refine s_iload_n eX0_aheadAt_5 rfl rfl ?_
  refine s_imul eX0_aheadAt_6 ?_
  refine s_iconst (v := 1) eX0_aheadAt_7 rfl ?_
  refine s_iadd eX0_aheadAt_8 ?_
  refine n_callSi (As := [.ref (g + 1), .int ((3 * a1) + 1)]) eX0_aheadAt_9 kX7_at lX0_27 rfl rfl (Nat.le_of_ble_eq_true rfl) (Nat.le_of_ble_eq_true rfl) (Nat.le_of_ble_eq_true rfl) (uX7_at (g + 1) 24 ((3 * a1) + 1) m hg.2) ?_
  exact s_iret eX0_aheadAt_12 rfl ⟨rfl, by rw [E], rfl⟩
theorem uX0_otherAt (g : Nat) (a1 : Int32) (m : ax_M) (hg : isD g) : ax_NM 1 Y0_otherAt [.ref g, .int a1] m (fun r m1 => r = some (.int (F0_otherAt g a1 m)) ∧ m1 = m) := by
  have E : F0_otherAt g a1 m = (F7_at (g + 1) 24 ((3 * a1) + 2) m) := rfl
  show ax_N 1 Y0_otherAt 0 [some (.ref g), some (.int a1)] [] m _
  refine s_aload_n eX0_otherAt_0 rfl rfl ?_
  refine s_getr (q := g + 1) eX0_otherAt_1 fX0_9 hg.1 rfl ?_
  refine s_iconst (v := 3) eX0_otherAt_4 rfl ?_
  refine s_iload_n eX0_otherAt_5 rfl rfl ?_
  refine s_imul eX0_otherAt_6 ?_
  refine s_iconst (v := 2) eX0_otherAt_7 rfl ?_
  refine s_iadd eX0_otherAt_8 ?_
  refine n_callSi (As := [.ref (g + 1), .int ((3 * a1) + 2)]) eX0_otherAt_9 kX7_at lX0_27 rfl rfl (Nat.le_of_ble_eq_true rfl) (Nat.le_of_ble_eq_true rfl) (Nat.le_of_ble_eq_true rfl) (uX7_at (g + 1) 24 ((3 * a1) + 2) m hg.2) ?_
  exact s_iret eX0_otherAt_12 rfl ⟨rfl, by rw [E], rfl⟩
theorem uX5_laneOf (a1 : Int32) (m : ax_M) : ax_NM 1 Y5_laneOf [.ref 70, .int a1] m (fun r m1 => r = some (.int (F5_laneOf a1 m)) ∧ m1 = m) := by
  have E : F5_laneOf a1 m = ((F7_at 73 4 a1 m) - 1) := rfl
  show ax_N 1 Y5_laneOf 0 [some (.ref 70), some (.int a1)] [] m _
  refine s_aload_n eX5_laneOf_0 rfl rfl ?_
  refine s_getr (q := 73) eX5_laneOf_1 fX5_18 shp_70 rfl ?_
  refine s_iload_n eX5_laneOf_4 rfl rfl ?_
  refine n_callSi (As := [.ref 73, .int a1]) eX5_laneOf_5 kX7_at lX5_21 rfl rfl (Nat.le_of_ble_eq_true rfl) (Nat.le_of_ble_eq_true rfl) (Nat.le_of_ble_eq_true rfl) (uX7_at 73 4 a1 m shp_73) ?_
  refine s_iconst (v := 1) eX5_laneOf_8 rfl ?_
  refine s_isub eX5_laneOf_9 ?_
  exact s_iret eX5_laneOf_10 rfl ⟨rfl, by rw [E], rfl⟩
theorem uX5_sizeOf (a1 : Int32) (m : ax_M) : ax_NM 1 Y5_sizeOf [.ref 70, .int a1] m (fun r m1 => r = some (.int (F5_sizeOf a1 m)) ∧ m1 = m) := by
  have E : F5_sizeOf a1 m = (F7_at 72 4 a1 m) := rfl
  show ax_N 1 Y5_sizeOf 0 [some (.ref 70), some (.int a1)] [] m _
  refine s_aload_n eX5_sizeOf_0 rfl rfl ?_
  refine s_getr (q := 72) eX5_sizeOf_1 fX5_15 shp_70 rfl ?_
  refine s_iload_n eX5_sizeOf_4 rfl rfl ?_
  refine n_callSi (As := [.ref 72, .int a1]) eX5_sizeOf_5 kX7_at lX5_21 rfl rfl (Nat.le_of_ble_eq_true rfl) (Nat.le_of_ble_eq_true rfl) (Nat.le_of_ble_eq_true rfl) (uX7_at 72 4 a1 m shp_72) ?_
  exact s_iret eX5_sizeOf_8 rfl ⟨rfl, by rw [E], rfl⟩
theorem clX5_renew_23 {P : Option Value → ax_M → Prop} : ∀ (n : Nat) (v1 v2 v3 v4 : Int32) (m : ax_M), E5_renew_23 n v1 v2 v3 v4 m → (ax_N 1 Y5_renew 51 [some (.ref 70), some (.int v1), some (.int v2), some (.int v3), some (.int ((L5_renew_23 n v1 v2 v3 v4 m).1))] [] ((L5_renew_23 n v1 v2 v3 v4 m).2) P) → ax_N 1 Y5_renew 23 [some (.ref 70), some (.int v1), some (.int v2), some (.int v3), some (.int v4)] [] m P := by
  intro n
  induction n with
  | zero => intro v1 v2 v3 v4 m hD; exact absurd hD id
  | succ n ih =>
    intro v1 v2 v3 v4 m hD hx
    have E : L5_renew_23 (n + 1) v1 v2 v3 v4 m = (if 40 ≤ v4 then (v4, m) else L5_renew_23 n v1 v2 v3 (v4 + 1) (F7_put 71 160 ((v1 * 40) + v4) 0 m)) := by rw [L5_renew_23]
    have hD : ((¬ (40 ≤ v4) → ((E5_renew_23 n v1 v2 v3 (v4 + 1) (F7_put 71 160 ((v1 * 40) + v4) 0 m))))) := hD
    refine s_iload eX5_renew_23 rfl ?_
    refine s_bipush (v := 40) eX5_renew_25 rfl ?_
    refine s_icmp_ge eX5_renew_27 (fun h1 => ?_) (fun h1 => ?_)
    · skip
      rw [if_pos h1] at E
      rw [E] at hx
      exact hx
    · skip
      rw [if_neg h1] at E
      have hD := hD h1
      refine s_aload_n eX5_renew_30 rfl rfl ?_
      refine s_getr (q := 71) eX5_renew_31 fX5_9 shp_70 rfl ?_
      refine s_iload_n eX5_renew_34 rfl rfl ?_
      refine s_bipush (v := 40) eX5_renew_35 rfl ?_
      refine s_imul eX5_renew_37 ?_
      refine s_iload eX5_renew_38 rfl ?_
      refine s_iadd eX5_renew_40 ?_
      refine s_iconst (v := 0) eX5_renew_41 rfl ?_
      refine n_callSv (As := [.ref 71, .int ((v1 * 40) + v4), .int 0]) eX5_renew_42 kX7_put lX5_25 rfl rfl (Nat.le_of_ble_eq_true rfl) (Nat.le_of_ble_eq_true rfl) (Nat.le_of_ble_eq_true rfl) (uX7_put 71 160 ((v1 * 40) + v4) 0 m shp_71) ?_
      refine s_iinc (v := v4 + 1) (ls' := [some (.ref 70), some (.int v1), some (.int v2), some (.int v3), some (.int (v4 + 1))]) eX5_renew_45 rfl rfl rfl rfl ?_
      refine s_goto eX5_renew_48 ?_
      rw [E] at hx
      exact ih v1 v2 v3 (v4 + 1) ((F7_put 71 160 ((v1 * 40) + v4) 0 m)) hD hx
theorem uX5_renew (a1 : Int32) (a2 : Int32) (a3 : Int32) (m : ax_M) (hD : D5_renew a1 a2 a3 m) : ax_NM 1 Y5_renew [.ref 70, .int a1, .int a2, .int a3] m (fun r m1 => r = none ∧ m1 = F5_renew a1 a2 a3 m) := by
  have E : F5_renew a1 a2 a3 m = (L5_renew_23 64 a1 a2 a3 0 (F7_put 72 4 a1 a3 (F7_put 73 4 a1 (a2 + 1) m))).2 := rfl
  unfold D5_renew at hD
  show ax_N 1 Y5_renew 0 [some (.ref 70), some (.int a1), some (.int a2), some (.int a3), none] [] m _
  refine s_aload_n eX5_renew_0 rfl rfl ?_
  refine s_getr (q := 73) eX5_renew_1 fX5_18 shp_70 rfl ?_
  refine s_iload_n eX5_renew_4 rfl rfl ?_
  refine s_iload_n eX5_renew_5 rfl rfl ?_
  refine s_iconst (v := 1) eX5_renew_6 rfl ?_
  refine s_iadd eX5_renew_7 ?_
  refine n_callSv (As := [.ref 73, .int a1, .int (a2 + 1)]) eX5_renew_8 kX7_put lX5_25 rfl rfl (Nat.le_of_ble_eq_true rfl) (Nat.le_of_ble_eq_true rfl) (Nat.le_of_ble_eq_true rfl) (uX7_put 73 4 a1 (a2 + 1) m shp_73) ?_
  refine s_aload_n eX5_renew_11 rfl rfl ?_
  refine s_getr (q := 72) eX5_renew_12 fX5_15 shp_70 rfl ?_
  refine s_iload_n eX5_renew_15 rfl rfl ?_
  refine s_iload_n eX5_renew_16 rfl rfl ?_
  refine n_callSv (As := [.ref 72, .int a1, .int a3]) eX5_renew_17 kX7_put lX5_25 rfl rfl (Nat.le_of_ble_eq_true rfl) (Nat.le_of_ble_eq_true rfl) (Nat.le_of_ble_eq_true rfl) (uX7_put 72 4 a1 a3 ((F7_put 73 4 a1 (a2 + 1) m)) shp_72) ?_
  refine s_iconst (v := 0) eX5_renew_20 rfl ?_
  refine s_istore (ls' := [some (.ref 70), some (.int a1), some (.int a2), some (.int a3), some (.int 0)]) eX5_renew_21 rfl rfl ?_
  have q1 := hD
  refine clX5_renew_23 64 a1 a2 a3 0 ((F7_put 72 4 a1 a3 (F7_put 73 4 a1 (a2 + 1) m))) q1 ?_
  exact s_vret eX5_renew_51 rfl ⟨rfl, rfl, by rw [E]⟩
theorem uX5_cellAt (a1 : Int32) (a2 : Int32) (m : ax_M) : ax_NM 1 Y5_cellAt [.ref 70, .int a1, .int a2] m (fun r m1 => r = some (.int (F5_cellAt a1 a2 m)) ∧ m1 = m) := by
  have E : F5_cellAt a1 a2 m = (F7_at 71 160 ((a1 * 40) + a2) m) := rfl
  show ax_N 1 Y5_cellAt 0 [some (.ref 70), some (.int a1), some (.int a2)] [] m _
  refine s_aload_n eX5_cellAt_0 rfl rfl ?_
  refine s_getr (q := 71) eX5_cellAt_1 fX5_9 shp_70 rfl ?_
  refine s_iload_n eX5_cellAt_4 rfl rfl ?_
  refine s_bipush (v := 40) eX5_cellAt_5 rfl ?_
  refine s_imul eX5_cellAt_7 ?_
  refine s_iload_n eX5_cellAt_8 rfl rfl ?_
  refine s_iadd eX5_cellAt_9 ?_
  refine n_callSi (As := [.ref 71, .int ((a1 * 40) + a2)]) eX5_cellAt_10 kX7_at lX5_21 rfl rfl (Nat.le_of_ble_eq_true rfl) (Nat.le_of_ble_eq_true rfl) (Nat.le_of_ble_eq_true rfl) (uX7_at 71 160 ((a1 * 40) + a2) m shp_71) ?_
  exact s_iret eX5_cellAt_13 rfl ⟨rfl, by rw [E], rfl⟩
theorem uX5_setCell (a1 : Int32) (a2 : Int32) (a3 : Int32) (m : ax_M) : ax_NM 2 Y5_setCell [.ref 70, .int a1, .int a2, .int a3] m (fun r m1 => r = none ∧ m1 = F5_setCell a1 a2 a3 m) := by
  have E : F5_setCell a1 a2 a3 m = (F7_put 71 160 ((a1 * 40) + a2) (if (F5_laneOf a1 m) = 0 then ((Int32.toInt8 a3).toInt32 : Int32) else if (F5_laneOf a1 m) = 1 then ((Int32.toInt16 a3).toInt32 : Int32) else a3) m) := rfl
  show ax_N 2 Y5_setCell 0 [some (.ref 70), some (.int a1), some (.int a2), some (.int a3), none, none] [] m _
  refine s_aload_n eX5_setCell_0 rfl rfl ?_
  refine s_iload_n eX5_setCell_1 rfl rfl ?_
  refine n_callVi (As := [.int a1]) eX5_setCell_2 kX5_laneOf lX5_29 rfl rfl shp_70 rfl rfl (Nat.le_of_ble_eq_true rfl) (Nat.le_of_ble_eq_true rfl) (Nat.le_of_ble_eq_true rfl) (uX5_laneOf a1 m) ?_
  refine s_istore (ls' := [some (.ref 70), some (.int a1), some (.int a2), some (.int a3), some (.int (F5_laneOf a1 m)), none]) eX5_setCell_5 rfl rfl ?_
  refine s_iload eX5_setCell_7 rfl ?_
  have J1 : ax_N 2 Y5_setCell 29 [some (.ref 70), some (.int a1), some (.int a2), some (.int a3), some (.int (F5_laneOf a1 m)), none] [.int (if (F5_laneOf a1 m) = 0 then ((Int32.toInt8 a3).toInt32 : Int32) else if (F5_laneOf a1 m) = 1 then ((Int32.toInt16 a3).toInt32 : Int32) else a3)] m (fun r m1 => r = none ∧ m1 = F5_setCell a1 a2 a3 m) := by
    refine s_istore (ls' := [some (.ref 70), some (.int a1), some (.int a2), some (.int a3), some (.int (F5_laneOf a1 m)), some (.int (if (F5_laneOf a1 m) = 0 then ((Int32.toInt8 a3).toInt32 : Int32) else if (F5_laneOf a1 m) = 1 then ((Int32.toInt16 a3).toInt32 : Int32) else a3))]) eX5_setCell_29 rfl rfl ?_
    refine s_aload_n eX5_setCell_31 rfl rfl ?_
    refine s_getr (q := 71) eX5_setCell_32 fX5_9 shp_70 rfl ?_
    refine s_iload_n eX5_setCell_35 rfl rfl ?_
    refine s_bipush (v := 40) eX5_setCell_36 rfl ?_
    refine s_imul eX5_setCell_38 ?_
    refine s_iload_n eX5_setCell_39 rfl rfl ?_
    refine s_iadd eX5_setCell_40 ?_
    refine s_iload eX5_setCell_41 rfl ?_
    refine n_callSv (As := [.ref 71, .int ((a1 * 40) + a2), .int (if (F5_laneOf a1 m) = 0 then ((Int32.toInt8 a3).toInt32 : Int32) else if (F5_laneOf a1 m) = 1 then ((Int32.toInt16 a3).toInt32 : Int32) else a3)]) eX5_setCell_43 kX7_put lX5_25 rfl rfl (Nat.le_of_ble_eq_true rfl) (Nat.le_of_ble_eq_true rfl) (Nat.le_of_ble_eq_true rfl) (uX7_put 71 160 ((a1 * 40) + a2) (if (F5_laneOf a1 m) = 0 then ((Int32.toInt8 a3).toInt32 : Int32) else if (F5_laneOf a1 m) = 1 then ((Int32.toInt16 a3).toInt32 : Int32) else a3) m shp_71) ?_
    exact s_vret eX5_setCell_46 rfl ⟨rfl, rfl, by rw [E]⟩
  refine s_if_ne eX5_setCell_9 (fun h2 => ?_) (fun h2 => ?_)
  · skip
    refine s_iload eX5_setCell_17 rfl ?_
    refine s_iconst (v := 1) eX5_setCell_19 rfl ?_
    refine s_icmp_ne eX5_setCell_20 (fun h3 => ?_) (fun h3 => ?_)
    · skip
      refine s_iload_n eX5_setCell_28 rfl rfl ?_
      exact ax_eqN rfl (by rw [show (if (F5_laneOf a1 m) = 0 then ((Int32.toInt8 a3).toInt32 : Int32) else if (F5_laneOf a1 m) = 1 then ((Int32.toInt16 a3).toInt32 : Int32) else a3 : Int32) = a3 by rw [if_neg h2, if_neg h3]]) rfl J1
    · skip
      refine s_iload_n eX5_setCell_23 rfl rfl ?_
      refine s_i2s eX5_setCell_24 ?_
      refine s_goto eX5_setCell_25 ?_
      exact ax_eqN rfl (by rw [show (if (F5_laneOf a1 m) = 0 then ((Int32.toInt8 a3).toInt32 : Int32) else if (F5_laneOf a1 m) = 1 then ((Int32.toInt16 a3).toInt32 : Int32) else a3 : Int32) = (Int32.toInt16 a3).toInt32 by rw [if_neg h2, if_pos h3]]) rfl J1
  · skip
    refine s_iload_n eX5_setCell_12 rfl rfl ?_
    refine s_i2b eX5_setCell_13 ?_
    refine s_goto eX5_setCell_14 ?_
    exact ax_eqN rfl (by rw [show (if (F5_laneOf a1 m) = 0 then ((Int32.toInt8 a3).toInt32 : Int32) else if (F5_laneOf a1 m) = 1 then ((Int32.toInt16 a3).toInt32 : Int32) else a3 : Int32) = (Int32.toInt8 a3).toInt32 by rw [if_pos h2]]) rfl J1
theorem uX5_faultAt (a1 : Int32) (a2 : Int32) (a3 : Int32) (a4 : Int32) (m : ax_M) : ax_NM 2 Y5_faultAt [.ref 70, .int a1, .int a2, .int a3, .int a4] m (fun r m1 => r = some (.int (F5_faultAt a1 a2 a3 a4 m)) ∧ m1 = m) := by
  have E : F5_faultAt a1 a2 a3 a4 m = (if 0 ≤ (F5_laneOf a1 m) then (if (F5_laneOf a1 m) = a2 then (if a3 < 0 then 2 else (if a3 ≤ ((F5_sizeOf a1 m) - a4) then 0 else 2)) else 3) else 1) := rfl
  show ax_N 2 Y5_faultAt 0 [some (.ref 70), some (.int a1), some (.int a2), some (.int a3), some (.int a4)] [] m _
  refine s_aload_n eX5_faultAt_0 rfl rfl ?_
  refine s_iload_n eX5_faultAt_1 rfl rfl ?_
  refine n_callVi (As := [.int a1]) eX5_faultAt_2 kX5_laneOf lX5_29 rfl rfl shp_70 rfl rfl (Nat.le_of_ble_eq_true rfl) (Nat.le_of_ble_eq_true rfl) (Nat.le_of_ble_eq_true rfl) (uX5_laneOf a1 m) ?_
  refine s_if_ge eX5_faultAt_5 (fun h1 => ?_) (fun h1 => ?_)
  · skip
    rw [if_pos h1] at E
    refine s_aload_n eX5_faultAt_10 rfl rfl ?_
    refine s_iload_n eX5_faultAt_11 rfl rfl ?_
    refine n_callVi (As := [.int a1]) eX5_faultAt_12 kX5_laneOf lX5_29 rfl rfl shp_70 rfl rfl (Nat.le_of_ble_eq_true rfl) (Nat.le_of_ble_eq_true rfl) (Nat.le_of_ble_eq_true rfl) (uX5_laneOf a1 m) ?_
    refine s_iload_n eX5_faultAt_15 rfl rfl ?_
    refine s_icmp_eq eX5_faultAt_16 (fun h2 => ?_) (fun h2 => ?_)
    · skip
      rw [if_pos h2] at E
      refine s_iload_n eX5_faultAt_21 rfl rfl ?_
      refine s_if_lt eX5_faultAt_22 (fun h3 => ?_) (fun h3 => ?_)
      · skip
        rw [if_pos h3] at E
        refine s_iconst (v := 2) eX5_faultAt_37 rfl ?_
        refine s_goto eX5_faultAt_38 ?_
        exact s_iret eX5_faultAt_42 rfl ⟨rfl, by rw [E], rfl⟩
      · skip
        rw [if_neg h3] at E
        refine s_iload_n eX5_faultAt_25 rfl rfl ?_
        refine s_aload_n eX5_faultAt_26 rfl rfl ?_
        refine s_iload_n eX5_faultAt_27 rfl rfl ?_
        refine n_callVi (As := [.int a1]) eX5_faultAt_28 kX5_sizeOf lX5_33 rfl rfl shp_70 rfl rfl (Nat.le_of_ble_eq_true rfl) (Nat.le_of_ble_eq_true rfl) (Nat.le_of_ble_eq_true rfl) (uX5_sizeOf a1 m) ?_
        refine s_iload eX5_faultAt_31 rfl ?_
        refine s_isub eX5_faultAt_33 ?_
        refine s_icmp_le eX5_faultAt_34 (fun h4 => ?_) (fun h4 => ?_)
        · skip
          rw [if_pos h4] at E
          refine s_iconst (v := 0) eX5_faultAt_41 rfl ?_
          exact s_iret eX5_faultAt_42 rfl ⟨rfl, by rw [E], rfl⟩
        · skip
          rw [if_neg h4] at E
          refine s_iconst (v := 2) eX5_faultAt_37 rfl ?_
          refine s_goto eX5_faultAt_38 ?_
          exact s_iret eX5_faultAt_42 rfl ⟨rfl, by rw [E], rfl⟩
    · skip
      rw [if_neg h2] at E
      refine s_iconst (v := 3) eX5_faultAt_19 rfl ?_
      exact s_iret eX5_faultAt_20 rfl ⟨rfl, by rw [E], rfl⟩
  · skip
    rw [if_neg h1] at E
    refine s_iconst (v := 1) eX5_faultAt_8 rfl ?_
    exact s_iret eX5_faultAt_9 rfl ⟨rfl, by rw [E], rfl⟩
theorem clX1_clear_27 (g : Nat) (hg : isG g) {P : Option Value → ax_M → Prop} : ∀ (n : Nat) (v1 : Int32) (m : ax_M), E1_clear_27 g n v1 m → (ax_N 1 Y1_clear 47 [some (.ref g), some (.int ((L1_clear_27 g n v1 m).1))] [] ((L1_clear_27 g n v1 m).2) P) → ax_N 1 Y1_clear 27 [some (.ref g), some (.int v1)] [] m P := by
  intro n
  induction n with
  | zero => intro v1 m hD; exact absurd hD id
  | succ n ih =>
    intro v1 m hD hx
    have E : L1_clear_27 g (n + 1) v1 m = (if 4 ≤ v1 then (v1, m) else L1_clear_27 g n (v1 + 1) (F7_put (g + 1) 4 v1 0 m)) := by rw [L1_clear_27]
    have hD : ((¬ (4 ≤ v1) → ((E1_clear_27 g n (v1 + 1) (F7_put (g + 1) 4 v1 0 m))))) := hD
    refine s_iload_n eX1_clear_27 rfl rfl ?_
    refine s_iconst (v := 4) eX1_clear_28 rfl ?_
    refine s_icmp_ge eX1_clear_29 (fun h1 => ?_) (fun h1 => ?_)
    · skip
      rw [if_pos h1] at E
      rw [E] at hx
      exact hx
    · skip
      rw [if_neg h1] at E
      have hD := hD h1
      refine s_aload_n eX1_clear_32 rfl rfl ?_
      refine s_getr (q := g + 1) eX1_clear_33 fX1_18 hg.1 rfl ?_
      refine s_iload_n eX1_clear_36 rfl rfl ?_
      refine s_iconst (v := 0) eX1_clear_37 rfl ?_
      refine n_callSv (As := [.ref (g + 1), .int v1, .int 0]) eX1_clear_38 kX7_put lX1_52 rfl rfl (Nat.le_of_ble_eq_true rfl) (Nat.le_of_ble_eq_true rfl) (Nat.le_of_ble_eq_true rfl) (uX7_put (g + 1) 4 v1 0 m hg.2.1) ?_
      refine s_iinc (v := v1 + 1) (ls' := [some (.ref g), some (.int (v1 + 1))]) eX1_clear_41 rfl rfl rfl rfl ?_
      refine s_goto eX1_clear_44 ?_
      rw [E] at hx
      exact ih (v1 + 1) ((F7_put (g + 1) 4 v1 0 m)) hD hx
theorem cK1_clear_25 (g : Nat) (hg : isG g) (m : ax_M) {P : Option Value → ax_M → Prop} (hD : HK1_clear_25 g  m) (hP : P none (K1_clear_25 g m)) : ax_N 1 Y1_clear 25 [some (.ref g), none] [] m P := by
  have E : K1_clear_25 g m = (L1_clear_27 g 64 0 m).2 := rfl
  unfold HK1_clear_25 at hD
  refine s_iconst (v := 0) eX1_clear_25 rfl ?_
  refine s_istore_n (ls' := [some (.ref g), some (.int 0)]) eX1_clear_26 rfl rfl rfl ?_
  have q1 := hD
  refine clX1_clear_27 g hg 64 0 m q1 ?_
  rw [E] at hP
  exact s_vret eX1_clear_47 rfl ⟨rfl, hP⟩
theorem uX1_clear (g : Nat) (m : ax_M) (hg : isG g) (hD : D1_clear g m) : ax_NM 1 Y1_clear [.ref g] m (fun r m1 => r = none ∧ m1 = F1_clear g m) := by
  have E : F1_clear g m = (K1_clear_25 g (ax_up (ax_up (ax_up (ax_up (ax_up m g 0 2) g 1 0) g 2 0) g 3 3) g 4 0)) := rfl
  unfold D1_clear at hD
  show ax_N 1 Y1_clear 0 [some (.ref g), none] [] m _
  refine s_aload_n eX1_clear_0 rfl rfl ?_
  refine s_iconst (v := 2) eX1_clear_1 rfl ?_
  refine s_puti eX1_clear_2 fX1_9 pX1_0 rfl rfl hg.1 rfl ?_
  refine s_aload_n eX1_clear_5 rfl rfl ?_
  refine s_iconst (v := 0) eX1_clear_6 rfl ?_
  refine s_puti eX1_clear_7 fX1_43 pX1_1 rfl rfl hg.1 rfl ?_
  refine s_aload_n eX1_clear_10 rfl rfl ?_
  refine s_iconst (v := 0) eX1_clear_11 rfl ?_
  refine s_puti eX1_clear_12 fX1_46 pX1_2 rfl rfl hg.1 rfl ?_
  refine s_aload_n eX1_clear_15 rfl rfl ?_
  refine s_iconst (v := 3) eX1_clear_16 rfl ?_
  refine s_puti eX1_clear_17 fX1_15 pX1_3 rfl rfl hg.1 rfl ?_
  refine s_aload_n eX1_clear_20 rfl rfl ?_
  refine s_iconst (v := 0) eX1_clear_21 rfl ?_
  refine s_puti eX1_clear_22 fX1_49 pX1_4 rfl rfl hg.1 rfl ?_
  refine cK1_clear_25 g hg ((ax_up (ax_up (ax_up (ax_up (ax_up m g 0 2) g 1 0) g 2 0) g 3 3) g 4 0)) hD ?_
  exact ⟨rfl, by rw [E]⟩
theorem cK1_copyFrom_106 (g : Nat) (g1 : Nat) (hg : isG g) (hg1 : isG g1) (m : ax_M) {P : Option Value → ax_M → Prop} (hP : P none (K1_copyFrom_106 g g1 m)) : ax_N 2 Y1_copyFrom 106 [some (.ref g), some (.ref g1)] [] m P := by
  have E : K1_copyFrom_106 g g1 m = (F7_copyRow (g1 + 8) 6 (g + 8) 6 (F7_copyRow (g1 + 7) 6 (g + 7) 6 m)) := rfl
  refine s_aload_n eX1_copyFrom_106 rfl rfl ?_
  refine s_getr (q := g1 + 7) eX1_copyFrom_107 fX1_37 hg1.1 rfl ?_
  refine s_aload_n eX1_copyFrom_110 rfl rfl ?_
  refine s_getr (q := g + 7) eX1_copyFrom_111 fX1_37 hg.1 rfl ?_
  refine n_callSv (As := [.ref (g1 + 7), .ref (g + 7)]) eX1_copyFrom_114 kX7_copyRow lX1_56 rfl rfl (Nat.le_of_ble_eq_true rfl) (Nat.le_of_ble_eq_true rfl) (Nat.le_of_ble_eq_true rfl) (uX7_copyRow (g1 + 7) 6 (g + 7) 6 m hg1.2.2.2.2.2.2.2.1 hg.2.2.2.2.2.2.2.1) ?_
  refine s_aload_n eX1_copyFrom_117 rfl rfl ?_
  refine s_getr (q := g1 + 8) eX1_copyFrom_118 fX1_40 hg1.1 rfl ?_
  refine s_aload_n eX1_copyFrom_121 rfl rfl ?_
  refine s_getr (q := g + 8) eX1_copyFrom_122 fX1_40 hg.1 rfl ?_
  refine n_callSv (As := [.ref (g1 + 8), .ref (g + 8)]) eX1_copyFrom_125 kX7_copyRow lX1_56 rfl rfl (Nat.le_of_ble_eq_true rfl) (Nat.le_of_ble_eq_true rfl) (Nat.le_of_ble_eq_true rfl) (uX7_copyRow (g1 + 8) 6 (g + 8) 6 ((F7_copyRow (g1 + 7) 6 (g + 7) 6 m)) hg1.2.2.2.2.2.2.2.2 hg.2.2.2.2.2.2.2.2) ?_
  rw [E] at hP
  exact s_vret eX1_copyFrom_128 rfl ⟨rfl, hP⟩
theorem cK1_copyFrom_84 (g : Nat) (g1 : Nat) (hg : isG g) (hg1 : isG g1) (m : ax_M) {P : Option Value → ax_M → Prop} (hP : P none (K1_copyFrom_84 g g1 m)) : ax_N 2 Y1_copyFrom 84 [some (.ref g), some (.ref g1)] [] m P := by
  have E : K1_copyFrom_84 g g1 m = (K1_copyFrom_106 g g1 (F7_copyRow (g1 + 6) 6 (g + 6) 6 (F7_copyRow (g1 + 5) 6 (g + 5) 6 m))) := rfl
  refine s_aload_n eX1_copyFrom_84 rfl rfl ?_
  refine s_getr (q := g1 + 5) eX1_copyFrom_85 fX1_31 hg1.1 rfl ?_
  refine s_aload_n eX1_copyFrom_88 rfl rfl ?_
  refine s_getr (q := g + 5) eX1_copyFrom_89 fX1_31 hg.1 rfl ?_
  refine n_callSv (As := [.ref (g1 + 5), .ref (g + 5)]) eX1_copyFrom_92 kX7_copyRow lX1_56 rfl rfl (Nat.le_of_ble_eq_true rfl) (Nat.le_of_ble_eq_true rfl) (Nat.le_of_ble_eq_true rfl) (uX7_copyRow (g1 + 5) 6 (g + 5) 6 m hg1.2.2.2.2.2.1 hg.2.2.2.2.2.1) ?_
  refine s_aload_n eX1_copyFrom_95 rfl rfl ?_
  refine s_getr (q := g1 + 6) eX1_copyFrom_96 fX1_34 hg1.1 rfl ?_
  refine s_aload_n eX1_copyFrom_99 rfl rfl ?_
  refine s_getr (q := g + 6) eX1_copyFrom_100 fX1_34 hg.1 rfl ?_
  refine n_callSv (As := [.ref (g1 + 6), .ref (g + 6)]) eX1_copyFrom_103 kX7_copyRow lX1_56 rfl rfl (Nat.le_of_ble_eq_true rfl) (Nat.le_of_ble_eq_true rfl) (Nat.le_of_ble_eq_true rfl) (uX7_copyRow (g1 + 6) 6 (g + 6) 6 ((F7_copyRow (g1 + 5) 6 (g + 5) 6 m)) hg1.2.2.2.2.2.2.1 hg.2.2.2.2.2.2.1) ?_
  refine cK1_copyFrom_106 g g1 hg hg1 ((F7_copyRow (g1 + 6) 6 (g + 6) 6 (F7_copyRow (g1 + 5) 6 (g + 5) 6 m))) ?_
  rw [E] at hP
  exact hP
theorem cK1_copyFrom_62 (g : Nat) (g1 : Nat) (hg : isG g) (hg1 : isG g1) (m : ax_M) {P : Option Value → ax_M → Prop} (hP : P none (K1_copyFrom_62 g g1 m)) : ax_N 2 Y1_copyFrom 62 [some (.ref g), some (.ref g1)] [] m P := by
  have E : K1_copyFrom_62 g g1 m = (K1_copyFrom_84 g g1 (F7_copyRow (g1 + 4) 4 (g + 4) 4 (F7_copyRow (g1 + 3) 4 (g + 3) 4 m))) := rfl
  refine s_aload_n eX1_copyFrom_62 rfl rfl ?_
  refine s_getr (q := g1 + 3) eX1_copyFrom_63 fX1_25 hg1.1 rfl ?_
  refine s_aload_n eX1_copyFrom_66 rfl rfl ?_
  refine s_getr (q := g + 3) eX1_copyFrom_67 fX1_25 hg.1 rfl ?_
  refine n_callSv (As := [.ref (g1 + 3), .ref (g + 3)]) eX1_copyFrom_70 kX7_copyRow lX1_56 rfl rfl (Nat.le_of_ble_eq_true rfl) (Nat.le_of_ble_eq_true rfl) (Nat.le_of_ble_eq_true rfl) (uX7_copyRow (g1 + 3) 4 (g + 3) 4 m hg1.2.2.2.1 hg.2.2.2.1) ?_
  refine s_aload_n eX1_copyFrom_73 rfl rfl ?_
  refine s_getr (q := g1 + 4) eX1_copyFrom_74 fX1_28 hg1.1 rfl ?_
  refine s_aload_n eX1_copyFrom_77 rfl rfl ?_
  refine s_getr (q := g + 4) eX1_copyFrom_78 fX1_28 hg.1 rfl ?_
  refine n_callSv (As := [.ref (g1 + 4), .ref (g + 4)]) eX1_copyFrom_81 kX7_copyRow lX1_56 rfl rfl (Nat.le_of_ble_eq_true rfl) (Nat.le_of_ble_eq_true rfl) (Nat.le_of_ble_eq_true rfl) (uX7_copyRow (g1 + 4) 4 (g + 4) 4 ((F7_copyRow (g1 + 3) 4 (g + 3) 4 m)) hg1.2.2.2.2.1 hg.2.2.2.2.1) ?_
  refine cK1_copyFrom_84 g g1 hg hg1 ((F7_copyRow (g1 + 4) 4 (g + 4) 4 (F7_copyRow (g1 + 3) 4 (g + 3) 4 m))) ?_
  rw [E] at hP
  exact hP
theorem cK1_copyFrom_32 (g : Nat) (g1 : Nat) (hg : isG g) (hg1 : isG g1) (m : ax_M) {P : Option Value → ax_M → Prop} (hP : P none (K1_copyFrom_32 g g1 m)) : ax_N 2 Y1_copyFrom 32 [some (.ref g), some (.ref g1)] [] m P := by
  have E : K1_copyFrom_32 g g1 m = (K1_copyFrom_62 g g1 (F7_copyRow (g1 + 2) 4 (g + 2) 4 (F7_copyRow (g1 + 1) 4 (g + 1) 4 (ax_up m g 4 (m g1 4))))) := rfl
  refine s_aload_n eX1_copyFrom_32 rfl rfl ?_
  refine s_aload_n eX1_copyFrom_33 rfl rfl ?_
  refine s_geti eX1_copyFrom_34 fX1_49 hg1.1 rfl ?_
  refine s_puti eX1_copyFrom_37 fX1_49 pX1_4 rfl rfl hg.1 rfl ?_
  refine s_aload_n eX1_copyFrom_40 rfl rfl ?_
  refine s_getr (q := g1 + 1) eX1_copyFrom_41 fX1_18 hg1.1 rfl ?_
  refine s_aload_n eX1_copyFrom_44 rfl rfl ?_
  refine s_getr (q := g + 1) eX1_copyFrom_45 fX1_18 hg.1 rfl ?_
  refine n_callSv (As := [.ref (g1 + 1), .ref (g + 1)]) eX1_copyFrom_48 kX7_copyRow lX1_56 rfl rfl (Nat.le_of_ble_eq_true rfl) (Nat.le_of_ble_eq_true rfl) (Nat.le_of_ble_eq_true rfl) (uX7_copyRow (g1 + 1) 4 (g + 1) 4 ((ax_up m g 4 (m g1 4))) hg1.2.1 hg.2.1) ?_
  refine s_aload_n eX1_copyFrom_51 rfl rfl ?_
  refine s_getr (q := g1 + 2) eX1_copyFrom_52 fX1_22 hg1.1 rfl ?_
  refine s_aload_n eX1_copyFrom_55 rfl rfl ?_
  refine s_getr (q := g + 2) eX1_copyFrom_56 fX1_22 hg.1 rfl ?_
  refine n_callSv (As := [.ref (g1 + 2), .ref (g + 2)]) eX1_copyFrom_59 kX7_copyRow lX1_56 rfl rfl (Nat.le_of_ble_eq_true rfl) (Nat.le_of_ble_eq_true rfl) (Nat.le_of_ble_eq_true rfl) (uX7_copyRow (g1 + 2) 4 (g + 2) 4 ((F7_copyRow (g1 + 1) 4 (g + 1) 4 (ax_up m g 4 (m g1 4)))) hg1.2.2.1 hg.2.2.1) ?_
  refine cK1_copyFrom_62 g g1 hg hg1 ((F7_copyRow (g1 + 2) 4 (g + 2) 4 (F7_copyRow (g1 + 1) 4 (g + 1) 4 (ax_up m g 4 (m g1 4))))) ?_
  rw [E] at hP
  exact hP
theorem cK1_copyFrom_16 (g : Nat) (g1 : Nat) (hg : isG g) (hg1 : isG g1) (m : ax_M) {P : Option Value → ax_M → Prop} (hP : P none (K1_copyFrom_16 g g1 m)) : ax_N 2 Y1_copyFrom 16 [some (.ref g), some (.ref g1)] [] m P := by
  have E : K1_copyFrom_16 g g1 m = (K1_copyFrom_32 g g1 (ax_up (ax_up m g 2 (m g1 2)) g 3 ((ax_up m g 2 (m g1 2)) g1 3))) := rfl
  refine s_aload_n eX1_copyFrom_16 rfl rfl ?_
  refine s_aload_n eX1_copyFrom_17 rfl rfl ?_
  refine s_geti eX1_copyFrom_18 fX1_46 hg1.1 rfl ?_
  refine s_puti eX1_copyFrom_21 fX1_46 pX1_2 rfl rfl hg.1 rfl ?_
  refine s_aload_n eX1_copyFrom_24 rfl rfl ?_
  refine s_aload_n eX1_copyFrom_25 rfl rfl ?_
  refine s_geti eX1_copyFrom_26 fX1_15 hg1.1 rfl ?_
  refine s_puti eX1_copyFrom_29 fX1_15 pX1_3 rfl rfl hg.1 rfl ?_
  refine cK1_copyFrom_32 g g1 hg hg1 ((ax_up (ax_up m g 2 (m g1 2)) g 3 ((ax_up m g 2 (m g1 2)) g1 3))) ?_
  rw [E] at hP
  exact hP
theorem uX1_copyFrom (g : Nat) (g1 : Nat) (m : ax_M) (hg : isG g) (hg1 : isG g1) : ax_NM 2 Y1_copyFrom [.ref g, .ref g1] m (fun r m1 => r = none ∧ m1 = F1_copyFrom g g1 m) := by
  have E : F1_copyFrom g g1 m = (K1_copyFrom_16 g g1 (ax_up (ax_up m g 0 (m g1 0)) g 1 ((ax_up m g 0 (m g1 0)) g1 1))) := rfl
  show ax_N 2 Y1_copyFrom 0 [some (.ref g), some (.ref g1)] [] m _
  refine s_aload_n eX1_copyFrom_0 rfl rfl ?_
  refine s_aload_n eX1_copyFrom_1 rfl rfl ?_
  refine s_geti eX1_copyFrom_2 fX1_9 hg1.1 rfl ?_
  refine s_puti eX1_copyFrom_5 fX1_9 pX1_0 rfl rfl hg.1 rfl ?_
  refine s_aload_n eX1_copyFrom_8 rfl rfl ?_
  refine s_aload_n eX1_copyFrom_9 rfl rfl ?_
  refine s_geti eX1_copyFrom_10 fX1_43 hg1.1 rfl ?_
  refine s_puti eX1_copyFrom_13 fX1_43 pX1_1 rfl rfl hg.1 rfl ?_
  refine cK1_copyFrom_16 g g1 hg hg1 ((ax_up (ax_up m g 0 (m g1 0)) g 1 ((ax_up m g 0 (m g1 0)) g1 1))) ?_
  exact ⟨rfl, by rw [E]⟩
theorem cK1_addBridge_33 (g : Nat) (hg : isG g) (v1 v2 v3 : Int32) (m : ax_M) {P : Option Value → ax_M → Prop} (hP : P none (K1_addBridge_33 g v1 v2 v3 m)) : ax_N 1 Y1_addBridge 33 [some (.ref g), some (.int v1), some (.int v2), some (.int v3)] [] m P := by
  have E : K1_addBridge_33 g v1 v2 v3 m = (ax_up (F7_put (g + 4) 4 (m g 1) v3 m) g 1 (((F7_put (g + 4) 4 (m g 1) v3 m) g 1) + 1)) := rfl
  refine s_aload_n eX1_addBridge_33 rfl rfl ?_
  refine s_getr (q := g + 4) eX1_addBridge_34 fX1_28 hg.1 rfl ?_
  refine s_aload_n eX1_addBridge_37 rfl rfl ?_
  refine s_geti eX1_addBridge_38 fX1_43 hg.1 rfl ?_
  refine s_iload_n eX1_addBridge_41 rfl rfl ?_
  refine n_callSv (As := [.ref (g + 4), .int (m g 1), .int v3]) eX1_addBridge_42 kX7_put lX1_52 rfl rfl (Nat.le_of_ble_eq_true rfl) (Nat.le_of_ble_eq_true rfl) (Nat.le_of_ble_eq_true rfl) (uX7_put (g + 4) 4 (m g 1) v3 m hg.2.2.2.2.1) ?_
  refine s_aload_n eX1_addBridge_45 rfl rfl ?_
  refine s_dup eX1_addBridge_46 rfl ?_
  refine s_geti eX1_addBridge_47 fX1_43 hg.1 rfl ?_
  refine s_iconst (v := 1) eX1_addBridge_50 rfl ?_
  refine s_iadd eX1_addBridge_51 ?_
  refine s_puti eX1_addBridge_52 fX1_43 pX1_1 rfl rfl hg.1 rfl ?_
  rw [E] at hP
  exact s_vret eX1_addBridge_55 rfl ⟨rfl, hP⟩
theorem uX1_addBridge (g : Nat) (a1 : Int32) (a2 : Int32) (a3 : Int32) (m : ax_M) (hg : isG g) : ax_NM 1 Y1_addBridge [.ref g, .int a1, .int a2, .int a3] m (fun r m1 => r = none ∧ m1 = F1_addBridge g a1 a2 a3 m) := by
  have E : F1_addBridge g a1 a2 a3 m = (if (m g 1) < 4 then (K1_addBridge_33 g a1 a2 a3 (F7_put (g + 3) 4 ((F7_put (g + 2) 4 (m g 1) a1 m) g 1) a2 (F7_put (g + 2) 4 (m g 1) a1 m))) else m) := rfl
  show ax_N 1 Y1_addBridge 0 [some (.ref g), some (.int a1), some (.int a2), some (.int a3)] [] m _
  refine s_aload_n eX1_addBridge_0 rfl rfl ?_
  refine s_geti eX1_addBridge_1 fX1_43 hg.1 rfl ?_
  refine s_iconst (v := 4) eX1_addBridge_4 rfl ?_
  refine s_icmp_lt eX1_addBridge_5 (fun h1 => ?_) (fun h1 => ?_)
  · skip
    rw [if_pos h1] at E
    refine s_aload_n eX1_addBridge_9 rfl rfl ?_
    refine s_getr (q := g + 2) eX1_addBridge_10 fX1_22 hg.1 rfl ?_
    refine s_aload_n eX1_addBridge_13 rfl rfl ?_
    refine s_geti eX1_addBridge_14 fX1_43 hg.1 rfl ?_
    refine s_iload_n eX1_addBridge_17 rfl rfl ?_
    refine n_callSv (As := [.ref (g + 2), .int (m g 1), .int a1]) eX1_addBridge_18 kX7_put lX1_52 rfl rfl (Nat.le_of_ble_eq_true rfl) (Nat.le_of_ble_eq_true rfl) (Nat.le_of_ble_eq_true rfl) (uX7_put (g + 2) 4 (m g 1) a1 m hg.2.2.1) ?_
    refine s_aload_n eX1_addBridge_21 rfl rfl ?_
    refine s_getr (q := g + 3) eX1_addBridge_22 fX1_25 hg.1 rfl ?_
    refine s_aload_n eX1_addBridge_25 rfl rfl ?_
    refine s_geti eX1_addBridge_26 fX1_43 hg.1 rfl ?_
    refine s_iload_n eX1_addBridge_29 rfl rfl ?_
    refine n_callSv (As := [.ref (g + 3), .int ((F7_put (g + 2) 4 (m g 1) a1 m) g 1), .int a2]) eX1_addBridge_30 kX7_put lX1_52 rfl rfl (Nat.le_of_ble_eq_true rfl) (Nat.le_of_ble_eq_true rfl) (Nat.le_of_ble_eq_true rfl) (uX7_put (g + 3) 4 ((F7_put (g + 2) 4 (m g 1) a1 m) g 1) a2 ((F7_put (g + 2) 4 (m g 1) a1 m)) hg.2.2.2.1) ?_
    refine cK1_addBridge_33 g hg a1 a2 a3 ((F7_put (g + 3) 4 ((F7_put (g + 2) 4 (m g 1) a1 m) g 1) a2 (F7_put (g + 2) 4 (m g 1) a1 m))) ?_
    exact ⟨rfl, by rw [E]⟩
  · skip
    rw [if_neg h1] at E
    exact s_vret eX1_addBridge_8 rfl ⟨rfl, rfl, by rw [E]⟩
theorem cK1_addOne_59 (g : Nat) (hg : isG g) (v1 v2 v3 v4 : Int32) (m : ax_M) {P : Option Value → ax_M → Prop} (hP : P none (K1_addOne_59 g v1 v2 v3 v4 m)) : ax_N 1 Y1_addOne 59 [some (.ref g), some (.int v1), some (.int v2), some (.int v3), some (.int v4)] [] m P := by
  have E : K1_addOne_59 g v1 v2 v3 v4 m = (ax_up m g 2 ((m g 2) + 1)) := rfl
  refine s_aload_n eX1_addOne_59 rfl rfl ?_
  refine s_dup eX1_addOne_60 rfl ?_
  refine s_geti eX1_addOne_61 fX1_46 hg.1 rfl ?_
  refine s_iconst (v := 1) eX1_addOne_64 rfl ?_
  refine s_iadd eX1_addOne_65 ?_
  refine s_puti eX1_addOne_66 fX1_46 pX1_2 rfl rfl hg.1 rfl ?_
  rw [E] at hP
  exact s_vret eX1_addOne_69 rfl ⟨rfl, hP⟩
theorem cK1_addOne_34 (g : Nat) (hg : isG g) (v1 v2 v3 v4 : Int32) (m : ax_M) {P : Option Value → ax_M → Prop} (hP : P none (K1_addOne_34 g v1 v2 v3 v4 m)) : ax_N 1 Y1_addOne 34 [some (.ref g), some (.int v1), some (.int v2), some (.int v3), some (.int v4)] [] m P := by
  have E : K1_addOne_34 g v1 v2 v3 v4 m = (K1_addOne_59 g v1 v2 v3 v4 (F7_put (g + 8) 6 ((F7_put (g + 7) 6 (m g 2) v3 m) g 2) v4 (F7_put (g + 7) 6 (m g 2) v3 m))) := rfl
  refine s_aload_n eX1_addOne_34 rfl rfl ?_
  refine s_getr (q := g + 7) eX1_addOne_35 fX1_37 hg.1 rfl ?_
  refine s_aload_n eX1_addOne_38 rfl rfl ?_
  refine s_geti eX1_addOne_39 fX1_46 hg.1 rfl ?_
  refine s_iload_n eX1_addOne_42 rfl rfl ?_
  refine n_callSv (As := [.ref (g + 7), .int (m g 2), .int v3]) eX1_addOne_43 kX7_put lX1_52 rfl rfl (Nat.le_of_ble_eq_true rfl) (Nat.le_of_ble_eq_true rfl) (Nat.le_of_ble_eq_true rfl) (uX7_put (g + 7) 6 (m g 2) v3 m hg.2.2.2.2.2.2.2.1) ?_
  refine s_aload_n eX1_addOne_46 rfl rfl ?_
  refine s_getr (q := g + 8) eX1_addOne_47 fX1_40 hg.1 rfl ?_
  refine s_aload_n eX1_addOne_50 rfl rfl ?_
  refine s_geti eX1_addOne_51 fX1_46 hg.1 rfl ?_
  refine s_iload eX1_addOne_54 rfl ?_
  refine n_callSv (As := [.ref (g + 8), .int ((F7_put (g + 7) 6 (m g 2) v3 m) g 2), .int v4]) eX1_addOne_56 kX7_put lX1_52 rfl rfl (Nat.le_of_ble_eq_true rfl) (Nat.le_of_ble_eq_true rfl) (Nat.le_of_ble_eq_true rfl) (uX7_put (g + 8) 6 ((F7_put (g + 7) 6 (m g 2) v3 m) g 2) v4 ((F7_put (g + 7) 6 (m g 2) v3 m)) hg.2.2.2.2.2.2.2.2) ?_
  refine cK1_addOne_59 g hg v1 v2 v3 v4 ((F7_put (g + 8) 6 ((F7_put (g + 7) 6 (m g 2) v3 m) g 2) v4 (F7_put (g + 7) 6 (m g 2) v3 m))) ?_
  rw [E] at hP
  exact hP
theorem uX1_addOne (g : Nat) (a1 : Int32) (a2 : Int32) (a3 : Int32) (a4 : Int32) (m : ax_M) (hg : isG g) : ax_NM 1 Y1_addOne [.ref g, .int a1, .int a2, .int a3, .int a4] m (fun r m1 => r = none ∧ m1 = F1_addOne g a1 a2 a3 a4 m) := by
  have E : F1_addOne g a1 a2 a3 a4 m = (if (m g 2) < 6 then (K1_addOne_34 g a1 a2 a3 a4 (F7_put (g + 6) 6 ((F7_put (g + 5) 6 (m g 2) a1 m) g 2) a2 (F7_put (g + 5) 6 (m g 2) a1 m))) else m) := rfl
  show ax_N 1 Y1_addOne 0 [some (.ref g), some (.int a1), some (.int a2), some (.int a3), some (.int a4)] [] m _
  refine s_aload_n eX1_addOne_0 rfl rfl ?_
  refine s_geti eX1_addOne_1 fX1_46 hg.1 rfl ?_
  refine s_bipush (v := 6) eX1_addOne_4 rfl ?_
  refine s_icmp_lt eX1_addOne_6 (fun h1 => ?_) (fun h1 => ?_)
  · skip
    rw [if_pos h1] at E
    refine s_aload_n eX1_addOne_10 rfl rfl ?_
    refine s_getr (q := g + 5) eX1_addOne_11 fX1_31 hg.1 rfl ?_
    refine s_aload_n eX1_addOne_14 rfl rfl ?_
    refine s_geti eX1_addOne_15 fX1_46 hg.1 rfl ?_
    refine s_iload_n eX1_addOne_18 rfl rfl ?_
    refine n_callSv (As := [.ref (g + 5), .int (m g 2), .int a1]) eX1_addOne_19 kX7_put lX1_52 rfl rfl (Nat.le_of_ble_eq_true rfl) (Nat.le_of_ble_eq_true rfl) (Nat.le_of_ble_eq_true rfl) (uX7_put (g + 5) 6 (m g 2) a1 m hg.2.2.2.2.2.1) ?_
    refine s_aload_n eX1_addOne_22 rfl rfl ?_
    refine s_getr (q := g + 6) eX1_addOne_23 fX1_34 hg.1 rfl ?_
    refine s_aload_n eX1_addOne_26 rfl rfl ?_
    refine s_geti eX1_addOne_27 fX1_46 hg.1 rfl ?_
    refine s_iload_n eX1_addOne_30 rfl rfl ?_
    refine n_callSv (As := [.ref (g + 6), .int ((F7_put (g + 5) 6 (m g 2) a1 m) g 2), .int a2]) eX1_addOne_31 kX7_put lX1_52 rfl rfl (Nat.le_of_ble_eq_true rfl) (Nat.le_of_ble_eq_true rfl) (Nat.le_of_ble_eq_true rfl) (uX7_put (g + 6) 6 ((F7_put (g + 5) 6 (m g 2) a1 m) g 2) a2 ((F7_put (g + 5) 6 (m g 2) a1 m)) hg.2.2.2.2.2.2.1) ?_
    refine cK1_addOne_34 g hg a1 a2 a3 a4 ((F7_put (g + 6) 6 ((F7_put (g + 5) 6 (m g 2) a1 m) g 2) a2 (F7_put (g + 5) 6 (m g 2) a1 m))) ?_
    exact ⟨rfl, by rw [E]⟩
  · skip
    rw [if_neg h1] at E
    exact s_vret eX1_addOne_9 rfl ⟨rfl, rfl, by rw [E]⟩
theorem uX1_setStones (g : Nat) (a1 : Int32) (a2 : Int32) (m : ax_M) (hg : isG g) : ax_NM 1 Y1_setStones [.ref g, .int a1, .int a2] m (fun r m1 => r = none ∧ m1 = F1_setStones g a1 a2 m) := by
  have E : F1_setStones g a1 a2 m = (F7_put (g + 1) 4 a1 a2 m) := rfl
  show ax_N 1 Y1_setStones 0 [some (.ref g), some (.int a1), some (.int a2)] [] m _
  refine s_aload_n eX1_setStones_0 rfl rfl ?_
  refine s_getr (q := g + 1) eX1_setStones_1 fX1_18 hg.1 rfl ?_
  refine s_iload_n eX1_setStones_4 rfl rfl ?_
  refine s_iload_n eX1_setStones_5 rfl rfl ?_
  refine n_callSv (As := [.ref (g + 1), .int a1, .int a2]) eX1_setStones_6 kX7_put lX1_52 rfl rfl (Nat.le_of_ble_eq_true rfl) (Nat.le_of_ble_eq_true rfl) (Nat.le_of_ble_eq_true rfl) (uX7_put (g + 1) 4 a1 a2 m hg.2.1) ?_
  exact s_vret eX1_setStones_9 rfl ⟨rfl, rfl, by rw [E]⟩
theorem uX1_hasBank (g : Nat) (a1 : Int32) (m : ax_M) (hg : isG g) : ax_NM 0 Y1_hasBank [.ref g, .int a1] m (fun r m1 => r = some (.int (F1_hasBank g a1 m)) ∧ m1 = m) := by
  have E : F1_hasBank g a1 m = (if a1 < 0 then 0 else (if (m g 0) ≤ a1 then 0 else 1)) := rfl
  show ax_N 0 Y1_hasBank 0 [some (.ref g), some (.int a1)] [] m _
  refine s_iload_n eX1_hasBank_0 rfl rfl ?_
  refine s_if_lt eX1_hasBank_1 (fun h1 => ?_) (fun h1 => ?_)
  · skip
    rw [if_pos h1] at E
    refine s_iconst (v := 0) eX1_hasBank_16 rfl ?_
    exact s_zret eX1_hasBank_17 rfl (by first | exact Or.inl rfl | exact Or.inr rfl | (split <;> simp) | simp) ⟨rfl, by rw [E], rfl⟩
  · skip
    rw [if_neg h1] at E
    refine s_iload_n eX1_hasBank_4 rfl rfl ?_
    refine s_aload_n eX1_hasBank_5 rfl rfl ?_
    refine s_geti eX1_hasBank_6 fX1_9 hg.1 rfl ?_
    refine s_icmp_ge eX1_hasBank_9 (fun h2 => ?_) (fun h2 => ?_)
    · skip
      rw [if_pos h2] at E
      refine s_iconst (v := 0) eX1_hasBank_16 rfl ?_
      exact s_zret eX1_hasBank_17 rfl (by first | exact Or.inl rfl | exact Or.inr rfl | (split <;> simp) | simp) ⟨rfl, by rw [E], rfl⟩
    · skip
      rw [if_neg h2] at E
      refine s_iconst (v := 1) eX1_hasBank_12 rfl ?_
      refine s_goto eX1_hasBank_13 ?_
      exact s_zret eX1_hasBank_17 rfl (by first | exact Or.inl rfl | exact Or.inr rfl | (split <;> simp) | simp) ⟨rfl, by rw [E], rfl⟩
theorem uX1_hasBridge (g : Nat) (a1 : Int32) (m : ax_M) (hg : isG g) : ax_NM 0 Y1_hasBridge [.ref g, .int a1] m (fun r m1 => r = some (.int (F1_hasBridge g a1 m)) ∧ m1 = m) := by
  have E : F1_hasBridge g a1 m = (if a1 < 0 then 0 else (if (m g 1) ≤ a1 then 0 else 1)) := rfl
  show ax_N 0 Y1_hasBridge 0 [some (.ref g), some (.int a1)] [] m _
  refine s_iload_n eX1_hasBridge_0 rfl rfl ?_
  refine s_if_lt eX1_hasBridge_1 (fun h1 => ?_) (fun h1 => ?_)
  · skip
    rw [if_pos h1] at E
    refine s_iconst (v := 0) eX1_hasBridge_16 rfl ?_
    exact s_zret eX1_hasBridge_17 rfl (by first | exact Or.inl rfl | exact Or.inr rfl | (split <;> simp) | simp) ⟨rfl, by rw [E], rfl⟩
  · skip
    rw [if_neg h1] at E
    refine s_iload_n eX1_hasBridge_4 rfl rfl ?_
    refine s_aload_n eX1_hasBridge_5 rfl rfl ?_
    refine s_geti eX1_hasBridge_6 fX1_43 hg.1 rfl ?_
    refine s_icmp_ge eX1_hasBridge_9 (fun h2 => ?_) (fun h2 => ?_)
    · skip
      rw [if_pos h2] at E
      refine s_iconst (v := 0) eX1_hasBridge_16 rfl ?_
      exact s_zret eX1_hasBridge_17 rfl (by first | exact Or.inl rfl | exact Or.inr rfl | (split <;> simp) | simp) ⟨rfl, by rw [E], rfl⟩
    · skip
      rw [if_neg h2] at E
      refine s_iconst (v := 1) eX1_hasBridge_12 rfl ?_
      refine s_goto eX1_hasBridge_13 ?_
      exact s_zret eX1_hasBridge_17 rfl (by first | exact Or.inl rfl | exact Or.inr rfl | (split <;> simp) | simp) ⟨rfl, by rw [E], rfl⟩
theorem uX1_hasOne (g : Nat) (a1 : Int32) (m : ax_M) (hg : isG g) : ax_NM 0 Y1_hasOne [.ref g, .int a1] m (fun r m1 => r = some (.int (F1_hasOne g a1 m)) ∧ m1 = m) := by
  have E : F1_hasOne g a1 m = (if a1 < 0 then 0 else (if (m g 2) ≤ a1 then 0 else 1)) := rfl
  show ax_N 0 Y1_hasOne 0 [some (.ref g), some (.int a1)] [] m _
  refine s_iload_n eX1_hasOne_0 rfl rfl ?_
  refine s_if_lt eX1_hasOne_1 (fun h1 => ?_) (fun h1 => ?_)
  · skip
    rw [if_pos h1] at E
    refine s_iconst (v := 0) eX1_hasOne_16 rfl ?_
    exact s_zret eX1_hasOne_17 rfl (by first | exact Or.inl rfl | exact Or.inr rfl | (split <;> simp) | simp) ⟨rfl, by rw [E], rfl⟩
  · skip
    rw [if_neg h1] at E
    refine s_iload_n eX1_hasOne_4 rfl rfl ?_
    refine s_aload_n eX1_hasOne_5 rfl rfl ?_
    refine s_geti eX1_hasOne_6 fX1_46 hg.1 rfl ?_
    refine s_icmp_ge eX1_hasOne_9 (fun h2 => ?_) (fun h2 => ?_)
    · skip
      rw [if_pos h2] at E
      refine s_iconst (v := 0) eX1_hasOne_16 rfl ?_
      exact s_zret eX1_hasOne_17 rfl (by first | exact Or.inl rfl | exact Or.inr rfl | (split <;> simp) | simp) ⟨rfl, by rw [E], rfl⟩
    · skip
      rw [if_neg h2] at E
      refine s_iconst (v := 1) eX1_hasOne_12 rfl ?_
      refine s_goto eX1_hasOne_13 ?_
      exact s_zret eX1_hasOne_17 rfl (by first | exact Or.inl rfl | exact Or.inr rfl | (split <;> simp) | simp) ⟨rfl, by rw [E], rfl⟩
theorem uX1_firstBank (g : Nat) (a1 : Int32) (m : ax_M) (hg : isG g) : ax_NM 1 Y1_firstBank [.ref g, .int a1] m (fun r m1 => r = some (.int (F1_firstBank g a1 m)) ∧ m1 = m) := by
  have E : F1_firstBank g a1 m = (F7_at (g + 2) 4 a1 m) := rfl
  show ax_N 1 Y1_firstBank 0 [some (.ref g), some (.int a1)] [] m _
  refine s_aload_n eX1_firstBank_0 rfl rfl ?_
  refine s_getr (q := g + 2) eX1_firstBank_1 fX1_22 hg.1 rfl ?_
  refine s_iload_n eX1_firstBank_4 rfl rfl ?_
  refine n_callSi (As := [.ref (g + 2), .int a1]) eX1_firstBank_5 kX7_at lX1_60 rfl rfl (Nat.le_of_ble_eq_true rfl) (Nat.le_of_ble_eq_true rfl) (Nat.le_of_ble_eq_true rfl) (uX7_at (g + 2) 4 a1 m hg.2.2.1) ?_
  exact s_iret eX1_firstBank_8 rfl ⟨rfl, by rw [E], rfl⟩
theorem uX1_secondBank (g : Nat) (a1 : Int32) (m : ax_M) (hg : isG g) : ax_NM 1 Y1_secondBank [.ref g, .int a1] m (fun r m1 => r = some (.int (F1_secondBank g a1 m)) ∧ m1 = m) := by
  have E : F1_secondBank g a1 m = (F7_at (g + 3) 4 a1 m) := rfl
  show ax_N 1 Y1_secondBank 0 [some (.ref g), some (.int a1)] [] m _
  refine s_aload_n eX1_secondBank_0 rfl rfl ?_
  refine s_getr (q := g + 3) eX1_secondBank_1 fX1_25 hg.1 rfl ?_
  refine s_iload_n eX1_secondBank_4 rfl rfl ?_
  refine n_callSi (As := [.ref (g + 3), .int a1]) eX1_secondBank_5 kX7_at lX1_60 rfl rfl (Nat.le_of_ble_eq_true rfl) (Nat.le_of_ble_eq_true rfl) (Nat.le_of_ble_eq_true rfl) (uX7_at (g + 3) 4 a1 m hg.2.2.2.1) ?_
  exact s_iret eX1_secondBank_8 rfl ⟨rfl, by rw [E], rfl⟩
theorem uX1_playOf (g : Nat) (a1 : Int32) (m : ax_M) (hg : isG g) : ax_NM 1 Y1_playOf [.ref g, .int a1] m (fun r m1 => r = some (.int (F1_playOf g a1 m)) ∧ m1 = m) := by
  have E : F1_playOf g a1 m = (F7_at (g + 4) 4 a1 m) := rfl
  show ax_N 1 Y1_playOf 0 [some (.ref g), some (.int a1)] [] m _
  refine s_aload_n eX1_playOf_0 rfl rfl ?_
  refine s_getr (q := g + 4) eX1_playOf_1 fX1_28 hg.1 rfl ?_
  refine s_iload_n eX1_playOf_4 rfl rfl ?_
  refine n_callSi (As := [.ref (g + 4), .int a1]) eX1_playOf_5 kX7_at lX1_60 rfl rfl (Nat.le_of_ble_eq_true rfl) (Nat.le_of_ble_eq_true rfl) (Nat.le_of_ble_eq_true rfl) (uX7_at (g + 4) 4 a1 m hg.2.2.2.2.1) ?_
  exact s_iret eX1_playOf_8 rfl ⟨rfl, by rw [E], rfl⟩
theorem uX1_kindOf (g : Nat) (a1 : Int32) (m : ax_M) (hg : isG g) : ax_NM 1 Y1_kindOf [.ref g, .int a1] m (fun r m1 => r = some (.int (F1_kindOf g a1 m)) ∧ m1 = m) := by
  have E : F1_kindOf g a1 m = (F7_at (g + 5) 6 a1 m) := rfl
  show ax_N 1 Y1_kindOf 0 [some (.ref g), some (.int a1)] [] m _
  refine s_aload_n eX1_kindOf_0 rfl rfl ?_
  refine s_getr (q := g + 5) eX1_kindOf_1 fX1_31 hg.1 rfl ?_
  refine s_iload_n eX1_kindOf_4 rfl rfl ?_
  refine n_callSi (As := [.ref (g + 5), .int a1]) eX1_kindOf_5 kX7_at lX1_60 rfl rfl (Nat.le_of_ble_eq_true rfl) (Nat.le_of_ble_eq_true rfl) (Nat.le_of_ble_eq_true rfl) (uX7_at (g + 5) 6 a1 m hg.2.2.2.2.2.1) ?_
  exact s_iret eX1_kindOf_8 rfl ⟨rfl, by rw [E], rfl⟩
theorem uX1_weightOf (g : Nat) (a1 : Int32) (m : ax_M) (hg : isG g) : ax_NM 1 Y1_weightOf [.ref g, .int a1] m (fun r m1 => r = some (.int (F1_weightOf g a1 m)) ∧ m1 = m) := by
  have E : F1_weightOf g a1 m = (F7_at (g + 6) 6 a1 m) := rfl
  show ax_N 1 Y1_weightOf 0 [some (.ref g), some (.int a1)] [] m _
  refine s_aload_n eX1_weightOf_0 rfl rfl ?_
  refine s_getr (q := g + 6) eX1_weightOf_1 fX1_34 hg.1 rfl ?_
  refine s_iload_n eX1_weightOf_4 rfl rfl ?_
  refine n_callSi (As := [.ref (g + 6), .int a1]) eX1_weightOf_5 kX7_at lX1_60 rfl rfl (Nat.le_of_ble_eq_true rfl) (Nat.le_of_ble_eq_true rfl) (Nat.le_of_ble_eq_true rfl) (uX7_at (g + 6) 6 a1 m hg.2.2.2.2.2.2.1) ?_
  exact s_iret eX1_weightOf_8 rfl ⟨rfl, by rw [E], rfl⟩
theorem uX1_bankOf (g : Nat) (a1 : Int32) (m : ax_M) (hg : isG g) : ax_NM 1 Y1_bankOf [.ref g, .int a1] m (fun r m1 => r = some (.int (F1_bankOf g a1 m)) ∧ m1 = m) := by
  have E : F1_bankOf g a1 m = (F7_at (g + 7) 6 a1 m) := rfl
  show ax_N 1 Y1_bankOf 0 [some (.ref g), some (.int a1)] [] m _
  refine s_aload_n eX1_bankOf_0 rfl rfl ?_
  refine s_getr (q := g + 7) eX1_bankOf_1 fX1_37 hg.1 rfl ?_
  refine s_iload_n eX1_bankOf_4 rfl rfl ?_
  refine n_callSi (As := [.ref (g + 7), .int a1]) eX1_bankOf_5 kX7_at lX1_60 rfl rfl (Nat.le_of_ble_eq_true rfl) (Nat.le_of_ble_eq_true rfl) (Nat.le_of_ble_eq_true rfl) (uX7_at (g + 7) 6 a1 m hg.2.2.2.2.2.2.2.1) ?_
  exact s_iret eX1_bankOf_8 rfl ⟨rfl, by rw [E], rfl⟩
theorem uX1_goalOf (g : Nat) (a1 : Int32) (m : ax_M) (hg : isG g) : ax_NM 1 Y1_goalOf [.ref g, .int a1] m (fun r m1 => r = some (.int (F1_goalOf g a1 m)) ∧ m1 = m) := by
  have E : F1_goalOf g a1 m = (F7_at (g + 8) 6 a1 m) := rfl
  show ax_N 1 Y1_goalOf 0 [some (.ref g), some (.int a1)] [] m _
  refine s_aload_n eX1_goalOf_0 rfl rfl ?_
  refine s_getr (q := g + 8) eX1_goalOf_1 fX1_40 hg.1 rfl ?_
  refine s_iload_n eX1_goalOf_4 rfl rfl ?_
  refine n_callSi (As := [.ref (g + 8), .int a1]) eX1_goalOf_5 kX7_at lX1_60 rfl rfl (Nat.le_of_ble_eq_true rfl) (Nat.le_of_ble_eq_true rfl) (Nat.le_of_ble_eq_true rfl) (uX7_at (g + 8) 6 a1 m hg.2.2.2.2.2.2.2.2) ?_
  exact s_iret eX1_goalOf_8 rfl ⟨rfl, by rw [E], rfl⟩
theorem uX1_stonesOn (g : Nat) (a1 : Int32) (m : ax_M) (hg : isG g) : ax_NM 1 Y1_stonesOn [.ref g, .int a1] m (fun r m1 => r = some (.int (F1_stonesOn g a1 m)) ∧ m1 = m) := by
  have E : F1_stonesOn g a1 m = (F7_at (g + 1) 4 a1 m) := rfl
  show ax_N 1 Y1_stonesOn 0 [some (.ref g), some (.int a1)] [] m _
  refine s_aload_n eX1_stonesOn_0 rfl rfl ?_
  refine s_getr (q := g + 1) eX1_stonesOn_1 fX1_18 hg.1 rfl ?_
  refine s_iload_n eX1_stonesOn_4 rfl rfl ?_
  refine n_callSi (As := [.ref (g + 1), .int a1]) eX1_stonesOn_5 kX7_at lX1_60 rfl rfl (Nat.le_of_ble_eq_true rfl) (Nat.le_of_ble_eq_true rfl) (Nat.le_of_ble_eq_true rfl) (uX7_at (g + 1) 4 a1 m hg.2.1) ?_
  exact s_iret eX1_stonesOn_8 rfl ⟨rfl, by rw [E], rfl⟩
theorem clX1_allStones_4 (g : Nat) (hg : isG g) {P : Option Value → ax_M → Prop} : ∀ (n : Nat) (v1 v2 : Int32) (m : ax_M), E1_allStones_4 g n v1 v2 m → (ax_N 2 Y1_allStones 26 [some (.ref g), some (.int ((L1_allStones_4 g n v1 v2 m).1)), some (.int ((L1_allStones_4 g n v1 v2 m).2))] [] m P) → ax_N 2 Y1_allStones 4 [some (.ref g), some (.int v1), some (.int v2)] [] m P := by
  intro n
  induction n with
  | zero => intro v1 v2 m hD; exact absurd hD id
  | succ n ih =>
    intro v1 v2 m hD hx
    have E : L1_allStones_4 g (n + 1) v1 v2 m = (if (m g 0) ≤ v2 then (v1, v2) else L1_allStones_4 g n (v1 + (F1_stonesOn g v2 m)) (v2 + 1) m) := by rw [L1_allStones_4]
    have hD : ((¬ ((m g 0) ≤ v2) → ((E1_allStones_4 g n (v1 + (F1_stonesOn g v2 m)) (v2 + 1) m)))) := hD
    refine s_iload_n eX1_allStones_4 rfl rfl ?_
    refine s_aload_n eX1_allStones_5 rfl rfl ?_
    refine s_geti eX1_allStones_6 fX1_9 hg.1 rfl ?_
    refine s_icmp_ge eX1_allStones_9 (fun h1 => ?_) (fun h1 => ?_)
    · skip
      rw [if_pos h1] at E
      rw [E] at hx
      exact hx
    · skip
      rw [if_neg h1] at E
      have hD := hD h1
      refine s_iload_n eX1_allStones_12 rfl rfl ?_
      refine s_aload_n eX1_allStones_13 rfl rfl ?_
      refine s_iload_n eX1_allStones_14 rfl rfl ?_
      refine n_callVi (As := [.int v2]) eX1_allStones_15 kX1_stonesOn lX1_64 rfl rfl hg.1 rfl rfl (Nat.le_of_ble_eq_true rfl) (Nat.le_of_ble_eq_true rfl) (Nat.le_of_ble_eq_true rfl) (uX1_stonesOn g v2 m hg) ?_
      refine s_iadd eX1_allStones_18 ?_
      refine s_istore_n (ls' := [some (.ref g), some (.int (v1 + (F1_stonesOn g v2 m))), some (.int v2)]) eX1_allStones_19 rfl rfl rfl ?_
      refine s_iinc (v := v2 + 1) (ls' := [some (.ref g), some (.int (v1 + (F1_stonesOn g v2 m))), some (.int (v2 + 1))]) eX1_allStones_20 rfl rfl rfl rfl ?_
      refine s_goto eX1_allStones_23 ?_
      rw [E] at hx
      exact ih (v1 + (F1_stonesOn g v2 m)) (v2 + 1) m hD hx
theorem uX1_allStones (g : Nat) (m : ax_M) (hg : isG g) (hD : D1_allStones g m) : ax_NM 2 Y1_allStones [.ref g] m (fun r m1 => r = some (.int (F1_allStones g m)) ∧ m1 = m) := by
  have E : F1_allStones g m = ((L1_allStones_4 g 64 0 0 m).1) := rfl
  unfold D1_allStones at hD
  show ax_N 2 Y1_allStones 0 [some (.ref g), none, none] [] m _
  refine s_iconst (v := 0) eX1_allStones_0 rfl ?_
  refine s_istore_n (ls' := [some (.ref g), some (.int 0), none]) eX1_allStones_1 rfl rfl rfl ?_
  refine s_iconst (v := 0) eX1_allStones_2 rfl ?_
  refine s_istore_n (ls' := [some (.ref g), some (.int 0), some (.int 0)]) eX1_allStones_3 rfl rfl rfl ?_
  have q1 := hD
  refine clX1_allStones_4 g hg 64 0 0 m q1 ?_
  refine s_iload_n eX1_allStones_26 rfl rfl ?_
  exact s_iret eX1_allStones_27 rfl ⟨rfl, by rw [E], rfl⟩
theorem clX1_atGoals_4 (g : Nat) (hg : isG g) {P : Option Value → ax_M → Prop} : ∀ (n : Nat) (v1 v2 : Int32) (m : ax_M), E1_atGoals_4 g n v1 v2 m → (ax_N 2 Y1_atGoals 34 [some (.ref g), some (.int ((L1_atGoals_4 g n v1 v2 m).1)), some (.int ((L1_atGoals_4 g n v1 v2 m).2))] [] m P) → ax_N 2 Y1_atGoals 4 [some (.ref g), some (.int v1), some (.int v2)] [] m P := by
  intro n
  induction n with
  | zero => intro v1 v2 m hD; exact absurd hD id
  | succ n ih =>
    intro v1 v2 m hD hx
    have E : L1_atGoals_4 g (n + 1) v1 v2 m = (if (m g 2) ≤ v2 then (v1, v2) else L1_atGoals_4 g n (if (F1_bankOf g v2 m) = (F1_goalOf g v2 m) then (v1 + 1 : Int32) else v1) (v2 + 1) m) := by rw [L1_atGoals_4]
    have hD : ((¬ ((m g 2) ≤ v2) → ((E1_atGoals_4 g n (if (F1_bankOf g v2 m) = (F1_goalOf g v2 m) then (v1 + 1 : Int32) else v1) (v2 + 1) m)))) := hD
    refine s_iload_n eX1_atGoals_4 rfl rfl ?_
    refine s_aload_n eX1_atGoals_5 rfl rfl ?_
    refine s_geti eX1_atGoals_6 fX1_46 hg.1 rfl ?_
    refine s_icmp_ge eX1_atGoals_9 (fun h1 => ?_) (fun h1 => ?_)
    · skip
      rw [if_pos h1] at E
      rw [E] at hx
      exact hx
    · skip
      rw [if_neg h1] at E
      have hD := hD h1
      refine s_aload_n eX1_atGoals_12 rfl rfl ?_
      refine s_iload_n eX1_atGoals_13 rfl rfl ?_
      refine n_callVi (As := [.int v2]) eX1_atGoals_14 kX1_bankOf lX1_68 rfl rfl hg.1 rfl rfl (Nat.le_of_ble_eq_true rfl) (Nat.le_of_ble_eq_true rfl) (Nat.le_of_ble_eq_true rfl) (uX1_bankOf g v2 m hg) ?_
      refine s_aload_n eX1_atGoals_17 rfl rfl ?_
      refine s_iload_n eX1_atGoals_18 rfl rfl ?_
      refine n_callVi (As := [.int v2]) eX1_atGoals_19 kX1_goalOf lX1_71 rfl rfl hg.1 rfl rfl (Nat.le_of_ble_eq_true rfl) (Nat.le_of_ble_eq_true rfl) (Nat.le_of_ble_eq_true rfl) (uX1_goalOf g v2 m hg) ?_
      have J2 : ax_N 2 Y1_atGoals 28 [some (.ref g), some (.int (if (F1_bankOf g v2 m) = (F1_goalOf g v2 m) then (v1 + 1 : Int32) else v1)), some (.int v2)] [] m P := by
        refine s_iinc (v := v2 + 1) (ls' := [some (.ref g), some (.int (if (F1_bankOf g v2 m) = (F1_goalOf g v2 m) then (v1 + 1 : Int32) else v1)), some (.int (v2 + 1))]) eX1_atGoals_28 rfl rfl rfl rfl ?_
        refine s_goto eX1_atGoals_31 ?_
        rw [E] at hx
        exact ih (if (F1_bankOf g v2 m) = (F1_goalOf g v2 m) then (v1 + 1 : Int32) else v1) (v2 + 1) m hD hx
      refine s_icmp_ne eX1_atGoals_22 (fun h3 => ?_) (fun h3 => ?_)
      · skip
        exact ax_eqN (by rw [show (if (F1_bankOf g v2 m) = (F1_goalOf g v2 m) then (v1 + 1 : Int32) else v1 : Int32) = v1 by rw [if_neg h3]]) rfl rfl J2
      · skip
        refine s_iinc (v := v1 + 1) (ls' := [some (.ref g), some (.int (v1 + 1)), some (.int v2)]) eX1_atGoals_25 rfl rfl rfl rfl ?_
        exact ax_eqN (by rw [show (if (F1_bankOf g v2 m) = (F1_goalOf g v2 m) then (v1 + 1 : Int32) else v1 : Int32) = v1 + 1 by rw [if_pos h3]]) rfl rfl J2
theorem uX1_atGoals (g : Nat) (m : ax_M) (hg : isG g) (hD : D1_atGoals g m) : ax_NM 2 Y1_atGoals [.ref g] m (fun r m1 => r = some (.int (F1_atGoals g m)) ∧ m1 = m) := by
  have E : F1_atGoals g m = ((L1_atGoals_4 g 64 0 0 m).1) := rfl
  unfold D1_atGoals at hD
  show ax_N 2 Y1_atGoals 0 [some (.ref g), none, none] [] m _
  refine s_iconst (v := 0) eX1_atGoals_0 rfl ?_
  refine s_istore_n (ls' := [some (.ref g), some (.int 0), none]) eX1_atGoals_1 rfl rfl rfl ?_
  refine s_iconst (v := 0) eX1_atGoals_2 rfl ?_
  refine s_istore_n (ls' := [some (.ref g), some (.int 0), some (.int 0)]) eX1_atGoals_3 rfl rfl rfl ?_
  have q1 := hD
  refine clX1_atGoals_4 g hg 64 0 0 m q1 ?_
  refine s_iload_n eX1_atGoals_34 rfl rfl ?_
  exact s_iret eX1_atGoals_35 rfl ⟨rfl, by rw [E], rfl⟩
theorem clX1_standing_4 (g : Nat) (hg : isG g) {P : Option Value → ax_M → Prop} : ∀ (n : Nat) (v1 v2 : Int32) (m : ax_M), E1_standing_4 g n v1 v2 m → (ax_N 2 Y1_standing 30 [some (.ref g), some (.int ((L1_standing_4 g n v1 v2 m).1)), some (.int ((L1_standing_4 g n v1 v2 m).2))] [] m P) → ax_N 2 Y1_standing 4 [some (.ref g), some (.int v1), some (.int v2)] [] m P := by
  intro n
  induction n with
  | zero => intro v1 v2 m hD; exact absurd hD id
  | succ n ih =>
    intro v1 v2 m hD hx
    have E : L1_standing_4 g (n + 1) v1 v2 m = (if (m g 2) ≤ v2 then (v1, v2) else L1_standing_4 g n (v1 ||| ((F1_bankOf g v2 m) <<< ((2 * v2) &&& (31 : Int32)))) (v2 + 1) m) := by rw [L1_standing_4]
    have hD : ((¬ ((m g 2) ≤ v2) → ((E1_standing_4 g n (v1 ||| ((F1_bankOf g v2 m) <<< ((2 * v2) &&& (31 : Int32)))) (v2 + 1) m)))) := hD
    refine s_iload_n eX1_standing_4 rfl rfl ?_
    refine s_aload_n eX1_standing_5 rfl rfl ?_
    refine s_geti eX1_standing_6 fX1_46 hg.1 rfl ?_
    refine s_icmp_ge eX1_standing_9 (fun h1 => ?_) (fun h1 => ?_)
    · skip
      rw [if_pos h1] at E
      rw [E] at hx
      exact hx
    · skip
      rw [if_neg h1] at E
      have hD := hD h1
      refine s_iload_n eX1_standing_12 rfl rfl ?_
      refine s_aload_n eX1_standing_13 rfl rfl ?_
      refine s_iload_n eX1_standing_14 rfl rfl ?_
      refine n_callVi (As := [.int v2]) eX1_standing_15 kX1_bankOf lX1_68 rfl rfl hg.1 rfl rfl (Nat.le_of_ble_eq_true rfl) (Nat.le_of_ble_eq_true rfl) (Nat.le_of_ble_eq_true rfl) (uX1_bankOf g v2 m hg) ?_
      refine s_iconst (v := 2) eX1_standing_18 rfl ?_
      refine s_iload_n eX1_standing_19 rfl rfl ?_
      refine s_imul eX1_standing_20 ?_
      refine s_ishl eX1_standing_21 ?_
      refine s_ior eX1_standing_22 ?_
      refine s_istore_n (ls' := [some (.ref g), some (.int (v1 ||| ((F1_bankOf g v2 m) <<< ((2 * v2) &&& (31 : Int32))))), some (.int v2)]) eX1_standing_23 rfl rfl rfl ?_
      refine s_iinc (v := v2 + 1) (ls' := [some (.ref g), some (.int (v1 ||| ((F1_bankOf g v2 m) <<< ((2 * v2) &&& (31 : Int32))))), some (.int (v2 + 1))]) eX1_standing_24 rfl rfl rfl rfl ?_
      refine s_goto eX1_standing_27 ?_
      rw [E] at hx
      exact ih (v1 ||| ((F1_bankOf g v2 m) <<< ((2 * v2) &&& (31 : Int32)))) (v2 + 1) m hD hx
theorem uX1_standing (g : Nat) (m : ax_M) (hg : isG g) (hD : D1_standing g m) : ax_NM 2 Y1_standing [.ref g] m (fun r m1 => r = some (.int (F1_standing g m)) ∧ m1 = m) := by
  have E : F1_standing g m = ((L1_standing_4 g 64 0 0 m).1) := rfl
  unfold D1_standing at hD
  show ax_N 2 Y1_standing 0 [some (.ref g), none, none] [] m _
  refine s_iconst (v := 0) eX1_standing_0 rfl ?_
  refine s_istore_n (ls' := [some (.ref g), some (.int 0), none]) eX1_standing_1 rfl rfl rfl ?_
  refine s_iconst (v := 0) eX1_standing_2 rfl ?_
  refine s_istore_n (ls' := [some (.ref g), some (.int 0), some (.int 0)]) eX1_standing_3 rfl rfl rfl ?_
  have q1 := hD
  refine clX1_standing_4 g hg 64 0 0 m q1 ?_
  refine s_iload_n eX1_standing_30 rfl rfl ?_
  exact s_iret eX1_standing_31 rfl ⟨rfl, by rw [E], rfl⟩
theorem clX1_wished_4 (g : Nat) (hg : isG g) {P : Option Value → ax_M → Prop} : ∀ (n : Nat) (v1 v2 : Int32) (m : ax_M), E1_wished_4 g n v1 v2 m → (ax_N 2 Y1_wished 30 [some (.ref g), some (.int ((L1_wished_4 g n v1 v2 m).1)), some (.int ((L1_wished_4 g n v1 v2 m).2))] [] m P) → ax_N 2 Y1_wished 4 [some (.ref g), some (.int v1), some (.int v2)] [] m P := by
  intro n
  induction n with
  | zero => intro v1 v2 m hD; exact absurd hD id
  | succ n ih =>
    intro v1 v2 m hD hx
    have E : L1_wished_4 g (n + 1) v1 v2 m = (if (m g 2) ≤ v2 then (v1, v2) else L1_wished_4 g n (v1 ||| ((F1_goalOf g v2 m) <<< ((2 * v2) &&& (31 : Int32)))) (v2 + 1) m) := by rw [L1_wished_4]
    have hD : ((¬ ((m g 2) ≤ v2) → ((E1_wished_4 g n (v1 ||| ((F1_goalOf g v2 m) <<< ((2 * v2) &&& (31 : Int32)))) (v2 + 1) m)))) := hD
    refine s_iload_n eX1_wished_4 rfl rfl ?_
    refine s_aload_n eX1_wished_5 rfl rfl ?_
    refine s_geti eX1_wished_6 fX1_46 hg.1 rfl ?_
    refine s_icmp_ge eX1_wished_9 (fun h1 => ?_) (fun h1 => ?_)
    · skip
      rw [if_pos h1] at E
      rw [E] at hx
      exact hx
    · skip
      rw [if_neg h1] at E
      have hD := hD h1
      refine s_iload_n eX1_wished_12 rfl rfl ?_
      refine s_aload_n eX1_wished_13 rfl rfl ?_
      refine s_iload_n eX1_wished_14 rfl rfl ?_
      refine n_callVi (As := [.int v2]) eX1_wished_15 kX1_goalOf lX1_71 rfl rfl hg.1 rfl rfl (Nat.le_of_ble_eq_true rfl) (Nat.le_of_ble_eq_true rfl) (Nat.le_of_ble_eq_true rfl) (uX1_goalOf g v2 m hg) ?_
      refine s_iconst (v := 2) eX1_wished_18 rfl ?_
      refine s_iload_n eX1_wished_19 rfl rfl ?_
      refine s_imul eX1_wished_20 ?_
      refine s_ishl eX1_wished_21 ?_
      refine s_ior eX1_wished_22 ?_
      refine s_istore_n (ls' := [some (.ref g), some (.int (v1 ||| ((F1_goalOf g v2 m) <<< ((2 * v2) &&& (31 : Int32))))), some (.int v2)]) eX1_wished_23 rfl rfl rfl ?_
      refine s_iinc (v := v2 + 1) (ls' := [some (.ref g), some (.int (v1 ||| ((F1_goalOf g v2 m) <<< ((2 * v2) &&& (31 : Int32))))), some (.int (v2 + 1))]) eX1_wished_24 rfl rfl rfl rfl ?_
      refine s_goto eX1_wished_27 ?_
      rw [E] at hx
      exact ih (v1 ||| ((F1_goalOf g v2 m) <<< ((2 * v2) &&& (31 : Int32)))) (v2 + 1) m hD hx
theorem uX1_wished (g : Nat) (m : ax_M) (hg : isG g) (hD : D1_wished g m) : ax_NM 2 Y1_wished [.ref g] m (fun r m1 => r = some (.int (F1_wished g m)) ∧ m1 = m) := by
  have E : F1_wished g m = ((L1_wished_4 g 64 0 0 m).1) := rfl
  unfold D1_wished at hD
  show ax_N 2 Y1_wished 0 [some (.ref g), none, none] [] m _
  refine s_iconst (v := 0) eX1_wished_0 rfl ?_
  refine s_istore_n (ls' := [some (.ref g), some (.int 0), none]) eX1_wished_1 rfl rfl rfl ?_
  refine s_iconst (v := 0) eX1_wished_2 rfl ?_
  refine s_istore_n (ls' := [some (.ref g), some (.int 0), some (.int 0)]) eX1_wished_3 rfl rfl rfl ?_
  have q1 := hD
  refine clX1_wished_4 g hg 64 0 0 m q1 ?_
  refine s_iload_n eX1_wished_30 rfl rfl ?_
  exact s_iret eX1_wished_31 rfl ⟨rfl, by rw [E], rfl⟩
theorem uX7_within (a0 : Int32) (a1 : Int32) (a2 : Int32) (m : ax_M) : ax_NM 0 Y7_within [.int a0, .int a1, .int a2] m (fun r m1 => r = some (.int (F7_within a0 a1 a2 m)) ∧ m1 = m) := by
  have E : F7_within a0 a1 a2 m = (if a0 < a1 then 0 else (if a2 < a0 then 0 else 1)) := rfl
  show ax_N 0 Y7_within 0 [some (.int a0), some (.int a1), some (.int a2)] [] m _
  refine s_iload_n eX7_within_0 rfl rfl ?_
  refine s_iload_n eX7_within_1 rfl rfl ?_
  refine s_icmp_lt eX7_within_2 (fun h1 => ?_) (fun h1 => ?_)
  · skip
    rw [if_pos h1] at E
    refine s_iconst (v := 0) eX7_within_14 rfl ?_
    exact s_zret eX7_within_15 rfl (by first | exact Or.inl rfl | exact Or.inr rfl | (split <;> simp) | simp) ⟨rfl, by rw [E], rfl⟩
  · skip
    rw [if_neg h1] at E
    refine s_iload_n eX7_within_5 rfl rfl ?_
    refine s_iload_n eX7_within_6 rfl rfl ?_
    refine s_icmp_gt eX7_within_7 (fun h2 => ?_) (fun h2 => ?_)
    · skip
      rw [if_pos h2] at E
      refine s_iconst (v := 0) eX7_within_14 rfl ?_
      exact s_zret eX7_within_15 rfl (by first | exact Or.inl rfl | exact Or.inr rfl | (split <;> simp) | simp) ⟨rfl, by rw [E], rfl⟩
    · skip
      rw [if_neg h2] at E
      refine s_iconst (v := 1) eX7_within_10 rfl ?_
      refine s_goto eX7_within_11 ?_
      exact s_zret eX7_within_15 rfl (by first | exact Or.inl rfl | exact Or.inr rfl | (split <;> simp) | simp) ⟨rfl, by rw [E], rfl⟩
