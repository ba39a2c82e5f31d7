/-! X4_takeToken X4_isWord X4_takeNumber X4_takeSemicolon X4_takeBanks X4_takeStone X4_takeHeap X4_takeOtherThan X4_takeBridge X4_takeKind X4_takeOne -/
theorem clX4_takeToken_8 {P : Option Value → ax_M → Prop} : ∀ (n : Nat) (m : ax_M), E4_takeToken_8 n  m → (ax_N 1 Y4_takeToken 51 [some (.ref 41), none] [] ((L4_takeToken_8 n  m)) P) → ax_N 1 Y4_takeToken 8 [some (.ref 41), none] [] m P := by
  intro n
  induction n with
  | zero => intro  m hD; exact absurd hD id
  | succ n ih =>
    intro  m hD hx
    have E : L4_takeToken_8 (n + 1)  m = (if (m 42 1) ≤ (m 41 3) then m else (if (F6_byteAt (m 41 3) m) = 32 then L4_takeToken_8 n  (ax_up m 41 3 ((m 41 3) + 1)) else m)) := by rw [L4_takeToken_8]
    have hD : ((¬ ((m 42 1) ≤ (m 41 3)) → ((((F6_byteAt (m 41 3) m) = 32) → ((E4_takeToken_8 n  (ax_up m 41 3 ((m 41 3) + 1)))))))) := hD
    refine s_aload_n eX4_takeToken_8 rfl rfl ?_
    refine s_geti eX4_takeToken_9 fX4_39 shp_41 rfl ?_
    refine s_aload_n eX4_takeToken_12 rfl rfl ?_
    refine s_getr (q := 42) eX4_takeToken_13 fX4_12 shp_41 rfl ?_
    refine s_geti eX4_takeToken_16 fX4_68 shp_42 rfl ?_
    refine s_icmp_ge eX4_takeToken_19 (fun h1 => ?_) (fun h1 => ?_)
    · skip
      rw [if_pos h1] at E
      rw [E] at hx
      exact hx
    · skip
      rw [if_neg h1] at E
      have hD := hD h1
      refine s_aload_n eX4_takeToken_22 rfl rfl ?_
      refine s_getr (q := 42) eX4_takeToken_23 fX4_12 shp_41 rfl ?_
      refine s_aload_n eX4_takeToken_26 rfl rfl ?_
      refine s_geti eX4_takeToken_27 fX4_39 shp_41 rfl ?_
      refine n_callVi (As := [.int (m 41 3)]) eX4_takeToken_30 kX6_byteAt lX4_73 rfl rfl shp_42 rfl rfl (Nat.le_of_ble_eq_true rfl) (Nat.le_of_ble_eq_true rfl) (Nat.le_of_ble_eq_true rfl) (uX6_byteAt (m 41 3) m) ?_
      refine s_bipush (v := 32) eX4_takeToken_33 rfl ?_
      refine s_icmp_ne eX4_takeToken_35 (fun h2 => ?_) (fun h2 => ?_)
      · skip
        rw [if_neg h2] at E
        rw [E] at hx
        exact hx
      · skip
        rw [if_pos h2] at E
        have hD := hD h2
        refine s_aload_n eX4_takeToken_38 rfl rfl ?_
        refine s_dup eX4_takeToken_39 rfl ?_
        refine s_geti eX4_takeToken_40 fX4_39 shp_41 rfl ?_
        refine s_iconst (v := 1) eX4_takeToken_43 rfl ?_
        refine s_iadd eX4_takeToken_44 ?_
        refine s_puti eX4_takeToken_45 fX4_39 pX4_3 rfl rfl shp_41 rfl ?_
        refine s_goto eX4_takeToken_48 ?_
        rw [E] at hx
        exact ih  ((ax_up m 41 3 ((m 41 3) + 1))) hD hx
theorem clX4_takeToken_175 {P : Option Value → ax_M → Prop} : ∀ (n : Nat) (v1 : Int32) (m : ax_M), E4_takeToken_175 n v1 m → (ax_N 1 Y4_takeToken 219 [some (.ref 41), some (.int v1)] [] ((L4_takeToken_175 n v1 m)) P) → ax_N 1 Y4_takeToken 175 [some (.ref 41), some (.int v1)] [] m P := by
  intro n
  induction n with
  | zero => intro v1 m hD; exact absurd hD id
  | succ n ih =>
    intro v1 m hD hx
    have E : L4_takeToken_175 (n + 1) v1 m = (if (m 42 1) ≤ (m 41 3) then m else (if (F4_isFigure (F6_byteAt (m 41 3) m) m) = 0 then m else L4_takeToken_175 n v1 (ax_up m 41 3 ((m 41 3) + 1)))) := by rw [L4_takeToken_175]
    have hD : ((¬ ((m 42 1) ≤ (m 41 3)) → ((¬ ((F4_isFigure (F6_byteAt (m 41 3) m) m) = 0) → ((E4_takeToken_175 n v1 (ax_up m 41 3 ((m 41 3) + 1)))))))) := hD
    refine s_aload_n eX4_takeToken_175 rfl rfl ?_
    refine s_geti eX4_takeToken_176 fX4_39 shp_41 rfl ?_
    refine s_aload_n eX4_takeToken_179 rfl rfl ?_
    refine s_getr (q := 42) eX4_takeToken_180 fX4_12 shp_41 rfl ?_
    refine s_geti eX4_takeToken_183 fX4_68 shp_42 rfl ?_
    refine s_icmp_ge eX4_takeToken_186 (fun h1 => ?_) (fun h1 => ?_)
    · skip
      rw [if_pos h1] at E
      rw [E] at hx
      exact hx
    · skip
      rw [if_neg h1] at E
      have hD := hD h1
      refine s_aload_n eX4_takeToken_189 rfl rfl ?_
      refine s_getr (q := 42) eX4_takeToken_190 fX4_12 shp_41 rfl ?_
      refine s_aload_n eX4_takeToken_193 rfl rfl ?_
      refine s_geti eX4_takeToken_194 fX4_39 shp_41 rfl ?_
      refine n_callVi (As := [.int (m 41 3)]) eX4_takeToken_197 kX6_byteAt lX4_73 rfl rfl shp_42 rfl rfl (Nat.le_of_ble_eq_true rfl) (Nat.le_of_ble_eq_true rfl) (Nat.le_of_ble_eq_true rfl) (uX6_byteAt (m 41 3) m) ?_
      refine n_callSi (As := [.int (F6_byteAt (m 41 3) m)]) eX4_takeToken_200 kX4_isFigure lX4_84 rfl rfl (Nat.le_of_ble_eq_true rfl) (Nat.le_of_ble_eq_true rfl) (Nat.le_of_ble_eq_true rfl) (uX4_isFigure (F6_byteAt (m 41 3) m) m) ?_
      refine s_if_eq eX4_takeToken_203 (fun h2 => ?_) (fun h2 => ?_)
      · skip
        rw [if_pos h2] at E
        rw [E] at hx
        exact hx
      · skip
        rw [if_neg h2] at E
        have hD := hD h2
        refine s_aload_n eX4_takeToken_206 rfl rfl ?_
        refine s_dup eX4_takeToken_207 rfl ?_
        refine s_geti eX4_takeToken_208 fX4_39 shp_41 rfl ?_
        refine s_iconst (v := 1) eX4_takeToken_211 rfl ?_
        refine s_iadd eX4_takeToken_212 ?_
        refine s_puti eX4_takeToken_213 fX4_39 pX4_3 rfl rfl shp_41 rfl ?_
        refine s_goto eX4_takeToken_216 ?_
        rw [E] at hx
        exact ih v1 ((ax_up m 41 3 ((m 41 3) + 1))) hD hx
theorem cK4_takeToken_219 (v1 : Int32) (m : ax_M) {P : Option Value → ax_M → Prop} (hP : P none (K4_takeToken_219 v1 m)) : ax_N 1 Y4_takeToken 219 [some (.ref 41), some (.int v1)] [] m P := by
  have E : K4_takeToken_219 v1 m = (if ((m 41 3) - (m 41 5)) ≤ 2 then m else (F4_fail 1 (m 41 5) m)) := rfl
  refine s_aload_n eX4_takeToken_219 rfl rfl ?_
  refine s_geti eX4_takeToken_220 fX4_39 shp_41 rfl ?_
  refine s_aload_n eX4_takeToken_223 rfl rfl ?_
  refine s_geti eX4_takeToken_224 fX4_77 shp_41 rfl ?_
  refine s_isub eX4_takeToken_227 ?_
  refine s_iconst (v := 2) eX4_takeToken_228 rfl ?_
  refine s_icmp_le eX4_takeToken_229 (fun h1 => ?_) (fun h1 => ?_)
  · skip
    rw [if_pos h1] at E
    rw [E] at hP
    exact s_vret eX4_takeToken_253 rfl ⟨rfl, hP⟩
  · skip
    rw [if_neg h1] at E
    refine s_aload_n eX4_takeToken_232 rfl rfl ?_
    refine s_iconst (v := 1) eX4_takeToken_233 rfl ?_
    refine s_aload_n eX4_takeToken_234 rfl rfl ?_
    refine s_geti eX4_takeToken_235 fX4_77 shp_41 rfl ?_
    refine n_callVv (As := [.int 1, .int (m 41 5)]) eX4_takeToken_238 kX4_fail lX4_69 rfl rfl shp_41 rfl rfl (Nat.le_of_ble_eq_true rfl) (Nat.le_of_ble_eq_true rfl) (Nat.le_of_ble_eq_true rfl) (uX4_fail 1 (m 41 5) m) ?_
    refine s_goto eX4_takeToken_241 ?_
    rw [E] at hP
    exact s_vret eX4_takeToken_253 rfl ⟨rfl, hP⟩
theorem clX4_takeToken_119 {P : Option Value → ax_M → Prop} : ∀ (n : Nat) (v1 : Int32) (m : ax_M), E4_takeToken_119 n v1 m → (ax_N 1 Y4_takeToken 253 [some (.ref 41), some (.int v1)] [] ((L4_takeToken_119 n v1 m)) P) → ax_N 1 Y4_takeToken 119 [some (.ref 41), some (.int v1)] [] m P := by
  intro n
  induction n with
  | zero => intro v1 m hD; exact absurd hD id
  | succ n ih =>
    intro v1 m hD hx
    have E : L4_takeToken_119 (n + 1) v1 m = (if (m 42 1) ≤ (m 41 3) then m else (if (F4_isLetter (F6_byteAt (m 41 3) m) m) = 0 then m else L4_takeToken_119 n v1 (ax_up m 41 3 ((m 41 3) + 1)))) := by rw [L4_takeToken_119]
    have hD : ((¬ ((m 42 1) ≤ (m 41 3)) → ((¬ ((F4_isLetter (F6_byteAt (m 41 3) m) m) = 0) → ((E4_takeToken_119 n v1 (ax_up m 41 3 ((m 41 3) + 1)))))))) := hD
    refine s_aload_n eX4_takeToken_119 rfl rfl ?_
    refine s_geti eX4_takeToken_120 fX4_39 shp_41 rfl ?_
    refine s_aload_n eX4_takeToken_123 rfl rfl ?_
    refine s_getr (q := 42) eX4_takeToken_124 fX4_12 shp_41 rfl ?_
    refine s_geti eX4_takeToken_127 fX4_68 shp_42 rfl ?_
    refine s_icmp_ge eX4_takeToken_130 (fun h1 => ?_) (fun h1 => ?_)
    · skip
      rw [if_pos h1] at E
      rw [E] at hx
      exact hx
    · skip
      rw [if_neg h1] at E
      have hD := hD h1
      refine s_aload_n eX4_takeToken_133 rfl rfl ?_
      refine s_getr (q := 42) eX4_takeToken_134 fX4_12 shp_41 rfl ?_
      refine s_aload_n eX4_takeToken_137 rfl rfl ?_
      refine s_geti eX4_takeToken_138 fX4_39 shp_41 rfl ?_
      refine n_callVi (As := [.int (m 41 3)]) eX4_takeToken_141 kX6_byteAt lX4_73 rfl rfl shp_42 rfl rfl (Nat.le_of_ble_eq_true rfl) (Nat.le_of_ble_eq_true rfl) (Nat.le_of_ble_eq_true rfl) (uX6_byteAt (m 41 3) m) ?_
      refine n_callSi (As := [.int (F6_byteAt (m 41 3) m)]) eX4_takeToken_144 kX4_isLetter lX4_80 rfl rfl (Nat.le_of_ble_eq_true rfl) (Nat.le_of_ble_eq_true rfl) (Nat.le_of_ble_eq_true rfl) (uX4_isLetter (F6_byteAt (m 41 3) m) m) ?_
      refine s_if_eq eX4_takeToken_147 (fun h2 => ?_) (fun h2 => ?_)
      · skip
        rw [if_pos h2] at E
        rw [E] at hx
        exact hx
      · skip
        rw [if_neg h2] at E
        have hD := hD h2
        refine s_aload_n eX4_takeToken_150 rfl rfl ?_
        refine s_dup eX4_takeToken_151 rfl ?_
        refine s_geti eX4_takeToken_152 fX4_39 shp_41 rfl ?_
        refine s_iconst (v := 1) eX4_takeToken_155 rfl ?_
        refine s_iadd eX4_takeToken_156 ?_
        refine s_puti eX4_takeToken_157 fX4_39 pX4_3 rfl rfl shp_41 rfl ?_
        refine s_goto eX4_takeToken_160 ?_
        rw [E] at hx
        exact ih v1 ((ax_up m 41 3 ((m 41 3) + 1))) hD hx
theorem cK4_takeToken_59 (m : ax_M) {P : Option Value → ax_M → Prop} (hD : HK4_takeToken_59  m) (hP : P none (K4_takeToken_59 m)) : ax_N 1 Y4_takeToken 59 [some (.ref 41), none] [] m P := by
  have E : K4_takeToken_59 m = (if 0 ≤ (F6_byteAt (m 41 3) m) then (if (F6_byteAt (m 41 3) m) = 59 then (ax_up (ax_up m 41 4 3) 41 3 (((ax_up m 41 4 3) 41 3) + 1)) else (if (F4_isLetter (F6_byteAt (m 41 3) m) m) = 0 then (if (F4_isFigure (F6_byteAt (m 41 3) m) m) = 0 then (F4_fail 1 (m 41 5) m) else (K4_takeToken_219 (F6_byteAt (m 41 3) m) (L4_takeToken_175 330 (F6_byteAt (m 41 3) m) (ax_up m 41 4 2)))) else (L4_takeToken_119 330 (F6_byteAt (m 41 3) m) (ax_up m 41 4 1)))) else (ax_up m 41 4 4)) := rfl
  unfold HK4_takeToken_59 at hD
  refine s_aload_n eX4_takeToken_59 rfl rfl ?_
  refine s_getr (q := 42) eX4_takeToken_60 fX4_12 shp_41 rfl ?_
  refine s_aload_n eX4_takeToken_63 rfl rfl ?_
  refine s_geti eX4_takeToken_64 fX4_39 shp_41 rfl ?_
  refine n_callVi (As := [.int (m 41 3)]) eX4_takeToken_67 kX6_byteAt lX4_73 rfl rfl shp_42 rfl rfl (Nat.le_of_ble_eq_true rfl) (Nat.le_of_ble_eq_true rfl) (Nat.le_of_ble_eq_true rfl) (uX6_byteAt (m 41 3) m) ?_
  refine s_istore_n (ls' := [some (.ref 41), some (.int (F6_byteAt (m 41 3) m))]) eX4_takeToken_70 rfl rfl rfl ?_
  refine s_iload_n eX4_takeToken_71 rfl rfl ?_
  refine s_if_ge eX4_takeToken_72 (fun h1 => ?_) (fun h1 => ?_)
  · skip
    rw [if_pos h1] at E
    have hD := hD h1
    refine s_iload_n eX4_takeToken_83 rfl rfl ?_
    refine s_bipush (v := 59) eX4_takeToken_84 rfl ?_
    refine s_icmp_ne eX4_takeToken_86 (fun h2 => ?_) (fun h2 => ?_)
    · skip
      rw [if_neg h2] at E
      have hD := hD h2
      refine s_iload_n eX4_takeToken_107 rfl rfl ?_
      refine n_callSi (As := [.int (F6_byteAt (m 41 3) m)]) eX4_takeToken_108 kX4_isLetter lX4_80 rfl rfl (Nat.le_of_ble_eq_true rfl) (Nat.le_of_ble_eq_true rfl) (Nat.le_of_ble_eq_true rfl) (uX4_isLetter (F6_byteAt (m 41 3) m) m) ?_
      refine s_if_eq eX4_takeToken_111 (fun h3 => ?_) (fun h3 => ?_)
      · skip
        rw [if_pos h3] at E
        have hD := hD.1 h3
        refine s_iload_n eX4_takeToken_163 rfl rfl ?_
        refine n_callSi (As := [.int (F6_byteAt (m 41 3) m)]) eX4_takeToken_164 kX4_isFigure lX4_84 rfl rfl (Nat.le_of_ble_eq_true rfl) (Nat.le_of_ble_eq_true rfl) (Nat.le_of_ble_eq_true rfl) (uX4_isFigure (F6_byteAt (m 41 3) m) m) ?_
        refine s_if_eq eX4_takeToken_167 (fun h4 => ?_) (fun h4 => ?_)
        · skip
          rw [if_pos h4] at E
          refine s_aload_n eX4_takeToken_244 rfl rfl ?_
          refine s_iconst (v := 1) eX4_takeToken_245 rfl ?_
          refine s_aload_n eX4_takeToken_246 rfl rfl ?_
          refine s_geti eX4_takeToken_247 fX4_77 shp_41 rfl ?_
          refine n_callVv (As := [.int 1, .int (m 41 5)]) eX4_takeToken_250 kX4_fail lX4_69 rfl rfl shp_41 rfl rfl (Nat.le_of_ble_eq_true rfl) (Nat.le_of_ble_eq_true rfl) (Nat.le_of_ble_eq_true rfl) (uX4_fail 1 (m 41 5) m) ?_
          rw [E] at hP
          exact s_vret eX4_takeToken_253 rfl ⟨rfl, hP⟩
        · skip
          rw [if_neg h4] at E
          have hD := hD h4
          refine s_aload_n eX4_takeToken_170 rfl rfl ?_
          refine s_iconst (v := 2) eX4_takeToken_171 rfl ?_
          refine s_puti eX4_takeToken_172 fX4_58 pX4_4 rfl rfl shp_41 rfl ?_
          have q5 := hD
          refine clX4_takeToken_175 330 (F6_byteAt (m 41 3) m) ((ax_up m 41 4 2)) q5 ?_
          refine cK4_takeToken_219 (F6_byteAt (m 41 3) m) ((L4_takeToken_175 330 (F6_byteAt (m 41 3) m) (ax_up m 41 4 2))) ?_
          rw [E] at hP
          exact hP
      · skip
        rw [if_neg h3] at E
        have hD := hD.2 h3
        refine s_aload_n eX4_takeToken_114 rfl rfl ?_
        refine s_iconst (v := 1) eX4_takeToken_115 rfl ?_
        refine s_puti eX4_takeToken_116 fX4_58 pX4_4 rfl rfl shp_41 rfl ?_
        have q6 := hD
        refine clX4_takeToken_119 330 (F6_byteAt (m 41 3) m) ((ax_up m 41 4 1)) q6 ?_
        rw [E] at hP
        exact s_vret eX4_takeToken_253 rfl ⟨rfl, hP⟩
    · skip
      rw [if_pos h2] at E
      refine s_aload_n eX4_takeToken_89 rfl rfl ?_
      refine s_iconst (v := 3) eX4_takeToken_90 rfl ?_
      refine s_puti eX4_takeToken_91 fX4_58 pX4_4 rfl rfl shp_41 rfl ?_
      refine s_aload_n eX4_takeToken_94 rfl rfl ?_
      refine s_dup eX4_takeToken_95 rfl ?_
      refine s_geti eX4_takeToken_96 fX4_39 shp_41 rfl ?_
      refine s_iconst (v := 1) eX4_takeToken_99 rfl ?_
      refine s_iadd eX4_takeToken_100 ?_
      refine s_puti eX4_takeToken_101 fX4_39 pX4_3 rfl rfl shp_41 rfl ?_
      refine s_goto eX4_takeToken_104 ?_
      rw [E] at hP
      exact s_vret eX4_takeToken_253 rfl ⟨rfl, hP⟩
  · skip
    rw [if_neg h1] at E
    refine s_aload_n eX4_takeToken_75 rfl rfl ?_
    refine s_iconst (v := 4) eX4_takeToken_76 rfl ?_
    refine s_puti eX4_takeToken_77 fX4_58 pX4_4 rfl rfl shp_41 rfl ?_
    refine s_goto eX4_takeToken_80 ?_
    rw [E] at hP
    exact s_vret eX4_takeToken_253 rfl ⟨rfl, hP⟩
theorem uX4_takeToken (m : ax_M) (hD : D4_takeToken m) : ax_NM 1 Y4_takeToken [.ref 41] m (fun r m1 => r = none ∧ m1 = F4_takeToken m) := by
  have E : F4_takeToken m = (if (m 41 6) = 0 then (K4_takeToken_59 (ax_up (L4_takeToken_8 330 m) 41 5 ((L4_takeToken_8 330 m) 41 3))) else m) := rfl
  unfold D4_takeToken at hD
  show ax_N 1 Y4_takeToken 0 [some (.ref 41), none] [] m _
  refine s_aload_n eX4_takeToken_0 rfl rfl ?_
  refine s_geti eX4_takeToken_1 fX4_42 shp_41 rfl ?_
  refine s_if_eq eX4_takeToken_4 (fun h1 => ?_) (fun h1 => ?_)
  · skip
    rw [if_pos h1] at E
    have hD := hD h1
    obtain ⟨q2, hD⟩ := hD
    refine clX4_takeToken_8 330 m q2 ?_
    refine s_aload_n eX4_takeToken_51 rfl rfl ?_
    refine s_aload_n eX4_takeToken_52 rfl rfl ?_
    refine s_geti eX4_takeToken_53 fX4_39 shp_41 rfl ?_
    refine s_puti eX4_takeToken_56 fX4_77 pX4_5 rfl rfl shp_41 rfl ?_
    refine cK4_takeToken_59 ((ax_up (L4_takeToken_8 330 m) 41 5 ((L4_takeToken_8 330 m) 41 3))) hD ?_
    exact ⟨rfl, by rw [E]⟩
  · skip
    rw [if_neg h1] at E
    exact s_vret eX4_takeToken_7 rfl ⟨rfl, rfl, by rw [E]⟩
theorem clX4_isWord_28 (j1 : Nat) (hj1 : j1 < 11) {P : Option Value → ax_M → Prop} : ∀ (n : Nat) (v2 : Int32) (m : ax_M), E4_isWord_28 j1 n v2 m → (∀ r, (L4_isWord_28 j1 n v2 m).1 = some r → P (some (.int r)) m) → ((L4_isWord_28 j1 n v2 m).1 = none → ax_N 5 Y4_isWord 65 [some (.ref 41), some (.ref (1000 + j1)), some (.int ((L4_isWord_28 j1 n v2 m).2))] [] m P) → ax_N 5 Y4_isWord 28 [some (.ref 41), some (.ref (1000 + j1)), some (.int v2)] [] m P := by
  intro n
  induction n with
  | zero => intro v2 m hD; exact absurd hD id
  | succ n ih =>
    intro v2 m hD hr hx
    have E : L4_isWord_28 j1 (n + 1) v2 m = (if (nI (ax_tl.getD j1 0)) ≤ v2 then (none, v2) else (if (F6_byteAt ((m 41 5) + v2) m) = ((ax_tb.getD j1 []).getD (Int32.toNatClampNeg v2) 0) then L4_isWord_28 j1 n (v2 + 1) m else (some 0, v2))) := by rw [L4_isWord_28]
    have hD : ((¬ ((nI (ax_tl.getD j1 0)) ≤ v2) → ((vp_in v2 (ax_tl.getD j1 0)) ∧ (((F6_byteAt ((m 41 5) + v2) m) = ((ax_tb.getD j1 []).getD (Int32.toNatClampNeg v2) 0)) → ((E4_isWord_28 j1 n (v2 + 1) m)))))) := hD
    refine s_iload_n eX4_isWord_28 rfl rfl ?_
    refine s_aload_n eX4_isWord_29 rfl rfl ?_
    refine n_slen eX4_isWord_30 lX4_87 mX4_87 hj1 (Nat.le_of_ble_eq_true rfl) (Nat.le_of_ble_eq_true rfl) ?_
    refine s_icmp_ge eX4_isWord_33 (fun h1 => ?_) (fun h1 => ?_)
    · skip
      rw [if_pos h1] at E
      rw [E] at hx
      exact hx rfl
    · skip
      rw [if_neg h1] at E
      have hD := hD h1
      refine s_aload_n eX4_isWord_36 rfl rfl ?_
      refine s_getr (q := 42) eX4_isWord_37 fX4_12 shp_41 rfl ?_
      refine s_aload_n eX4_isWord_40 rfl rfl ?_
      refine s_geti eX4_isWord_41 fX4_77 shp_41 rfl ?_
      refine s_iload_n eX4_isWord_44 rfl rfl ?_
      refine s_iadd eX4_isWord_45 ?_
      refine n_callVi (As := [.int ((m 41 5) + v2)]) eX4_isWord_46 kX6_byteAt lX4_73 rfl rfl shp_42 rfl rfl (Nat.le_of_ble_eq_true rfl) (Nat.le_of_ble_eq_true rfl) (Nat.le_of_ble_eq_true rfl) (uX6_byteAt ((m 41 5) + v2) m) ?_
      refine s_aload_n eX4_isWord_49 rfl rfl ?_
      refine s_iload_n eX4_isWord_50 rfl rfl ?_
      obtain ⟨q2, hD⟩ := hD
      refine n_schr eX4_isWord_51 lX4_93 mX4_93 hj1 q2 (Nat.le_of_ble_eq_true rfl) (Nat.le_of_ble_eq_true rfl) ?_
      refine s_icmp_eq eX4_isWord_54 (fun h3 => ?_) (fun h3 => ?_)
      · skip
        rw [if_pos h3] at E
        have hD := hD h3
        refine s_iinc (v := v2 + 1) (ls' := [some (.ref 41), some (.ref (1000 + j1)), some (.int (v2 + 1))]) eX4_isWord_59 rfl rfl rfl rfl ?_
        refine s_goto eX4_isWord_62 ?_
        rw [E] at hr hx
        exact ih (v2 + 1) m hD hr hx
      · skip
        rw [if_neg h3] at E
        refine s_iconst (v := 0) eX4_isWord_57 rfl ?_
        rw [E] at hr
        exact s_zret eX4_isWord_58 rfl (by first | exact Or.inl rfl | exact Or.inr rfl | (split <;> simp) | simp) ⟨rfl, hr _ rfl⟩
theorem uX4_isWord (j1 : Nat) (m : ax_M) (hj1 : j1 < 11) (hD : D4_isWord j1 m) : ax_NM 5 Y4_isWord [.ref 41, .ref (1000 + j1)] m (fun r m1 => r = some (.int (F4_isWord j1 m)) ∧ m1 = m) := by
  have E : F4_isWord j1 m = (if (m 41 4) = 1 then (if ((m 41 3) - (m 41 5)) = (nI (ax_tl.getD j1 0)) then (if (L4_isWord_28 j1 64 0 m).1 = none then 1 else (((L4_isWord_28 j1 64 0 m).1).getD 0)) else 0) else 0) := rfl
  unfold D4_isWord at hD
  show ax_N 5 Y4_isWord 0 [some (.ref 41), some (.ref (1000 + j1)), none] [] m _
  refine s_aload_n eX4_isWord_0 rfl rfl ?_
  refine s_geti eX4_isWord_1 fX4_58 shp_41 rfl ?_
  refine s_iconst (v := 1) eX4_isWord_4 rfl ?_
  refine s_icmp_ne eX4_isWord_5 (fun h1 => ?_) (fun h1 => ?_)
  · skip
    rw [if_neg h1] at E
    refine s_iconst (v := 0) eX4_isWord_24 rfl ?_
    exact s_zret eX4_isWord_25 rfl (by first | exact Or.inl rfl | exact Or.inr rfl | (split <;> simp) | simp) ⟨rfl, by rw [E], rfl⟩
  · skip
    rw [if_pos h1] at E
    have hD := hD h1
    refine s_aload_n eX4_isWord_8 rfl rfl ?_
    refine s_geti eX4_isWord_9 fX4_39 shp_41 rfl ?_
    refine s_aload_n eX4_isWord_12 rfl rfl ?_
    refine s_geti eX4_isWord_13 fX4_77 shp_41 rfl ?_
    refine s_isub eX4_isWord_16 ?_
    refine s_aload_n eX4_isWord_17 rfl rfl ?_
    refine n_slen eX4_isWord_18 lX4_87 mX4_87 hj1 (Nat.le_of_ble_eq_true rfl) (Nat.le_of_ble_eq_true rfl) ?_
    refine s_icmp_eq eX4_isWord_21 (fun h2 => ?_) (fun h2 => ?_)
    · skip
      rw [if_pos h2] at E
      have hD := hD h2
      refine s_iconst (v := 0) eX4_isWord_26 rfl ?_
      refine s_istore_n (ls' := [some (.ref 41), some (.ref (1000 + j1)), some (.int 0)]) eX4_isWord_27 rfl rfl rfl ?_
      have q3 := hD
      refine clX4_isWord_28 j1 hj1 64 0 m q3 (fun x4 h5 => ?_) (fun h5 => ?_)
      · skip
        rw [if_neg (by rw [h5]; exact fun hh => by cases hh), h5] at E
        exact ⟨by rw [E]; rfl, rfl⟩
      · skip
        rw [if_pos h5] at E
        refine s_iconst (v := 1) eX4_isWord_65 rfl ?_
        exact s_zret eX4_isWord_66 rfl (by first | exact Or.inl rfl | exact Or.inr rfl | (split <;> simp) | simp) ⟨rfl, by rw [E], rfl⟩
    · skip
      rw [if_neg h2] at E
      refine s_iconst (v := 0) eX4_isWord_24 rfl ?_
      exact s_zret eX4_isWord_25 rfl (by first | exact Or.inl rfl | exact Or.inr rfl | (split <;> simp) | simp) ⟨rfl, by rw [E], rfl⟩
theorem clX4_takeNumber_40 {P : Option Value → ax_M → Prop} : ∀ (n : Nat) (v1 v2 v3 v4 : Int32) (m : ax_M), E4_takeNumber_40 n v1 v2 v3 v4 m → (ax_N 2 Y4_takeNumber 73 [some (.ref 41), some (.int v1), some (.int v2), some (.int ((L4_takeNumber_40 n v1 v2 v3 v4 m).1)), some (.int ((L4_takeNumber_40 n v1 v2 v3 v4 m).2))] [] m P) → ax_N 2 Y4_takeNumber 40 [some (.ref 41), some (.int v1), some (.int v2), some (.int v3), some (.int v4)] [] m P := by
  intro n
  induction n with
  | zero => intro v1 v2 v3 v4 m hD; exact absurd hD id
  | succ n ih =>
    intro v1 v2 v3 v4 m hD hx
    have E : L4_takeNumber_40 (n + 1) v1 v2 v3 v4 m = (if (m 41 3) ≤ v4 then (v3, v4) else L4_takeNumber_40 n v1 v2 (((10 * v3) + (F6_byteAt v4 m)) - 48) (v4 + 1) m) := by rw [L4_takeNumber_40]
    have hD : ((¬ ((m 41 3) ≤ v4) → ((E4_takeNumber_40 n v1 v2 (((10 * v3) + (F6_byteAt v4 m)) - 48) (v4 + 1) m)))) := hD
    refine s_iload eX4_takeNumber_40 rfl ?_
    refine s_aload_n eX4_takeNumber_42 rfl rfl ?_
    refine s_geti eX4_takeNumber_43 fX4_39 shp_41 rfl ?_
    refine s_icmp_ge eX4_takeNumber_46 (fun h1 => ?_) (fun h1 => ?_)
    · skip
      rw [if_pos h1] at E
      rw [E] at hx
      exact hx
    · skip
      rw [if_neg h1] at E
      have hD := hD h1
      refine s_bipush (v := 10) eX4_takeNumber_49 rfl ?_
      refine s_iload_n eX4_takeNumber_51 rfl rfl ?_
      refine s_imul eX4_takeNumber_52 ?_
      refine s_aload_n eX4_takeNumber_53 rfl rfl ?_
      refine s_getr (q := 42) eX4_takeNumber_54 fX4_12 shp_41 rfl ?_
      refine s_iload eX4_takeNumber_57 rfl ?_
      refine n_callVi (As := [.int v4]) eX4_takeNumber_59 kX6_byteAt lX4_73 rfl rfl shp_42 rfl rfl (Nat.le_of_ble_eq_true rfl) (Nat.le_of_ble_eq_true rfl) (Nat.le_of_ble_eq_true rfl) (uX6_byteAt v4 m) ?_
      refine s_iadd eX4_takeNumber_62 ?_
      refine s_bipush (v := 48) eX4_takeNumber_63 rfl ?_
      refine s_isub eX4_takeNumber_65 ?_
      refine s_istore_n (ls' := [some (.ref 41), some (.int v1), some (.int v2), some (.int (((10 * v3) + (F6_byteAt v4 m)) - 48)), some (.int v4)]) eX4_takeNumber_66 rfl rfl rfl ?_
      refine s_iinc (v := v4 + 1) (ls' := [some (.ref 41), some (.int v1), some (.int v2), some (.int (((10 * v3) + (F6_byteAt v4 m)) - 48)), some (.int (v4 + 1))]) eX4_takeNumber_67 rfl rfl rfl rfl ?_
      refine s_goto eX4_takeNumber_70 ?_
      rw [E] at hx
      exact ih v1 v2 (((10 * v3) + (F6_byteAt v4 m)) - 48) (v4 + 1) m hD hx
theorem cK4_takeNumber_91 (v1 v2 v3 v4 : Int32) (m : ax_M) {P : Option Value → ax_M → Prop} (hP : P (some (.int (K4_takeNumber_91 v1 v2 v3 v4 m).1)) (K4_takeNumber_91 v1 v2 v3 v4 m).2) : ax_N 2 Y4_takeNumber 91 [some (.ref 41), some (.int v1), some (.int v2), some (.int v3), some (.int v4)] [] m P := by
  have E : K4_takeNumber_91 v1 v2 v3 v4 m = (v3, m) := rfl
  refine s_iload_n eX4_takeNumber_91 rfl rfl ?_
  rw [E] at hP
  exact s_iret eX4_takeNumber_92 rfl ⟨rfl, hP⟩
theorem uX4_takeNumber (a1 : Int32) (a2 : Int32) (m : ax_M) (hD : D4_takeNumber a1 a2 m) : ax_NM 2 Y4_takeNumber [.ref 41, .int a1, .int a2] m (fun r m1 => r = some (.int (F4_takeNumber a1 a2 m).1) ∧ m1 = (F4_takeNumber a1 a2 m).2) := by
  have E : F4_takeNumber a1 a2 m = (if ((F4_takeToken m) 41 6) = 0 then (if ((F4_takeToken m) 41 4) = 2 then (K4_takeNumber_91 a1 a2 ((L4_takeNumber_40 64 a1 a2 0 ((F4_takeToken m) 41 5) (F4_takeToken m)).1) ((L4_takeNumber_40 64 a1 a2 0 ((F4_takeToken m) 41 5) (F4_takeToken m)).2) (if (F7_within ((L4_takeNumber_40 64 a1 a2 0 ((F4_takeToken m) 41 5) (F4_takeToken m)).1) a1 a2 (F4_takeToken m)) = 0 then (F4_fail 3 ((F4_takeToken m) 41 5) (F4_takeToken m)) else (F4_takeToken m))) else (a1, (F4_fail 2 ((F4_takeToken m) 41 5) (F4_takeToken m)))) else (a1, (F4_takeToken m))) := rfl
  unfold D4_takeNumber at hD
  show ax_N 2 Y4_takeNumber 0 [some (.ref 41), some (.int a1), some (.int a2), none, none] [] m _
  refine s_aload_n eX4_takeNumber_0 rfl rfl ?_
  obtain ⟨q1, hD⟩ := hD
  refine n_callVv (As := []) eX4_takeNumber_1 kX4_takeToken lX4_55 rfl rfl shp_41 rfl rfl (Nat.le_of_ble_eq_true rfl) (Nat.le_of_ble_eq_true rfl) (Nat.le_of_ble_eq_true rfl) (uX4_takeToken m q1) ?_
  refine s_aload_n eX4_takeNumber_4 rfl rfl ?_
  refine s_geti eX4_takeNumber_5 fX4_42 shp_41 rfl ?_
  refine s_if_eq eX4_takeNumber_8 (fun h2 => ?_) (fun h2 => ?_)
  · skip
    rw [if_pos h2] at E
    have hD := hD h2
    refine s_aload_n eX4_takeNumber_13 rfl rfl ?_
    refine s_geti eX4_takeNumber_14 fX4_58 shp_41 rfl ?_
    refine s_iconst (v := 2) eX4_takeNumber_17 rfl ?_
    refine s_icmp_eq eX4_takeNumber_18 (fun h3 => ?_) (fun h3 => ?_)
    · skip
      rw [if_pos h3] at E
      have hD := hD h3
      refine s_iconst (v := 0) eX4_takeNumber_32 rfl ?_
      refine s_istore_n (ls' := [some (.ref 41), some (.int a1), some (.int a2), some (.int 0), none]) eX4_takeNumber_33 rfl rfl rfl ?_
      refine s_aload_n eX4_takeNumber_34 rfl rfl ?_
      refine s_geti eX4_takeNumber_35 fX4_77 shp_41 rfl ?_
      refine s_istore (ls' := [some (.ref 41), some (.int a1), some (.int a2), some (.int 0), some (.int ((F4_takeToken m) 41 5))]) eX4_takeNumber_38 rfl rfl ?_
      have q4 := hD
      refine clX4_takeNumber_40 64 a1 a2 0 ((F4_takeToken m) 41 5) ((F4_takeToken m)) q4 ?_
      refine s_iload_n eX4_takeNumber_73 rfl rfl ?_
      refine s_iload_n eX4_takeNumber_74 rfl rfl ?_
      refine s_iload_n eX4_takeNumber_75 rfl rfl ?_
      refine n_callSi (As := [.int ((L4_takeNumber_40 64 a1 a2 0 ((F4_takeToken m) 41 5) (F4_takeToken m)).1), .int a1, .int a2]) eX4_takeNumber_76 kX7_within lX4_131 rfl rfl (Nat.le_of_ble_eq_true rfl) (Nat.le_of_ble_eq_true rfl) (Nat.le_of_ble_eq_true rfl) (uX7_within ((L4_takeNumber_40 64 a1 a2 0 ((F4_takeToken m) 41 5) (F4_takeToken m)).1) a1 a2 ((F4_takeToken m))) ?_
      have J5 : ax_N 2 Y4_takeNumber 91 [some (.ref 41), some (.int a1), some (.int a2), some (.int ((L4_takeNumber_40 64 a1 a2 0 ((F4_takeToken m) 41 5) (F4_takeToken m)).1)), some (.int ((L4_takeNumber_40 64 a1 a2 0 ((F4_takeToken m) 41 5) (F4_takeToken m)).2))] [] ((if (F7_within ((L4_takeNumber_40 64 a1 a2 0 ((F4_takeToken m) 41 5) (F4_takeToken m)).1) a1 a2 (F4_takeToken m)) = 0 then (F4_fail 3 ((F4_takeToken m) 41 5) (F4_takeToken m)) else (F4_takeToken m))) (fun r m1 => r = some (.int (F4_takeNumber a1 a2 m).1) ∧ m1 = (F4_takeNumber a1 a2 m).2) := by
        refine cK4_takeNumber_91 a1 a2 ((L4_takeNumber_40 64 a1 a2 0 ((F4_takeToken m) 41 5) (F4_takeToken m)).1) ((L4_takeNumber_40 64 a1 a2 0 ((F4_takeToken m) 41 5) (F4_takeToken m)).2) ((if (F7_within ((L4_takeNumber_40 64 a1 a2 0 ((F4_takeToken m) 41 5) (F4_takeToken m)).1) a1 a2 (F4_takeToken m)) = 0 then (F4_fail 3 ((F4_takeToken m) 41 5) (F4_takeToken m)) else (F4_takeToken m))) ?_
        exact ⟨by rw [E], by rw [E]⟩
      refine s_if_ne eX4_takeNumber_79 (fun h6 => ?_) (fun h6 => ?_)
      · skip
        exact ax_eqN rfl rfl (by rw [show ((if (F7_within ((L4_takeNumber_40 64 a1 a2 0 ((F4_takeToken m) 41 5) (F4_takeToken m)).1) a1 a2 (F4_takeToken m)) = 0 then (F4_fail 3 ((F4_takeToken m) 41 5) (F4_takeToken m)) else (F4_takeToken m)) : ax_M) = (F4_takeToken m) by rw [if_neg h6]]) J5
      · skip
        refine s_aload_n eX4_takeNumber_82 rfl rfl ?_
        refine s_iconst (v := 3) eX4_takeNumber_83 rfl ?_
        refine s_aload_n eX4_takeNumber_84 rfl rfl ?_
        refine s_geti eX4_takeNumber_85 fX4_77 shp_41 rfl ?_
        refine n_callVv (As := [.int 3, .int ((F4_takeToken m) 41 5)]) eX4_takeNumber_88 kX4_fail lX4_69 rfl rfl shp_41 rfl rfl (Nat.le_of_ble_eq_true rfl) (Nat.le_of_ble_eq_true rfl) (Nat.le_of_ble_eq_true rfl) (uX4_fail 3 ((F4_takeToken m) 41 5) ((F4_takeToken m))) ?_
        exact ax_eqN rfl rfl (by rw [show ((if (F7_within ((L4_takeNumber_40 64 a1 a2 0 ((F4_takeToken m) 41 5) (F4_takeToken m)).1) a1 a2 (F4_takeToken m)) = 0 then (F4_fail 3 ((F4_takeToken m) 41 5) (F4_takeToken m)) else (F4_takeToken m)) : ax_M) = (F4_fail 3 ((F4_takeToken m) 41 5) (F4_takeToken m)) by rw [if_pos h6]]) J5
    · skip
      rw [if_neg h3] at E
      refine s_aload_n eX4_takeNumber_21 rfl rfl ?_
      refine s_iconst (v := 2) eX4_takeNumber_22 rfl ?_
      refine s_aload_n eX4_takeNumber_23 rfl rfl ?_
      refine s_geti eX4_takeNumber_24 fX4_77 shp_41 rfl ?_
      refine n_callVv (As := [.int 2, .int ((F4_takeToken m) 41 5)]) eX4_takeNumber_27 kX4_fail lX4_69 rfl rfl shp_41 rfl rfl (Nat.le_of_ble_eq_true rfl) (Nat.le_of_ble_eq_true rfl) (Nat.le_of_ble_eq_true rfl) (uX4_fail 2 ((F4_takeToken m) 41 5) ((F4_takeToken m))) ?_
      refine s_iload_n eX4_takeNumber_30 rfl rfl ?_
      exact s_iret eX4_takeNumber_31 rfl ⟨rfl, by rw [E], by rw [E]⟩
  · skip
    rw [if_neg h2] at E
    refine s_iload_n eX4_takeNumber_11 rfl rfl ?_
    exact s_iret eX4_takeNumber_12 rfl ⟨rfl, by rw [E], by rw [E]⟩
theorem uX4_takeSemicolon (m : ax_M) (hD : D4_takeSemicolon m) : ax_NM 2 Y4_takeSemicolon [.ref 41] m (fun r m1 => r = none ∧ m1 = F4_takeSemicolon m) := by
  have E : F4_takeSemicolon m = (if ((F4_takeToken m) 41 6) = 0 then (if ((F4_takeToken m) 41 4) = 3 then (F4_takeToken m) else (F4_fail 2 ((F4_takeToken m) 41 5) (F4_takeToken m))) else (F4_takeToken m)) := rfl
  unfold D4_takeSemicolon at hD
  show ax_N 2 Y4_takeSemicolon 0 [some (.ref 41)] [] m _
  refine s_aload_n eX4_takeSemicolon_0 rfl rfl ?_
  have q1 := hD
  refine n_callVv (As := []) eX4_takeSemicolon_1 kX4_takeToken lX4_55 rfl rfl shp_41 rfl rfl (Nat.le_of_ble_eq_true rfl) (Nat.le_of_ble_eq_true rfl) (Nat.le_of_ble_eq_true rfl) (uX4_takeToken m q1) ?_
  refine s_aload_n eX4_takeSemicolon_4 rfl rfl ?_
  refine s_geti eX4_takeSemicolon_5 fX4_42 shp_41 rfl ?_
  refine s_if_ne eX4_takeSemicolon_8 (fun h2 => ?_) (fun h2 => ?_)
  · skip
    rw [if_neg h2] at E
    exact s_vret eX4_takeSemicolon_28 rfl ⟨rfl, rfl, by rw [E]⟩
  · skip
    rw [if_pos h2] at E
    refine s_aload_n eX4_takeSemicolon_11 rfl rfl ?_
    refine s_geti eX4_takeSemicolon_12 fX4_58 shp_41 rfl ?_
    refine s_iconst (v := 3) eX4_takeSemicolon_15 rfl ?_
    refine s_icmp_eq eX4_takeSemicolon_16 (fun h3 => ?_) (fun h3 => ?_)
    · skip
      rw [if_pos h3] at E
      exact s_vret eX4_takeSemicolon_28 rfl ⟨rfl, rfl, by rw [E]⟩
    · skip
      rw [if_neg h3] at E
      refine s_aload_n eX4_takeSemicolon_19 rfl rfl ?_
      refine s_iconst (v := 2) eX4_takeSemicolon_20 rfl ?_
      refine s_aload_n eX4_takeSemicolon_21 rfl rfl ?_
      refine s_geti eX4_takeSemicolon_22 fX4_77 shp_41 rfl ?_
      refine n_callVv (As := [.int 2, .int ((F4_takeToken m) 41 5)]) eX4_takeSemicolon_25 kX4_fail lX4_69 rfl rfl shp_41 rfl rfl (Nat.le_of_ble_eq_true rfl) (Nat.le_of_ble_eq_true rfl) (Nat.le_of_ble_eq_true rfl) (uX4_fail 2 ((F4_takeToken m) 41 5) ((F4_takeToken m))) ?_
      exact s_vret eX4_takeSemicolon_28 rfl ⟨rfl, rfl, by rw [E]⟩
theorem cK4_takeBanks_22 (w0 : Int32) (m : ax_M) {P : Option Value → ax_M → Prop} (hD : HK4_takeBanks_22 w0 m) (hP : P none (K4_takeBanks_22 w0 m)) : ax_N 3 Y4_takeBanks 22 [some (.ref 41), none] [.int w0] m P := by
  have E : K4_takeBanks_22 w0 m = (if ((F4_takeSemicolon m) 41 6) = 0 then (ax_up (ax_up (F4_takeSemicolon m) 44 0 w0) 41 8 1) else (F4_takeSemicolon m)) := rfl
  unfold HK4_takeBanks_22 at hD
  refine s_istore_n (ls' := [some (.ref 41), some (.int w0)]) eX4_takeBanks_22 rfl rfl rfl ?_
  refine s_aload_n eX4_takeBanks_23 rfl rfl ?_
  have q1 := hD
  refine n_callVv (As := []) eX4_takeBanks_24 kX4_takeSemicolon lX4_149 rfl rfl shp_41 rfl rfl (Nat.le_of_ble_eq_true rfl) (Nat.le_of_ble_eq_true rfl) (Nat.le_of_ble_eq_true rfl) (uX4_takeSemicolon m q1) ?_
  refine s_aload_n eX4_takeBanks_27 rfl rfl ?_
  refine s_geti eX4_takeBanks_28 fX4_42 shp_41 rfl ?_
  refine s_if_eq eX4_takeBanks_31 (fun h2 => ?_) (fun h2 => ?_)
  · skip
    rw [if_pos h2] at E
    refine s_aload_n eX4_takeBanks_35 rfl rfl ?_
    refine s_getr (q := 44) eX4_takeBanks_36 fX4_21 shp_41 rfl ?_
    refine s_iload_n eX4_takeBanks_39 rfl rfl ?_
    refine s_puti eX4_takeBanks_40 fX4_152 pX1_0 rfl rfl shp_44 rfl ?_
    refine s_aload_n eX4_takeBanks_43 rfl rfl ?_
    refine s_iconst (v := 1) eX4_takeBanks_44 rfl ?_
    refine s_puti eX4_takeBanks_45 fX4_48 pX4_8 rfl rfl shp_41 rfl ?_
    rw [E] at hP
    exact s_vret eX4_takeBanks_48 rfl ⟨rfl, hP⟩
  · skip
    rw [if_neg h2] at E
    rw [E] at hP
    exact s_vret eX4_takeBanks_34 rfl ⟨rfl, hP⟩
theorem uX4_takeBanks (m : ax_M) (hD : D4_takeBanks m) : ax_NM 3 Y4_takeBanks [.ref 41] m (fun r m1 => r = none ∧ m1 = F4_takeBanks m) := by
  have E : F4_takeBanks m = (K4_takeBanks_22 ((F4_takeNumber 2 4 (if (m 41 8) = 0 then m else (F4_fail 4 (m 41 5) m))).1) (F4_takeNumber 2 4 (if (m 41 8) = 0 then m else (F4_fail 4 (m 41 5) m))).2) := rfl
  unfold D4_takeBanks at hD
  show ax_N 3 Y4_takeBanks 0 [some (.ref 41), none] [] m _
  refine s_aload_n eX4_takeBanks_0 rfl rfl ?_
  refine s_geti eX4_takeBanks_1 fX4_48 shp_41 rfl ?_
  have J1 : ax_N 3 Y4_takeBanks 16 [some (.ref 41), none] [] ((if (m 41 8) = 0 then m else (F4_fail 4 (m 41 5) m))) (fun r m1 => r = none ∧ m1 = F4_takeBanks m) := by
    refine s_aload_n eX4_takeBanks_16 rfl rfl ?_
    refine s_iconst (v := 2) eX4_takeBanks_17 rfl ?_
    refine s_iconst (v := 4) eX4_takeBanks_18 rfl ?_
    obtain ⟨q2, hD⟩ := hD
    refine n_callVi (As := [.int 2, .int 4]) eX4_takeBanks_19 kX4_takeNumber lX4_135 rfl rfl shp_41 rfl rfl (Nat.le_of_ble_eq_true rfl) (Nat.le_of_ble_eq_true rfl) (Nat.le_of_ble_eq_true rfl) (uX4_takeNumber 2 4 ((if (m 41 8) = 0 then m else (F4_fail 4 (m 41 5) m))) q2) ?_
    refine cK4_takeBanks_22 ((F4_takeNumber 2 4 (if (m 41 8) = 0 then m else (F4_fail 4 (m 41 5) m))).1) ((F4_takeNumber 2 4 (if (m 41 8) = 0 then m else (F4_fail 4 (m 41 5) m))).2) hD ?_
    exact ⟨rfl, by rw [E]⟩
  refine s_if_eq eX4_takeBanks_4 (fun h3 => ?_) (fun h3 => ?_)
  · skip
    exact ax_eqN rfl rfl (by rw [show ((if (m 41 8) = 0 then m else (F4_fail 4 (m 41 5) m)) : ax_M) = m by rw [if_pos h3]]) J1
  · skip
    refine s_aload_n eX4_takeBanks_7 rfl rfl ?_
    refine s_iconst (v := 4) eX4_takeBanks_8 rfl ?_
    refine s_aload_n eX4_takeBanks_9 rfl rfl ?_
    refine s_geti eX4_takeBanks_10 fX4_77 shp_41 rfl ?_
    refine n_callVv (As := [.int 4, .int (m 41 5)]) eX4_takeBanks_13 kX4_fail lX4_69 rfl rfl shp_41 rfl rfl (Nat.le_of_ble_eq_true rfl) (Nat.le_of_ble_eq_true rfl) (Nat.le_of_ble_eq_true rfl) (uX4_fail 4 (m 41 5) m) ?_
    exact ax_eqN rfl rfl (by rw [show ((if (m 41 8) = 0 then m else (F4_fail 4 (m 41 5) m)) : ax_M) = (F4_fail 4 (m 41 5) m) by rw [if_neg h3]]) J1
theorem cK4_takeStone_23 (w0 : Int32) (m : ax_M) {P : Option Value → ax_M → Prop} (hD : HK4_takeStone_23 w0 m) (hP : P none (K4_takeStone_23 w0 m)) : ax_N 3 Y4_takeStone 23 [some (.ref 41), none] [.int w0] m P := by
  have E : K4_takeStone_23 w0 m = (if ((F4_takeSemicolon m) 41 6) = 0 then (ax_up (ax_up (F4_takeSemicolon m) 44 3 w0) 41 9 1) else (F4_takeSemicolon m)) := rfl
  unfold HK4_takeStone_23 at hD
  refine s_istore_n (ls' := [some (.ref 41), some (.int w0)]) eX4_takeStone_23 rfl rfl rfl ?_
  refine s_aload_n eX4_takeStone_24 rfl rfl ?_
  have q1 := hD
  refine n_callVv (As := []) eX4_takeStone_25 kX4_takeSemicolon lX4_149 rfl rfl shp_41 rfl rfl (Nat.le_of_ble_eq_true rfl) (Nat.le_of_ble_eq_true rfl) (Nat.le_of_ble_eq_true rfl) (uX4_takeSemicolon m q1) ?_
  refine s_aload_n eX4_takeStone_28 rfl rfl ?_
  refine s_geti eX4_takeStone_29 fX4_42 shp_41 rfl ?_
  refine s_if_eq eX4_takeStone_32 (fun h2 => ?_) (fun h2 => ?_)
  · skip
    rw [if_pos h2] at E
    refine s_aload_n eX4_takeStone_36 rfl rfl ?_
    refine s_getr (q := 44) eX4_takeStone_37 fX4_21 shp_41 rfl ?_
    refine s_iload_n eX4_takeStone_40 rfl rfl ?_
    refine s_puti eX4_takeStone_41 fX4_154 pX1_3 rfl rfl shp_44 rfl ?_
    refine s_aload_n eX4_takeStone_44 rfl rfl ?_
    refine s_iconst (v := 1) eX4_takeStone_45 rfl ?_
    refine s_puti eX4_takeStone_46 fX4_52 pX4_9 rfl rfl shp_41 rfl ?_
    rw [E] at hP
    exact s_vret eX4_takeStone_49 rfl ⟨rfl, hP⟩
  · skip
    rw [if_neg h2] at E
    rw [E] at hP
    exact s_vret eX4_takeStone_35 rfl ⟨rfl, hP⟩
theorem uX4_takeStone (m : ax_M) (hD : D4_takeStone m) : ax_NM 3 Y4_takeStone [.ref 41] m (fun r m1 => r = none ∧ m1 = F4_takeStone m) := by
  have E : F4_takeStone m = (K4_takeStone_23 ((F4_takeNumber 1 9 (if (m 41 9) = 0 then m else (F4_fail 4 (m 41 5) m))).1) (F4_takeNumber 1 9 (if (m 41 9) = 0 then m else (F4_fail 4 (m 41 5) m))).2) := rfl
  unfold D4_takeStone at hD
  show ax_N 3 Y4_takeStone 0 [some (.ref 41), none] [] m _
  refine s_aload_n eX4_takeStone_0 rfl rfl ?_
  refine s_geti eX4_takeStone_1 fX4_52 shp_41 rfl ?_
  have J1 : ax_N 3 Y4_takeStone 16 [some (.ref 41), none] [] ((if (m 41 9) = 0 then m else (F4_fail 4 (m 41 5) m))) (fun r m1 => r = none ∧ m1 = F4_takeStone m) := by
    refine s_aload_n eX4_takeStone_16 rfl rfl ?_
    refine s_iconst (v := 1) eX4_takeStone_17 rfl ?_
    refine s_bipush (v := 9) eX4_takeStone_18 rfl ?_
    obtain ⟨q2, hD⟩ := hD
    refine n_callVi (As := [.int 1, .int 9]) eX4_takeStone_20 kX4_takeNumber lX4_135 rfl rfl shp_41 rfl rfl (Nat.le_of_ble_eq_true rfl) (Nat.le_of_ble_eq_true rfl) (Nat.le_of_ble_eq_true rfl) (uX4_takeNumber 1 9 ((if (m 41 9) = 0 then m else (F4_fail 4 (m 41 5) m))) q2) ?_
    refine cK4_takeStone_23 ((F4_takeNumber 1 9 (if (m 41 9) = 0 then m else (F4_fail 4 (m 41 5) m))).1) ((F4_takeNumber 1 9 (if (m 41 9) = 0 then m else (F4_fail 4 (m 41 5) m))).2) hD ?_
    exact ⟨rfl, by rw [E]⟩
  refine s_if_eq eX4_takeStone_4 (fun h3 => ?_) (fun h3 => ?_)
  · skip
    exact ax_eqN rfl rfl (by rw [show ((if (m 41 9) = 0 then m else (F4_fail 4 (m 41 5) m)) : ax_M) = m by rw [if_pos h3]]) J1
  · skip
    refine s_aload_n eX4_takeStone_7 rfl rfl ?_
    refine s_iconst (v := 4) eX4_takeStone_8 rfl ?_
    refine s_aload_n eX4_takeStone_9 rfl rfl ?_
    refine s_geti eX4_takeStone_10 fX4_77 shp_41 rfl ?_
    refine n_callVv (As := [.int 4, .int (m 41 5)]) eX4_takeStone_13 kX4_fail lX4_69 rfl rfl shp_41 rfl rfl (Nat.le_of_ble_eq_true rfl) (Nat.le_of_ble_eq_true rfl) (Nat.le_of_ble_eq_true rfl) (uX4_fail 4 (m 41 5) m) ?_
    exact ax_eqN rfl rfl (by rw [show ((if (m 41 9) = 0 then m else (F4_fail 4 (m 41 5) m)) : ax_M) = (F4_fail 4 (m 41 5) m) by rw [if_neg h3]]) J1
theorem cK4_takeHeap_27 (v1 : Int32) (m : ax_M) {P : Option Value → ax_M → Prop} (hD : HK4_takeHeap_27 v1 m) (hP : P none (K4_takeHeap_27 v1 m)) : ax_N 3 Y4_takeHeap 27 [some (.ref 41), some (.int v1), none] [] m P := by
  have E : K4_takeHeap_27 v1 m = (if ((F4_takeSemicolon (F4_takeNumber 1 20 m).2) 41 6) = 0 then (F1_setStones 44 v1 ((F4_takeNumber 1 20 m).1) (F4_takeSemicolon (F4_takeNumber 1 20 m).2)) else (F4_takeSemicolon (F4_takeNumber 1 20 m).2)) := rfl
  unfold HK4_takeHeap_27 at hD
  refine s_aload_n eX4_takeHeap_27 rfl rfl ?_
  refine s_iconst (v := 1) eX4_takeHeap_28 rfl ?_
  refine s_bipush (v := 20) eX4_takeHeap_29 rfl ?_
  obtain ⟨q1, hD⟩ := hD
  refine n_callVi (As := [.int 1, .int 20]) eX4_takeHeap_31 kX4_takeNumber lX4_135 rfl rfl shp_41 rfl rfl (Nat.le_of_ble_eq_true rfl) (Nat.le_of_ble_eq_true rfl) (Nat.le_of_ble_eq_true rfl) (uX4_takeNumber 1 20 m q1) ?_
  refine s_istore_n (ls' := [some (.ref 41), some (.int v1), some (.int ((F4_takeNumber 1 20 m).1))]) eX4_takeHeap_34 rfl rfl rfl ?_
  refine s_aload_n eX4_takeHeap_35 rfl rfl ?_
  have q2 := hD
  refine n_callVv (As := []) eX4_takeHeap_36 kX4_takeSemicolon lX4_149 rfl rfl shp_41 rfl rfl (Nat.le_of_ble_eq_true rfl) (Nat.le_of_ble_eq_true rfl) (Nat.le_of_ble_eq_true rfl) (uX4_takeSemicolon ((F4_takeNumber 1 20 m).2) q2) ?_
  refine s_aload_n eX4_takeHeap_39 rfl rfl ?_
  refine s_geti eX4_takeHeap_40 fX4_42 shp_41 rfl ?_
  refine s_if_ne eX4_takeHeap_43 (fun h3 => ?_) (fun h3 => ?_)
  · skip
    rw [if_neg h3] at E
    rw [E] at hP
    exact s_vret eX4_takeHeap_55 rfl ⟨rfl, hP⟩
  · skip
    rw [if_pos h3] at E
    refine s_aload_n eX4_takeHeap_46 rfl rfl ?_
    refine s_getr (q := 44) eX4_takeHeap_47 fX4_21 shp_41 rfl ?_
    refine s_iload_n eX4_takeHeap_50 rfl rfl ?_
    refine s_iload_n eX4_takeHeap_51 rfl rfl ?_
    refine n_callVv (As := [.int v1, .int ((F4_takeNumber 1 20 m).1)]) eX4_takeHeap_52 kX1_setStones lX4_160 rfl rfl shp_44 rfl rfl (Nat.le_of_ble_eq_true rfl) (Nat.le_of_ble_eq_true rfl) (Nat.le_of_ble_eq_true rfl) (uX1_setStones 44 v1 ((F4_takeNumber 1 20 m).1) ((F4_takeSemicolon (F4_takeNumber 1 20 m).2)) isG_44) ?_
    rw [E] at hP
    exact s_vret eX4_takeHeap_55 rfl ⟨rfl, hP⟩
theorem uX4_takeHeap (m : ax_M) (hD : D4_takeHeap m) : ax_NM 3 Y4_takeHeap [.ref 41] m (fun r m1 => r = none ∧ m1 = F4_takeHeap m) := by
  have E : F4_takeHeap m = (K4_takeHeap_27 ((F4_takeNumber 0 3 m).1) (if (F1_stonesOn 44 ((F4_takeNumber 0 3 m).1) (F4_takeNumber 0 3 m).2) ≤ 0 then (F4_takeNumber 0 3 m).2 else (F4_fail 4 ((F4_takeNumber 0 3 m).2 41 5) (F4_takeNumber 0 3 m).2))) := rfl
  unfold D4_takeHeap at hD
  show ax_N 3 Y4_takeHeap 0 [some (.ref 41), none, none] [] m _
  refine s_aload_n eX4_takeHeap_0 rfl rfl ?_
  refine s_iconst (v := 0) eX4_takeHeap_1 rfl ?_
  refine s_iconst (v := 3) eX4_takeHeap_2 rfl ?_
  obtain ⟨q1, hD⟩ := hD
  refine n_callVi (As := [.int 0, .int 3]) eX4_takeHeap_3 kX4_takeNumber lX4_135 rfl rfl shp_41 rfl rfl (Nat.le_of_ble_eq_true rfl) (Nat.le_of_ble_eq_true rfl) (Nat.le_of_ble_eq_true rfl) (uX4_takeNumber 0 3 m q1) ?_
  refine s_istore_n (ls' := [some (.ref 41), some (.int ((F4_takeNumber 0 3 m).1)), none]) eX4_takeHeap_6 rfl rfl rfl ?_
  refine s_aload_n eX4_takeHeap_7 rfl rfl ?_
  refine s_getr (q := 44) eX4_takeHeap_8 fX4_21 shp_41 rfl ?_
  refine s_iload_n eX4_takeHeap_11 rfl rfl ?_
  refine n_callVi (As := [.int ((F4_takeNumber 0 3 m).1)]) eX4_takeHeap_12 kX1_stonesOn lX4_157 rfl rfl shp_44 rfl rfl (Nat.le_of_ble_eq_true rfl) (Nat.le_of_ble_eq_true rfl) (Nat.le_of_ble_eq_true rfl) (uX1_stonesOn 44 ((F4_takeNumber 0 3 m).1) ((F4_takeNumber 0 3 m).2) isG_44) ?_
  have J2 : ax_N 3 Y4_takeHeap 27 [some (.ref 41), some (.int ((F4_takeNumber 0 3 m).1)), none] [] ((if (F1_stonesOn 44 ((F4_takeNumber 0 3 m).1) (F4_takeNumber 0 3 m).2) ≤ 0 then (F4_takeNumber 0 3 m).2 else (F4_fail 4 ((F4_takeNumber 0 3 m).2 41 5) (F4_takeNumber 0 3 m).2))) (fun r m1 => r = none ∧ m1 = F4_takeHeap m) := by
    refine cK4_takeHeap_27 ((F4_takeNumber 0 3 m).1) ((if (F1_stonesOn 44 ((F4_takeNumber 0 3 m).1) (F4_takeNumber 0 3 m).2) ≤ 0 then (F4_takeNumber 0 3 m).2 else (F4_fail 4 ((F4_takeNumber 0 3 m).2 41 5) (F4_takeNumber 0 3 m).2))) hD ?_
    exact ⟨rfl, by rw [E]⟩
  refine s_if_le eX4_takeHeap_15 (fun h3 => ?_) (fun h3 => ?_)
  · skip
    exact ax_eqN rfl rfl (by rw [show ((if (F1_stonesOn 44 ((F4_takeNumber 0 3 m).1) (F4_takeNumber 0 3 m).2) ≤ 0 then (F4_takeNumber 0 3 m).2 else (F4_fail 4 ((F4_takeNumber 0 3 m).2 41 5) (F4_takeNumber 0 3 m).2)) : ax_M) = (F4_takeNumber 0 3 m).2 by rw [if_pos h3]]) J2
  · skip
    refine s_aload_n eX4_takeHeap_18 rfl rfl ?_
    refine s_iconst (v := 4) eX4_takeHeap_19 rfl ?_
    refine s_aload_n eX4_takeHeap_20 rfl rfl ?_
    refine s_geti eX4_takeHeap_21 fX4_77 shp_41 rfl ?_
    refine n_callVv (As := [.int 4, .int ((F4_takeNumber 0 3 m).2 41 5)]) eX4_takeHeap_24 kX4_fail lX4_69 rfl rfl shp_41 rfl rfl (Nat.le_of_ble_eq_true rfl) (Nat.le_of_ble_eq_true rfl) (Nat.le_of_ble_eq_true rfl) (uX4_fail 4 ((F4_takeNumber 0 3 m).2 41 5) ((F4_takeNumber 0 3 m).2)) ?_
    exact ax_eqN rfl rfl (by rw [show ((if (F1_stonesOn 44 ((F4_takeNumber 0 3 m).1) (F4_takeNumber 0 3 m).2) ≤ 0 then (F4_takeNumber 0 3 m).2 else (F4_fail 4 ((F4_takeNumber 0 3 m).2 41 5) (F4_takeNumber 0 3 m).2)) : ax_M) = (F4_fail 4 ((F4_takeNumber 0 3 m).2 41 5) (F4_takeNumber 0 3 m).2) by rw [if_neg h3]]) J2
theorem cK4_takeOtherThan_21 (v1 v2 v3 : Int32) (m : ax_M) {P : Option Value → ax_M → Prop} (hP : P (some (.int (K4_takeOtherThan_21 v1 v2 v3 m).1)) (K4_takeOtherThan_21 v1 v2 v3 m).2) : ax_N 3 Y4_takeOtherThan 21 [some (.ref 41), some (.int v1), some (.int v2), some (.int v3)] [] m P := by
  have E : K4_takeOtherThan_21 v1 v2 v3 m = (v3, m) := rfl
  refine s_iload_n eX4_takeOtherThan_21 rfl rfl ?_
  rw [E] at hP
  exact s_iret eX4_takeOtherThan_22 rfl ⟨rfl, hP⟩
theorem uX4_takeOtherThan (a1 : Int32) (a2 : Int32) (m : ax_M) (hD : D4_takeOtherThan a1 a2 m) : ax_NM 3 Y4_takeOtherThan [.ref 41, .int a1, .int a2] m (fun r m1 => r = some (.int (F4_takeOtherThan a1 a2 m).1) ∧ m1 = (F4_takeOtherThan a1 a2 m).2) := by
  have E : F4_takeOtherThan a1 a2 m = (K4_takeOtherThan_21 a1 a2 ((F4_takeNumber 0 a2 m).1) (if ((F4_takeNumber 0 a2 m).1) = a1 then (F4_fail 4 ((F4_takeNumber 0 a2 m).2 41 5) (F4_takeNumber 0 a2 m).2) else (F4_takeNumber 0 a2 m).2)) := rfl
  unfold D4_takeOtherThan at hD
  show ax_N 3 Y4_takeOtherThan 0 [some (.ref 41), some (.int a1), some (.int a2), none] [] m _
  refine s_aload_n eX4_takeOtherThan_0 rfl rfl ?_
  refine s_iconst (v := 0) eX4_takeOtherThan_1 rfl ?_
  refine s_iload_n eX4_takeOtherThan_2 rfl rfl ?_
  have q1 := hD
  refine n_callVi (As := [.int 0, .int a2]) eX4_takeOtherThan_3 kX4_takeNumber lX4_135 rfl rfl shp_41 rfl rfl (Nat.le_of_ble_eq_true rfl) (Nat.le_of_ble_eq_true rfl) (Nat.le_of_ble_eq_true rfl) (uX4_takeNumber 0 a2 m q1) ?_
  refine s_istore_n (ls' := [some (.ref 41), some (.int a1), some (.int a2), some (.int ((F4_takeNumber 0 a2 m).1))]) eX4_takeOtherThan_6 rfl rfl rfl ?_
  refine s_iload_n eX4_takeOtherThan_7 rfl rfl ?_
  refine s_iload_n eX4_takeOtherThan_8 rfl rfl ?_
  have J2 : ax_N 3 Y4_takeOtherThan 21 [some (.ref 41), some (.int a1), some (.int a2), some (.int ((F4_takeNumber 0 a2 m).1))] [] ((if ((F4_takeNumber 0 a2 m).1) = a1 then (F4_fail 4 ((F4_takeNumber 0 a2 m).2 41 5) (F4_takeNumber 0 a2 m).2) else (F4_takeNumber 0 a2 m).2)) (fun r m1 => r = some (.int (F4_takeOtherThan a1 a2 m).1) ∧ m1 = (F4_takeOtherThan a1 a2 m).2) := by
    refine cK4_takeOtherThan_21 a1 a2 ((F4_takeNumber 0 a2 m).1) ((if ((F4_takeNumber 0 a2 m).1) = a1 then (F4_fail 4 ((F4_takeNumber 0 a2 m).2 41 5) (F4_takeNumber 0 a2 m).2) else (F4_takeNumber 0 a2 m).2)) ?_
    exact ⟨by rw [E], by rw [E]⟩
  refine s_icmp_ne eX4_takeOtherThan_9 (fun h3 => ?_) (fun h3 => ?_)
  · skip
    exact ax_eqN rfl rfl (by rw [show ((if ((F4_takeNumber 0 a2 m).1) = a1 then (F4_fail 4 ((F4_takeNumber 0 a2 m).2 41 5) (F4_takeNumber 0 a2 m).2) else (F4_takeNumber 0 a2 m).2) : ax_M) = (F4_takeNumber 0 a2 m).2 by rw [if_neg h3]]) J2
  · skip
    refine s_aload_n eX4_takeOtherThan_12 rfl rfl ?_
    refine s_iconst (v := 4) eX4_takeOtherThan_13 rfl ?_
    refine s_aload_n eX4_takeOtherThan_14 rfl rfl ?_
    refine s_geti eX4_takeOtherThan_15 fX4_77 shp_41 rfl ?_
    refine n_callVv (As := [.int 4, .int ((F4_takeNumber 0 a2 m).2 41 5)]) eX4_takeOtherThan_18 kX4_fail lX4_69 rfl rfl shp_41 rfl rfl (Nat.le_of_ble_eq_true rfl) (Nat.le_of_ble_eq_true rfl) (Nat.le_of_ble_eq_true rfl) (uX4_fail 4 ((F4_takeNumber 0 a2 m).2 41 5) ((F4_takeNumber 0 a2 m).2)) ?_
    exact ax_eqN rfl rfl (by rw [show ((if ((F4_takeNumber 0 a2 m).1) = a1 then (F4_fail 4 ((F4_takeNumber 0 a2 m).2 41 5) (F4_takeNumber 0 a2 m).2) else (F4_takeNumber 0 a2 m).2) : ax_M) = (F4_fail 4 ((F4_takeNumber 0 a2 m).2 41 5) (F4_takeNumber 0 a2 m).2) by rw [if_pos h3]]) J2
theorem cK4_takeBridge_46 (v1 v2 v3 : Int32) (m : ax_M) {P : Option Value → ax_M → Prop} (hP : P none (K4_takeBridge_46 v1 v2 v3 m)) : ax_N 4 Y4_takeBridge 46 [some (.ref 41), some (.int v1), some (.int v2), some (.int v3)] [] m P := by
  have E : K4_takeBridge_46 v1 v2 v3 m = (if (m 41 6) = 0 then (F1_addBridge 44 v1 v2 v3 m) else m) := rfl
  refine s_aload_n eX4_takeBridge_46 rfl rfl ?_
  refine s_geti eX4_takeBridge_47 fX4_42 shp_41 rfl ?_
  refine s_if_ne eX4_takeBridge_50 (fun h1 => ?_) (fun h1 => ?_)
  · skip
    rw [if_neg h1] at E
    rw [E] at hP
    exact s_vret eX4_takeBridge_63 rfl ⟨rfl, hP⟩
  · skip
    rw [if_pos h1] at E
    refine s_aload_n eX4_takeBridge_53 rfl rfl ?_
    refine s_getr (q := 44) eX4_takeBridge_54 fX4_21 shp_41 rfl ?_
    refine s_iload_n eX4_takeBridge_57 rfl rfl ?_
    refine s_iload_n eX4_takeBridge_58 rfl rfl ?_
    refine s_iload_n eX4_takeBridge_59 rfl rfl ?_
    refine n_callVv (As := [.int v1, .int v2, .int v3]) eX4_takeBridge_60 kX1_addBridge lX4_169 rfl rfl shp_44 rfl rfl (Nat.le_of_ble_eq_true rfl) (Nat.le_of_ble_eq_true rfl) (Nat.le_of_ble_eq_true rfl) (uX1_addBridge 44 v1 v2 v3 m isG_44) ?_
    rw [E] at hP
    exact s_vret eX4_takeBridge_63 rfl ⟨rfl, hP⟩
theorem cK4_takeBridge_26 (w0 : Int32) (m : ax_M) {P : Option Value → ax_M → Prop} (hD : HK4_takeBridge_26 w0 m) (hP : P none (K4_takeBridge_26 w0 m)) : ax_N 4 Y4_takeBridge 26 [some (.ref 41), none, none, none] [.int w0] m P := by
  have E : K4_takeBridge_26 w0 m = (K4_takeBridge_46 w0 ((F4_takeOtherThan w0 3 m).1) ((F4_takeNumber 0 20 (F4_takeOtherThan w0 3 m).2).1) (F4_takeSemicolon (F4_takeNumber 0 20 (F4_takeOtherThan w0 3 m).2).2)) := rfl
  unfold HK4_takeBridge_26 at hD
  refine s_istore_n (ls' := [some (.ref 41), some (.int w0), none, none]) eX4_takeBridge_26 rfl rfl rfl ?_
  refine s_aload_n eX4_takeBridge_27 rfl rfl ?_
  refine s_iload_n eX4_takeBridge_28 rfl rfl ?_
  refine s_iconst (v := 3) eX4_takeBridge_29 rfl ?_
  obtain ⟨q1, hD⟩ := hD
  refine n_callVi (As := [.int w0, .int 3]) eX4_takeBridge_30 kX4_takeOtherThan lX4_166 rfl rfl shp_41 rfl rfl (Nat.le_of_ble_eq_true rfl) (Nat.le_of_ble_eq_true rfl) (Nat.le_of_ble_eq_true rfl) (uX4_takeOtherThan w0 3 m q1) ?_
  refine s_istore_n (ls' := [some (.ref 41), some (.int w0), some (.int ((F4_takeOtherThan w0 3 m).1)), none]) eX4_takeBridge_33 rfl rfl rfl ?_
  refine s_aload_n eX4_takeBridge_34 rfl rfl ?_
  refine s_iconst (v := 0) eX4_takeBridge_35 rfl ?_
  refine s_bipush (v := 20) eX4_takeBridge_36 rfl ?_
  obtain ⟨q2, hD⟩ := hD
  refine n_callVi (As := [.int 0, .int 20]) eX4_takeBridge_38 kX4_takeNumber lX4_135 rfl rfl shp_41 rfl rfl (Nat.le_of_ble_eq_true rfl) (Nat.le_of_ble_eq_true rfl) (Nat.le_of_ble_eq_true rfl) (uX4_takeNumber 0 20 ((F4_takeOtherThan w0 3 m).2) q2) ?_
  refine s_istore_n (ls' := [some (.ref 41), some (.int w0), some (.int ((F4_takeOtherThan w0 3 m).1)), some (.int ((F4_takeNumber 0 20 (F4_takeOtherThan w0 3 m).2).1))]) eX4_takeBridge_41 rfl rfl rfl ?_
  refine s_aload_n eX4_takeBridge_42 rfl rfl ?_
  have q3 := hD
  refine n_callVv (As := []) eX4_takeBridge_43 kX4_takeSemicolon lX4_149 rfl rfl shp_41 rfl rfl (Nat.le_of_ble_eq_true rfl) (Nat.le_of_ble_eq_true rfl) (Nat.le_of_ble_eq_true rfl) (uX4_takeSemicolon ((F4_takeNumber 0 20 (F4_takeOtherThan w0 3 m).2).2) q3) ?_
  refine cK4_takeBridge_46 w0 ((F4_takeOtherThan w0 3 m).1) ((F4_takeNumber 0 20 (F4_takeOtherThan w0 3 m).2).1) ((F4_takeSemicolon (F4_takeNumber 0 20 (F4_takeOtherThan w0 3 m).2).2)) ?_
  rw [E] at hP
  exact hP
theorem uX4_takeBridge (m : ax_M) (hD : D4_takeBridge m) : ax_NM 4 Y4_takeBridge [.ref 41] m (fun r m1 => r = none ∧ m1 = F4_takeBridge m) := by
  have E : F4_takeBridge m = (K4_takeBridge_26 ((F4_takeNumber 0 3 (if (m 44 1) < 4 then m else (F4_fail 5 (m 41 5) m))).1) (F4_takeNumber 0 3 (if (m 44 1) < 4 then m else (F4_fail 5 (m 41 5) m))).2) := rfl
  unfold D4_takeBridge at hD
  show ax_N 4 Y4_takeBridge 0 [some (.ref 41), none, none, none] [] m _
  refine s_aload_n eX4_takeBridge_0 rfl rfl ?_
  refine s_getr (q := 44) eX4_takeBridge_1 fX4_21 shp_41 rfl ?_
  refine s_geti eX4_takeBridge_4 fX4_163 shp_44 rfl ?_
  refine s_iconst (v := 4) eX4_takeBridge_7 rfl ?_
  have J1 : ax_N 4 Y4_takeBridge 20 [some (.ref 41), none, none, none] [] ((if (m 44 1) < 4 then m else (F4_fail 5 (m 41 5) m))) (fun r m1 => r = none ∧ m1 = F4_takeBridge m) := by
    refine s_aload_n eX4_takeBridge_20 rfl rfl ?_
    refine s_iconst (v := 0) eX4_takeBridge_21 rfl ?_
    refine s_iconst (v := 3) eX4_takeBridge_22 rfl ?_
    obtain ⟨q2, hD⟩ := hD
    refine n_callVi (As := [.int 0, .int 3]) eX4_takeBridge_23 kX4_takeNumber lX4_135 rfl rfl shp_41 rfl rfl (Nat.le_of_ble_eq_true rfl) (Nat.le_of_ble_eq_true rfl) (Nat.le_of_ble_eq_true rfl) (uX4_takeNumber 0 3 ((if (m 44 1) < 4 then m else (F4_fail 5 (m 41 5) m))) q2) ?_
    refine cK4_takeBridge_26 ((F4_takeNumber 0 3 (if (m 44 1) < 4 then m else (F4_fail 5 (m 41 5) m))).1) ((F4_takeNumber 0 3 (if (m 44 1) < 4 then m else (F4_fail 5 (m 41 5) m))).2) hD ?_
    exact ⟨rfl, by rw [E]⟩
  refine s_icmp_lt eX4_takeBridge_8 (fun h3 => ?_) (fun h3 => ?_)
  · skip
    exact ax_eqN rfl rfl (by rw [show ((if (m 44 1) < 4 then m else (F4_fail 5 (m 41 5) m)) : ax_M) = m by rw [if_pos h3]]) J1
  · skip
    refine s_aload_n eX4_takeBridge_11 rfl rfl ?_
    refine s_iconst (v := 5) eX4_takeBridge_12 rfl ?_
    refine s_aload_n eX4_takeBridge_13 rfl rfl ?_
    refine s_geti eX4_takeBridge_14 fX4_77 shp_41 rfl ?_
    refine n_callVv (As := [.int 5, .int (m 41 5)]) eX4_takeBridge_17 kX4_fail lX4_69 rfl rfl shp_41 rfl rfl (Nat.le_of_ble_eq_true rfl) (Nat.le_of_ble_eq_true rfl) (Nat.le_of_ble_eq_true rfl) (uX4_fail 5 (m 41 5) m) ?_
    exact ax_eqN rfl rfl (by rw [show ((if (m 44 1) < 4 then m else (F4_fail 5 (m 41 5) m)) : ax_M) = (F4_fail 5 (m 41 5) m) by rw [if_neg h3]]) J1
theorem uX4_takeKind (m : ax_M) (hD : D4_takeKind m) : ax_NM 6 Y4_takeKind [.ref 41] m (fun r m1 => r = some (.int (F4_takeKind m).1) ∧ m1 = (F4_takeKind m).2) := by
  have E : F4_takeKind m = (if ((F4_takeToken m) 41 6) = 0 then (if (F4_isWord 6 (F4_takeToken m)) = 0 then (if (F4_isWord 7 (F4_takeToken m)) = 0 then (if (F4_isWord 8 (F4_takeToken m)) = 0 then (if (F4_isWord 9 (F4_takeToken m)) = 0 then (if (F4_isWord 10 (F4_takeToken m)) = 0 then (0, (F4_fail 2 ((F4_takeToken m) 41 5) (F4_takeToken m))) else (4, (F4_takeToken m))) else (3, (F4_takeToken m))) else (2, (F4_takeToken m))) else (1, (F4_takeToken m))) else (0, (F4_takeToken m))) else (0, (F4_takeToken m))) := rfl
  unfold D4_takeKind at hD
  show ax_N 6 Y4_takeKind 0 [some (.ref 41)] [] m _
  refine s_aload_n eX4_takeKind_0 rfl rfl ?_
  obtain ⟨q1, hD⟩ := hD
  refine n_callVv (As := []) eX4_takeKind_1 kX4_takeToken lX4_55 rfl rfl shp_41 rfl rfl (Nat.le_of_ble_eq_true rfl) (Nat.le_of_ble_eq_true rfl) (Nat.le_of_ble_eq_true rfl) (uX4_takeToken m q1) ?_
  refine s_aload_n eX4_takeKind_4 rfl rfl ?_
  refine s_geti eX4_takeKind_5 fX4_42 shp_41 rfl ?_
  refine s_if_eq eX4_takeKind_8 (fun h2 => ?_) (fun h2 => ?_)
  · skip
    rw [if_pos h2] at E
    have hD := hD h2
    refine s_aload_n eX4_takeKind_13 rfl rfl ?_
    refine s_ldcs (j := 6) eX4_takeKind_14 rfl rfl ?_
    obtain ⟨q3, hD⟩ := hD
    refine n_callVi (As := [.ref (1000 + 6)]) eX4_takeKind_16 kX4_isWord lX4_99 rfl rfl shp_41 rfl rfl (Nat.le_of_ble_eq_true rfl) (Nat.le_of_ble_eq_true rfl) (Nat.le_of_ble_eq_true rfl) (uX4_isWord 6 ((F4_takeToken m)) (by decide) q3) ?_
    refine s_if_eq eX4_takeKind_19 (fun h4 => ?_) (fun h4 => ?_)
    · skip
      rw [if_pos h4] at E
      have hD := hD h4
      refine s_aload_n eX4_takeKind_24 rfl rfl ?_
      refine s_ldcs (j := 7) eX4_takeKind_25 rfl rfl ?_
      obtain ⟨q5, hD⟩ := hD
      refine n_callVi (As := [.ref (1000 + 7)]) eX4_takeKind_27 kX4_isWord lX4_99 rfl rfl shp_41 rfl rfl (Nat.le_of_ble_eq_true rfl) (Nat.le_of_ble_eq_true rfl) (Nat.le_of_ble_eq_true rfl) (uX4_isWord 7 ((F4_takeToken m)) (by decide) q5) ?_
      refine s_if_eq eX4_takeKind_30 (fun h6 => ?_) (fun h6 => ?_)
      · skip
        rw [if_pos h6] at E
        have hD := hD h6
        refine s_aload_n eX4_takeKind_35 rfl rfl ?_
        refine s_ldcs (j := 8) eX4_takeKind_36 rfl rfl ?_
        obtain ⟨q7, hD⟩ := hD
        refine n_callVi (As := [.ref (1000 + 8)]) eX4_takeKind_38 kX4_isWord lX4_99 rfl rfl shp_41 rfl rfl (Nat.le_of_ble_eq_true rfl) (Nat.le_of_ble_eq_true rfl) (Nat.le_of_ble_eq_true rfl) (uX4_isWord 8 ((F4_takeToken m)) (by decide) q7) ?_
        refine s_if_eq eX4_takeKind_41 (fun h8 => ?_) (fun h8 => ?_)
        · skip
          rw [if_pos h8] at E
          have hD := hD h8
          refine s_aload_n eX4_takeKind_46 rfl rfl ?_
          refine s_ldcs (j := 9) eX4_takeKind_47 rfl rfl ?_
          obtain ⟨q9, hD⟩ := hD
          refine n_callVi (As := [.ref (1000 + 9)]) eX4_takeKind_49 kX4_isWord lX4_99 rfl rfl shp_41 rfl rfl (Nat.le_of_ble_eq_true rfl) (Nat.le_of_ble_eq_true rfl) (Nat.le_of_ble_eq_true rfl) (uX4_isWord 9 ((F4_takeToken m)) (by decide) q9) ?_
          refine s_if_eq eX4_takeKind_52 (fun h10 => ?_) (fun h10 => ?_)
          · skip
            rw [if_pos h10] at E
            have hD := hD h10
            refine s_aload_n eX4_takeKind_57 rfl rfl ?_
            refine s_ldcs (j := 10) eX4_takeKind_58 rfl rfl ?_
            have q11 := hD
            refine n_callVi (As := [.ref (1000 + 10)]) eX4_takeKind_60 kX4_isWord lX4_99 rfl rfl shp_41 rfl rfl (Nat.le_of_ble_eq_true rfl) (Nat.le_of_ble_eq_true rfl) (Nat.le_of_ble_eq_true rfl) (uX4_isWord 10 ((F4_takeToken m)) (by decide) q11) ?_
            refine s_if_eq eX4_takeKind_63 (fun h12 => ?_) (fun h12 => ?_)
            · skip
              rw [if_pos h12] at E
              refine s_aload_n eX4_takeKind_68 rfl rfl ?_
              refine s_iconst (v := 2) eX4_takeKind_69 rfl ?_
              refine s_aload_n eX4_takeKind_70 rfl rfl ?_
              refine s_geti eX4_takeKind_71 fX4_77 shp_41 rfl ?_
              refine n_callVv (As := [.int 2, .int ((F4_takeToken m) 41 5)]) eX4_takeKind_74 kX4_fail lX4_69 rfl rfl shp_41 rfl rfl (Nat.le_of_ble_eq_true rfl) (Nat.le_of_ble_eq_true rfl) (Nat.le_of_ble_eq_true rfl) (uX4_fail 2 ((F4_takeToken m) 41 5) ((F4_takeToken m))) ?_
              refine s_iconst (v := 0) eX4_takeKind_77 rfl ?_
              exact s_iret eX4_takeKind_78 rfl ⟨rfl, by rw [E], by rw [E]⟩
            · skip
              rw [if_neg h12] at E
              refine s_iconst (v := 4) eX4_takeKind_66 rfl ?_
              exact s_iret eX4_takeKind_67 rfl ⟨rfl, by rw [E], by rw [E]⟩
          · skip
            rw [if_neg h10] at E
            refine s_iconst (v := 3) eX4_takeKind_55 rfl ?_
            exact s_iret eX4_takeKind_56 rfl ⟨rfl, by rw [E], by rw [E]⟩
        · skip
          rw [if_neg h8] at E
          refine s_iconst (v := 2) eX4_takeKind_44 rfl ?_
          exact s_iret eX4_takeKind_45 rfl ⟨rfl, by rw [E], by rw [E]⟩
      · skip
        rw [if_neg h6] at E
        refine s_iconst (v := 1) eX4_takeKind_33 rfl ?_
        exact s_iret eX4_takeKind_34 rfl ⟨rfl, by rw [E], by rw [E]⟩
    · skip
      rw [if_neg h4] at E
      refine s_iconst (v := 0) eX4_takeKind_22 rfl ?_
      exact s_iret eX4_takeKind_23 rfl ⟨rfl, by rw [E], by rw [E]⟩
  · skip
    rw [if_neg h2] at E
    refine s_iconst (v := 0) eX4_takeKind_11 rfl ?_
    exact s_iret eX4_takeKind_12 rfl ⟨rfl, by rw [E], by rw [E]⟩
theorem cK4_takeOne_47 (v1 v2 v3 w0 : Int32) (m : ax_M) {P : Option Value → ax_M → Prop} (hD : HK4_takeOne_47 v1 v2 v3 w0 m) (hP : P none (K4_takeOne_47 v1 v2 v3 w0 m)) : ax_N 7 Y4_takeOne 47 [some (.ref 41), some (.int v1), some (.int v2), some (.int v3), none] [.int w0] m P := by
  have E : K4_takeOne_47 v1 v2 v3 w0 m = (if ((F4_takeSemicolon m) 41 6) = 0 then (F1_addOne 44 v1 v2 v3 w0 (F4_takeSemicolon m)) else (F4_takeSemicolon m)) := rfl
  unfold HK4_takeOne_47 at hD
  refine s_istore (ls' := [some (.ref 41), some (.int v1), some (.int v2), some (.int v3), some (.int w0)]) eX4_takeOne_47 rfl rfl ?_
  refine s_aload_n eX4_takeOne_49 rfl rfl ?_
  have q1 := hD
  refine n_callVv (As := []) eX4_takeOne_50 kX4_takeSemicolon lX4_149 rfl rfl shp_41 rfl rfl (Nat.le_of_ble_eq_true rfl) (Nat.le_of_ble_eq_true rfl) (Nat.le_of_ble_eq_true rfl) (uX4_takeSemicolon m q1) ?_
  refine s_aload_n eX4_takeOne_53 rfl rfl ?_
  refine s_geti eX4_takeOne_54 fX4_42 shp_41 rfl ?_
  refine s_if_ne eX4_takeOne_57 (fun h2 => ?_) (fun h2 => ?_)
  · skip
    rw [if_neg h2] at E
    rw [E] at hP
    exact s_vret eX4_takeOne_72 rfl ⟨rfl, hP⟩
  · skip
    rw [if_pos h2] at E
    refine s_aload_n eX4_takeOne_60 rfl rfl ?_
    refine s_getr (q := 44) eX4_takeOne_61 fX4_21 shp_41 rfl ?_
    refine s_iload_n eX4_takeOne_64 rfl rfl ?_
    refine s_iload_n eX4_takeOne_65 rfl rfl ?_
    refine s_iload_n eX4_takeOne_66 rfl rfl ?_
    refine s_iload eX4_takeOne_67 rfl ?_
    refine n_callVv (As := [.int v1, .int v2, .int v3, .int w0]) eX4_takeOne_69 kX1_addOne lX4_179 rfl rfl shp_44 rfl rfl (Nat.le_of_ble_eq_true rfl) (Nat.le_of_ble_eq_true rfl) (Nat.le_of_ble_eq_true rfl) (uX1_addOne 44 v1 v2 v3 w0 ((F4_takeSemicolon m)) isG_44) ?_
    rw [E] at hP
    exact s_vret eX4_takeOne_72 rfl ⟨rfl, hP⟩
theorem cK4_takeOne_25 (w0 : Int32) (m : ax_M) {P : Option Value → ax_M → Prop} (hD : HK4_takeOne_25 w0 m) (hP : P none (K4_takeOne_25 w0 m)) : ax_N 7 Y4_takeOne 25 [some (.ref 41), none, none, none, none] [.int w0] m P := by
  have E : K4_takeOne_25 w0 m = (K4_takeOne_47 w0 ((F4_takeNumber 1 99 m).1) ((F4_takeNumber 0 3 (F4_takeNumber 1 99 m).2).1) ((F4_takeNumber 0 3 (F4_takeNumber 0 3 (F4_takeNumber 1 99 m).2).2).1) (F4_takeNumber 0 3 (F4_takeNumber 0 3 (F4_takeNumber 1 99 m).2).2).2) := rfl
  unfold HK4_takeOne_25 at hD
  refine s_istore_n (ls' := [some (.ref 41), some (.int w0), none, none, none]) eX4_takeOne_25 rfl rfl rfl ?_
  refine s_aload_n eX4_takeOne_26 rfl rfl ?_
  refine s_iconst (v := 1) eX4_takeOne_27 rfl ?_
  refine s_bipush (v := 99) eX4_takeOne_28 rfl ?_
  obtain ⟨q1, hD⟩ := hD
  refine n_callVi (As := [.int 1, .int 99]) eX4_takeOne_30 kX4_takeNumber lX4_135 rfl rfl shp_41 rfl rfl (Nat.le_of_ble_eq_true rfl) (Nat.le_of_ble_eq_true rfl) (Nat.le_of_ble_eq_true rfl) (uX4_takeNumber 1 99 m q1) ?_
  refine s_istore_n (ls' := [some (.ref 41), some (.int w0), some (.int ((F4_takeNumber 1 99 m).1)), none, none]) eX4_takeOne_33 rfl rfl rfl ?_
  refine s_aload_n eX4_takeOne_34 rfl rfl ?_
  refine s_iconst (v := 0) eX4_takeOne_35 rfl ?_
  refine s_iconst (v := 3) eX4_takeOne_36 rfl ?_
  obtain ⟨q2, hD⟩ := hD
  refine n_callVi (As := [.int 0, .int 3]) eX4_takeOne_37 kX4_takeNumber lX4_135 rfl rfl shp_41 rfl rfl (Nat.le_of_ble_eq_true rfl) (Nat.le_of_ble_eq_true rfl) (Nat.le_of_ble_eq_true rfl) (uX4_takeNumber 0 3 ((F4_takeNumber 1 99 m).2) q2) ?_
  refine s_istore_n (ls' := [some (.ref 41), some (.int w0), some (.int ((F4_takeNumber 1 99 m).1)), some (.int ((F4_takeNumber 0 3 (F4_takeNumber 1 99 m).2).1)), none]) eX4_takeOne_40 rfl rfl rfl ?_
  refine s_aload_n eX4_takeOne_41 rfl rfl ?_
  refine s_iconst (v := 0) eX4_takeOne_42 rfl ?_
  refine s_iconst (v := 3) eX4_takeOne_43 rfl ?_
  obtain ⟨q3, hD⟩ := hD
  refine n_callVi (As := [.int 0, .int 3]) eX4_takeOne_44 kX4_takeNumber lX4_135 rfl rfl shp_41 rfl rfl (Nat.le_of_ble_eq_true rfl) (Nat.le_of_ble_eq_true rfl) (Nat.le_of_ble_eq_true rfl) (uX4_takeNumber 0 3 ((F4_takeNumber 0 3 (F4_takeNumber 1 99 m).2).2) q3) ?_
  refine cK4_takeOne_47 w0 ((F4_takeNumber 1 99 m).1) ((F4_takeNumber 0 3 (F4_takeNumber 1 99 m).2).1) ((F4_takeNumber 0 3 (F4_takeNumber 0 3 (F4_takeNumber 1 99 m).2).2).1) ((F4_takeNumber 0 3 (F4_takeNumber 0 3 (F4_takeNumber 1 99 m).2).2).2) hD ?_
  rw [E] at hP
  exact hP
theorem uX4_takeOne (m : ax_M) (hD : D4_takeOne m) : ax_NM 7 Y4_takeOne [.ref 41] m (fun r m1 => r = none ∧ m1 = F4_takeOne m) := by
  have E : F4_takeOne m = (K4_takeOne_25 ((F4_takeKind (if (m 44 2) < 6 then m else (F4_fail 5 (m 41 5) m))).1) (F4_takeKind (if (m 44 2) < 6 then m else (F4_fail 5 (m 41 5) m))).2) := rfl
  unfold D4_takeOne at hD
  show ax_N 7 Y4_takeOne 0 [some (.ref 41), none, none, none, none] [] m _
  refine s_aload_n eX4_takeOne_0 rfl rfl ?_
  refine s_getr (q := 44) eX4_takeOne_1 fX4_21 shp_41 rfl ?_
  refine s_geti eX4_takeOne_4 fX4_173 shp_44 rfl ?_
  refine s_bipush (v := 6) eX4_takeOne_7 rfl ?_
  have J1 : ax_N 7 Y4_takeOne 21 [some (.ref 41), none, none, none, none] [] ((if (m 44 2) < 6 then m else (F4_fail 5 (m 41 5) m))) (fun r m1 => r = none ∧ m1 = F4_takeOne m) := by
    refine s_aload_n eX4_takeOne_21 rfl rfl ?_
    obtain ⟨q2, hD⟩ := hD
    refine n_callVi (As := []) eX4_takeOne_22 kX4_takeKind lX4_176 rfl rfl shp_41 rfl rfl (Nat.le_of_ble_eq_true rfl) (Nat.le_of_ble_eq_true rfl) (Nat.le_of_ble_eq_true rfl) (uX4_takeKind ((if (m 44 2) < 6 then m else (F4_fail 5 (m 41 5) m))) q2) ?_
    refine cK4_takeOne_25 ((F4_takeKind (if (m 44 2) < 6 then m else (F4_fail 5 (m 41 5) m))).1) ((F4_takeKind (if (m 44 2) < 6 then m else (F4_fail 5 (m 41 5) m))).2) hD ?_
    exact ⟨rfl, by rw [E]⟩
  refine s_icmp_lt eX4_takeOne_9 (fun h3 => ?_) (fun h3 => ?_)
  · skip
    exact ax_eqN rfl rfl (by rw [show ((if (m 44 2) < 6 then m else (F4_fail 5 (m 41 5) m)) : ax_M) = m by rw [if_pos h3]]) J1
  · skip
    refine s_aload_n eX4_takeOne_12 rfl rfl ?_
    refine s_iconst (v := 5) eX4_takeOne_13 rfl ?_
    refine s_aload_n eX4_takeOne_14 rfl rfl ?_
    refine s_geti eX4_takeOne_15 fX4_77 shp_41 rfl ?_
    refine n_callVv (As := [.int 5, .int (m 41 5)]) eX4_takeOne_18 kX4_fail lX4_69 rfl rfl shp_41 rfl rfl (Nat.le_of_ble_eq_true rfl) (Nat.le_of_ble_eq_true rfl) (Nat.le_of_ble_eq_true rfl) (uX4_fail 5 (m 41 5) m) ?_
    exact ax_eqN rfl rfl (by rw [show ((if (m 44 2) < 6 then m else (F4_fail 5 (m 41 5) m)) : ax_M) = (F4_fail 5 (m 41 5) m) by rw [if_neg h3]]) J1
