/-! PURE: one token, by both -/
section ZJ2
variable {m : ax_M} {d : Nat → Nat} {n i : Nat}
theorem zrn_pos {f : Nat → Bool} {k : Nat} (h : i < n) (hf : f i = true) : i < zrn f n (k + 1) i := by
  unfold zrn
  rw [if_pos ⟨h, hf⟩]
  have := (zrn_le (f := f) (n := n) k (i + 1) (by omega)).1
  omega
/-- where a token lies -/
theorem zTk_p (hi : i ≤ n) : i ≤ (zTk d n i).1 ∧ (zTk d n i).1 ≤ (zTk d n i).2.1 ∧ (zTk d n i).2.1 ≤ n ∧ 1 ≤ (zTk d n i).2.2 ∧ (zTk d n i).2.2 ≤ 5 ∧ ((zTk d n i).2.2 ≤ 3 → i < (zTk d n i).2.1) ∧ ((zTk d n i).2.2 = 4 → (zTk d n i).1 = n) ∧ ((zTk d n i).2.2 = 2 → (zTk d n i).2.1 - (zTk d n i).1 ≤ 2 ∧ ∀ j, (zTk d n i).1 ≤ j → j < (zTk d n i).2.1 → zfi d j = true) := by
  have h1 := zrn_le (f := zsp d) (n := n) 330 i hi
  unfold zTk
  by_cases w : n ≤ zrn (zsp d) n 330 i
  · rw [if_pos w]
    dsimp only
    refine ⟨h1.1, Nat.le_refl _, h1.2, by omega, by omega, fun x => by omega, fun _ => by omega, fun x => by omega⟩
  · rw [if_neg w]
    have h2 := zrn_le (f := zle d) (n := n) 330 _ h1.2
    have h3 := zrn_le (f := zfi d) (n := n) 330 _ h1.2
    by_cases w2 : d (zrn (zsp d) n 330 i) = 59
    · rw [if_pos w2]
      dsimp only
      refine ⟨h1.1, by omega, by omega, by omega, by omega, fun x => by omega, fun x => by omega, fun x => by omega⟩
    · rw [if_neg w2]
      by_cases w3 : zle d (zrn (zsp d) n 330 i) = true
      · rw [if_pos w3]
        have : zrn (zsp d) n 330 i < zrn (zle d) n 330 (zrn (zsp d) n 330 i) := zrn_pos (k := 329) (show zrn (zsp d) n 330 i < n by omega) w3
        dsimp only
        refine ⟨h1.1, h2.1, h2.2, by omega, by omega, fun x => by omega, fun x => by omega, fun x => by omega⟩
      · rw [if_neg w3]
        by_cases w4 : zfi d (zrn (zsp d) n 330 i) = true
        · rw [if_pos w4]
          have : zrn (zsp d) n 330 i < zrn (zfi d) n 330 (zrn (zsp d) n 330 i) := zrn_pos (k := 329) (show zrn (zsp d) n 330 i < n by omega) w4
          dsimp only
          by_cases w5 : zrn (zfi d) n 330 (zrn (zsp d) n 330 i) - zrn (zsp d) n 330 i ≤ 2
          · rw [if_pos w5]
            exact ⟨h1.1, h3.1, h3.2, by omega, by omega, fun x => by omega, fun x => by omega, fun _ => ⟨w5, fun j j1 j2 => zrn_all 330 _ j j1 j2⟩⟩
          · rw [if_neg w5]
            exact ⟨h1.1, h3.1, h3.2, by omega, by omega, fun x => by omega, fun x => by omega, fun x => by omega⟩
        · rw [if_neg w4]
          dsimp only
          exact ⟨h1.1, Nat.le_refl _, h1.2, by omega, by omega, fun x => by omega, fun x => by omega, fun x => by omega⟩
theorem z4_fail0 {c a : Int32} (h : m 41 6 = 0) : F4_fail c a m = ax_up (ax_up m 41 6 c) 41 7 a := by unfold F4_fail; rw [if_pos h]
theorem z4_failN {c a : Int32} (h : m 41 6 ≠ 0) : F4_fail c a m = m := by unfold F4_fail; rw [if_neg h]
/-- the class's state behind a token: all else is as it was -/
def z4F (m m' : ax_M) : Prop := (∀ c, c ≠ 41 → m' c = m c) ∧ m' 41 8 = m 41 8 ∧ m' 41 9 = m 41 9
theorem z4F.tr {m1 m2 m3 : ax_M} (h : z4F m1 m2) (h' : z4F m2 m3) : z4F m1 m3 := ⟨fun c hc => by rw [h'.1 c hc, h.1 c hc], by rw [h'.2.1, h.2.1], by rw [h'.2.2, h.2.2]⟩
theorem z4F.rf {m : ax_M} : z4F m m := ⟨fun _ _ => rfl, rfl, rfl⟩
theorem z4F.up {m m' : ax_M} (h : z4F m m') {j : Nat} {x : Int32} (h8 : j ≠ 8) (h9 : j ≠ 9) : z4F m (ax_up m' 41 j x) := ⟨fun c hc => by rw [z_upr hc, h.1 c hc], by rw [z_up, if_neg (fun w => h8 w.2.symm), h.2.1], by rw [z_up, if_neg (fun w => h9 w.2.symm), h.2.2]⟩
theorem z4F.t {m m' : ax_M} (h : z4F m m') (hT : z4T m n d) : z4T m' n d := by
  unfold z4T; rw [h.1 42 (by omega), h.1 43 (by omega)]; exact hT
theorem z4_tok (hn : n ≤ 320) (hd : ∀ i, i < n → d i < 256) (hT : z4T m n d) (h6 : m 41 6 = 0) (h3 : m 41 3 = nI i) (hi : i ≤ n) : D4_takeToken m ∧ z4F m (F4_takeToken m) ∧ (F4_takeToken m) 41 5 = nI (zTk d n i).1 ∧ ((zTk d n i).2.2 = 5 → (F4_takeToken m) 41 6 = 1 ∧ (F4_takeToken m) 41 7 = nI (zTk d n i).1) ∧ ((zTk d n i).2.2 ≠ 5 → (F4_takeToken m) 41 6 = 0 ∧ (F4_takeToken m) 41 3 = nI (zTk d n i).2.1 ∧ (F4_takeToken m) 41 4 = nI (zTk d n i).2.2) := by
  obtain ⟨s1, s2⟩ := z4_spaces hn hd 330 i m hi (by omega) hT h3
  have hle := zrn_le (f := zsp d) (n := n) 330 i hi
  unfold D4_takeToken F4_takeToken
  rw [if_pos h6, s2]
  unfold zTk
  generalize zrn (zsp d) n 330 i = a at *
  rw [z_up m 41 3, if_pos ⟨rfl, rfl⟩]
  generalize hm1 : ax_up (ax_up m 41 3 (nI a)) 41 5 (nI a) = m1
  have q3 : m1 41 3 = nI a := by rw [← hm1, z_up, if_neg (by omega), z_up, if_pos ⟨rfl, rfl⟩]
  have q5 : m1 41 5 = nI a := by rw [← hm1, z_up, if_pos ⟨rfl, rfl⟩]
  have q6 : m1 41 6 = 0 := by rw [← hm1, z_up, if_neg (by omega), z_up, if_neg (by omega)]; exact h6
  have hF : z4F m m1 := by rw [← hm1]; exact (z4F.rf.up (by omega) (by omega)).up (by omega) (by omega)
  have hT1 := hF.t hT
  unfold HK4_takeToken_59 K4_takeToken_59
  rw [q3, z4_byte hn hT1 (by omega)]
  by_cases w : n ≤ a
  · rw [if_neg (show ¬ a < n by omega), if_neg (show ¬ (0 : Int32) ≤ -1 by decide), if_pos w]
    refine ⟨fun _ => ⟨s1, fun x => absurd x (by decide)⟩, hF.up (by omega) (by omega), ?_, fun x => absurd x (by dsimp only; omega), fun _ => ⟨?_, ?_, ?_⟩⟩
    · rw [z_up, if_neg (by omega)]; exact q5
    · rw [z_up, if_neg (by omega)]; exact q6
    · rw [z_up, if_neg (by omega)]; exact q3
    · rw [z_up, if_pos ⟨rfl, rfl⟩]; rfl
  · have ha : a < n := by omega
    have h256 := hd a ha
    have c0 : (0 : Int32) ≤ nI (d a) := nI_pos' (by omega)
    have c59 : (nI (d a) = 59) ↔ d a = 59 := z_neq (b := 59) (by omega) (by omega)
    rw [if_pos ha, if_pos c0, if_neg w]
    by_cases w2 : d a = 59
    · rw [if_pos (c59.mpr w2), if_pos w2]
      refine ⟨fun _ => ⟨s1, fun _ x => absurd (c59.mpr w2) x⟩, (hF.up (by omega) (by omega)).up (by omega) (by omega), ?_, fun x => absurd x (by dsimp only; omega), fun _ => ⟨?_, ?_, ?_⟩⟩
      · rw [z_up, if_neg (by omega), z_up, if_neg (by omega)]; exact q5
      · rw [z_up, if_neg (by omega), z_up, if_neg (by omega)]; exact q6
      · rw [z_up, if_pos ⟨rfl, rfl⟩, z_up, if_neg (by omega), q3, nI_1]
      · rw [z_up, if_neg (by omega), z_up, if_pos ⟨rfl, rfl⟩]; rfl
    · rw [if_neg (fun x => w2 (c59.mp x)), if_neg w2, z4_let h256, z4_fig h256]
      obtain ⟨l1, l2⟩ := z4_letters (v1 := nI (d a)) hn hd 330 a (ax_up m1 41 4 1) hle.2 (by omega) hT1.up (by rw [z_up, if_neg (by omega)]; exact q3)
      obtain ⟨f1, f2⟩ := z4_figures (v1 := nI (d a)) hn hd 330 a (ax_up m1 41 4 2) hle.2 (by omega) hT1.up (by rw [z_up, if_neg (by omega)]; exact q3)
      have hfle := zrn_le (f := zfi d) (n := n) 330 a hle.2
      have DD : (0 ≤ nI (d a)) → (¬ (nI (d a) = 59) → ((((zb (zle d a)) = 0) → ((¬ ((zb (zfi d a)) = 0) → (E4_takeToken_175 330 (nI (d a)) (ax_up m1 41 4 2))))) ∧ (¬ ((zb (zle d a)) = 0) → (E4_takeToken_119 330 (nI (d a)) (ax_up m1 41 4 1))))) := fun _ _ => ⟨fun _ _ => f1, fun _ => l1⟩
      cases w3 : zle d a with
      | true =>
        rw [if_neg (show ¬ zb true = 0 by decide), if_pos rfl, l2]
        rw [w3] at DD
        refine ⟨fun _ => ⟨s1, DD⟩, (hF.up (by omega) (by omega)).up (by omega) (by omega), ?_, fun x => absurd x (by dsimp only; omega), fun _ => ⟨?_, ?_, ?_⟩⟩
        · rw [z_up, if_neg (by omega), z_up, if_neg (by omega)]; exact q5
        · rw [z_up, if_neg (by omega), z_up, if_neg (by omega)]; exact q6
        · rw [z_up, if_pos ⟨rfl, rfl⟩]
        · rw [z_up, if_neg (by omega), z_up, if_pos ⟨rfl, rfl⟩]; rfl
      | false =>
        rw [w3] at DD
        rw [if_pos (show zb false = 0 from rfl), if_neg (show ¬ false = true by simp)]
        cases w4 : zfi d a with
        | false =>
          rw [w4] at DD
          rw [if_pos (show zb false = 0 from rfl), if_neg (show ¬ false = true by simp), z4_fail0 q6, q5]
          refine ⟨fun _ => ⟨s1, DD⟩, (hF.up (by omega) (by omega)).up (by omega) (by omega), ?_, fun _ => ⟨?_, ?_⟩, fun x => absurd rfl x⟩
          · rw [z_up, if_neg (by omega), z_up, if_neg (by omega)]; exact q5
          · rw [z_up, if_neg (by omega), z_up, if_pos ⟨rfl, rfl⟩]
          · rw [z_up, if_pos ⟨rfl, rfl⟩]
        | true =>
          rw [w4] at DD
          rw [if_neg (show ¬ zb true = 0 by decide), if_pos rfl, f2]
          unfold K4_takeToken_219
          have e3 : (ax_up (ax_up m1 41 4 2) 41 3 (nI (zrn (zfi d) n 330 a))) 41 3 = nI (zrn (zfi d) n 330 a) := by rw [z_up, if_pos ⟨rfl, rfl⟩]
          have e5 : (ax_up (ax_up m1 41 4 2) 41 3 (nI (zrn (zfi d) n 330 a))) 41 5 = nI a := by rw [z_up, if_neg (by omega), z_up, if_neg (by omega)]; exact q5
          have e6 : (ax_up (ax_up m1 41 4 2) 41 3 (nI (zrn (zfi d) n 330 a))) 41 6 = 0 := by rw [z_up, if_neg (by omega), z_up, if_neg (by omega)]; exact q6
          have e4 : (ax_up (ax_up m1 41 4 2) 41 3 (nI (zrn (zfi d) n 330 a))) 41 4 = 2 := by rw [z_up, if_neg (by omega), z_up, if_pos ⟨rfl, rfl⟩]
          have hF2 : z4F m (ax_up (ax_up m1 41 4 2) 41 3 (nI (zrn (zfi d) n 330 a))) := (hF.up (by omega) (by omega)).up (by omega) (by omega)
          generalize ax_up (ax_up m1 41 4 2) 41 3 (nI (zrn (zfi d) n 330 a)) = m2 at *
          rw [e3, e5, pk_sub hfle.1]
          have c2 : (nI (zrn (zfi d) n 330 a - a) ≤ 2) ↔ zrn (zfi d) n 330 a - a ≤ 2 := z_nle (b := 2) (by omega) (by omega)
          simp only [c2]
          by_cases w5 : zrn (zfi d) n 330 a - a ≤ 2
          · rw [if_pos w5, if_pos w5]
            exact ⟨fun _ => ⟨s1, DD⟩, hF2, e5, fun x => absurd x (by omega), fun _ => ⟨e6, e3, e4⟩⟩
          · rw [if_neg w5, if_neg w5, z4_fail0 e6]
            refine ⟨fun _ => ⟨s1, DD⟩, (hF2.up (by omega) (by omega)).up (by omega) (by omega), ?_, fun _ => ⟨?_, ?_⟩, fun x => absurd rfl x⟩
            · rw [z_up, if_neg (by omega), z_up, if_neg (by omega)]; exact e5
            · rw [z_up, if_neg (by omega), z_up, if_pos ⟨rfl, rfl⟩]
            · rw [z_up, if_pos ⟨rfl, rfl⟩]
theorem z4_tokN (h : m 41 6 ≠ 0) : D4_takeToken m ∧ F4_takeToken m = m := by
  unfold D4_takeToken F4_takeToken
  rw [if_neg h]
  exact ⟨fun w => absurd w h, rfl⟩
/-- the reference's state behind a step: all else is as it was -/
def z8F (m m' : ax_M) : Prop := (∀ c, c ≠ 74 → m' c = m c) ∧ ∀ j, (j < 24 ∨ 29 < j) → m' 74 j = m 74 j
theorem z8F.tr {m1 m2 m3 : ax_M} (h : z8F m1 m2) (h' : z8F m2 m3) : z8F m1 m3 := ⟨fun c hc => by rw [h'.1 c hc, h.1 c hc], fun j hj => by rw [h'.2 j hj, h.2 j hj]⟩
theorem z8F.rf {m : ax_M} : z8F m m := ⟨fun _ _ => rfl, fun _ _ => rfl⟩
theorem z8F.up {m m' : ax_M} (h : z8F m m') {j : Nat} {x : Int32} (h1 : 24 ≤ j) (h2 : j ≤ 29) : z8F m (ax_up m' 74 j x) := ⟨fun c hc => by rw [z_upr hc, h.1 c hc], fun k hk => by rw [z_up, if_neg (by omega), h.2 k hk]⟩
theorem z8F.t {m m' : ax_M} (h : z8F m m') (hT : z8T m n d) : z8T m' n d := by
  unfold z8T; rw [h.2 22 (by omega), h.1 81 (by omega)]; exact hT
/-- the reference has stepped from i: its token is here, or it broke on it -/
def z8S (m : ax_M) (d : Nat → Nat) (n i : Nat) : Prop := m 74 27 = nI (zTk d n i).1 ∧ ((zTk d n i).2.2 = 5 → m 74 24 = 1 ∧ m 74 25 = nI (zTk d n i).1) ∧ ((zTk d n i).2.2 ≠ 5 → m 74 24 = 0 ∧ m 74 26 = nI (zTk d n i).2.1 ∧ m 74 28 = (if (zTk d n i).2.2 = 4 then 0 else nI (zTk d n i).2.2) ∧ ((zTk d n i).2.2 = 2 → m 74 29 = nI (zvl d (zTk d n i).1 ((zTk d n i).2.1 - (zTk d n i).1))))
theorem z8_fail0 {c : Int32} (h : m 74 24 = 0) : F8_fails c m = ax_up (ax_up m 74 24 c) 74 25 (m 74 27) := by
  unfold F8_fails; rw [if_pos h, z_up m 74 24, if_neg (by omega)]
theorem z8_failN {c : Int32} (h : m 74 24 ≠ 0) : F8_fails c m = m := by unfold F8_fails; rw [if_neg h]
theorem z8_step (hn : n ≤ 320) (hd : ∀ i, i < n → d i < 256) (hT : z8T m n d) (h24 : m 74 24 = 0) (h26 : m 74 26 = nI i) (hi : i ≤ n) : D8_step m ∧ z8F m (F8_step m) ∧ z8S (F8_step m) d n i := by
  obtain ⟨s1, s2⟩ := z8_spaces hn hd 330 i m hi (by omega) hT h26
  have hle := zrn_le (f := zsp d) (n := n) 330 i hi
  unfold D8_step F8_step z8S
  rw [h24, if_pos (show (0 : Int32) ≤ 0 by decide), s2]
  unfold zTk
  generalize zrn (zsp d) n 330 i = a at *
  rw [z_up m 74 26, if_pos ⟨rfl, rfl⟩]
  generalize hm1 : ax_up (ax_up m 74 26 (nI a)) 74 27 (nI a) = m1
  have q26 : m1 74 26 = nI a := by rw [← hm1, z_up, if_neg (by omega), z_up, if_pos ⟨rfl, rfl⟩]
  have q27 : m1 74 27 = nI a := by rw [← hm1, z_up, if_pos ⟨rfl, rfl⟩]
  have q24 : m1 74 24 = 0 := by rw [← hm1, z_up, if_neg (by omega), z_up, if_neg (by omega)]; exact h24
  have hF : z8F m m1 := by rw [← hm1]; exact (z8F.rf.up (by omega) (by omega)).up (by omega) (by omega)
  have hT1 := hF.t hT
  obtain ⟨b1, b2⟩ := z8_byte (i := a) hn hT1 (by omega)
  rw [q26, b2]
  have hF2 : z8F m (ax_up m1 74 29 0) := hF.up (by omega) (by omega)
  have r26 : (ax_up m1 74 29 0) 74 26 = nI a := by rw [z_up, if_neg (by omega)]; exact q26
  have r27 : (ax_up m1 74 29 0) 74 27 = nI a := by rw [z_up, if_neg (by omega)]; exact q27
  have r24 : (ax_up m1 74 29 0) 74 24 = 0 := by rw [z_up, if_neg (by omega)]; exact q24
  have r29 : (ax_up m1 74 29 0) 74 29 = 0 := by rw [z_up, if_pos ⟨rfl, rfl⟩]
  have hT2 := hF2.t hT
  generalize ax_up m1 74 29 0 = m2 at *
  unfold HK8_step_56 K8_step_56
  by_cases w : n ≤ a
  · rw [if_neg (show ¬ a < n by omega), if_pos rfl, if_pos w]
    refine ⟨fun _ => ⟨s1, b1, fun x => absurd rfl x⟩, hF2.up (by omega) (by omega), ?_, fun x => absurd x (by dsimp only; omega), fun _ => ⟨?_, ?_, ?_, fun x => absurd x (by dsimp only; omega)⟩⟩
    · rw [z_up, if_neg (by omega)]; exact r27
    · rw [z_up, if_neg (by omega)]; exact r24
    · rw [z_up, if_neg (by omega)]; exact r26
    · rw [z_up, if_pos ⟨rfl, rfl⟩]; rfl
  · have ha : a < n := by omega
    have h256 := hd a ha
    have c4 : ¬ nI (d a) = -4 := fun x => by
      rw [z_eq, z_nti (by omega), show (-4 : Int32).toInt = -4 from rfl] at x; omega
    rw [if_pos ha, if_neg c4, if_neg w, z8_let h256, z8_fig h256]
    obtain ⟨l1, l2⟩ := z8_letters (v1 := nI (d a)) hn hd 330 a m2 hle.2 (by omega) hT2 r26
    obtain ⟨f1, f2⟩ := z8_figures (v1 := nI (d a)) (a := a) hn hd 330 a m2 (Nat.le_refl _) hle.2 (by omega) hT2 r26 r27 (by rw [r29, Nat.sub_self]; rfl) (fun j j1 j2 => by omega)
    have DD : (¬ (nI (d a) = -4) → ((((zb (zle d a)) = 0) → ((¬ ((zb (zfi d a)) = 0) → (E8_step_140 330 (nI (d a)) m2)))) ∧ (¬ ((zb (zle d a)) = 0) → (E8_step_84 330 (nI (d a)) m2)))) := fun _ => ⟨fun _ _ => f1, fun _ => l1⟩
    by_cases w2 : d a = 59
    · have w3 : zle d a = false := decide_eq_false (by omega)
      have w4 : zfi d a = false := decide_eq_false (by omega)
      rw [w3, w4] at DD ⊢
      rw [if_pos (show zb false = 0 from rfl), if_pos (show zb false = 0 from rfl), if_pos w2]
      unfold K8_step_258
      rw [w2, if_pos (show nI 59 = 59 from rfl)]
      rw [w2] at DD
      refine ⟨fun _ => ⟨s1, b1, DD⟩, (hF2.up (by omega) (by omega)).up (by omega) (by omega), ?_, fun x => absurd x (by dsimp only; omega), fun _ => ⟨?_, ?_, ?_, fun x => absurd x (by dsimp only; omega)⟩⟩
      · rw [z_up, if_neg (by omega), z_up, if_neg (by omega)]; exact r27
      · rw [z_up, if_neg (by omega), z_up, if_neg (by omega)]; exact r24
      · rw [z_up, if_pos ⟨rfl, rfl⟩, z_up, if_neg (by omega), r26, nI_1]
      · rw [z_up, if_neg (by omega), z_up, if_pos ⟨rfl, rfl⟩]; rfl
    · rw [if_neg w2]
      cases w3 : zle d a with
      | true =>
        rw [w3] at DD
        rw [if_neg (show ¬ zb true = 0 by decide), if_pos rfl, l2]
        refine ⟨fun _ => ⟨s1, b1, DD⟩, (hF2.up (by omega) (by omega)).up (by omega) (by omega), ?_, fun x => absurd x (by dsimp only; omega), fun _ => ⟨?_, ?_, ?_, fun x => absurd x (by dsimp only; omega)⟩⟩
        · rw [z_up, if_neg (by omega), z_up, if_neg (by omega)]; exact r27
        · rw [z_up, if_neg (by omega), z_up, if_neg (by omega)]; exact r24
        · rw [z_up, if_neg (by omega), z_up, if_pos ⟨rfl, rfl⟩]
        · rw [z_up, if_pos ⟨rfl, rfl⟩]; rfl
      | false =>
        rw [w3] at DD
        rw [if_pos (show zb false = 0 from rfl), if_neg (show ¬ false = true by simp)]
        cases w4 : zfi d a with
        | false =>
          rw [w4] at DD
          rw [if_pos (show zb false = 0 from rfl), if_neg (show ¬ false = true by simp)]
          unfold K8_step_258
          have c59 : ¬ nI (d a) = 59 := fun x => w2 ((z_neq (b := 59) (by omega) (by omega)).mp x)
          have u24 : (ax_up (ax_up m2 74 28 3) 74 26 (((ax_up m2 74 28 3) 74 26) + 1)) 74 24 = 0 := by rw [z_up, if_neg (by omega), z_up, if_neg (by omega)]; exact r24
          have u27 : (ax_up (ax_up m2 74 28 3) 74 26 (((ax_up m2 74 28 3) 74 26) + 1)) 74 27 = nI a := by rw [z_up, if_neg (by omega), z_up, if_neg (by omega)]; exact r27
          have hF3 : z8F m (ax_up (ax_up m2 74 28 3) 74 26 (((ax_up m2 74 28 3) 74 26) + 1)) := (hF2.up (by omega) (by omega)).up (by omega) (by omega)
          generalize (ax_up (ax_up m2 74 28 3) 74 26 (((ax_up m2 74 28 3) 74 26) + 1)) = m3 at *
          rw [if_neg c59, z8_fail0 u24, u27]
          refine ⟨fun _ => ⟨s1, b1, DD⟩, (hF3.up (by omega) (by omega)).up (by omega) (by omega), ?_, fun _ => ⟨?_, ?_⟩, fun x => absurd rfl x⟩
          · rw [z_up, if_neg (by omega), z_up, if_neg (by omega)]; exact u27
          · rw [z_up, if_neg (by omega), z_up, if_pos ⟨rfl, rfl⟩]
          · rw [z_up, if_pos ⟨rfl, rfl⟩]
        | true =>
          rw [w4] at DD
          have hfle := zrn_le (f := zfi d) (n := n) 330 a hle.2
          rw [if_neg (show ¬ zb true = 0 by decide), if_pos rfl, f2]
          have e26 : (ax_up (ax_up (ax_up m2 74 29 (nI (zvl d a (z2m (zrn (zfi d) n 330 a - a))))) 74 26 (nI (zrn (zfi d) n 330 a))) 74 28 2) 74 26 = nI (zrn (zfi d) n 330 a) := by rw [z_up, if_neg (by omega), z_up, if_pos ⟨rfl, rfl⟩]
          have e27 : (ax_up (ax_up (ax_up m2 74 29 (nI (zvl d a (z2m (zrn (zfi d) n 330 a - a))))) 74 26 (nI (zrn (zfi d) n 330 a))) 74 28 2) 74 27 = nI a := by rw [z_up, if_neg (by omega), z_up, if_neg (by omega), z_up, if_neg (by omega)]; exact r27
          have e24 : (ax_up (ax_up (ax_up m2 74 29 (nI (zvl d a (z2m (zrn (zfi d) n 330 a - a))))) 74 26 (nI (zrn (zfi d) n 330 a))) 74 28 2) 74 24 = 0 := by rw [z_up, if_neg (by omega), z_up, if_neg (by omega), z_up, if_neg (by omega)]; exact r24
          have e28 : (ax_up (ax_up (ax_up m2 74 29 (nI (zvl d a (z2m (zrn (zfi d) n 330 a - a))))) 74 26 (nI (zrn (zfi d) n 330 a))) 74 28 2) 74 28 = 2 := by rw [z_up, if_pos ⟨rfl, rfl⟩]
          have e29 : (ax_up (ax_up (ax_up m2 74 29 (nI (zvl d a (z2m (zrn (zfi d) n 330 a - a))))) 74 26 (nI (zrn (zfi d) n 330 a))) 74 28 2) 74 29 = nI (zvl d a (z2m (zrn (zfi d) n 330 a - a))) := by rw [z_up, if_neg (by omega), z_up, if_neg (by omega), z_up, if_pos ⟨rfl, rfl⟩]
          have hF3 : z8F m (ax_up (ax_up (ax_up m2 74 29 (nI (zvl d a (z2m (zrn (zfi d) n 330 a - a))))) 74 26 (nI (zrn (zfi d) n 330 a))) 74 28 2) := ((hF2.up (by omega) (by omega)).up (by omega) (by omega)).up (by omega) (by omega)
          generalize (ax_up (ax_up (ax_up m2 74 29 (nI (zvl d a (z2m (zrn (zfi d) n 330 a - a))))) 74 26 (nI (zrn (zfi d) n 330 a))) 74 28 2) = m3 at *
          rw [e26, e27, pk_sub hfle.1]
          have c2 : (nI (zrn (zfi d) n 330 a - a) ≤ 2) ↔ zrn (zfi d) n 330 a - a ≤ 2 := z_nle (b := 2) (by omega) (by omega)
          simp only [c2]
          by_cases w5 : zrn (zfi d) n 330 a - a ≤ 2
          · rw [if_pos w5, if_pos w5]
            rw [z2m_l w5] at e29
            exact ⟨fun _ => ⟨s1, b1, DD⟩, hF3, e27, fun x => absurd x (by omega), fun _ => ⟨e24, e26, e28, fun _ => e29⟩⟩
          · rw [if_neg w5, if_neg w5, z8_fail0 e24, e27]
            refine ⟨fun _ => ⟨s1, b1, DD⟩, (hF3.up (by omega) (by omega)).up (by omega) (by omega), ?_, fun _ => ⟨?_, ?_⟩, fun x => absurd rfl x⟩
            · rw [z_up, if_neg (by omega), z_up, if_neg (by omega)]; exact e27
            · rw [z_up, if_neg (by omega), z_up, if_pos ⟨rfl, rfl⟩]
            · rw [z_up, if_pos ⟨rfl, rfl⟩]
theorem z8_stepN {f : Nat} (h : m 74 24 = nI f) (h0 : 0 < f) (h1 : f < 1000) : D8_step m ∧ F8_step m = m := by
  have : ¬ m 74 24 ≤ 0 := by rw [h]; exact nI_nle h0 (by omega)
  unfold D8_step F8_step
  rw [if_neg this]
  exact ⟨fun w => absurd w this, rfl⟩
end ZJ2
