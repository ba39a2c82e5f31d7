/-! PURE: a text, by the class -/
section ZR3
variable {m m0 : ax_M} {d : Nat → Nat} {n i : Nat} {D : zD}
def zr6 : zR → Prop
  | Sum.inl x => x.1 ≤ 6
  | Sum.inr _ => True
theorem zbN_6 {lo hi : Nat} {k : Nat → Nat → Nat → zR} (h : ∀ v a e, zr6 (k v a e)) : zr6 (zbN d n lo hi i k) := by
  unfold zbN
  split
  · exact h _ _ _
  · show (zNu d n lo hi i).1 ≤ 6
    unfold zNu
    dsimp only
    split
    · omega
    · split
      · split <;> omega
      · omega
theorem zfin_6 : zr6 (zfin d n D i) := by
  unfold zfin zbS
  split
  · trivial
  · show (zSc d n i).1 ≤ 6
    unfold zSc
    dsimp only
    split
    · omega
    · split <;> omega
theorem zLn_6 {K a e : Nat} : zr6 (zLn d n D K a e (zfin d n)) := by
  unfold zLn
  split
  · unfold zlB
    split
    · show 4 ≤ 6; omega
    · exact zbN_6 fun _ _ _ => zfin_6
  split
  · unfold zlS
    split
    · show 4 ≤ 6; omega
    · exact zbN_6 fun _ _ _ => zfin_6
  split
  · unfold zlH
    refine zbN_6 fun _ _ _ => ?_
    split
    · show 4 ≤ 6; omega
    · exact zbN_6 fun _ _ _ => zfin_6
  split
  · unfold zlG
    split
    · show 5 ≤ 6; omega
    · refine zbN_6 fun _ _ _ => zbN_6 fun _ _ _ => ?_
      split
      · show 4 ≤ 6; omega
      · exact zbN_6 fun _ _ _ => zfin_6
  split
  · unfold zlO
    split
    · show 5 ≤ 6; omega
    · unfold zbK
      split
      · show 1 ≤ 6; omega
      · split
        · exact zbN_6 fun _ _ _ => zbN_6 fun _ _ _ => zbN_6 fun _ _ _ => zfin_6
        · show 2 ≤ 6; omega
  split
  · unfold zlM
    split
    · show 5 ≤ 6; omega
    · refine zbN_6 fun _ _ _ => zbN_6 fun _ _ _ => zbN_6 fun _ _ _ => ?_
      split
      · show 4 ≤ 6; omega
      · exact zfin_6
  show 2 ≤ 6; omega
theorem zTx_6 : ∀ k D i c, zr6 (zTx d n k D i c)
  | 0, _, _, _ => trivial
  | k + 1, D, i, c => by
    unfold zTx
    split
    · show 1 ≤ 6; omega
    split
    · trivial
    have h := zLn_6 (d := d) (n := n) (D := D) (K := (zTk d n i).2.2) (a := (zTk d n i).1) (e := (zTk d n i).2.1)
    cases e : zLn d n D (zTk d n i).2.2 (zTk d n i).1 (zTk d n i).2.1 (zfin d n) with
    | inl x => rw [e] at h; exact h
    | inr y => exact zTx_6 k y.1 y.2 (c + 1)
/-- the draft at the beginning -/
def zD0 : zD := (((2, 0, 0, 3), (fun _ => 0), (fun _ => 0)), (fun _ _ => 0), (false, false), (0, fun _ => 0))
theorem zD0_w : zDW zD0 := by
  refine ⟨⟨by decide, by decide, by decide, by decide, by decide, by decide, by decide, rfl⟩, fun k _ => Nat.zero_le _, fun b hb => absurd hb (Nat.not_lt_zero b), fun b hb => absurd hb (Nat.not_lt_zero b), fun b hb => absurd hb (Nat.not_lt_zero b)⟩
def zBad (d : Nat → Nat) (n f a : Nat) : Prop := zTx d n 330 zD0 0 0 = Sum.inl (f, a) ∨ (f = 6 ∧ a = n ∧ ∃ y : zD × Nat, zTx d n 330 zD0 0 0 = Sum.inr y ∧ zDW y.1 ∧ ¬ zGd y.1)
def zFine (d : Nat → Nat) (n : Nat) (y : zD × Nat) : Prop := zTx d n 330 zD0 0 0 = Sum.inr y ∧ zDW y.1 ∧ zGd y.1
theorem z4_clear : ∀ k x m, x ≤ 4 → 4 - x < k → E1_clear_27 44 k (nI x) m ∧ (∀ c, c ≠ 45 → (L1_clear_27 44 k (nI x) m).2 c = m c) ∧ (∀ j, j < x → (L1_clear_27 44 k (nI x) m).2 45 j = m 45 j) ∧ (∀ j, x ≤ j → j < 4 → (L1_clear_27 44 k (nI x) m).2 45 j = 0)
  | 0, _, _, _, h => absurd h (by omega)
  | k + 1, x, m, hx, hk => by
    unfold E1_clear_27 L1_clear_27
    by_cases w : x = 4
    · have c : (4 : Int32) ≤ nI x := (z_nle (a := 4) (by omega) (by omega)).mpr (by omega)
      rw [if_pos c]
      exact ⟨fun z => absurd c z, fun _ _ => rfl, fun _ _ => rfl, fun j h1 h2 => by omega⟩
    · have c : ¬ (4 : Int32) ≤ nI x := fun z => absurd ((z_nle (a := 4) (by omega) (by omega)).mp z) (by omega)
      rw [if_neg c, z_put (by omega) (by omega), nI_1]
      obtain ⟨r1, r2, r3, r4⟩ := z4_clear k (x + 1) (ax_up m 45 x 0) (by omega) (by omega)
      refine ⟨fun _ => r1, fun c hc => by rw [r2 c hc, z_upr hc], fun j hj => by rw [r3 j (by omega), z_up, if_neg (by omega)], fun j h1 h2 => ?_⟩
      by_cases y : j = x
      · rw [r3 j (by omega), z_up, if_pos ⟨rfl, y⟩]
      · exact r4 j (by omega) h2
def z4M0 (m : ax_M) : ax_M := ax_up (ax_up (ax_up (ax_up (ax_up (ax_up (F1_clear 44 m) 53 1 0) 41 3 0) 41 6 0) 41 7 0) 41 8 0) 41 9 0
theorem z4_begin (hT : z4T m n d) : D1_clear 44 m ∧ z4Q m d n zD0 (z4M0 m) ∧ (z4M0 m) 41 6 = 0 ∧ (z4M0 m) 41 3 = nI 0 := by
  obtain ⟨r1, r2, r3, r4⟩ := z4_clear 64 0 (ax_up (ax_up (ax_up (ax_up (ax_up m 44 0 2) 44 1 0) 44 2 0) 44 3 3) 44 4 0) (by omega) (by omega)
  have hc : F1_clear 44 m = (L1_clear_27 44 64 (nI 0) (ax_up (ax_up (ax_up (ax_up (ax_up m 44 0 2) 44 1 0) 44 2 0) 44 3 3) 44 4 0)).2 := rfl
  refine ⟨r1, ?_⟩
  unfold z4M0
  rw [hc]
  generalize (L1_clear_27 44 64 (nI 0) (ax_up (ax_up (ax_up (ax_up (ax_up m 44 0 2) 44 1 0) 44 2 0) 44 3 3) 44 4 0)).2 = m1 at r2 r3 r4
  have f : ∀ c, c ≠ 41 → c ≠ 53 → (ax_up (ax_up (ax_up (ax_up (ax_up (ax_up m1 53 1 0) 41 3 0) 41 6 0) 41 7 0) 41 8 0) 41 9 0) c = m1 c := fun c h1 h2 => by rw [z_upr h1, z_upr h1, z_upr h1, z_upr h1, z_upr h1, z_upr h2]
  have g : ∀ c, c ≠ 41 → ¬ (44 ≤ c ∧ c ≤ 54) → (ax_up (ax_up (ax_up (ax_up (ax_up (ax_up m1 53 1 0) 41 3 0) 41 6 0) 41 7 0) 41 8 0) 41 9 0) c = m c := fun c h1 h2 => by
    rw [f c h1 (by omega), r2 c (by omega), z_upr (by omega), z_upr (by omega), z_upr (by omega), z_upr (by omega), z_upr (by omega)]
  have e44 : ∀ j, m1 44 j = (ax_up (ax_up (ax_up (ax_up (ax_up m 44 0 2) 44 1 0) 44 2 0) 44 3 3) 44 4 0) 44 j := fun j => by rw [r2 44 (by omega)]
  refine ⟨⟨⟨⟨?_, ?_, ?_, ?_, ?_, ?_, ?_, ?_, ?_, ?_, ?_, ?_, ?_⟩, ?_, ?_, ?_, ?_⟩, ⟨?_, ?_⟩, g⟩, ?_, ?_⟩
  · rw [f 44 (by omega) (by omega), e44, z_up, if_neg (by omega), z_up, if_neg (by omega), z_up, if_neg (by omega), z_up, if_neg (by omega), z_up, if_pos ⟨rfl, rfl⟩]; rfl
  · rw [f 44 (by omega) (by omega), e44, z_up, if_neg (by omega), z_up, if_neg (by omega), z_up, if_neg (by omega), z_up, if_pos ⟨rfl, rfl⟩]; rfl
  · rw [f 44 (by omega) (by omega), e44, z_up, if_neg (by omega), z_up, if_neg (by omega), z_up, if_pos ⟨rfl, rfl⟩]; rfl
  · rw [f 44 (by omega) (by omega), e44, z_up, if_neg (by omega), z_up, if_pos ⟨rfl, rfl⟩]; rfl
  · rw [f 44 (by omega) (by omega), e44, z_up, if_pos ⟨rfl, rfl⟩]; rfl
  · intro k hk
    rw [f 45 (by omega) (by omega), r4 k (by omega) hk]; rfl
  · exact fun b hb => absurd hb (Nat.not_lt_zero b)
  · exact fun b hb => absurd hb (Nat.not_lt_zero b)
  · exact fun b hb => absurd hb (Nat.not_lt_zero b)
  · exact fun b hb => absurd hb (Nat.not_lt_zero b)
  · exact fun b hb => absurd hb (Nat.not_lt_zero b)
  · exact fun b hb => absurd hb (Nat.not_lt_zero b)
  · exact fun b hb => absurd hb (Nat.not_lt_zero b)
  · rw [z_up, if_neg (by omega), z_up, if_pos ⟨rfl, rfl⟩]; rfl
  · rw [z_up, if_pos ⟨rfl, rfl⟩]; rfl
  · rw [z_upr (by omega), z_upr (by omega), z_upr (by omega), z_upr (by omega), z_upr (by omega), z_up, if_pos ⟨rfl, rfl⟩]; rfl
  · exact fun b hb => absurd hb (Nat.not_lt_zero b)
  · rw [g 42 (by omega) (by omega)]; exact hT.1
  · rw [g 43 (by omega) (by omega)]; exact hT.2
  · rw [z_up, if_neg (by omega), z_up, if_neg (by omega), z_up, if_neg (by omega), z_up, if_pos ⟨rfl, rfl⟩]
  · rw [z_up, if_neg (by omega), z_up, if_neg (by omega), z_up, if_neg (by omega), z_up, if_neg (by omega), z_up, if_pos ⟨rfl, rfl⟩]; rfl
/-- which of the two it is -/
theorem zBF : (∃ f a, zBad d n f a ∧ f ≤ 6) ∨ ∃ y, zFine d n y := by
  have h6 := zTx_6 (d := d) (n := n) 330 zD0 0 0
  cases e : zTx d n 330 zD0 0 0 with
  | inl x =>
    rw [e] at h6
    exact Or.inl ⟨x.1, x.2, Or.inl e, h6⟩
  | inr y =>
    have hw := zTx_w (d := d) (n := n) 330 zD0 0 0 (by omega) zD0_w y e
    by_cases g : zGd y.1
    · exact Or.inr ⟨y, e, hw, g⟩
    · exact Or.inl ⟨6, n, Or.inr ⟨rfl, rfl, y, e, hw, g⟩, by omega⟩
theorem z4_all (hn : n ≤ 320) (hd : ∀ i, i < n → d i < 256) (hT : z4T m n d) : D4_takeText m ∧ z4X m (F4_takeText m).2 ∧ (∀ f a, zBad d n f a → (F4_takeText m).2 41 6 = nI f ∧ (F4_takeText m).2 41 7 = nI a ∧ 0 < f) ∧ (∀ y, zFine d n y → (F4_takeText m).2 41 6 = 0 ∧ (F4_takeText m).1 = nI y.2 ∧ z4D (F4_takeText m).2 y.1) := by
  obtain ⟨b1, b2, b3, b4⟩ := z4_begin hT
  obtain ⟨t1, t2⟩ := z4_text (m0 := m) hn hd 330 0 0 zD0 (z4M0 m) (by omega) (by omega) (by omega) zD0_w b2 b3 b4
  rw [show nI 0 = (0 : Int32) from rfl] at t1 t2
  have eF : F4_takeText m = ((L4_takeText_44 330 0 0 (z4M0 m)).1, (if ((L4_takeText_44 330 0 0 (z4M0 m)).2.2 41 6) = 0 then (if (F4_namesMissing (L4_takeText_44 330 0 0 (z4M0 m)).2.2) = 0 then (L4_takeText_44 330 0 0 (z4M0 m)).2.2 else (F4_fail 6 ((L4_takeText_44 330 0 0 (z4M0 m)).2.2 42 1) (L4_takeText_44 330 0 0 (z4M0 m)).2.2)) else (L4_takeText_44 330 0 0 (z4M0 m)).2.2)) := by unfold F4_takeText K4_takeText_30 K4_takeText_123 z4M0; rfl
  have eD : D4_takeText m = (D1_clear 44 m ∧ ((E4_takeText_44 330 0 0 (z4M0 m)) ∧ ((((L4_takeText_44 330 0 0 (z4M0 m)).2.2 41 6) = 0) → ((D4_namesMissing (L4_takeText_44 330 0 0 (z4M0 m)).2.2))))) := by unfold D4_takeText HK4_takeText_30 z4M0; rfl
  rw [eD, eF]
  dsimp only
  generalize L4_takeText_44 330 0 0 (z4M0 m) = L at t2
  cases e : zTx d n 330 zD0 0 0 with
  | inl x =>
    rw [e] at t2
    obtain ⟨c1, c2, c3, c4, c5⟩ := t2
    have n6 : ¬ L.2.2 41 6 = 0 := by rw [c1]; exact nI_ne0 c3 (by omega)
    rw [if_neg n6]
    refine ⟨⟨b1, t1, fun z => absurd z n6⟩, c5, ?_, ?_⟩
    · rintro f a (h | ⟨_, _, y, h, _⟩)
      · rw [e] at h
        have h' : x = (f, a) := Sum.inl.inj h
        subst h'
        exact ⟨c1, c2, c3⟩
      · rw [e] at h; cases h
    · rintro y ⟨h, _⟩
      rw [e] at h; cases h
  | inr y =>
    rw [e] at t2
    obtain ⟨c1, c2, c3⟩ := t2
    have hw := zTx_w (d := d) (n := n) 330 zD0 0 0 (by omega) zD0_w y e
    obtain ⟨d1, d2⟩ := z4_miss hw c1.1
    rw [if_pos c2]
    rcases d2 with ⟨d2, d3⟩ | ⟨d2, d3⟩
    · rw [if_neg (by rw [d2]; decide), c1.2.1.1]
      obtain ⟨f1, f2⟩ := z4_bF (f := 6) (a := n) c1 c2 (by omega) (by omega)
      obtain ⟨f2, f3, f4, f5, f6⟩ := f2
      refine ⟨⟨b1, t1, fun _ => d1⟩, f6, ?_, ?_⟩
      · rintro f a (h | ⟨h1, h2, y', h, _⟩)
        · rw [e] at h; cases h
        · rw [h1, h2]; exact ⟨f2, f3, by omega⟩
      · rintro y' ⟨h, _, h2⟩
        rw [e] at h
        have h' : y = y' := Sum.inr.inj h
        subst h'
        exact absurd h2 d3
    · rw [if_pos d2]
      refine ⟨⟨b1, t1, fun _ => d1⟩, c1.2.2, ?_, ?_⟩
      · rintro f a (h | ⟨h1, h2, y', h, _, h3⟩)
        · rw [e] at h; cases h
        · rw [e] at h
          have h' : y = y' := Sum.inr.inj h
          subst h'
          exact absurd d3 h3
      · rintro y' ⟨h, _, h2⟩
        rw [e] at h
        have h' : y = y' := Sum.inr.inj h
        subst h'
        exact ⟨c2, c3, c1.1⟩
end ZR3
