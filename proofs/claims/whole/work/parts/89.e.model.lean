/-! PURE: a text, by the reference -/
section ZR5
variable {m m0 : ax_M} {d : Nat → Nat} {n i : Nat} {D : zD} {T : zT}
theorem z8_blank : ∀ k x m, x ≤ 33 → 33 - x < k → E8_beginsText_62 k (nI x) m ∧ (∀ c, c ≠ 78 → (L8_beginsText_62 k (nI x) m).2 c = m c) ∧ (∀ j, j < x → (L8_beginsText_62 k (nI x) m).2 78 j = m 78 j) ∧ (∀ j, x ≤ j → j < 33 → (L8_beginsText_62 k (nI x) m).2 78 j = 0)
  | 0, _, _, _, h => absurd h (by omega)
  | k + 1, x, m, hx, hk => by
    unfold E8_beginsText_62 L8_beginsText_62
    by_cases w : x = 33
    · have c : (33 : Int32) ≤ nI x := (z_nle (a := 33) (by omega) (by omega)).mpr (by omega)
      rw [if_pos c]
      exact ⟨fun z => absurd c z, fun _ _ => rfl, fun _ _ => rfl, fun j h1 h2 => by omega⟩
    · have c : ¬ (33 : Int32) ≤ nI x := fun z => absurd ((z_nle (a := 33) (by omega) (by omega)).mp z) (by omega)
      rw [if_neg c, z_ncl (by omega), nI_1]
      obtain ⟨r1, r2, r3, r4⟩ := z8_blank k (x + 1) (ax_up m 78 x 0) (by omega) (by omega)
      refine ⟨fun _ => ⟨z_vp (by omega) (by omega), r1⟩, fun c hc => by rw [r2 c hc, z_upr hc], fun j hj => by rw [r3 j (by omega), z_up, if_neg (by omega)], fun j h1 h2 => ?_⟩
      by_cases y : j = x
      · rw [r3 j (by omega), z_up, if_pos ⟨rfl, y⟩]
      · exact r4 j (by omega) h2
def z8M0 (m : ax_M) : ax_M := ax_up (ax_up (ax_up (ax_up (ax_up (ax_up (ax_up (ax_up (ax_up (ax_up (ax_up (ax_up m 74 24 0) 74 26 0) 74 11 0) 74 12 0) 74 13 0) 74 14 2) 74 15 3) 74 16 0) 74 17 0) 74 18 (-1)) 74 19 (-1)) 74 20 (-1)
theorem z8M0_r {c : Nat} (h : c ≠ 74) : z8M0 m c = m c := by
  unfold z8M0
  rw [z_upr h, z_upr h, z_upr h, z_upr h, z_upr h, z_upr h, z_upr h, z_upr h, z_upr h, z_upr h, z_upr h, z_upr h]
theorem z8M0_j {j : Nat} (h1 : ¬ (11 ≤ j ∧ j ≤ 20)) (h2 : ¬ (24 ≤ j ∧ j ≤ 29)) : z8M0 m 74 j = m 74 j := by
  unfold z8M0
  rw [z_up, if_neg (by omega), z_up, if_neg (by omega), z_up, if_neg (by omega), z_up, if_neg (by omega), z_up, if_neg (by omega), z_up, if_neg (by omega), z_up, if_neg (by omega), z_up, if_neg (by omega), z_up, if_neg (by omega), z_up, if_neg (by omega), z_up, if_neg (by omega), z_up, if_neg (by omega)]
theorem z8M0_v : z8M0 m 74 24 = 0 ∧ z8M0 m 74 26 = 0 ∧ z8M0 m 74 11 = 0 ∧ z8M0 m 74 12 = 0 ∧ z8M0 m 74 13 = 0 ∧ z8M0 m 74 14 = 2 ∧ z8M0 m 74 15 = 3 ∧ z8M0 m 74 16 = 0 ∧ z8M0 m 74 17 = 0 ∧ z8M0 m 74 18 = -1 ∧ z8M0 m 74 19 = -1 ∧ z8M0 m 74 20 = -1 := by
  unfold z8M0
  refine ⟨?_, ?_, ?_, ?_, ?_, ?_, ?_, ?_, ?_, ?_, ?_, ?_⟩ <;> simp [z_up]
theorem z8_begin (hT : z8T m n d) (hN : z8N m) : D8_beginsText m ∧ z8Q m d n zD0 (F8_beginsText m) ∧ (F8_beginsText m) 74 24 = 0 ∧ (F8_beginsText m) 74 26 = nI 0 := by
  obtain ⟨r1, r2, r3, r4⟩ := z8_blank 64 0 (z8M0 m) (by omega) (by omega)
  rw [show nI 0 = (0 : Int32) from rfl] at r1 r2 r3 r4
  have eF : F8_beginsText m = (L8_beginsText_62 64 0 (z8M0 m)).2 := by unfold F8_beginsText K8_beginsText_20 K8_beginsText_40 K8_beginsText_60 z8M0; rfl
  have eD : D8_beginsText m = E8_beginsText_62 64 0 (z8M0 m) := by unfold D8_beginsText HK8_beginsText_20 HK8_beginsText_40 HK8_beginsText_60 z8M0; rfl
  rw [eF, eD]
  refine ⟨r1, ?_⟩
  generalize (L8_beginsText_62 64 0 (z8M0 m)).2 = M at r2 r3 r4
  obtain ⟨v24, v26, v11, v12, v13, v14, v15, v16, v17, v18, v19, v20⟩ := z8M0_v (m := m)
  have e74 := r2 74 (by omega)
  have fr : ∀ c, c ≠ 74 → c ≠ 78 → M c = m c := fun c c1 c2 => by rw [r2 c c2, z8M0_r c1]
  rw [e74]
  refine ⟨⟨⟨⟨?_, ?_, ?_, ?_, ?_, ?_⟩, ⟨0, ?_, by omega, ?_⟩, ⟨?_, ?_, ?_, ?_, ?_, ?_, ?_⟩, ?_, ?_⟩, ⟨0, 0, 0, ⟨?_, ?_, ?_, by omega, by omega, by omega⟩, ⟨?_, fun h => absurd h (by omega)⟩, ⟨?_, fun h => absurd h (by omega)⟩, ⟨?_, fun h => absurd h (by omega)⟩⟩, ⟨?_, ?_⟩, ⟨?_, ?_⟩, ⟨?_, ?_⟩⟩, v24, v26⟩
  · rw [e74, v11]; rfl
  · rw [e74, v12]; rfl
  · rw [e74, v13]; rfl
  · rw [e74, v14]; rfl
  · rw [e74, v15]; rfl
  · rw [e74, v16]; rfl
  · rw [e74, v17]; rfl
  · intro k hk; rw [Nat.zero_testBit]; rfl
  · exact r4 32 (by omega) (by omega)
  · intro k hk; show M 78 (0 + (24 + k)) = nI 0; rw [r4 (0 + (24 + k)) (by omega) (by omega)]; rfl
  · exact fun b hb => absurd hb (Nat.not_lt_zero b)
  · exact fun b hb => absurd hb (Nat.not_lt_zero b)
  · exact fun b hb => absurd hb (Nat.not_lt_zero b)
  · exact fun b hb => absurd hb (Nat.not_lt_zero b)
  · exact fun b hb => absurd hb (Nat.not_lt_zero b)
  · exact fun b hb => absurd hb (Nat.not_lt_zero b)
  · exact fun b hb => absurd hb (Nat.not_lt_zero b)
  · rw [e74, v18]; rfl
  · rw [e74, v19]; rfl
  · rw [e74, v20]; rfl
  · rintro x (⟨_, h⟩ | ⟨b, hb, _⟩ | ⟨b, hb, _⟩)
    · exact absurd h (Nat.lt_irrefl 0)
    · exact absurd hb (Nat.not_lt_zero b)
    · exact absurd hb (Nat.not_lt_zero b)
  · rintro x ⟨b, hb, _⟩
    exact absurd hb (Nat.not_lt_zero b)
  · rintro x ⟨b, hb, _⟩
    exact absurd hb (Nat.not_lt_zero b)
  · rw [e74, z8M0_j (by omega) (by omega)]; exact hT.1
  · rw [fr 81 (by omega) (by omega)]; exact hT.2
  · rw [fr 82 (by omega) (by omega)]; exact hN.1
  · rw [fr 83 (by omega) (by omega)]; exact hN.2
  · exact fun c c1 c2 c3 c4 => fr c c1 c2
  · intro j j1 j2; rw [e74]; exact z8M0_j j1 j2
theorem z8_brk6 (h : m 74 24 = 0) (h1 : m 74 27 = nI n) : z8B (F8_fails 6 m) 6 n ∧ z8G m (F8_fails 6 m) := by
  rw [z8_fail0 h, h1]
  exact ⟨⟨by rw [z_up, if_neg (by omega), z_up, if_pos ⟨rfl, rfl⟩]; rfl, by rw [z_up, if_pos ⟨rfl, rfl⟩], by omega, by omega⟩, ((z8F.rf.up (by omega) (by omega)).up (by omega) (by omega)).gg⟩
/-- the names are looked at -/
def z8fin (M : ax_M) : ax_M := if (M 74 24) = 0 then (if (M 74 14) ≤ (M 74 18) then (F8_fails 6 M) else (if (M 74 11) ≤ (M 74 19) then (F8_fails 6 M) else (if (M 74 20) < (M 74 12) then M else (F8_fails 6 M)))) else M
theorem z8_whole (hn : n ≤ 320) (hd : ∀ i, i < n → d i < 256) (hT : z8T m n d) (hN : z8N m) : (D8_beginsText m ∧ D8_step (F8_beginsText m) ∧ E8_text_10 330 0 (F8_step (F8_beginsText m))) ∧ z8X m (z8fin (L8_text_10 330 0 (F8_step (F8_beginsText m))).2) ∧ (∀ f a, zBad d n f a → z8B (z8fin (L8_text_10 330 0 (F8_step (F8_beginsText m))).2) f a) ∧ (∀ y, zFine d n y → (z8fin (L8_text_10 330 0 (F8_step (F8_beginsText m))).2) 74 24 = 0 ∧ (L8_text_10 330 0 (F8_step (F8_beginsText m))).1 = nI y.2 ∧ z8d (z8fin (L8_text_10 330 0 (F8_step (F8_beginsText m))).2) y.1) := by
  obtain ⟨b1, ⟨hD, ⟨hb, hg, ho, hH, nB, nG, nO⟩, hT', hN', hX⟩, b3, b4⟩ := z8_begin hT hN
  obtain ⟨s1, s2, s3⟩ := z8_step hn hd hT' b3 b4 (by omega)
  have hQ : z8Q m d n zD0 (F8_step (F8_beginsText m)) := ⟨s2.gg.dd hD, ⟨hb, hg, ho, ⟨(s2.2 18 (by omega)).trans hH.1, (s2.2 19 (by omega)).trans hH.2.1, (s2.2 20 (by omega)).trans hH.2.2.1, hH.2.2.2⟩, nB, nG, nO⟩, s2.t hT', s2.gg.nn hN', s2.gg.x hX⟩
  obtain ⟨t1, t2⟩ := z8_text (m0 := m) hn hd 330 0 0 zD0 (F8_step (F8_beginsText m)) (by omega) (by omega) zD0_w hQ s3
  rw [show nI 0 = (0 : Int32) from rfl] at t1 t2
  refine ⟨⟨b1, s1, t1⟩, ?_⟩
  generalize L8_text_10 330 0 (F8_step (F8_beginsText m)) = L at t2
  unfold z8fin
  cases e : zTx d n 330 zD0 0 0 with
  | inl x =>
    rw [e] at t2
    obtain ⟨c1, c2, c3, c4, c5⟩ := t2
    have n6 : ¬ L.2 74 24 = 0 := by rw [c1]; exact nI_ne0 c3 (by omega)
    rw [if_neg n6]
    refine ⟨c5, ?_, ?_⟩
    · rintro f a (h | ⟨_, _, y, h, _⟩)
      · rw [e] at h
        have h' : x = (f, a) := Sum.inl.inj h
        subst h'
        exact ⟨c1, c2, c3, c4⟩
      · rw [e] at h; cases h
    · rintro y ⟨h, _⟩
      rw [e] at h; cases h
  | inr y =>
    rw [e] at t2
    obtain ⟨⟨q1, q2, q3, q4, q5⟩, c2, c3, c4⟩ := t2
    have hw := zTx_w (d := d) (n := n) 330 zD0 0 0 (by omega) zD0_w y e
    rw [if_pos c2]
    rcases z8_miss hw q1 q2 with ⟨d2, d3⟩ | ⟨d2, d3⟩
    · rw [d2]
      refine ⟨q5, ?_, ?_⟩
      · rintro f a (h | ⟨h1, h2, y', h, _, h3⟩)
        · rw [e] at h; cases h
        · rw [e] at h
          have h' : y = y' := Sum.inr.inj h
          subst h'
          exact absurd d3 h3
      · rintro y' ⟨h, _, h2⟩
        rw [e] at h
        have h' : y = y' := Sum.inr.inj h
        subst h'
        exact ⟨c2, c4, q1⟩
    · rw [d2]
      obtain ⟨f1, f2⟩ := z8_brk6 c2 c3
      refine ⟨f2.x q5, ?_, ?_⟩
      · rintro f a (h | ⟨h1, h2, y', h, _⟩)
        · rw [e] at h; cases h
        · rw [h1, h2]; exact f1
      · rintro y' ⟨h, _, h2⟩
        rw [e] at h
        have h' : y = y' := Sum.inr.inj h
        subst h'
        exact absurd h2 d3
end ZR5
