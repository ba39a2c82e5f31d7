/-! PURE: a text, by the class: what it leaves -/
section ZR4
variable {m m0 : ax_M} {d : Nat → Nat} {n i : Nat} {D : zD} {T : zT}
def zTn (T : zT) (D : zD) : zT := (D.s, D.P, T.im, (fun _ => false), (D.dn, D.dy), (0, T.tp), (0, T.rf), T.2.2.2.2.2.2.2)
theorem zGd.w (hG : zGd D) (hW : zDW D) : zW D.s := ⟨hW.1.1, hW.1.2.1, hW.1.2.2.1, hW.1.2.2.2.1, hW.1.2.2.2.2.1, hW.1.2.2.2.2.2.1, fun b hb => (hG.2.1 b hb).1, fun b hb => (hG.2.1 b hb).2, fun b hb => (hW.2.2.1 b hb).2.2.1⟩
theorem zGd.v (hG : zGd D) (hW : zDW D) : zV D.s D.P := ⟨hW.2.1, hG.1, fun b hb => (hW.2.2.1 b hb).2.2.2, fun p hp => (hW.2.2.2.1 p hp).1, fun p hp => ⟨(hW.2.2.2.1 p hp).2.1, (hW.2.2.2.1 p hp).2.2.1⟩, fun p hp => (hG.2.2.1 p hp).1, fun p hp => (hG.2.2.1 p hp).2⟩
theorem zTn_w (hT : zWF T) (hG : zGd D) (hW : zDW D) : zWF (zTn T D) := by
  refine ⟨hG.w hW, hG.v hW, ?_, fun k _ h => absurd (show false = true from h) (by decide), ⟨hW.1.2.2.2.2.2.2.1, fun i hi => ⟨(hG.2.2.2 i hi).1, (hG.2.2.2 i hi).2.1, (hG.2.2.2 i hi).2.2, (hW.2.2.2.2 i hi).2.2.2⟩⟩, ⟨Nat.zero_le _, fun i hi => absurd hi (Nat.not_lt_zero i)⟩, ⟨Nat.zero_le _, hT.f.2⟩, fun k hk => hT.sh hk⟩
  have := hW.1.2.2.2.2.2.2.2
  show D.P.cr ≤ 999
  omega
theorem z7_38 {v : Int32} : ∀ k x m, x ≤ 2 → 2 - x < k → E7_text_78 k v (nI x) m ∧ (∀ c, c ≠ 38 → (L7_text_78 k v (nI x) m).2 c = m c) ∧ (∀ j, j < x → (L7_text_78 k v (nI x) m).2 38 j = m 38 j) ∧ (∀ j, x ≤ j → j < 2 → (L7_text_78 k v (nI x) m).2 38 j = 0)
  | 0, _, _, _, h => absurd h (by omega)
  | k + 1, x, m, hx, hk => by
    unfold E7_text_78 L7_text_78
    by_cases w : x = 2
    · have c : (2 : Int32) ≤ nI x := (z_nle (a := 2) (by omega) (by omega)).mpr (by omega)
      rw [if_pos c]
      exact ⟨fun z => absurd c z, fun _ _ => rfl, fun _ _ => rfl, fun j h1 h2 => by omega⟩
    · have c : ¬ (2 : Int32) ≤ nI x := fun z => absurd ((z_nle (a := 2) (by omega) (by omega)).mp z) (by omega)
      rw [if_neg c, z_ncl (by omega), nI_1]
      obtain ⟨r1, r2, r3, r4⟩ := z7_38 (v := v) k (x + 1) (ax_up m 38 x 0) (by omega) (by omega)
      refine ⟨fun _ => ⟨z_vp (by omega) (by omega), r1⟩, fun c hc => by rw [r2 c hc, z_upr hc], fun j hj => by rw [r3 j (by omega), z_up, if_neg (by omega)], fun j h1 h2 => ?_⟩
      by_cases y : j = x
      · rw [r3 j (by omega), z_up, if_pos ⟨rfl, y⟩]
      · exact r4 j (by omega) h2
theorem z7_text (hT : zWF T) (h7 : z7 m T) : D7_text m ∧ (∀ c, 74 ≤ c → (F7_text m).2 c = m c) ∧ ((∃ f a, zBad T.tp T.tn f a ∧ f ≤ 6 ∧ (F7_text m).1 = -10 - nI a ∧ z7 (F7_text m).2 ((T.setTape 0 T.tp).setF f T.rf)) ∨ ∃ y, zFine T.tp T.tn y ∧ (F7_text m).1 = nI y.2 ∧ z7 (F7_text m).2 (zTn T y.1)) := by
  obtain ⟨a1, a2, a3, a4⟩ := z4_all (m := m) (d := T.tp) (n := T.tn) hT.tape.1 hT.tape.2 ⟨h7.tn, fun i hi => h7.tp hi⟩
  have hE : ∀ v M, E7_text_78 64 v 0 M := fun v M => (z7_38 (v := v) 64 0 M (by omega) (by omega)).1
  refine ⟨⟨a1, fun _ => hE _ _⟩, ?_⟩
  unfold F7_text K7_text_30 K7_text_100
  generalize F4_takeText m = R at a2 a3 a4
  have e41 : (ax_up R.2 42 1 0) 41 = R.2 41 := z_upr (by omega)
  rw [e41]
  have e9 : (ax_up (ax_up R.2 42 1 0) 0 9 (R.2 41 6)) 0 9 = R.2 41 6 := by rw [z_up, if_pos ⟨rfl, rfl⟩]
  have e7 : (ax_up (ax_up R.2 42 1 0) 0 9 (R.2 41 6)) 41 = R.2 41 := by rw [z_upr (by omega), z_upr (by omega)]
  have f1 : ∀ c, c ≠ 41 → ¬ (44 ≤ c ∧ c ≤ 54) → c ≠ 42 → c ≠ 0 → (ax_up (ax_up R.2 42 1 0) 0 9 (R.2 41 6)) c = m c := fun c c1 c2 c3 c4 => by rw [z_upr c4, z_upr c3]; exact a2 c c1 c2
  have h10 : (ax_up (ax_up R.2 42 1 0) 0 9 (R.2 41 6)) 0 10 = nI T.rf := by rw [z_up, if_neg (by omega), z_upr (by omega), a2 0 (by omega) (by omega)]; exact h7.rf
  rw [e9, e7]
  rcases zBF (d := T.tp) (n := T.tn) with ⟨f, a, hb, h6⟩ | ⟨y, hy⟩
  · obtain ⟨b1, b2, b3⟩ := a3 f a hb
    have n0 : ¬ R.2 41 6 = 0 := by rw [b1]; exact nI_ne0 b3 (by omega)
    rw [if_neg n0]
    refine ⟨fun c hc => f1 c (by omega) (by omega) (by omega) (by omega), Or.inl ⟨f, a, hb, h6, by rw [b2], ?_⟩⟩
    have h1 : z7 R.2 T := h7.of (fun c _ hs => a2 c (fun z => hs (by unfold zsc; omega)) (fun z => hs (by unfold zsc; omega)))
    have h2 : z7 (ax_up R.2 42 1 0) (T.setTape 0 T.tp) := h1.tape (fun c _ _ hc => z_upr hc.1) ⟨by rw [z_up, if_pos ⟨rfl, rfl⟩]; rfl, fun i hi => absurd hi (Nat.not_lt_zero i)⟩
    exact h2.fl (fun c _ _ hc => z_upr hc) ⟨e9.trans b1, h10⟩
  · obtain ⟨b1, b2, b3⟩ := a4 y hy
    obtain ⟨y1, y2, y3⟩ := hy
    have hw := y3.w y2
    have n8 := y2.1.2.2.2.2.2.2.1
    rw [if_pos b1]
    dsimp only
    rw [b1] at f1 h10 e9 ⊢
    have hD : zG (ax_up (ax_up R.2 42 1 0) 0 9 0) 44 y.1.s y.1.P := b3.1.same (fun c _ _ => by rw [z_upr (by omega), z_upr (by omega)])
    have d53 : (ax_up (ax_up R.2 42 1 0) 0 9 0) 53 1 = nI y.1.dn := by rw [z_upr (by omega), z_upr (by omega)]; exact b3.2.2.2.1
    have d54 : ∀ i, i < 3 * y.1.dn → (ax_up (ax_up R.2 42 1 0) 0 9 0) 54 i = nI (y.1.dy i) := by rw [z_upr (by omega), z_upr (by omega)]; exact b3.2.2.2.2
    have h42 : (ax_up (ax_up R.2 42 1 0) 0 9 0) 42 1 = 0 := by rw [z_upr (by omega), z_up, if_pos ⟨rfl, rfl⟩]
    generalize ax_up (ax_up R.2 42 1 0) 0 9 0 = M at f1 h10 e9 hD d53 d54 h42
    obtain ⟨g1, g2⟩ := z7_copy (g := 1) hw hD (by omega)
    generalize F1_copyFrom 1 44 M = M1 at g1 g2
    have k1 : ∀ c, c ≠ 39 → c ≠ 40 → (F0_copyFrom 39 53 M1) c = M1 c := fun c c1 c2 => by unfold F0_copyFrom; rw [z_upr c1, z_cpyr c2]
    have k2 : (F0_copyFrom 39 53 M1) 39 1 = nI y.1.dn := by unfold F0_copyFrom; rw [z_up, if_pos ⟨rfl, rfl⟩, z_cpyr (by omega), g2 53 (by omega)]; exact d53
    have k3 : ∀ i, i < 3 * y.1.dn → (F0_copyFrom 39 53 M1) 40 i = nI (y.1.dy i) := fun i hi => by unfold F0_copyFrom; rw [z_upr (by omega), z_cpys (by omega), g2 54 (by omega)]; exact d54 i hi
    generalize F0_copyFrom 39 53 M1 = M2 at k1 k2 k3
    obtain ⟨r1, r2, r3, r4⟩ := z7_38 (v := R.1) 64 0 M2 (by omega) (by omega)
    rw [show nI 0 = (0 : Int32) from rfl] at r1 r2 r3 r4
    generalize (L7_text_78 64 R.1 0 M2).2 = M3 at r2 r3 r4
    have fr : ∀ c, ¬ (1 ≤ c ∧ c ≤ 9) → ¬ (38 ≤ c ∧ c ≤ 40) → M3 c = M c := fun c c1 c2 => by rw [r2 c (by omega), k1 c (by omega) (by omega), g2 c (by omega)]
    have fm : ∀ c, ¬ (0 ≤ c ∧ c ≤ 9) → ¬ (38 ≤ c ∧ c ≤ 42) → ¬ (44 ≤ c ∧ c ≤ 54) → M3 c = m c := fun c c1 c2 c3 => by rw [fr c (by omega) (by omega), f1 c (by omega) (by omega) (by omega) (by omega)]
    refine ⟨fun c hc => fm c (by omega) (by omega) (by omega), Or.inr ⟨y, ⟨y1, y2, y3⟩, b2, ?_⟩⟩
    refine ⟨?_, ?_, ?_, ⟨?_, ?_⟩, ⟨?_, ?_⟩, ⟨?_, ?_⟩, ?_, ?_, ?_⟩
    · exact g1.same (fun c _ _ => by rw [r2 c (by omega), k1 c (by omega) (by omega)])
    · intro k hk; rw [r4 k (by omega) hk]; rfl
    · exact fun k _ h => absurd (show false = true from h) (by decide)
    · rw [r2 39 (by omega)]; exact k2
    · rw [r2 40 (by omega)]; exact k3
    · rw [fr 42 (by omega) (by omega), h42]; rfl
    · exact fun i hi => absurd hi (Nat.not_lt_zero i)
    · rw [fr 0 (by omega) (by omega), e9]; rfl
    · rw [fr 0 (by omega) (by omega)]; exact h10
    · intro k hk; rw [fm 73 (by omega) (by omega) (by omega), fm 72 (by omega) (by omega) (by omega)]; exact ⟨h7.ln hk, h7.sz hk⟩
    · intro i hi; rw [fm 71 (by omega) (by omega) (by omega)]; exact h7.ce hi
    · exact h7.n.same (fun c _ _ => fm c (by omega) (by omega) (by omega))
end ZR4
