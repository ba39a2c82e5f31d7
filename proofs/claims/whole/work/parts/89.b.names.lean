/-! PURE: what a text names must be there; how a text begins and ends -/
section ZR2
variable {m m0 : ax_M} {d : Nat → Nat} {n i : Nat} {D : zD}
def zGd (D : zD) : Prop := (∀ k, D.s.nb ≤ k → k < 4 → D.P.hp k = 0) ∧ (∀ b, b < D.s.ng → D.s.fs b < D.s.nb ∧ D.s.sc b < D.s.nb) ∧ (∀ p, p < D.s.no → D.P.bk p < D.s.nb ∧ D.P.gl p < D.s.nb) ∧ (∀ i, i < D.dn → D.dy (3 * i) < D.s.ng ∧ D.dy (3 * i + 1) < D.s.no ∧ D.dy (3 * i + 2) < D.s.no)
theorem zGd_i : zGd D ↔ (∀ x, zNB D x → x < D.s.nb) ∧ (∀ x, zNG D x → x < D.s.ng) ∧ (∀ x, zNO D x → x < D.s.no) := by
  constructor
  · rintro ⟨h1, h2, h3, h4⟩
    refine ⟨?_, ?_, ?_⟩
    · rintro x (⟨a, b⟩ | ⟨b, hb, a⟩ | ⟨p, hp, a⟩)
      · by_cases w : x < D.s.nb
        · exact w
        · have := h1 x (by omega) a; omega
      · have := h2 b hb
        rcases a with a | a <;> omega
      · have := h3 p hp
        rcases a with a | a <;> omega
    · rintro x ⟨i, hi, a⟩
      have := h4 i hi; omega
    · rintro x ⟨i, hi, a⟩
      have := h4 i hi
      rcases a with a | a <;> omega
  · rintro ⟨h1, h2, h3⟩
    refine ⟨fun k a b => ?_, fun b hb => ⟨h1 _ (Or.inr (Or.inl ⟨b, hb, Or.inl rfl⟩)), h1 _ (Or.inr (Or.inl ⟨b, hb, Or.inr rfl⟩))⟩, fun p hp => ⟨h1 _ (Or.inr (Or.inr ⟨p, hp, Or.inl rfl⟩)), h1 _ (Or.inr (Or.inr ⟨p, hp, Or.inr rfl⟩))⟩, fun i hi => ⟨h2 _ ⟨i, hi, rfl⟩, h3 _ ⟨i, hi, Or.inl rfl⟩, h3 _ ⟨i, hi, Or.inr rfl⟩⟩⟩
    by_cases w : D.P.hp k = 0
    · exact w
    · have := h1 k (Or.inl ⟨b, by omega⟩); omega
theorem zHh_i {N : Nat → Prop} {h b : Nat} (hh : zHh N h) : (∀ x, N x → x < b) ↔ h ≤ b := by
  constructor
  · intro a
    by_cases w : 0 < h
    · have := a _ (hh.2 w); omega
    · omega
  · intro a x hx
    have := hh.1 x hx; omega
theorem z_hasN {a b : Nat} {x : Int32} (ha : a < 1000) (hb : b < 1000) (h : x = nI b) : ((if nI a < 0 then 0 else (if x ≤ nI a then 0 else 1) : Int32) = 0) ↔ b ≤ a := by
  rw [h, if_neg (show ¬ nI a < 0 from fun z => absurd ((z_nlt (b := 0) (by omega) (by omega)).mp z) (by omega))]
  by_cases w : b ≤ a
  · rw [if_pos ((z_nle (by omega) (by omega)).mpr w)]; exact ⟨fun _ => w, fun _ => rfl⟩
  · rw [if_neg (fun z => w ((z_nle (by omega) (by omega)).mp z))]; exact ⟨fun z => absurd z (by decide), fun z => absurd z w⟩
theorem z4_m8 (hW : zDW D) (hD : z4D m D) : ∀ k x, x ≤ 4 → 4 - x < k → E4_namesMissing_8 k (nI x) m ∧ (((L4_namesMissing_8 k (nI x) m).1 = some 1 ∧ ∃ y, x ≤ y ∧ y < 4 ∧ 0 < D.P.hp y) ∨ ((L4_namesMissing_8 k (nI x) m).1 = none ∧ ∀ y, x ≤ y → y < 4 → D.P.hp y = 0))
  | 0, _, _, h => absurd h (by omega)
  | k + 1, x, hx, hk => by
    unfold E4_namesMissing_8 L4_namesMissing_8
    by_cases w : x = 4
    · have c : (4 : Int32) ≤ nI x := (z_nle (a := 4) (by omega) (by omega)).mpr (by omega)
      rw [if_pos c]
      exact ⟨fun z => absurd c z, Or.inr ⟨rfl, fun y h1 h2 => by omega⟩⟩
    · have c : ¬ (4 : Int32) ≤ nI x := fun z => absurd ((z_nle (a := 4) (by omega) (by omega)).mp z) (by omega)
      have hh := hW.2.1 x (by omega)
      have e : F1_stonesOn 44 (nI x) m = nI (D.P.hp x) := by unfold F1_stonesOn; rw [z_at (by omega) (by omega)]; exact hD.1.hp (by omega)
      rw [if_neg c, e, nI_1]
      by_cases y : D.P.hp x = 0
      · have c2 : nI (D.P.hp x) ≤ 0 := (z_nle (b := 0) (by omega) (by omega)).mpr (by omega)
        rw [if_pos c2]
        obtain ⟨r1, r2⟩ := z4_m8 hW hD k (x + 1) (by omega) (by omega)
        refine ⟨fun _ _ => r1, ?_⟩
        rcases r2 with ⟨a1, z, z1, z2, z3⟩ | ⟨a1, a2⟩
        · exact Or.inl ⟨a1, z, by omega, z2, z3⟩
        · exact Or.inr ⟨a1, fun z z1 z2 => by
            by_cases zx : z = x
            · rw [zx]; exact y
            · exact a2 z (by omega) z2⟩
      · have c2 : ¬ nI (D.P.hp x) ≤ 0 := fun z => absurd ((z_nle (b := 0) (by omega) (by omega)).mp z) (by omega)
        rw [if_neg c2]
        exact ⟨fun _ z => absurd z c2, Or.inl ⟨rfl, x, by omega, by omega, by omega⟩⟩
theorem z4_m34 (hW : zDW D) (hD : z4D m D) : ∀ k x, x ≤ D.s.ng → D.s.ng - x < k → E4_namesMissing_34 k (nI x) m ∧ (((L4_namesMissing_34 k (nI x) m).1 = some 1 ∧ ∃ y, x ≤ y ∧ y < D.s.ng ∧ ¬ (D.s.fs y < D.s.nb ∧ D.s.sc y < D.s.nb)) ∨ ((L4_namesMissing_34 k (nI x) m).1 = none ∧ ∀ y, x ≤ y → y < D.s.ng → D.s.fs y < D.s.nb ∧ D.s.sc y < D.s.nb))
  | 0, _, _, h => absurd h (by omega)
  | k + 1, x, hx, hk => by
    have b1 := hW.1.2.1
    have b2 := hW.1.2.2.1
    unfold E4_namesMissing_34 L4_namesMissing_34
    rw [hD.1.ng]
    by_cases w : x = D.s.ng
    · have c : nI D.s.ng ≤ nI x := (z_nle (by omega) (by omega)).mpr (by omega)
      rw [if_pos c]
      exact ⟨fun z => absurd c z, Or.inr ⟨rfl, fun y h1 h2 => by omega⟩⟩
    · have c : ¬ nI D.s.ng ≤ nI x := fun z => absurd ((z_nle (by omega) (by omega)).mp z) (by omega)
      have hh := hW.2.2.1 x (by omega)
      have e : F1_firstBank 44 (nI x) m = nI (D.s.fs x) := by unfold F1_firstBank; rw [z_at (by omega) (by omega)]; exact hD.1.fs (by omega)
      have e' : F1_secondBank 44 (nI x) m = nI (D.s.sc x) := by unfold F1_secondBank; rw [z_at (by omega) (by omega)]; exact hD.1.sc (by omega)
      have f : F1_hasBank 44 (nI (D.s.fs x)) m = 0 ↔ D.s.nb ≤ D.s.fs x := z_hasN (by omega) (by omega) hD.1.nb
      have f' : F1_hasBank 44 (nI (D.s.sc x)) m = 0 ↔ D.s.nb ≤ D.s.sc x := z_hasN (by omega) (by omega) hD.1.nb
      rw [if_neg c, e, e', nI_1]
      by_cases y : D.s.nb ≤ D.s.fs x
      · rw [if_pos (f.mpr y)]
        exact ⟨fun _ z => absurd (f.mpr y) z, Or.inl ⟨rfl, x, by omega, by omega, by omega⟩⟩
      · rw [if_neg (fun z => y (f.mp z))]
        by_cases y' : D.s.nb ≤ D.s.sc x
        · rw [if_pos (f'.mpr y')]
          exact ⟨fun _ _ z => absurd (f'.mpr y') z, Or.inl ⟨rfl, x, by omega, by omega, by omega⟩⟩
        · rw [if_neg (fun z => y' (f'.mp z))]
          obtain ⟨r1, r2⟩ := z4_m34 hW hD k (x + 1) (by omega) (by omega)
          refine ⟨fun _ _ _ => r1, ?_⟩
          rcases r2 with ⟨a1, z, z1, z2, z3⟩ | ⟨a1, a2⟩
          · exact Or.inl ⟨a1, z, by omega, z2, z3⟩
          · exact Or.inr ⟨a1, fun z z1 z2 => by
              by_cases zx : z = x
              · rw [zx]; omega
              · exact a2 z (by omega) z2⟩
theorem z4_m91 (hW : zDW D) (hD : z4D m D) : ∀ k x, x ≤ D.s.no → D.s.no - x < k → E4_namesMissing_91 k (nI x) m ∧ (((L4_namesMissing_91 k (nI x) m).1 = some 1 ∧ ∃ y, x ≤ y ∧ y < D.s.no ∧ ¬ (D.P.bk y < D.s.nb ∧ D.P.gl y < D.s.nb)) ∨ ((L4_namesMissing_91 k (nI x) m).1 = none ∧ ∀ y, x ≤ y → y < D.s.no → D.P.bk y < D.s.nb ∧ D.P.gl y < D.s.nb))
  | 0, _, _, h => absurd h (by omega)
  | k + 1, x, hx, hk => by
    have b1 := hW.1.2.1
    have b2 := hW.1.2.2.2.1
    unfold E4_namesMissing_91 L4_namesMissing_91
    rw [hD.1.no]
    by_cases w : x = D.s.no
    · have c : nI D.s.no ≤ nI x := (z_nle (by omega) (by omega)).mpr (by omega)
      rw [if_pos c]
      exact ⟨fun z => absurd c z, Or.inr ⟨rfl, fun y h1 h2 => by omega⟩⟩
    · have c : ¬ nI D.s.no ≤ nI x := fun z => absurd ((z_nle (by omega) (by omega)).mp z) (by omega)
      have hh := hW.2.2.2.1 x (by omega)
      have e : F1_bankOf 44 (nI x) m = nI (D.P.bk x) := by unfold F1_bankOf; rw [z_at (by omega) (by omega)]; exact hD.1.bk (by omega)
      have e' : F1_goalOf 44 (nI x) m = nI (D.P.gl x) := by unfold F1_goalOf; rw [z_at (by omega) (by omega)]; exact hD.1.gl (by omega)
      have f : F1_hasBank 44 (nI (D.P.bk x)) m = 0 ↔ D.s.nb ≤ D.P.bk x := z_hasN (by omega) (by omega) hD.1.nb
      have f' : F1_hasBank 44 (nI (D.P.gl x)) m = 0 ↔ D.s.nb ≤ D.P.gl x := z_hasN (by omega) (by omega) hD.1.nb
      rw [if_neg c, e, e', nI_1]
      by_cases y : D.s.nb ≤ D.P.bk x
      · rw [if_pos (f.mpr y)]
        exact ⟨fun _ z => absurd (f.mpr y) z, Or.inl ⟨rfl, x, by omega, by omega, by omega⟩⟩
      · rw [if_neg (fun z => y (f.mp z))]
        by_cases y' : D.s.nb ≤ D.P.gl x
        · rw [if_pos (f'.mpr y')]
          exact ⟨fun _ _ z => absurd (f'.mpr y') z, Or.inl ⟨rfl, x, by omega, by omega, by omega⟩⟩
        · rw [if_neg (fun z => y' (f'.mp z))]
          obtain ⟨r1, r2⟩ := z4_m91 hW hD k (x + 1) (by omega) (by omega)
          refine ⟨fun _ _ _ => r1, ?_⟩
          rcases r2 with ⟨a1, z, z1, z2, z3⟩ | ⟨a1, a2⟩
          · exact Or.inl ⟨a1, z, by omega, z2, z3⟩
          · exact Or.inr ⟨a1, fun z z1 z2 => by
              by_cases zx : z = x
              · rw [zx]; omega
              · exact a2 z (by omega) z2⟩
theorem z4_m148 (hW : zDW D) (hD : z4D m D) : ∀ k x, x ≤ D.dn → D.dn - x < k → E4_namesMissing_148 k (nI x) m ∧ (((L4_namesMissing_148 k (nI x) m).1 = some 1 ∧ ∃ y, x ≤ y ∧ y < D.dn ∧ ¬ (D.dy (3 * y) < D.s.ng ∧ D.dy (3 * y + 1) < D.s.no ∧ D.dy (3 * y + 2) < D.s.no)) ∨ ((L4_namesMissing_148 k (nI x) m).1 = none ∧ ∀ y, x ≤ y → y < D.dn → D.dy (3 * y) < D.s.ng ∧ D.dy (3 * y + 1) < D.s.no ∧ D.dy (3 * y + 2) < D.s.no))
  | 0, _, _, h => absurd h (by omega)
  | k + 1, x, hx, hk => by
    have b1 := hW.1.2.2.2.1
    have b2 := hW.1.2.2.1
    have b3 := hW.1.2.2.2.2.2.2.1
    obtain ⟨hG, _, _, h53, h54⟩ := id hD
    unfold E4_namesMissing_148 L4_namesMissing_148
    rw [h53]
    by_cases w : x = D.dn
    · have c : nI D.dn ≤ nI x := (z_nle (by omega) (by omega)).mpr (by omega)
      rw [if_pos c]
      exact ⟨fun z => absurd c z, Or.inr ⟨rfl, fun y h1 h2 => by omega⟩⟩
    · have c : ¬ nI D.dn ≤ nI x := fun z => absurd ((z_nle (by omega) (by omega)).mp z) (by omega)
      have hh := hW.2.2.2.2 x (by omega)
      have ix : (3 : Int32) * nI x = nI (3 * x) := by rw [z_lit 3, pk_mul]
      have e : F0_bridgeAt 53 (nI x) m = nI (D.dy (3 * x)) := by unfold F0_bridgeAt; rw [ix, z_at (by omega) (by omega)]; exact h54 _ (by omega)
      have e' : F0_aheadAt 53 (nI x) m = nI (D.dy (3 * x + 1)) := by unfold F0_aheadAt; rw [ix, nI_1, z_at (by omega) (by omega)]; exact h54 _ (by omega)
      have e'' : F0_otherAt 53 (nI x) m = nI (D.dy (3 * x + 2)) := by unfold F0_otherAt; rw [ix, z_lit 2, nI_add, z_at (by omega) (by omega)]; exact h54 _ (by omega)
      have f : F1_hasBridge 44 (nI (D.dy (3 * x))) m = 0 ↔ D.s.ng ≤ D.dy (3 * x) := z_hasN (by omega) (by omega) hG.ng
      have f' : F1_hasOne 44 (nI (D.dy (3 * x + 1))) m = 0 ↔ D.s.no ≤ D.dy (3 * x + 1) := z_hasN (by omega) (by omega) hG.no
      have f'' : F1_hasOne 44 (nI (D.dy (3 * x + 2))) m = 0 ↔ D.s.no ≤ D.dy (3 * x + 2) := z_hasN (by omega) (by omega) hG.no
      rw [if_neg c, e, e', e'', nI_1]
      by_cases y : D.s.ng ≤ D.dy (3 * x)
      · rw [if_pos (f.mpr y)]
        exact ⟨fun _ z => absurd (f.mpr y) z, Or.inl ⟨rfl, x, by omega, by omega, by omega⟩⟩
      · rw [if_neg (fun z => y (f.mp z))]
        by_cases y' : D.s.no ≤ D.dy (3 * x + 1)
        · rw [if_pos (f'.mpr y')]
          exact ⟨fun _ _ z => absurd (f'.mpr y') z, Or.inl ⟨rfl, x, by omega, by omega, by omega⟩⟩
        · rw [if_neg (fun z => y' (f'.mp z))]
          by_cases y'' : D.s.no ≤ D.dy (3 * x + 2)
          · rw [if_pos (f''.mpr y'')]
            exact ⟨fun _ _ _ z => absurd (f''.mpr y'') z, Or.inl ⟨rfl, x, by omega, by omega, by omega⟩⟩
          · rw [if_neg (fun z => y'' (f''.mp z))]
            obtain ⟨r1, r2⟩ := z4_m148 hW hD k (x + 1) (by omega) (by omega)
            refine ⟨fun _ _ _ _ => r1, ?_⟩
            rcases r2 with ⟨a1, z, z1, z2, z3⟩ | ⟨a1, a2⟩
            · exact Or.inl ⟨a1, z, by omega, z2, z3⟩
            · exact Or.inr ⟨a1, fun z z1 z2 => by
                by_cases zx : z = x
                · rw [zx]; omega
                · exact a2 z (by omega) z2⟩
theorem z4_miss (hW : zDW D) (hD : z4D m D) : D4_namesMissing m ∧ ((F4_namesMissing m = 1 ∧ ¬ zGd D) ∨ (F4_namesMissing m = 0 ∧ zGd D)) := by
  have b1 := hW.1.2.1
  have b2 := hW.1.2.2.1
  have b3 := hW.1.2.2.2.1
  have b4 := hW.1.2.2.2.2.2.2.1
  obtain ⟨r1, s1⟩ := z4_m8 hW hD 64 D.s.nb (by omega) (by omega)
  obtain ⟨r2, s2⟩ := z4_m34 hW hD 64 0 (by omega) (by omega)
  obtain ⟨r3, s3⟩ := z4_m91 hW hD 64 0 (by omega) (by omega)
  obtain ⟨r4, s4⟩ := z4_m148 hW hD 64 0 (by omega) (by omega)
  rw [show nI 0 = (0 : Int32) from rfl] at r2 r3 r4 s2 s3 s4
  unfold D4_namesMissing F4_namesMissing
  rw [hD.1.nb]
  refine ⟨⟨r1, fun _ => ⟨r2, fun _ => ⟨r3, fun _ => r4⟩⟩⟩, ?_⟩
  rcases s1 with ⟨x1, y, y1, y2, y3⟩ | ⟨x1, y1⟩
  · rw [x1]; exact Or.inl ⟨rfl, fun z => by have := z.1 y y1 y2; omega⟩
  rw [x1, if_pos rfl]
  rcases s2 with ⟨x2, y, y2, y3, y4⟩ | ⟨x2, y2⟩
  · rw [x2]; exact Or.inl ⟨rfl, fun z => y4 (z.2.1 y y3)⟩
  rw [x2, if_pos rfl]
  rcases s3 with ⟨x3, y, y3, y4, y5⟩ | ⟨x3, y3⟩
  · rw [x3]; exact Or.inl ⟨rfl, fun z => y5 (z.2.2.1 y y4)⟩
  rw [x3, if_pos rfl]
  rcases s4 with ⟨x4, y, y4, y5, y6⟩ | ⟨x4, y4⟩
  · rw [x4]; exact Or.inl ⟨rfl, fun z => y6 (z.2.2.2 y y5)⟩
  rw [x4, if_pos rfl]
  exact Or.inr ⟨rfl, y1, fun b hb => y2 b (by omega) hb, fun p hp => y3 p (by omega) hp, fun i hi => y4 i (by omega) hi⟩
theorem z_lem1 {a h : Nat} (ha : a < 1000) (hh : h < 1000) : (nI a ≤ nI h - 1 ↔ a < h) ∧ (nI h - 1 < nI a ↔ h ≤ a) := by
  rw [z_neq1 (by omega)]
  by_cases e : h = 0
  · rw [if_pos e, z_le, z_lt, z_nti (by omega), show (-1 : Int32).toInt = -1 from by decide]
    constructor <;> constructor <;> intro <;> omega
  · rw [if_neg e, z_nle (by omega) (by omega), z_nlt (by omega) (by omega)]
    constructor <;> constructor <;> intro <;> omega
/-- the reference's last look at the names -/
theorem z8_miss (hW : zDW D) (hd : z8d m D) (hH : z8H m D) : (if (m 74 14) ≤ (m 74 18) then (F8_fails 6 m) else (if (m 74 11) ≤ (m 74 19) then (F8_fails 6 m) else (if (m 74 20) < (m 74 12) then m else (F8_fails 6 m)))) = m ∧ zGd D ∨ (if (m 74 14) ≤ (m 74 18) then (F8_fails 6 m) else (if (m 74 11) ≤ (m 74 19) then (F8_fails 6 m) else (if (m 74 20) < (m 74 12) then m else (F8_fails 6 m)))) = F8_fails 6 m ∧ ¬ zGd D := by
  obtain ⟨hb, hg, ho, ⟨e18, e19, e20, c1, c2, c3⟩, nB, nG, nO⟩ := hH
  obtain ⟨e11, e12, e13, e14, _⟩ := hd.1
  have b1 := hW.1.2.1
  have b2 := hW.1.2.2.1
  have b3 := hW.1.2.2.2.1
  rw [e18, e19, e20, e11, e12, e14, zGd_i, zHh_i nB, zHh_i nG, zHh_i nO]
  have t1 := (z_lem1 (a := D.s.nb) (h := hb) (by omega) (by omega)).1
  have t2 := (z_lem1 (a := D.s.ng) (h := hg) (by omega) (by omega)).1
  have t3 := (z_lem1 (a := D.s.no) (h := ho) (by omega) (by omega)).2
  by_cases w1 : D.s.nb < hb
  · rw [if_pos (t1.mpr w1)]; exact Or.inr ⟨rfl, by omega⟩
  rw [if_neg (fun z => w1 (t1.mp z))]
  by_cases w2 : D.s.ng < hg
  · rw [if_pos (t2.mpr w2)]; exact Or.inr ⟨rfl, by omega⟩
  rw [if_neg (fun z => w2 (t2.mp z))]
  by_cases w3 : ho ≤ D.s.no
  · rw [if_pos (t3.mpr w3)]; exact Or.inl ⟨rfl, by omega⟩
  rw [if_neg (fun z => w3 (t3.mp z))]; exact Or.inr ⟨rfl, by omega⟩
end ZR2
