/-! PURE: images, the beginning -/
theorem z7_kept {m : ax_M} {T : zT} {k : Nat} (h7 : z7 m T) (hk : k < 2) : F7_isKept (nI k) m = zb (T.kp k) ∧ D7_isKept (nI k) m := by
  have h1 : ¬ nI k < 0 := nI_pos (by omega)
  have h2 : ¬ (2 : Int32) ≤ nI k := fun q => by have := (z_nle (a := 2) (by omega) (by omega)).mp q; omega
  constructor
  · unfold F7_isKept
    rw [if_neg h1, if_neg h2, z_ncl (by omega), h7.kp hk]
    cases T.kp k <;> rfl
  · exact fun _ _ => z_vp (by omega) (by omega)
def zimS (T : zT) (k : Nat) : zT := T.setIm (fun x => if x = k then T.P else T.im x) (fun x => if x = k then true else T.kp x)
theorem z8_cpy {m : ax_M} {a b : Nat} {x y : Int32} (hx : x = nI a) (hy : y = nI b) (hd : a + 33 ≤ b ∨ b + 33 ≤ a) (ha : a + 33 ≤ 132) (hb : b + 33 ≤ 132) : D8_copies x y m ∧ (∀ c, c ≠ 75 → F8_copies x y m c = m c) ∧ (∀ j, (j < b ∨ b + 33 ≤ j) → F8_copies x y m 75 j = m 75 j) ∧ (∀ j, j < 33 → F8_copies x y m 75 (b + j) = m 75 (a + j)) := by
  subst hx; subst hy
  obtain ⟨h1, h2, h3, h4⟩ := z8_copies hd ha hb 64 0 m (by omega) (by omega)
  unfold D8_copies F8_copies
  rw [show (0 : Int32) = nI 0 from rfl]
  exact ⟨h1, h2, fun j hj => h3 j (by omega), fun j hj => h4 j (by omega) hj⟩
theorem zkeep0 {m : ax_M} {T : zT} (hT : zWF T) (h7 : z7 m T) (h8 : z8 m T) : D7_keep 0 m ∧ D8_keep 0 (F7_keep 0 m).2 ∧ (F7_keep 0 m).1 = (F8_keep 0 (F7_keep 0 m).2).1 ∧ zI (F8_keep 0 (F7_keep 0 m).2).2 := by
  have hw := hT.w
  have i7 : F7_within 0 0 1 m = zb true := z7_in
  have i8 : ∀ m', F8_in (Int32.toInt64 0) 0 1 m' = zb true := fun m' => z8_in 0 1 rfl rfl
  obtain ⟨k1, k2⟩ := z7_kept h7 (show 0 < 2 by omega)
  obtain ⟨G, K⟩ := z7_copy (g := 20) hw h7.g (by omega)
  have e7 : F7_keep 0 m = (zb (T.kp 0), ax_up (F1_copyFrom 20 1 m) 38 0 1) := by
    unfold F7_keep K7_keep_72
    rw [i7, show F7_isKept 0 m = zb (T.kp 0) from k1]
    cases T.kp 0 <;> rfl
  have v2 : vp_in 0 2 := z_vp (a := 0) (by omega) (by omega)
  refine ⟨fun _ => ⟨k2, fun _ => ⟨v2, fun _ _ => ⟨v2, fun _ => v2, fun _ => v2⟩, fun _ _ => ⟨v2, fun _ => v2, fun _ => v2⟩⟩⟩, ?_⟩
  rw [e7]
  dsimp only
  have h8' : z8 (ax_up (F1_copyFrom 20 1 m) 38 0 1) T := h8.keep (fun c hc => by rw [z_upr (by omega)]; exact K c (by omega))
  have h7' : z7 (ax_up (F1_copyFrom 20 1 m) 38 0 1) (zimS T 0) := by
    refine h7.imgs (fun c _ _ hc => by rw [z_upr (by omega)]; exact K c (by omega)) (fun x hx => ?_) (fun x hx hk => ?_)
    · rw [z_up]
      by_cases e : x = 0
      · rw [if_pos ⟨rfl, e⟩, if_pos e]; rfl
      · rw [if_neg (fun q => e q.2), if_neg e, K 38 (by omega)]; exact h7.kp hx
    · by_cases e : x = 0
      · subst e
        exact G.same (fun c _ _ => z_upr (by omega))
      · rw [if_neg e] at hk ⊢
        exact (h7.im hx hk).same (fun c _ _ => by rw [z_upr (by omega)]; exact K c (by omega))
  generalize ax_up (F1_copyFrom 20 1 m) 38 0 1 = m1 at h8' h7'
  obtain ⟨d1, d2, d3, d4⟩ := z8_cpy (m := m1) (x := 0) (y := 33 * (0 + 1)) (a := 0) (b := 33) rfl rfl (by omega) (by omega) (by omega)
  have e8 : F8_keep 0 m1 = (zb (T.kp 0), ax_up (F8_copies 0 (33 * (0 + 1)) m1) 93 0 1) := by
    unfold F8_keep K8_keep_45
    rw [i8, d2 93 (by omega), show Int32.toNatClampNeg 0 = 0 from z_ncl (a := 0) (by omega), h8'.kp (by omega)]
    cases T.kp 0 <;> rfl
  refine ⟨fun _ => ⟨d1, v2, v2⟩, ?_, ?_⟩
  · rw [e8]
  · rw [e8]
    dsimp only
    refine zI.step (T' := zimS T 0) (hT.setIm (fun x hx hk => ?_)) h7' (fun c hc => by rw [z_upr (by omega)]; exact d2 c (by omega)) ?_
    · by_cases e : x = 0
      · rw [if_pos e]; exact ⟨hT.v, hT.cr⟩
      · rw [if_neg e] at hk ⊢; exact hT.im hx hk
    · refine h8'.imgs (fun k _ _ => by rw [z_upr (by omega), d2 74 (by omega)]) (fun c _ _ _ hc => by rw [z_upr (by omega)]; exact d2 c (by omega)) hw (fun k hk => by rw [z_upr (by omega)]; exact d3 k (by omega)) (fun x hx => ?_) (fun x hx hk => ?_)
      · rw [z_up]
        by_cases e : x = 0
        · rw [if_pos ⟨rfl, e⟩, if_pos e]; rfl
        · rw [if_neg (fun q => e q.2), if_neg e, d2 93 (by omega)]; exact h8'.kp hx
      · by_cases e : x = 0
        · subst e
          exact zQ.copy hw h8'.q (fun j hj => by rw [z_upr (by omega)]; exact d4 j hj)
        · rw [if_neg e] at hk ⊢
          exact (h8'.im hx hk).same hw (fun j hj => by rw [z_upr (by omega)]; exact d3 _ (by omega))
theorem zback0 {m : ax_M} {T : zT} (h : zI m) (hT : zWF T) (h7 : z7 m T) (h8 : z8 m T) : D7_back 0 m ∧ D8_back 0 (F7_back 0 m).2 ∧ (F7_back 0 m).1 = (F8_back 0 (F7_back 0 m).2).1 ∧ zI (F8_back 0 (F7_back 0 m).2).2 := by
  have hw := hT.w
  have i7 : F7_within 0 0 1 m = zb true := z7_in
  have i8 : ∀ m', F8_in (Int32.toInt64 0) 0 1 m' = zb true := fun m' => z8_in 0 1 rfl rfl
  have c0 : Int32.toNatClampNeg 0 = 0 := z_ncl (a := 0) (by omega)
  obtain ⟨k1, k2⟩ := z7_kept h7 (show 0 < 2 by omega)
  have v2 : vp_in 0 2 := z_vp (a := 0) (by omega) (by omega)
  refine ⟨fun _ => k2, ?_⟩
  cases ek : T.kp 0 with
  | false =>
    have e7 : F7_back 0 m = (-2, m) := by
      unfold F7_back
      rw [i7, show F7_isKept 0 m = zb (T.kp 0) from k1, ek]; rfl
    have e8 : F8_back 0 m = (-2, m) := by
      unfold F8_back
      rw [i8, c0, h8.kp (by omega), ek]; rfl
    rw [e7, e8]
    refine ⟨?_, rfl, h⟩
    unfold D8_back
    dsimp only
    rw [c0, h8.kp (by omega), ek]
    exact fun _ => ⟨v2, fun q => absurd rfl q⟩
  | true =>
    obtain ⟨G, K⟩ := z7_copy (g := 1) hw (h7.im (show 0 < 2 by omega) ek) (by omega)
    have e7 : F7_back 0 m = (nI (T.im 0).cr, F1_copyFrom 1 20 m) := by
      unfold F7_back
      rw [i7, show F7_isKept 0 m = zb (T.kp 0) from k1, ek, ← G.cr]; rfl
    rw [e7]
    dsimp only
    have h8' : z8 (F1_copyFrom 1 20 m) T := h8.keep (fun c hc => K c (by omega))
    have h7' : z7 (F1_copyFrom 1 20 m) (T.setP (T.im 0)) := h7.now (fun c _ _ hc => K c (by omega)) G
    generalize F1_copyFrom 1 20 m = m1 at h8' h7'
    obtain ⟨d1, d2, d3, d4⟩ := z8_cpy (m := m1) (x := 33 * (0 + 1)) (y := 0) (a := 33) (b := 0) rfl rfl (by omega) (by omega) (by omega)
    have Q : zQ (F8_copies (33 * (0 + 1)) 0 m1) 0 T.s (T.im 0) := zQ.copy hw (h8'.im (show 0 < 2 by omega) ek) d4
    have e8 : F8_back 0 m1 = (nI (T.im 0).cr, F8_copies (33 * (0 + 1)) 0 m1) := by
      unfold F8_back
      rw [i8, c0, h8'.kp (by omega), ek, show Int32.toNatClampNeg 32 = 32 from z_ncl (a := 32) (by omega), Q.cr]; rfl
    rw [e8]
    refine ⟨fun _ => ⟨v2, fun _ => d1⟩, rfl, ?_⟩
    obtain ⟨v1, v2⟩ := hT.im (show 0 < 2 by omega) ek
    dsimp only
    exact zI.step (hT.setP v1 v2) h7' (fun c hc => d2 c (by omega)) (h8'.now hw (fun k _ => by rw [d2 74 (by omega)]) (fun c _ _ _ => d2 c (by omega)) (fun k hk _ => d3 k (by omega)) Q)
theorem zkeep1 {m : ax_M} {T : zT} (hT : zWF T) (h7 : z7 m T) (h8 : z8 m T) : D7_keep 1 m ∧ D8_keep 1 (F7_keep 1 m).2 ∧ (F7_keep 1 m).1 = (F8_keep 1 (F7_keep 1 m).2).1 ∧ zI (F8_keep 1 (F7_keep 1 m).2).2 := by
  have hw := hT.w
  have i7 : F7_within 1 0 1 m = zb true := z7_in
  have i8 : ∀ m', F8_in (Int32.toInt64 1) 0 1 m' = zb true := fun m' => z8_in 0 1 rfl rfl
  obtain ⟨k1, k2⟩ := z7_kept h7 (show 1 < 2 by omega)
  obtain ⟨G, K⟩ := z7_copy (g := 29) hw h7.g (by omega)
  have e7 : F7_keep 1 m = (zb (T.kp 1), ax_up (F1_copyFrom 29 1 m) 38 1 1) := by
    unfold F7_keep K7_keep_72
    rw [i7, show F7_isKept 1 m = zb (T.kp 1) from k1]
    cases T.kp 1 <;> rfl
  have v2 : vp_in 1 2 := z_vp (a := 1) (by omega) (by omega)
  refine ⟨fun _ => ⟨k2, fun _ => ⟨v2, fun _ _ => ⟨v2, fun _ => v2, fun _ => v2⟩, fun _ _ => ⟨v2, fun _ => v2, fun _ => v2⟩⟩⟩, ?_⟩
  rw [e7]
  dsimp only
  have h8' : z8 (ax_up (F1_copyFrom 29 1 m) 38 1 1) T := h8.keep (fun c hc => by rw [z_upr (by omega)]; exact K c (by omega))
  have h7' : z7 (ax_up (F1_copyFrom 29 1 m) 38 1 1) (zimS T 1) := by
    refine h7.imgs (fun c _ _ hc => by rw [z_upr (by omega)]; exact K c (by omega)) (fun x hx => ?_) (fun x hx hk => ?_)
    · rw [z_up]
      by_cases e : x = 1
      · rw [if_pos ⟨rfl, e⟩, if_pos e]; rfl
      · rw [if_neg (fun q => e q.2), if_neg e, K 38 (by omega)]; exact h7.kp hx
    · by_cases e : x = 1
      · subst e
        exact G.same (fun c _ _ => z_upr (by omega))
      · rw [if_neg e] at hk ⊢
        exact (h7.im hx hk).same (fun c _ _ => by rw [z_upr (by omega)]; exact K c (by omega))
  generalize ax_up (F1_copyFrom 29 1 m) 38 1 1 = m1 at h8' h7'
  obtain ⟨d1, d2, d3, d4⟩ := z8_cpy (m := m1) (x := 0) (y := 33 * (1 + 1)) (a := 0) (b := 66) rfl rfl (by omega) (by omega) (by omega)
  have e8 : F8_keep 1 m1 = (zb (T.kp 1), ax_up (F8_copies 0 (33 * (1 + 1)) m1) 93 1 1) := by
    unfold F8_keep K8_keep_45
    rw [i8, d2 93 (by omega), show Int32.toNatClampNeg 1 = 1 from z_ncl (a := 1) (by omega), h8'.kp (by omega)]
    cases T.kp 1 <;> rfl
  refine ⟨fun _ => ⟨d1, v2, v2⟩, ?_, ?_⟩
  · rw [e8]
  · rw [e8]
    dsimp only
    refine zI.step (T' := zimS T 1) (hT.setIm (fun x hx hk => ?_)) h7' (fun c hc => by rw [z_upr (by omega)]; exact d2 c (by omega)) ?_
    · by_cases e : x = 1
      · rw [if_pos e]; exact ⟨hT.v, hT.cr⟩
      · rw [if_neg e] at hk ⊢; exact hT.im hx hk
    · refine h8'.imgs (fun k _ _ => by rw [z_upr (by omega), d2 74 (by omega)]) (fun c _ _ _ hc => by rw [z_upr (by omega)]; exact d2 c (by omega)) hw (fun k hk => by rw [z_upr (by omega)]; exact d3 k (by omega)) (fun x hx => ?_) (fun x hx hk => ?_)
      · rw [z_up]
        by_cases e : x = 1
        · rw [if_pos ⟨rfl, e⟩, if_pos e]; rfl
        · rw [if_neg (fun q => e q.2), if_neg e, d2 93 (by omega)]; exact h8'.kp hx
      · by_cases e : x = 1
        · subst e
          exact zQ.copy hw h8'.q (fun j hj => by rw [z_upr (by omega)]; exact d4 j hj)
        · rw [if_neg e] at hk ⊢
          exact (h8'.im hx hk).same hw (fun j hj => by rw [z_upr (by omega)]; exact d3 _ (by omega))
theorem zback1 {m : ax_M} {T : zT} (h : zI m) (hT : zWF T) (h7 : z7 m T) (h8 : z8 m T) : D7_back 1 m ∧ D8_back 1 (F7_back 1 m).2 ∧ (F7_back 1 m).1 = (F8_back 1 (F7_back 1 m).2).1 ∧ zI (F8_back 1 (F7_back 1 m).2).2 := by
  have hw := hT.w
  have i7 : F7_within 1 0 1 m = zb true := z7_in
  have i8 : ∀ m', F8_in (Int32.toInt64 1) 0 1 m' = zb true := fun m' => z8_in 0 1 rfl rfl
  have c0 : Int32.toNatClampNeg 1 = 1 := z_ncl (a := 1) (by omega)
  obtain ⟨k1, k2⟩ := z7_kept h7 (show 1 < 2 by omega)
  have v2 : vp_in 1 2 := z_vp (a := 1) (by omega) (by omega)
  refine ⟨fun _ => k2, ?_⟩
  cases ek : T.kp 1 with
  | false =>
    have e7 : F7_back 1 m = (-2, m) := by
      unfold F7_back
      rw [i7, show F7_isKept 1 m = zb (T.kp 1) from k1, ek]; rfl
    have e8 : F8_back 1 m = (-2, m) := by
      unfold F8_back
      rw [i8, c0, h8.kp (by omega), ek]; rfl
    rw [e7, e8]
    refine ⟨?_, rfl, h⟩
    unfold D8_back
    dsimp only
    rw [c0, h8.kp (by omega), ek]
    exact fun _ => ⟨v2, fun q => absurd rfl q⟩
  | true =>
    obtain ⟨G, K⟩ := z7_copy (g := 1) hw (h7.im (show 1 < 2 by omega) ek) (by omega)
    have e7 : F7_back 1 m = (nI (T.im 1).cr, F1_copyFrom 1 29 m) := by
      unfold F7_back
      rw [i7, show F7_isKept 1 m = zb (T.kp 1) from k1, ek, ← G.cr]; rfl
    rw [e7]
    dsimp only
    have h8' : z8 (F1_copyFrom 1 29 m) T := h8.keep (fun c hc => K c (by omega))
    have h7' : z7 (F1_copyFrom 1 29 m) (T.setP (T.im 1)) := h7.now (fun c _ _ hc => K c (by omega)) G
    generalize F1_copyFrom 1 29 m = m1 at h8' h7'
    obtain ⟨d1, d2, d3, d4⟩ := z8_cpy (m := m1) (x := 33 * (1 + 1)) (y := 0) (a := 66) (b := 0) rfl rfl (by omega) (by omega) (by omega)
    have Q : zQ (F8_copies (33 * (1 + 1)) 0 m1) 0 T.s (T.im 1) := zQ.copy hw (h8'.im (show 1 < 2 by omega) ek) d4
    have e8 : F8_back 1 m1 = (nI (T.im 1).cr, F8_copies (33 * (1 + 1)) 0 m1) := by
      unfold F8_back
      rw [i8, c0, h8'.kp (by omega), ek, show Int32.toNatClampNeg 32 = 32 from z_ncl (a := 32) (by omega), Q.cr]; rfl
    rw [e8]
    refine ⟨fun _ => ⟨v2, fun _ => d1⟩, rfl, ?_⟩
    obtain ⟨v1, v2⟩ := hT.im (show 1 < 2 by omega) ek
    dsimp only
    exact zI.step (hT.setP v1 v2) h7' (fun c hc => d2 c (by omega)) (h8'.now hw (fun k _ => by rw [d2 74 (by omega)]) (fun c _ _ _ => d2 c (by omega)) (fun k hk _ => d3 k (by omega)) Q)
theorem z_lt2 {a : Int32} (h : zwi a 0 1 = true) : a = 0 ∨ a = 1 := by
  obtain ⟨i, h1, h2, rfl⟩ := zwi_t (lo := 0) (hi := 1) h (by omega)
  have : i = 0 ∨ i = 1 := by omega
  rcases this with rfl | rfl
  · exact Or.inl rfl
  · exact Or.inr rfl
theorem zok30 {m : ax_M} (h : zI m) : OK30 zI m := by
  obtain ⟨T, hT, h7, h8⟩ := id h
  intro a1
  have i7 : F7_within a1 0 1 m = zb (zwi a1 0 1) := z7_in
  have i8 : F8_in (Int32.toInt64 a1) 0 1 m = zb (zwi a1 0 1) := z8_in 0 1 rfl rfl
  cases e1 : zwi a1 0 1 with
  | false =>
    have e7 : F7_keep a1 m = (-1, m) := by unfold F7_keep; rw [i7, e1]; rfl
    have e8 : F8_keep a1 m = (-1, m) := by unfold F8_keep; rw [i8, e1]; rfl
    rw [e7, e8]
    refine ⟨?_, ?_, rfl, h⟩
    · unfold D7_keep
      rw [i7, e1]
      exact fun q => absurd rfl q
    · unfold D8_keep
      dsimp only
      rw [i8, e1]
      exact fun q => absurd rfl q
  | true =>
    rcases z_lt2 e1 with rfl | rfl
    · exact zkeep0 hT h7 h8
    · exact zkeep1 hT h7 h8
theorem zok31 {m : ax_M} (h : zI m) : OK31 zI m := by
  obtain ⟨T, hT, h7, h8⟩ := id h
  intro a1
  have i7 : F7_within a1 0 1 m = zb (zwi a1 0 1) := z7_in
  have i8 : F8_in (Int32.toInt64 a1) 0 1 m = zb (zwi a1 0 1) := z8_in 0 1 rfl rfl
  cases e1 : zwi a1 0 1 with
  | false =>
    have e7 : F7_back a1 m = (-1, m) := by unfold F7_back; rw [i7, e1]; rfl
    have e8 : F8_back a1 m = (-1, m) := by unfold F8_back; rw [i8, e1]; rfl
    rw [e7, e8]
    refine ⟨?_, ?_, rfl, h⟩
    · unfold D7_back
      rw [i7, e1]
      exact fun q => absurd rfl q
    · unfold D8_back
      dsimp only
      rw [i8, e1]
      exact fun q => absurd rfl q
  | true =>
    rcases z_lt2 e1 with rfl | rfl
    · exact zback0 h hT h7 h8
    · exact zback1 h hT h7 h8
def zT0 : zT := (((2, 0, 0, 3), (fun _ => 0), (fun _ => 0)), (fun _ _ => 0), (fun _ _ _ => 0), (fun _ => false), (0, fun _ => 0), (0, fun _ => 0), (0, 0), ((fun _ => 0), (fun _ => 0), (fun _ => 0)))
theorem zW0 : zWF zT0 := by
  refine ⟨⟨by decide, by decide, by decide, by decide, by decide, by decide, fun b hb => absurd hb (Nat.not_lt_zero _), fun b hb => absurd hb (Nat.not_lt_zero _), fun b hb => absurd hb (Nat.not_lt_zero _)⟩, ⟨fun k _ => Nat.zero_le _, fun k _ _ => rfl, fun b hb => absurd hb (Nat.not_lt_zero _), fun b hb => absurd hb (Nat.not_lt_zero _), fun b hb => absurd hb (Nat.not_lt_zero _), fun b hb => absurd hb (Nat.not_lt_zero _), fun b hb => absurd hb (Nat.not_lt_zero _)⟩, by decide, fun k _ h => absurd (show false = true from h) (by decide), ⟨by decide, fun b hb => absurd hb (Nat.not_lt_zero _)⟩, ⟨by decide, fun b hb => absurd hb (Nat.not_lt_zero _)⟩, ⟨by decide, by decide⟩, fun k _ => ⟨Nat.zero_le _, Nat.zero_le _⟩⟩
theorem z_mIr {c : Nat} (h : c ≠ 1 ∧ c ≠ 10 ∧ c ≠ 20 ∧ c ≠ 29 ∧ c ≠ 44 ∧ c ≠ 74 ∧ c ≠ 82 ∧ c ≠ 83 ∧ c ≠ 94) : mI c = mZ c := by
  unfold mI
  rw [mT82, z_upr (by omega)]
  rw [mT81, z_upr (by omega)]
  rw [mT80, z_upr (by omega)]
  rw [mT79, z_upr (by omega)]
  rw [mT78, z_upr (by omega)]
  rw [mT77, z_upr (by omega)]
  rw [mT76, z_upr (by omega)]
  rw [mT75, z_upr (by omega)]
  rw [mT74, z_upr (by omega)]
  rw [mT73, z_upr (by omega)]
  rw [mT72, z_upr (by omega)]
  rw [mT71, z_upr (by omega)]
  rw [mT70, z_upr (by omega)]
  rw [mT69, z_upr (by omega)]
  rw [mT68, z_upr (by omega)]
  rw [mT67, z_upr (by omega)]
  rw [mT66, z_upr (by omega)]
  rw [mT65, z_upr (by omega)]
  rw [mT64, z_upr (by omega)]
  rw [mT63, z_upr (by omega)]
  rw [mT62, z_upr (by omega)]
  rw [mT61, z_upr (by omega)]
  rw [mT60, z_upr (by omega)]
  rw [mT59, z_upr (by omega)]
  rw [mT58, z_upr (by omega)]
  rw [mT57, z_upr (by omega)]
  rw [mT56, z_upr (by omega)]
  rw [mT55, z_upr (by omega)]
  rw [mT54, z_upr (by omega)]
  rw [mT53, z_upr (by omega)]
  rw [mT52, z_upr (by omega)]
  rw [mT51, z_upr (by omega)]
  rw [mT50, z_upr (by omega)]
  rw [mT49, z_upr (by omega)]
  rw [mT48, z_upr (by omega)]
  rw [mT47, z_upr (by omega)]
  rw [mT46, z_upr (by omega)]
  rw [mT45, z_upr (by omega)]
  rw [mT44, z_upr (by omega)]
  rw [mT43, z_upr (by omega)]
  rw [mT42, z_upr (by omega)]
  rw [mT41, z_upr (by omega)]
  rw [mT40, z_upr (by omega)]
  rw [mT39, z_upr (by omega)]
  rw [mT38, z_upr (by omega)]
  rw [mT37, z_upr (by omega)]
  rw [mT36, z_upr (by omega)]
  rw [mT35, z_upr (by omega)]
  rw [mT34, z_upr (by omega)]
  rw [mT33, z_upr (by omega)]
  rw [mT32, z_upr (by omega)]
  rw [mT31, z_upr (by omega)]
  rw [mT30, z_upr (by omega)]
  rw [mT29, z_upr (by omega)]
  rw [mT28, z_upr (by omega)]
  rw [mT27, z_upr (by omega)]
  rw [mT26, z_upr (by omega)]
  rw [mT25, z_upr (by omega)]
  rw [mT24, z_upr (by omega)]
  rw [mT23, z_upr (by omega)]
  rw [mT22, z_upr (by omega)]
  rw [mT21, z_upr (by omega)]
  rw [mT20, z_upr (by omega)]
  rw [mT19, z_upr (by omega)]
  rw [mT18, z_upr (by omega)]
  rw [mT17, z_upr (by omega)]
  rw [mT16, z_upr (by omega)]
  rw [mT15, z_upr (by omega)]
  rw [mT14, z_upr (by omega)]
  rw [mT13, z_upr (by omega)]
  rw [mT12, z_upr (by omega)]
  rw [mT11, z_upr (by omega)]
  rw [mT10, z_upr (by omega)]
  rw [mT9, z_upr (by omega)]
  rw [mT8, z_upr (by omega)]
  rw [mT7, z_upr (by omega)]
  rw [mT6, z_upr (by omega)]
  rw [mT5, z_upr (by omega)]
  rw [mT4, z_upr (by omega)]
  rw [mT3, z_upr (by omega)]
  rw [mT2, z_upr (by omega)]
  rw [mT1, z_upr (by omega)]
theorem z_mI0 : zI mI := by
  refine ⟨zT0, zW0, ⟨⟨rfl, rfl, rfl, rfl, rfl, ?_, fun b hb => absurd hb (Nat.not_lt_zero _), fun b hb => absurd hb (Nat.not_lt_zero _), fun b hb => absurd hb (Nat.not_lt_zero _), fun b hb => absurd hb (Nat.not_lt_zero _), fun b hb => absurd hb (Nat.not_lt_zero _), fun b hb => absurd hb (Nat.not_lt_zero _), fun b hb => absurd hb (Nat.not_lt_zero _)⟩, ?_, fun k _ h => absurd (show false = true from h) (by decide), ⟨?_, fun b hb => absurd hb (Nat.not_lt_zero _)⟩, ⟨?_, fun b hb => absurd hb (Nat.not_lt_zero _)⟩, ⟨?_, ?_⟩, ?_, ?_, ?_⟩, ⟨⟨⟨rfl, rfl, rfl, rfl, fun b hb => absurd hb (Nat.not_lt_zero _), fun b hb => absurd hb (Nat.not_lt_zero _)⟩, ⟨?_, ?_, fun b hb => absurd hb (Nat.not_lt_zero _), fun b hb => absurd hb (Nat.not_lt_zero _), fun b hb => absurd hb (Nat.not_lt_zero _), fun b hb => absurd hb (Nat.not_lt_zero _), fun b hb => absurd hb (Nat.not_lt_zero _)⟩⟩, ?_, fun k _ h => absurd (show false = true from h) (by decide), ⟨rfl, fun b hb => absurd hb (Nat.not_lt_zero _)⟩, ⟨rfl, fun b hb => absurd hb (Nat.not_lt_zero _)⟩, ⟨rfl, rfl⟩, ?_, ?_, ⟨fun _ _ => rfl, fun _ _ => rfl⟩⟩⟩
  · intro k _; rw [z_mIr (by omega)]; rfl
  · intro k _; rw [z_mIr (by omega)]; rfl
  · rw [z_mIr (by omega)]; rfl
  · rw [z_mIr (by omega)]; rfl
  · rw [z_mIr (by omega)]; rfl
  · rw [z_mIr (by omega)]; rfl
  · intro k _; rw [z_mIr (by omega), z_mIr (by omega)]; exact ⟨rfl, rfl⟩
  · intro k _; rw [z_mIr (by omega)]; rfl
  · refine ⟨0, fun _ => 0, by omega, ?_, fun b hb => absurd hb (Nat.not_lt_zero _), fun c _ _ => ?_⟩
    · rw [z_mIr (by omega)]; rfl
    · rw [z_mIr (by omega)]; rfl
  · rw [z_mIr (by omega)]; rfl
  · intro k _; rw [z_mIr (by omega)]; rfl
  · intro k _; rw [z_mIr (by omega)]; rfl
  · intro k hk
    rw [z_mIr (c := 95) (by omega)]
    refine ⟨?_, rfl⟩
    rcases (show k = 0 ∨ k = 1 ∨ k = 2 ∨ k = 3 by omega) with rfl | rfl | rfl | rfl <;> rfl
  · intro k _; rw [z_mIr (by omega)]; rfl
