/-! PURE: crossings from a sheet -/
def zcr (s : zS) (P : zP) (a b c : Int32) : Int32 × zP := if ztwo s a b c = true then zcross s P a.toNatClampNeg b.toNatClampNeg c.toNatClampNeg 0 0 else (-1, P)
/-- the fault of one cell, of a pair's three cells -/
def zfb (T : zT) (k l : Nat) (y : Int) : Nat := if T.ln k = 0 then 1 else if T.ln k = l + 1 then (if 0 ≤ y ∧ y < T.sz k then 0 else 2) else 3
def zft (T : zT) (k l : Nat) (y : Int) : Nat := if T.ln k = 0 then 1 else if T.ln k = l + 1 then (if 0 ≤ y ∧ y + 3 ≤ T.sz k then 0 else 2) else 3
def zrd (T : zT) (k l : Nat) (f : Int) : Nat → Nat → zP → Option Nat × Nat × Nat × zP
  | 0, i, P => (none, 0, i, P)
  | r + 1, i, P => if zft T k l (f + 3 * i) = 0 then (if 0 ≤ (zcr T.s P (T.ce (40 * k + (f + 3 * i).toNat)) (T.ce (40 * k + (f + 3 * i).toNat + 1)) (T.ce (40 * k + (f + 3 * i).toNat + 2))).1 then zrd T k l f r (i + 1) (zcr T.s P (T.ce (40 * k + (f + 3 * i).toNat)) (T.ce (40 * k + (f + 3 * i).toNat + 1)) (T.ce (40 * k + (f + 3 * i).toNat + 2))).2 else (some i, 0, i, P)) else (none, zft T k l (f + 3 * i), i, P)
theorem zft_ok {T : zT} {k l : Nat} {y : Int} (h : zft T k l y = 0) : T.ln k = l + 1 ∧ 0 ≤ y ∧ y + 3 ≤ T.sz k := by
  unfold zft at h
  by_cases e1 : T.ln k = 0
  · rw [if_pos e1] at h; omega
  · rw [if_neg e1] at h
    by_cases e2 : T.ln k = l + 1
    · rw [if_pos e2] at h
      by_cases e3 : 0 ≤ y ∧ y + 3 ≤ T.sz k
      · exact ⟨e2, e3⟩
      · rw [if_neg e3] at h; omega
    · rw [if_neg e2] at h; omega
theorem zft_le {T : zT} {k l : Nat} {y : Int} : zft T k l y ≤ 3 := by
  unfold zft
  split
  · omega
  · split
    · split <;> omega
    · omega
section ZN
variable {m : ax_M} {g : Nat} {s : zS} {P : zP} {T : zT}
theorem zcr_v {a b c : Int32} (hs : zW s) (hP : zV s P) (hc : P.cr ≤ 999) : zV s (zcr s P a b c).2 ∧ (zcr s P a b c).2.cr ≤ 999 := by
  unfold zcr
  by_cases e : ztwo s a b c = true
  · rw [if_pos e]
    obtain ⟨x, y, z, hx, hy, hz, hn, rfl, rfl, rfl⟩ := ztwo_t hs e
    have := hs.ng4
    rw [z_ncl (show x < 2147483648 by omega)]
    exact zcross_v hs hP hc hx
  · rw [if_neg e]; exact ⟨hP, hc⟩
theorem z7_crI {a b c : Int32} (hs : zW s) (hP : zV s P) (hc : P.cr ≤ 999) (hG : zG m g s P) : (F1_tryCrossing g a b c 0 0 m).1 = (zcr s P a b c).1 ∧ zG (F1_tryCrossing g a b c 0 0 m).2 g s (zcr s P a b c).2 ∧ ∀ d, (d < g ∨ g + 8 < d) → (F1_tryCrossing g a b c 0 0 m).2 d = m d := by
  unfold zcr
  cases e : ztwo s a b c with
  | false =>
    rw [z7_crossno hs hG (by rw [e]; rfl)]
    exact ⟨rfl, hG, fun _ _ => rfl⟩
  | true =>
    obtain ⟨x, y, z, hx, hy, hz, hn, rfl, rfl, rfl⟩ := ztwo_t hs e
    have a1 := hs.ng4
    have a2 := hs.no6
    rw [if_pos rfl, z_ncl (by omega), z_ncl (by omega), z_ncl (by omega)]
    exact z7_cross (i := 0) (j := 0) hs hP hc hG hx hy hz hn (by omega) (by omega)
theorem z8_crI {a b c : Int32} (hs : zW s) (hP : zV s P) (hc : P.cr ≤ 999) (hE : zE m s) (hQ : zQ m 0 s P) : D8_crosses a b c 0 0 m ∧ (F8_crosses a b c 0 0 m).1 = (zcr s P a b c).1 ∧ zQ (F8_crosses a b c 0 0 m).2 0 s (zcr s P a b c).2 ∧ (∀ d, d ≠ 75 → (F8_crosses a b c 0 0 m).2 d = m d) ∧ (∀ k, 33 ≤ k → (F8_crosses a b c 0 0 m).2 75 k = m 75 k) := by
  unfold zcr
  cases e : ztwo s a b c with
  | false =>
    obtain ⟨x1, x2⟩ := z8_crossno (a4 := 0) (a5 := 0) hs hE (by rw [e]; rfl)
    rw [x1]
    exact ⟨x2, rfl, hQ, fun _ _ => rfl, fun _ _ => rfl⟩
  | true =>
    obtain ⟨x, y, z, hx, hy, hz, hn, rfl, rfl, rfl⟩ := ztwo_t hs e
    have a1 := hs.ng4
    have a2 := hs.no6
    rw [if_pos rfl, z_ncl (by omega), z_ncl (by omega), z_ncl (by omega)]
    exact ⟨(z8_crs (i := 0) (j := 0) hs hP hc hE hQ hx hy hz hn (by omega) (by omega)).2, z8_cross (i := 0) (j := 0) hs hP hc hE hQ hx hy hz hn (by omega) (by omega)⟩
theorem z7_ft {k l : Nat} {x : Int32} (hT : zWF T) (h7 : z7 m T) (hk : k < 4) (hl : l ≤ 2) : F5_faultAt (nI k) (nI l) x 3 m = nI (zft T k l x.toInt) := by
  obtain ⟨s1, s2⟩ := hT.sh hk
  unfold F5_faultAt zft
  rw [z7_lane h7 hT hk, z7_size h7 hk]
  by_cases e1 : T.ln k = 0
  · rw [if_pos e1, if_pos e1, if_neg (by decide)]; rfl
  · have c1 : (nI (T.ln k - 1) = nI l) ↔ T.ln k = l + 1 := by rw [z_neq (by omega) (by omega)]; omega
    rw [if_neg e1, if_neg e1, if_pos (show (0 : Int32) ≤ nI (T.ln k - 1) from z_let (a := 0) (by omega) (by omega))]
    by_cases e2 : T.ln k = l + 1
    · have t3 : (3 : Int32).toInt = 3 := rfl
      have x3 : (nI (T.sz k) - 3).toInt = (T.sz k : Int) - 3 := by
        rw [z_sub, z_nti (by omega), t3]
        · rw [z_nti (by omega), t3]; omega
        · rw [z_nti (by omega), t3]; omega
      have c2 : x < 0 ↔ x.toInt < 0 := z_lt
      have c3 : x ≤ nI (T.sz k) - 3 ↔ x.toInt ≤ (T.sz k : Int) - 3 := by rw [z_le, x3]
      rw [if_pos (c1.mpr e2), if_pos e2]
      by_cases e3 : x.toInt < 0
      · rw [if_pos (c2.mpr e3), if_neg (by omega)]; rfl
      · rw [if_neg (fun q => e3 (c2.mp q))]
        by_cases e4 : x.toInt ≤ (T.sz k : Int) - 3
        · rw [if_pos (c3.mpr e4), if_pos (by omega)]; rfl
        · rw [if_neg (fun q => e4 (c3.mp q)), if_neg (by omega)]; rfl
    · rw [if_neg (fun q => e2 (c1.mp q)), if_neg e2]; rfl
theorem z7_cell {k t : Nat} (h7 : z7 m T) (hk : k < 4) (ht : t < 40) : F5_cellAt (nI k) (nI t) m = T.ce (40 * k + t) := by
  unfold F5_cellAt
  rw [z_lit 40, pk_mul, nI_add, z_at (by omega) (by omega), h7.ce (by omega), Nat.mul_comm]
theorem z_of_toInt {x : Int32} (h : 0 ≤ x.toInt) : x = nI x.toInt.toNat := by
  have := z_hi x
  rw [z_eq, z_nti (by omega)]; omega
theorem z7_read {k l n : Nat} {a3 : Int32} (hT : zWF T) (hk : k < 4) (hl : l ≤ 2) (hn : n ≤ 13) : ∀ (r i j : Nat) (P : zP) (m : ax_M), n = i + r → r < j → (i = 0 ∨ (0 ≤ a3.toInt ∧ a3.toInt ≤ 40)) → zV T.s P → P.cr ≤ 999 → z7 m T → zG m 10 T.s P → E7_read_53 j (nI k) (nI l) a3 (nI n) 0 (nI i) (nI i) m ∧ (L7_read_53 j (nI k) (nI l) a3 (nI n) 0 (nI i) (nI i) m).1 = (zrd T k l a3.toInt r i P).1.map (fun i => (-20) - nI i) ∧ ((zrd T k l a3.toInt r i P).1 = none → (L7_read_53 j (nI k) (nI l) a3 (nI n) 0 (nI i) (nI i) m).2.1 = nI (zrd T k l a3.toInt r i P).2.1 ∧ (L7_read_53 j (nI k) (nI l) a3 (nI n) 0 (nI i) (nI i) m).2.2.1 = nI (zrd T k l a3.toInt r i P).2.2.1 ∧ zG (L7_read_53 j (nI k) (nI l) a3 (nI n) 0 (nI i) (nI i) m).2.2.2.2 10 T.s (zrd T k l a3.toInt r i P).2.2.2) ∧ (∀ d, (d < 10 ∨ 10 + 8 < d) → (L7_read_53 j (nI k) (nI l) a3 (nI n) 0 (nI i) (nI i) m).2.2.2.2 d = m d) := by
  have hw := hT.w
  obtain ⟨s1, s2⟩ := hT.sh hk
  intro r
  induction r with
  | zero =>
    intro i j P m hr hj _ _ _ _ hG
    obtain ⟨j, rfl⟩ : ∃ j', j = j' + 1 := ⟨j - 1, by omega⟩
    unfold L7_read_53 E7_read_53 zrd
    rw [if_pos (z_let (by omega) (by omega))]
    exact ⟨fun q => absurd (z_let (by omega) (by omega)) q, rfl, fun _ => ⟨rfl, rfl, hG⟩, fun _ _ => rfl⟩
  | succ r ih =>
    intro i j P m hr hj hf hP hc h7 hG
    obtain ⟨j, rfl⟩ : ∃ j', j = j' + 1 := ⟨j - 1, by omega⟩
    unfold L7_read_53 E7_read_53 zrd
    have hlo := z_lo a3
    have hhi := z_hi a3
    have hx : (a3 + 3 * nI i).toInt = a3.toInt + 3 * i := by
      rw [z_lit 3, pk_mul, z_add, z_nti (by omega)]
      · omega
      · rw [z_nti (by omega)]; omega
      · rw [z_nti (by omega)]; omega
    rw [if_neg (z_lef (by omega) (by omega)), z7_ft hT h7 hk hl, hx]
    have c0 : (nI (zft T k l (a3.toInt + 3 * i)) = 0) ↔ zft T k l (a3.toInt + 3 * i) = 0 := by
      have := zft_le (T := T) (k := k) (l := l) (y := a3.toInt + 3 * i)
      exact z_neq (b := 0) (by omega) (by omega)
    simp only [c0]
    by_cases e : zft T k l (a3.toInt + 3 * i) = 0
    · obtain ⟨e1, e2, e3⟩ := zft_ok e
      rw [if_pos e, if_pos e, e]
      have y0 : a3 + 3 * nI i = nI (a3.toInt + 3 * i).toNat := by rw [z_of_toInt (x := a3 + 3 * nI i) (by rw [hx]; exact e2), hx]
      rw [y0, show nI (a3.toInt + 3 * i).toNat + 1 = nI ((a3.toInt + 3 * i).toNat + 1) by rw [z_lit 1, nI_add], show nI (a3.toInt + 3 * i).toNat + 2 = nI ((a3.toInt + 3 * i).toNat + 2) by rw [z_lit 2, nI_add], z7_cell h7 hk (by omega), z7_cell h7 hk (by omega), z7_cell h7 hk (by omega), show nI i + 1 = nI (i + 1) by rw [z_lit 1, nI_add], ← Nat.add_assoc, ← Nat.add_assoc]
      obtain ⟨g1, g2, g3⟩ := z7_crI (a := T.ce (40 * k + (a3.toInt + 3 * i).toNat)) (b := T.ce (40 * k + (a3.toInt + 3 * i).toNat + 1)) (c := T.ce (40 * k + (a3.toInt + 3 * i).toNat + 2)) hw hP hc hG
      obtain ⟨v1, v2⟩ := zcr_v (a := T.ce (40 * k + (a3.toInt + 3 * i).toNat)) (b := T.ce (40 * k + (a3.toInt + 3 * i).toNat + 1)) (c := T.ce (40 * k + (a3.toInt + 3 * i).toNat + 2)) hw hP hc
      generalize T.ce (40 * k + (a3.toInt + 3 * i).toNat) = x1 at *
      generalize T.ce (40 * k + (a3.toInt + 3 * i).toNat + 1) = x2 at *
      generalize T.ce (40 * k + (a3.toInt + 3 * i).toNat + 2) = x3 at *
      rw [g1]
      generalize F1_tryCrossing 10 x1 x2 x3 0 0 m = R at g1 g2 g3
      by_cases e4 : 0 ≤ (zcr T.s P x1 x2 x3).1
      · rw [if_pos e4, if_pos e4]
        obtain ⟨i1, i2, i3, i4⟩ := ih (i + 1) j _ R.2 (by omega) (by omega) (Or.inr (by omega)) v1 v2 (h7.of (fun c _ hc => g3 c (by unfold zsc at hc; omega))) g2
        exact ⟨fun _ _ _ => i1, i2, i3, fun d hd => (i4 d hd).trans (g3 d hd)⟩
      · rw [if_neg e4, if_neg e4]
        exact ⟨fun _ _ q => absurd q e4, rfl, fun q => (by cases q), g3⟩
    · rw [if_neg e, if_neg e]
      exact ⟨fun _ q => absurd q e, rfl, fun _ => ⟨rfl, rfl, hG⟩, fun _ _ => rfl⟩
end ZN
