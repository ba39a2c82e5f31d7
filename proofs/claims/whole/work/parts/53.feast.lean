/-! PURE: feasts, fellows -/
def zcl (w : Nat) (v : Int) : Nat := if (w : Int) + v < 1 then 1 else if 99 < (w : Int) + v then 99 else ((w : Int) + v).toNat
theorem zcl_ok (w : Nat) (v : Int) : 1 ≤ zcl w v ∧ zcl w v ≤ 99 := by
  unfold zcl
  split
  · omega
  · split <;> omega
theorem zcl_7 {w : Nat} {v : Int32} (hw : w ≤ 99) (h1 : -9 ≤ v.toInt) (h2 : v.toInt ≤ 9) : (if 1 < if nI w + v < 99 then nI w + v else 99 then if nI w + v < 99 then nI w + v else 99 else 1) = nI (zcl w v.toInt) := by
  have e : (nI w + v).toInt = (w : Int) + v.toInt := by
    rw [z_add, z_nti (by omega)] <;> rw [z_nti (by omega)] <;> omega
  have x99 : (99 : Int32).toInt = 99 := rfl
  have x1 : (1 : Int32).toInt = 1 := rfl
  unfold zcl
  by_cases q1 : nI w + v < 99
  · rw [if_pos q1]
    rw [z_lt, e, x99] at q1
    by_cases q2 : 1 < nI w + v
    · rw [if_pos q2]
      rw [z_lt, e, x1] at q2
      rw [if_neg (by omega), if_neg (by omega), z_eq, e, z_nti (by omega)]; omega
    · rw [if_neg q2]
      rw [z_lt, e, x1] at q2
      by_cases q3 : (w : Int) + v.toInt < 1
      · rw [if_pos q3]; rfl
      · rw [if_neg q3, if_neg (by omega), show ((w : Int) + v.toInt).toNat = 1 by omega]; rfl
  · rw [if_neg q1, if_pos (show (1 : Int32) < 99 by decide)]
    rw [z_lt, e, x99] at q1
    rw [if_neg (by omega)]
    by_cases q3 : 99 < (w : Int) + v.toInt
    · rw [if_pos q3]; rfl
    · rw [if_neg q3, show ((w : Int) + v.toInt).toNat = 99 by omega]; rfl
theorem zcl_8 {w : Nat} {v : Int32} (hw : w ≤ 99) (h1 : -9 ≤ v.toInt) (h2 : v.toInt ≤ 9) : (if 1 ≤ (nI w + v) then (if (nI w + v) ≤ 99 then (nI w + v : Int32) else 99 : Int32) else 1) = nI (zcl w v.toInt) := by
  have e : (nI w + v).toInt = (w : Int) + v.toInt := by
    rw [z_add, z_nti (by omega)] <;> rw [z_nti (by omega)] <;> omega
  have x99 : (99 : Int32).toInt = 99 := rfl
  have x1 : (1 : Int32).toInt = 1 := rfl
  unfold zcl
  by_cases q1 : 1 ≤ nI w + v
  · rw [if_pos q1]
    rw [z_le, e, x1] at q1
    have q1' : ¬ (w : Int) + v.toInt < 1 := by omega
    rw [if_neg q1']
    by_cases q2 : nI w + v ≤ 99
    · rw [if_pos q2]
      rw [z_le, e, x99] at q2
      rw [if_neg (by omega), z_eq, e, z_nti (by omega)]; omega
    · rw [if_neg q2]
      rw [z_le, e, x99] at q2
      rw [if_pos (by omega)]; rfl
  · rw [if_neg q1]
    rw [z_le, e, x1] at q1
    rw [if_pos (by omega)]; rfl
def zfe (P : zP) (k : Nat) (v : Int) : Nat → zP
  | 0 => P
  | p + 1 => if P.bk p = k then (zfe P k v p).set 4 p (zcl (P.wt p) v) else zfe P k v p
theorem zfe_bk (P : zP) (k : Nat) (v : Int) : ∀ p, (zfe P k v p).bk = P.bk
  | 0 => rfl
  | p + 1 => by
    unfold zfe
    split
    · exact zfe_bk P k v p
    · exact zfe_bk P k v p
theorem zfe_cr (P : zP) (k : Nat) (v : Int) : ∀ p, (zfe P k v p).cr = P.cr
  | 0 => rfl
  | p + 1 => by
    unfold zfe
    split
    · exact zfe_cr P k v p
    · exact zfe_cr P k v p
theorem zfe_wt (P : zP) (k : Nat) (v : Int) : ∀ p q, p ≤ q → (zfe P k v p).wt q = P.wt q
  | 0, _, _ => rfl
  | p + 1, q, h => by
    unfold zfe
    split
    · show (if 4 = 4 ∧ q = p then _ else zfe P k v p 4 q) = _
      rw [if_neg (by omega)]
      exact zfe_wt P k v p q (by omega)
    · exact zfe_wt P k v p q (by omega)
theorem zfe_v {s : zS} {P : zP} (h : zV s P) (k : Nat) (v : Int) : ∀ p, zV s (zfe P k v p)
  | 0 => h
  | p + 1 => by
    unfold zfe
    split
    · exact zV.set4 (zfe_v h k v p) (zcl_ok _ _)
    · exact zfe_v h k v p
def zbk (P : zP) (k : Nat) : Nat → Bool := fun p => decide (P.bk p = k)
section ZJ
variable {s : zS} {P : zP} {b p q k : Nat} {v : Int32}
theorem z7_feast (hs : zW s) (hP : zV s P) (hk : k < s.nb) (h1 : -9 ≤ v.toInt) (h2 : v.toInt ≤ 9) : ∀ (n p : Nat) (m : ax_M), zG m 1 s (zfe P k v.toInt p) → p ≤ s.no → s.no - p < n → E7_feast_29 n (nI k) v (nI (zcnt (zbk P k) p)) (nI p) m ∧ (L7_feast_29 n (nI k) v (nI (zcnt (zbk P k) p)) (nI p) m).1 = nI (zcnt (zbk P k) s.no) ∧ zG (L7_feast_29 n (nI k) v (nI (zcnt (zbk P k) p)) (nI p) m).2.2 1 s (zfe P k v.toInt s.no) ∧ (∀ c, c ≠ 7 → (L7_feast_29 n (nI k) v (nI (zcnt (zbk P k) p)) (nI p) m).2.2 c = m c) := by
  have a1 := hs.no6
  have a2 := hs.nb4
  intro n
  induction n with
  | zero => intro p m _ _ h; omega
  | succ n ih =>
    intro p m hG hp hn
    unfold L7_feast_29 E7_feast_29
    rw [hG.no]
    by_cases e : p = s.no
    · rw [if_pos (z_let (by omega) (by omega)), e]
      rw [e] at hG
      exact ⟨fun q => absurd (z_let (by omega) (by omega)) q, rfl, hG, fun c _ => rfl⟩
    · have hlt : ¬ nI s.no ≤ nI p := z_lef (by omega) (by omega)
      have b1 := hP.bk (show p < s.no by omega)
      have b2 := hP.wt (show p < s.no by omega)
      have eb : F1_bankOf 1 (nI p) m = nI (P.bk p) := by rw [z7_bank hs hG (by omega), zfe_bk]
      have ew : F1_weightOf 1 (nI p) m = nI (P.wt p) := by rw [z7_weight hs hG (by omega), zfe_wt _ _ _ _ _ (Nat.le_refl _)]
      have c1 : (nI (P.bk p) = nI k) ↔ P.bk p = k := z_neq (by omega) (by omega)
      rw [if_neg hlt, eb, ew, zcl_7 b2 h1 h2, z_put (by omega) (by omega), z_lit 1, nI_add, nI_add]
      simp only [c1]
      have s1 : zcnt (zbk P k) (p + 1) = zcnt (zbk P k) p + (if P.bk p = k then 1 else 0) := by
        show zcnt (zbk P k) p + _ = _
        unfold zbk
        by_cases e2 : P.bk p = k <;> simp [e2]
      by_cases e2 : P.bk p = k
      · simp only [e2, if_true] at s1 ⊢
        have G2 : zG (ax_up m 7 p (nI (zcl (P.wt p) v.toInt))) 1 s (zfe P k v.toInt (p + 1)) := by
          have := zG.set4 (k := p) (v := zcl (P.wt p) v.toInt) hG
          unfold zfe
          rw [if_pos e2]; exact this
        rw [← s1]
        obtain ⟨i1, i2, i3, i4⟩ := ih (p + 1) _ G2 (by omega) (by omega)
        exact ⟨fun _ => i1, i2, i3, fun c hc => by rw [i4 c hc, z_upr hc]⟩
      · simp only [e2, if_false, Nat.add_zero] at s1 ⊢
        have G2 : zG m 1 s (zfe P k v.toInt (p + 1)) := by
          unfold zfe
          rw [if_neg e2]; exact hG
        rw [← s1]
        obtain ⟨i1, i2, i3, i4⟩ := ih (p + 1) _ G2 (by omega) (by omega)
        exact ⟨fun _ => i1, i2, i3, i4⟩
theorem z8_feast (hs : zW s) (hP : zV s P) (hk : k < s.nb) (h1 : -9 ≤ v.toInt) (h2 : v.toInt ≤ 9) : ∀ (n p : Nat) (m : ax_M), zE m s → zQ m 0 s (zfe P k v.toInt p) → p ≤ s.no → s.no - p < n → E8_feast_29 n (nI k) v (nI (zcnt (zbk P k) p)) (nI p) m ∧ (L8_feast_29 n (nI k) v (nI (zcnt (zbk P k) p)) (nI p) m).1 = nI (zcnt (zbk P k) s.no) ∧ zQ (L8_feast_29 n (nI k) v (nI (zcnt (zbk P k) p)) (nI p) m).2.2 0 s (zfe P k v.toInt s.no) ∧ (∀ c, c ≠ 75 → (L8_feast_29 n (nI k) v (nI (zcnt (zbk P k) p)) (nI p) m).2.2 c = m c) ∧ (∀ j, 33 ≤ j → (L8_feast_29 n (nI k) v (nI (zcnt (zbk P k) p)) (nI p) m).2.2 75 j = m 75 j) := by
  have a1 := hs.no6
  have a2 := hs.nb4
  intro n
  induction n with
  | zero => intro p m _ _ _ h; omega
  | succ n ih =>
    intro p m hE hQ hp hn
    unfold L8_feast_29 E8_feast_29
    rw [hE.no]
    by_cases e : p = s.no
    · rw [if_pos (z_let (by omega) (by omega)), e]
      rw [e] at hQ
      exact ⟨fun q => absurd (z_let (by omega) (by omega)) q, rfl, hQ, fun c _ => rfl, fun j _ => rfl⟩
    · have hlt : ¬ nI s.no ≤ nI p := z_lef (by omega) (by omega)
      have b1 := hP.bk (show p < s.no by omega)
      have b2 := hP.wt (show p < s.no by omega)
      have x2 : Int32.toNatClampNeg ((4 : Int32) * nI p + 2) = 4 * p + 2 := by rw [z_lit 4, z_lit 2, pk_mul, nI_add, z_ncl (by omega)]
      have x1 : Int32.toNatClampNeg ((4 : Int32) * nI p + 1) = 4 * p + 1 := by rw [z_lit 4, z_lit 1, pk_mul, nI_add, z_ncl (by omega)]
      have eb : m 75 (4 * p + 2) = nI (P.bk p) := by rw [hQ.bk (by omega), zfe_bk]
      have ew : m 75 (4 * p + 1) = nI (P.wt p) := by rw [hQ.wt (by omega), zfe_wt _ _ _ _ _ (Nat.le_refl _)]
      have c1 : (nI (P.bk p) = nI k) ↔ P.bk p = k := z_neq (by omega) (by omega)
      rw [if_neg hlt, x2, x1, eb, ew, zcl_8 b2 h1 h2, show nI (zcnt (zbk P k) p) + 1 = nI (zcnt (zbk P k) p + 1) by rw [z_lit 1, nI_add], show nI p + 1 = nI (p + 1) by rw [z_lit 1, nI_add]]
      simp only [c1]
      have s1 : zcnt (zbk P k) (p + 1) = zcnt (zbk P k) p + (if P.bk p = k then 1 else 0) := by
        show zcnt (zbk P k) p + _ = _
        unfold zbk
        by_cases e2 : P.bk p = k <;> simp [e2]
      have v2 : vp_in ((4 : Int32) * nI p + 2) 132 := z8_v4 (c := 2) hs (by omega) (by omega)
      have v1 : vp_in ((4 : Int32) * nI p + 1) 132 := z8_v4 (c := 1) hs (by omega) (by omega)
      by_cases e2 : P.bk p = k
      · simp only [e2, if_true] at s1 ⊢
        have Q2 : zQ (ax_up m 75 (4 * p + 1) (nI (zcl (P.wt p) v.toInt))) 0 s (zfe P k v.toInt (p + 1)) := by
          have := zQ.set4 (k := p) (v := zcl (P.wt p) v.toInt) hs hQ (by omega)
          unfold zfe
          rw [if_pos e2]; exact this
        have E2 : zE (ax_up m 75 (4 * p + 1) (nI (zcl (P.wt p) v.toInt))) s := hE.same (by rw [z_upr (by omega)]) (by rw [z_upr (by omega)]) (by rw [z_upr (by omega)]) (by rw [z_upr (by omega)]) (by rw [z_upr (by omega)])
        rw [← s1]
        obtain ⟨i1, i2, i3, i4, i5⟩ := ih (p + 1) _ E2 Q2 (by omega) (by omega)
        exact ⟨fun _ => ⟨v2, fun _ => ⟨v1, v1⟩, i1⟩, i2, i3, fun c hc => by rw [i4 c hc, z_upr hc], fun j hj => by rw [i5 j hj, z_up, if_neg (by omega)]⟩
      · simp only [e2, if_false, Nat.add_zero] at s1 ⊢
        have Q2 : zQ m 0 s (zfe P k v.toInt (p + 1)) := by
          unfold zfe
          rw [if_neg e2]; exact hQ
        rw [← s1]
        obtain ⟨i1, i2, i3, i4, i5⟩ := ih (p + 1) _ hE Q2 (by omega) (by omega)
        exact ⟨fun _ => ⟨v2, fun q => q.elim, i1⟩, i2, i3, i4, i5⟩
theorem zok12 {m : ax_M} (h : zI m) : OK12 zI m := by
  obtain ⟨T, hT, h7, h8⟩ := id h
  intro a1 a2
  have hw := hT.w
  have n4 := hw.nb4
  have n6 := hw.no6
  have hi7 : F7_within a2 (-9) 9 m = zb (zwi a2 (-9) 9) := z7_in
  have hi8 : ∀ m', F8_in a2.toInt64 (-9) 9 m' = zb (zwi a2 (-9) 9) := fun m' => z8_in (-9) 9 rfl rfl
  cases e1 : zin a1 T.s.nb with
  | false =>
    have e7 : F7_feast a1 a2 m = (-1, m) := by unfold F7_feast; rw [z7_hasBank hw h7.g, e1]; rfl
    have e8 : F8_feast a1 a2 m = (-1, m) := by unfold F8_feast; rw [z8_isBank hw h8.e, e1]; rfl
    rw [e7, e8]
    refine ⟨?_, ?_, rfl, h⟩
    · unfold D7_feast; rw [z7_hasBank hw h7.g, e1]; exact fun q => absurd rfl q
    · unfold D8_feast; rw [z8_isBank hw h8.e, e1]; exact fun q => absurd rfl q
  | true =>
    obtain ⟨k, hk, rfl⟩ := zin_t e1 (by omega)
    cases e2 : zwi a2 (-9) 9 with
    | false =>
      have e7 : F7_feast (nI k) a2 m = (-1, m) := by unfold F7_feast; rw [z7_hasBank hw h7.g, e1, hi7, e2]; rfl
      have e8 : F8_feast (nI k) a2 m = (-1, m) := by unfold F8_feast; rw [z8_isBank hw h8.e, e1, hi8, e2]; rfl
      rw [e7, e8]
      refine ⟨?_, ?_, rfl, h⟩
      · unfold D7_feast; rw [hi7, e2]; exact fun _ q => absurd rfl q
      · unfold D8_feast; rw [hi8, e2]; exact fun _ q => absurd rfl q
    | true =>
      have r := of_decide_eq_true e2
      obtain ⟨i1, i2, i3, i4⟩ := z7_feast (P := T.P) hw hT.v hk r.1 r.2 64 0 m h7.g (by omega) (by omega)
      have e7 : F7_feast (nI k) a2 m = ((L7_feast_29 64 (nI k) a2 (nI (zcnt (zbk T.P k) 0)) (nI 0) m).1, (L7_feast_29 64 (nI k) a2 (nI (zcnt (zbk T.P k) 0)) (nI 0) m).2.2) := by
        unfold F7_feast; rw [z7_hasBank hw h7.g, e1, hi7, e2]; rfl
      refine ⟨fun _ _ => i1, ?_⟩
      rw [e7]
      dsimp only
      generalize L7_feast_29 64 (nI k) a2 (nI (zcnt (zbk T.P k) 0)) (nI 0) m = R at i2 i3 i4
      have h8' : z8 R.2.2 T := h8.keep (fun c hc => i4 c (by omega))
      have h7' : z7 R.2.2 (T.setP (zfe T.P k a2.toInt T.s.no)) := h7.now (fun c _ _ hc => i4 c (by omega)) i3
      obtain ⟨j1, j2, j3, j4, j5⟩ := z8_feast (P := T.P) hw hT.v hk r.1 r.2 64 0 R.2.2 h8'.e h8'.q (by omega) (by omega)
      have e8 : F8_feast (nI k) a2 R.2.2 = ((L8_feast_29 64 (nI k) a2 (nI (zcnt (zbk T.P k) 0)) (nI 0) R.2.2).1, (L8_feast_29 64 (nI k) a2 (nI (zcnt (zbk T.P k) 0)) (nI 0) R.2.2).2.2) := by
        unfold F8_feast; rw [z8_isBank hw h8'.e, e1, hi8, e2]; rfl
      refine ⟨fun _ _ => j1, ?_⟩
      rw [e8]
      dsimp only
      generalize L8_feast_29 64 (nI k) a2 (nI (zcnt (zbk T.P k) 0)) (nI 0) R.2.2 = R2 at j2 j3 j4 j5
      refine ⟨by rw [i2, j2], ?_⟩
      exact zI.step (hT.setP (zfe_v hT.v _ _ _) (by rw [zfe_cr]; exact hT.cr)) h7' (fun c hc => j4 c (by omega)) (h8'.now hw (fun k _ => by rw [j4 74 (by omega)]) (fun c _ _ _ => j4 c (by omega)) (fun k hk _ => j5 k hk) j3)
/-- with whom p can cross at b -/
def zfl (s : zS) (P : zP) (b p : Nat) (first : Bool) : Nat → Bool := fun x => decide (x ≠ p) && (if first = true then zcan s P b p x 0 0 else zcan s P b x p 0 0)
theorem z_b01 {x : Bool} : (zb x = 0) ↔ x = false := zb_0
theorem z7_fellows {m : ax_M} (hs : zW s) (hP : zV s P) (hG : zG m 1 s P) (hb : b < s.ng) (hp : p < s.no) (f : Bool) : ∀ (n x : Nat), x ≤ s.no → s.no - x < n → E7_fellows_81 n (nI b) (nI p) (zb f) (nI (zbits (zfl s P b p f) x)) (nI x) m ∧ (L7_fellows_81 n (nI b) (nI p) (zb f) (nI (zbits (zfl s P b p f) x)) (nI x) m).1 = nI (zbits (zfl s P b p f) s.no) := by
  have a1 := hs.no6
  intro n
  induction n with
  | zero => intro x _ h; omega
  | succ n ih =>
    intro x hx hn
    unfold L7_fellows_81 E7_fellows_81
    rw [hG.no]
    by_cases e : x = s.no
    · rw [if_pos (z_let (by omega) (by omega)), e]
      exact ⟨fun q => absurd (z_let (by omega) (by omega)) q, rfl⟩
    · have hlt : ¬ nI s.no ≤ nI x := z_lef (by omega) (by omega)
      rw [if_neg hlt, show F1_passes 1 (nI b) (nI x) (nI p) 0 0 m = _ from z7_passes (i := 0) (j := 0) hs hP hG hb (by omega) hp (by omega) (by omega), show F1_passes 1 (nI b) (nI p) (nI x) 0 0 m = _ from z7_passes (i := 0) (j := 0) hs hP hG hb hp (by omega) (by omega) (by omega), z_bit (by omega), show nI x + 1 = nI (x + 1) by rw [z_lit 1, nI_add]]
      have ev : (if (if zb f = 0 then zb (decide (x ≠ p) && zcan s P b x p 0 0) else zb (decide (p ≠ x) && zcan s P b p x 0 0)) = 0 then nI (zbits (zfl s P b p f) x) else nI (zbits (zfl s P b p f) x + 2 ^ x)) = nI (zbits (zfl s P b p f) (x + 1)) := by
        show _ = nI (zbits (zfl s P b p f) x + (if zfl s P b p f x = true then 2 ^ x else 0))
        generalize zbits (zfl s P b p f) x = w
        unfold zfl
        by_cases q : x = p
        · subst q; cases f <;> simp [zb]
        · cases f
          · cases zcan s P b x p 0 0 <;> simp [zb, q]
          · cases zcan s P b p x 0 0 <;> simp [zb, q, Ne.symm q]
      rw [ev]
      obtain ⟨i1, i2⟩ := ih (x + 1) (by omega) (by omega)
      exact ⟨fun _ => i1, i2⟩
theorem z8_fellows {m : ax_M} (hs : zW s) (hP : zV s P) (hE : zE m s) (hQ : zQ m 0 s P) (hb : b < s.ng) (hp : p < s.no) (f : Bool) : ∀ (n x : Nat), x ≤ s.no → s.no - x < n → E8_fellows_71 n (nI b) (nI p) (zb f) (nI (zbits (zfl s P b p f) x)) (nI x) m ∧ (L8_fellows_71 n (nI b) (nI p) (zb f) (nI (zbits (zfl s P b p f) x)) (nI x) m).1 = nI (zbits (zfl s P b p f) s.no) := by
  have a1 := hs.no6
  intro n
  induction n with
  | zero => intro x _ h; omega
  | succ n ih =>
    intro x hx hn
    unfold L8_fellows_71 E8_fellows_71
    rw [hE.no]
    by_cases e : x = s.no
    · rw [if_pos (z_let (by omega) (by omega)), e]
      exact ⟨fun q => absurd (z_let (by omega) (by omega)) q, rfl⟩
    · have hlt : ¬ nI s.no ≤ nI x := z_lef (by omega) (by omega)
      have c1 : (nI x = nI p) ↔ x = p := z_neq (by omega) (by omega)
      rw [if_neg hlt, show F8_canCross (nI b) (nI x) (nI p) 0 0 m = _ from z8_can (i := 0) (j := 0) hs hP hE hQ hb (by omega) hp (by omega) (by omega), show F8_canCross (nI b) (nI p) (nI x) 0 0 m = _ from z8_can (i := 0) (j := 0) hs hP hE hQ hb hp (by omega) (by omega) (by omega), show nI x + 1 = nI (x + 1) by rw [z_lit 1, nI_add]]
      have ev : nI (zbits (zfl s P b p f) x) ||| (if (if nI x = nI p then (0 : Int32) else if zb f = 0 then (if zb (zcan s P b x p 0 0) = 0 then (0 : Int32) else 1 : Int32) else if zb (zcan s P b p x 0 0) = 0 then (0 : Int32) else 1) = 0 then (0 : Int32) else (1 : Int32) <<< (nI x &&& (31 : Int32))) = nI (zbits (zfl s P b p f) (x + 1)) := by
        show _ = nI (zbits (zfl s P b p f) x + (if zfl s P b p f x = true then 2 ^ x else 0))
        have hb := z_bit (f := zfl s P b p f) (n := x) (by omega)
        have h0 : nI (zbits (zfl s P b p f) x) ||| 0 = nI (zbits (zfl s P b p f) x + 0) := by rw [z_lit 0, z_or, Nat.or_zero]; rfl
        generalize zbits (zfl s P b p f) x = w at hb h0
        unfold zfl
        simp only [c1]
        by_cases q : x = p
        · subst q; cases f <;> simp [h0]
        · cases f
          · cases zcan s P b x p 0 0 <;> simp [zb, q, h0, hb]
          · cases zcan s P b p x 0 0 <;> simp [zb, q, h0, hb]
      rw [ev]
      obtain ⟨i1, i2⟩ := ih (x + 1) (by omega) (by omega)
      exact ⟨fun _ => ⟨fun _ => ⟨fun _ => z8_dcan hs hE hb (by omega) hp, fun _ => z8_dcan hs hE hb hp (by omega)⟩, i1⟩, i2⟩
theorem zok16 {m : ax_M} (h : zI m) : OK16 zI m := by
  obtain ⟨T, hT, h7, h8⟩ := id h
  intro a1 a2
  have hw := hT.w
  have n4 := hw.nb4
  have n6 := hw.no6
  have g4 := hw.ng4
  cases e1 : zin a1 T.s.ng with
  | false =>
    refine ⟨?_, ?_, ?_, h⟩
    · unfold D7_fellows; rw [z7_hasBridge hw h7.g, e1]; exact fun q => absurd rfl q
    · unfold D8_fellows; rw [z8_isBridge hw h8.e, e1]; exact fun q => absurd rfl q
    · unfold F7_fellows F8_fellows; rw [z7_hasBridge hw h7.g, z8_isBridge hw h8.e, e1, if_pos (show zb false = 0 from rfl), if_pos (show zb false = 0 from rfl)]
  | true =>
    cases e2 : zin a2 T.s.no with
    | false =>
      refine ⟨?_, ?_, ?_, h⟩
      · unfold D7_fellows; rw [z7_hasOne hw h7.g, e2]; exact fun _ q => absurd rfl q
      · unfold D8_fellows; rw [z8_isOne hw h8.e, e2]; exact fun _ q => absurd rfl q
      · unfold F7_fellows F8_fellows; rw [z7_hasBridge hw h7.g, z8_isBridge hw h8.e, e1, z7_hasOne hw h7.g, z8_isOne hw h8.e, e2, if_neg (show ¬ zb true = 0 by decide), if_neg (show ¬ zb true = 0 by decide), if_pos (show zb false = 0 from rfl), if_pos (show zb false = 0 from rfl)]
    | true =>
      obtain ⟨b, hb, rfl⟩ := zin_t e1 (by omega)
      obtain ⟨p, hp, rfl⟩ := zin_t e2 (by omega)
      have b1 := hT.v.bk hp
      have b2 := hw.fs hb
      have b3 := hw.sc hb
      have c1 : (nI (T.P.bk p) = nI (T.s.fs b)) ↔ T.P.bk p = T.s.fs b := z_neq (by omega) (by omega)
      have c2 : (nI (T.P.bk p) = nI (T.s.sc b)) ↔ T.P.bk p = T.s.sc b := z_neq (by omega) (by omega)
      have r7 : ∀ f, E7_fellows_81 64 (nI b) (nI p) (zb f) 0 0 m ∧ (L7_fellows_81 64 (nI b) (nI p) (zb f) 0 0 m).1 = nI (zbits (zfl T.s T.P b p f) T.s.no) := fun f => by
        have t := z7_fellows hw hT.v h7.g hb hp f 64 0 (by omega) (by omega)
        rw [show zbits (zfl T.s T.P b p f) 0 = 0 from rfl, nI_0] at t
        exact t
      have r8 : ∀ f, E8_fellows_71 64 (nI b) (nI p) (zb f) 0 0 m ∧ (L8_fellows_71 64 (nI b) (nI p) (zb f) 0 0 m).1 = nI (zbits (zfl T.s T.P b p f) T.s.no) := fun f => by
        have t := z8_fellows hw hT.v h8.e h8.q hb hp f 64 0 (by omega) (by omega)
        rw [show zbits (zfl T.s T.P b p f) 0 = 0 from rfl, nI_0] at t
        exact t
      have ef : (if T.P.bk p = T.s.fs b then (1 : Int32) else 0) = zb (decide (T.P.bk p = T.s.fs b)) := z_ite1
      refine ⟨?_, ?_, ?_, h⟩
      · unfold D7_fellows
        rw [z7_bank hw h7.g hp, z7_first hw h7.g hb, z7_second hw h7.g hb]
        simp only [c1, ef]
        exact fun _ _ => ⟨fun _ _ => (r7 _).1, fun _ => (r7 _).1⟩
      · unfold D8_fellows
        rw [z8_bank hw h8.q hp, z8_first hw h8.e hb, z8_second hw h8.e hb]
        simp only [c1, ef]
        exact fun _ _ => ⟨z8_dbank hw hp, z8_vf hw hb, fun _ => ⟨z8_dbank hw hp, z8_vs hw hb, fun _ => (r8 _).1⟩, fun _ => (r8 _).1⟩
      · unfold F7_fellows F8_fellows
        rw [z7_hasBridge hw h7.g, z8_isBridge hw h8.e, e1, z7_hasOne hw h7.g, z8_isOne hw h8.e, e2, z7_bank hw h7.g hp, z7_first hw h7.g hb, z7_second hw h7.g hb, z8_bank hw h8.q hp, z8_first hw h8.e hb, z8_second hw h8.e hb]
        simp only [c1, c2, ef]
        have e7 : (L7_fellows_81 64 (nI b) (nI p) (zb (decide (T.P.bk p = T.s.fs b))) 0 0 m).1 = nI (zbits (zfl T.s T.P b p (decide (T.P.bk p = T.s.fs b))) T.s.no) := (r7 _).2
        have e8 : (L8_fellows_71 64 (nI b) (nI p) (zb (decide (T.P.bk p = T.s.fs b))) 0 0 m).1 = nI (zbits (zfl T.s T.P b p (decide (T.P.bk p = T.s.fs b))) T.s.no) := (r8 _).2
        rw [e7, e8]
end ZJ
