/-! PURE: seasons -/
theorem z_bvn (x : Int32) : x = nI x.toBitVec.toNat := by
  apply Int32.toBitVec_inj.1
  show x.toBitVec = BitVec.ofNat 32 x.toBitVec.toNat
  rw [BitVec.ofNat_toNat, BitVec.setWidth_eq]
def zsd (x : Int32) : Int32 := x * 1103515245 + 12345
def zdrw (x : Int32) (n : Nat) : Nat := (x >>> (16 &&& (31 : Int32))).toBitVec.toNat % 32768 % n
theorem zdrw_lt {x : Int32} {n : Nat} (h : 0 < n) : zdrw x n < n := Nat.mod_lt _ h
theorem z_low15 (x : Int32) : x &&& 32767 = nI (x.toBitVec.toNat % 32768) := by
  have h := z_and x.toBitVec.toNat 32767
  rw [← z_bvn x, show x.toBitVec.toNat &&& 32767 = x.toBitVec.toNat % 32768 from Nat.and_two_pow_sub_one_eq_mod _ 15] at h
  exact h
theorem z_draw {x : Int32} {n : Nat} (h : 0 < n) (hn : n ≤ 6) : ((x >>> (16 &&& (31 : Int32))) &&& 32767) - ((x >>> (16 &&& (31 : Int32))) &&& 32767) / nI n * nI n = nI (zdrw x n) := by
  unfold zdrw
  rw [z_low15]
  have hk : (x >>> (16 &&& (31 : Int32))).toBitVec.toNat % 32768 < 32768 := Nat.mod_lt _ (by decide)
  generalize (x >>> (16 &&& (31 : Int32))).toBitVec.toNat % 32768 = k at hk
  rw [pk_div (by omega) (by omega) (by omega), pk_mul, pk_sub (Nat.div_mul_le_self k n)]
  congr 1
  rw [Nat.mul_comm]
  exact (Nat.mod_eq_sub_mul_div).symm
theorem z_ush (x : Int32) : ((Int32.toUInt32 x >>> (Int32.toUInt32 16 &&& Int32.toUInt32 31)).toInt32) &&& 32767 = (x >>> (16 &&& (31 : Int32))) &&& 32767 := by
  apply Int32.toBitVec_inj.1
  show (x.toBitVec >>> (16 : Nat)) &&& 32767#32 = (x.toBitVec.sshiftRight 16) &&& 32767#32
  apply BitVec.eq_of_getLsbD_eq
  intro i hi
  rw [BitVec.getLsbD_and, BitVec.getLsbD_and, BitVec.getLsbD_ushiftRight, BitVec.getLsbD_sshiftRight]
  by_cases h : i < 15
  · rw [if_pos (by omega)]
    have : ¬ 32 ≤ i := by omega
    simp [this]
  · have : (32767#32).getLsbD i = false := by
      have h2 : ∀ i, i < 32 → ¬ i < 15 → (32767#32).getLsbD i = false := by decide
      exact h2 i hi h
    rw [this, Bool.and_false, Bool.and_false]
/-- n tries from a seed on: how many crossed, and where all stand then -/
def zsn (s : zS) (n : Nat) : Nat → Nat → Nat → Int32 → zP → Nat × zP
  | 0, _, c, _, P => (c, P)
  | k + 1, i, c, x, P => if n ≤ i then (c, P) else if (decide (zdrw (zsd (zsd x)) s.no ≠ zdrw (zsd (zsd (zsd x))) s.no) && zcan s P (zdrw (zsd x) s.ng) (zdrw (zsd (zsd x)) s.no) (zdrw (zsd (zsd (zsd x))) s.no) 0 0) = true then zsn s n k (i + 1) (c + 1) (zsd (zsd (zsd x))) (zsw s P (zdrw (zsd x) s.ng) (zdrw (zsd (zsd x)) s.no) (zdrw (zsd (zsd (zsd x))) s.no)) else zsn s n k (i + 1) c (zsd (zsd (zsd x))) P
section ZM
variable {m : ax_M} {g : Nat} {s : zS} {P : zP} {b p q n : Nat}
theorem z7_drawn {x : Int32} (h : 0 < n) (hn : n ≤ 6) : F7_drawn x (nI n) m = nI (zdrw x n) ∧ D7_drawn x (nI n) m := by
  have h1 : ¬ nI n ≤ 0 := z_lef (b := 0) (by omega) (by omega)
  constructor
  · unfold F7_drawn
    rw [if_neg h1, z_ush, z_draw h hn]
  · exact fun _ e => h1 (by rw [e]; decide)
theorem z8_draws (h : 0 < n) (hn : n ≤ 6) : F8_draws (nI n) m = (nI (zdrw (zsd (m 74 46)) n), ax_up m 74 46 (zsd (m 74 46))) ∧ D8_draws (nI n) m := by
  have h1 : ¬ nI n ≤ 0 := z_lef (b := 0) (by omega) (by omega)
  constructor
  · unfold F8_draws
    rw [z_up, if_pos ⟨rfl, rfl⟩, show m 74 46 * 1103515245 + 12345 = zsd (m 74 46) from rfl, z_draw h hn]
  · exact fun e => h1 (by rw [e]; decide)
theorem z7_season {w v3 : Int32} (hs : zW s) (h1 : 0 < s.ng) (h2 : 0 < s.no) (hn : n ≤ 100) : ∀ (k i c : Nat) (x : Int32) (P : zP) (m : ax_M), zV s P → zGx m 10 s P → m 1 1 = nI s.ng → m 1 2 = nI s.no → i ≤ n → n - i < k → E7_season_64 k w (nI n) v3 (nI c) x (nI i) m ∧ (L7_season_64 k w (nI n) v3 (nI c) x (nI i) m).1 = nI (zsn s n k i c x P).1 ∧ zGx (L7_season_64 k w (nI n) v3 (nI c) x (nI i) m).2.2.2 10 s (zsn s n k i c x P).2 ∧ (∀ c', (c' < 10 ∨ 10 + 8 < c') → (L7_season_64 k w (nI n) v3 (nI c) x (nI i) m).2.2.2 c' = m c') := by
  have a1 := hs.ng4
  have a2 := hs.no6
  intro k
  induction k with
  | zero => intro i c x P m _ _ _ _ _ h; omega
  | succ k ih =>
    intro i c x P m hP hG hg ho hi hk
    unfold L7_season_64 E7_season_64 zsn
    by_cases e : i = n
    · rw [if_pos (z_let (by omega) (by omega)), if_pos (show n ≤ i by omega)]
      exact ⟨fun q => absurd (z_let (by omega) (by omega)) q, rfl, hG, fun _ _ => rfl⟩
    · have hlt : ¬ nI n ≤ nI i := z_lef (by omega) (by omega)
      rw [if_neg hlt, if_neg (show ¬ n ≤ i by omega), hg, ho]
      have n1 : F7_nextSeed x m = zsd x := rfl
      have n2 : F7_nextSeed (zsd x) m = zsd (zsd x) := rfl
      have n3 : F7_nextSeed (zsd (zsd x)) m = zsd (zsd (zsd x)) := rfl
      obtain ⟨d1, d1'⟩ := z7_drawn (m := m) (x := zsd x) h1 (by omega)
      obtain ⟨d2, d2'⟩ := z7_drawn (m := m) (x := zsd (zsd x)) h2 (by omega)
      obtain ⟨d3, d3'⟩ := z7_drawn (m := m) (x := zsd (zsd (zsd x))) h2 (by omega)
      obtain ⟨g1, g2, g3⟩ := z7_pg hs hP hG (zdrw_lt (x := zsd x) h1) (zdrw_lt (x := zsd (zsd x)) h2) (zdrw_lt (x := zsd (zsd (zsd x))) h2)
      rw [n1, n2, n3, d1, d2, d3, g1, show nI i + 1 = nI (i + 1) by rw [z_lit 1, nI_add], show nI c + 1 = nI (c + 1) by rw [z_lit 1, nI_add]]
      generalize F1_passesAndGoes 10 (nI (zdrw (zsd x) s.ng)) (nI (zdrw (zsd (zsd x)) s.no)) (nI (zdrw (zsd (zsd (zsd x))) s.no)) m = R at g2 g3
      have hg' : R.2 1 1 = nI s.ng := by rw [g3 1 (by omega)]; exact hg
      have ho' : R.2 1 2 = nI s.no := by rw [g3 1 (by omega)]; exact ho
      cases hc : (decide (zdrw (zsd (zsd x)) s.no ≠ zdrw (zsd (zsd (zsd x))) s.no) && zcan s P (zdrw (zsd x) s.ng) (zdrw (zsd (zsd x)) s.no) (zdrw (zsd (zsd (zsd x))) s.no) 0 0) with
      | false =>
        rw [hc] at g2
        rw [if_pos (show zb false = 0 from rfl)]
        obtain ⟨i1, i2, i3, i4⟩ := ih (i + 1) c (zsd (zsd (zsd x))) P R.2 hP g2 hg' ho' (by omega) (by omega)
        exact ⟨fun _ => ⟨d1', d2', d3', i1⟩, i2, i3, fun c' hc' => (i4 c' hc').trans (g3 c' hc')⟩
      | true =>
        rw [hc, if_pos rfl] at g2
        rw [if_neg (show ¬ zb true = 0 by decide), if_pos rfl]
        obtain ⟨i1, i2, i3, i4⟩ := ih (i + 1) (c + 1) (zsd (zsd (zsd x))) _ R.2 (hP.sw hs (zdrw_lt h1)) g2 hg' ho' (by omega) (by omega)
        exact ⟨fun _ => ⟨d1', d2', d3', i1⟩, i2, i3, fun c' hc' => (i4 c' hc').trans (g3 c' hc')⟩
theorem L8_season_s {k : Nat} {w v2 v3 v4 v5 v6 x1 x2 x3 : Int32} {m1 m2 m3 : ax_M} (e1 : F8_draws (m 74 2) m = (x1, m1)) (e2 : F8_draws (m1 74 3) m1 = (x2, m2)) (e3 : F8_draws (m2 74 3) m2 = (x3, m3)) : L8_season_58 (k + 1) w v2 v3 v4 v5 v6 m = (if v2 ≤ v6 then (v5, v6, m) else L8_season_58 k w v2 v3 v4 (if x2 = x3 then v5 else if F8_canCross x1 x2 x3 0 0 m3 = 0 then v5 else v5 + 1) (v6 + 1) (if x2 = x3 then m3 else (if F8_canCross x1 x2 x3 0 0 m3 = 0 then m3 else F8_swaps x1 x2 x3 m3))) := by
  have h1 : (F8_draws (m 74 2) m).1 = x1 := by rw [e1]
  have h1' : (F8_draws (m 74 2) m).2 = m1 := by rw [e1]
  subst h1; subst h1'
  have h2 : (F8_draws ((F8_draws (m 74 2) m).2 74 3) (F8_draws (m 74 2) m).2).1 = x2 := by rw [e2]
  have h2' : (F8_draws ((F8_draws (m 74 2) m).2 74 3) (F8_draws (m 74 2) m).2).2 = m2 := by rw [e2]
  subst h2; subst h2'
  have h3 : (F8_draws ((F8_draws ((F8_draws (m 74 2) m).2 74 3) (F8_draws (m 74 2) m).2).2 74 3) (F8_draws ((F8_draws (m 74 2) m).2 74 3) (F8_draws (m 74 2) m).2).2).1 = x3 := by rw [e3]
  have h3' : (F8_draws ((F8_draws ((F8_draws (m 74 2) m).2 74 3) (F8_draws (m 74 2) m).2).2 74 3) (F8_draws ((F8_draws (m 74 2) m).2 74 3) (F8_draws (m 74 2) m).2).2).2 = m3 := by rw [e3]
  subst h3; subst h3'
  rfl
theorem E8_season_s {k : Nat} {w v2 v3 v4 v5 v6 x1 x2 x3 : Int32} {m1 m2 m3 : ax_M} (e1 : F8_draws (m 74 2) m = (x1, m1)) (e2 : F8_draws (m1 74 3) m1 = (x2, m2)) (e3 : F8_draws (m2 74 3) m2 = (x3, m3)) (d1 : D8_draws (m 74 2) m) (d2 : D8_draws (m1 74 3) m1) (d3 : D8_draws (m2 74 3) m2) (h : ¬ v2 ≤ v6 → (¬ x2 = x3 → D8_canCross x1 x2 x3 0 0 m3 ∧ (¬ F8_canCross x1 x2 x3 0 0 m3 = 0 → D8_swaps x1 x2 x3 m3)) ∧ E8_season_58 k w v2 v3 v4 (if x2 = x3 then v5 else if F8_canCross x1 x2 x3 0 0 m3 = 0 then v5 else v5 + 1) (v6 + 1) (if x2 = x3 then m3 else (if F8_canCross x1 x2 x3 0 0 m3 = 0 then m3 else F8_swaps x1 x2 x3 m3))) : E8_season_58 (k + 1) w v2 v3 v4 v5 v6 m := by
  have h1 : (F8_draws (m 74 2) m).1 = x1 := by rw [e1]
  have h1' : (F8_draws (m 74 2) m).2 = m1 := by rw [e1]
  subst h1; subst h1'
  have h2 : (F8_draws ((F8_draws (m 74 2) m).2 74 3) (F8_draws (m 74 2) m).2).1 = x2 := by rw [e2]
  have h2' : (F8_draws ((F8_draws (m 74 2) m).2 74 3) (F8_draws (m 74 2) m).2).2 = m2 := by rw [e2]
  subst h2; subst h2'
  have h3 : (F8_draws ((F8_draws ((F8_draws (m 74 2) m).2 74 3) (F8_draws (m 74 2) m).2).2 74 3) (F8_draws ((F8_draws (m 74 2) m).2 74 3) (F8_draws (m 74 2) m).2).2).1 = x3 := by rw [e3]
  have h3' : (F8_draws ((F8_draws ((F8_draws (m 74 2) m).2 74 3) (F8_draws (m 74 2) m).2).2 74 3) (F8_draws ((F8_draws (m 74 2) m).2 74 3) (F8_draws (m 74 2) m).2).2).2 = m3 := by rw [e3]
  subst h3; subst h3'
  exact fun q => ⟨d1, d2, d3, (h q).1, (h q).2⟩
theorem z8_season {w v3 v4 : Int32} (hs : zW s) (h1 : 0 < s.ng) (h2 : 0 < s.no) (hn : n ≤ 100) : ∀ (k i c : Nat) (x : Int32) (P : zP) (m : ax_M), zV s P → zE m s → zQ m 0 s P → m 74 46 = x → i ≤ n → n - i < k → E8_season_58 k w (nI n) v3 v4 (nI c) (nI i) m ∧ (L8_season_58 k w (nI n) v3 v4 (nI c) (nI i) m).1 = nI (zsn s n k i c x P).1 ∧ zQ (L8_season_58 k w (nI n) v3 v4 (nI c) (nI i) m).2.2 0 s (zsn s n k i c x P).2 ∧ zeqb P (zsn s n k i c x P).2 ∧ zV s (zsn s n k i c x P).2 ∧ (∀ a, a ≠ 75 → a ≠ 74 → (L8_season_58 k w (nI n) v3 v4 (nI c) (nI i) m).2.2 a = m a) ∧ (∀ j, j ≠ 46 → (L8_season_58 k w (nI n) v3 v4 (nI c) (nI i) m).2.2 74 j = m 74 j) ∧ (∀ j, 33 ≤ j → (L8_season_58 k w (nI n) v3 v4 (nI c) (nI i) m).2.2 75 j = m 75 j) := by
  have a1 := hs.ng4
  have a2 := hs.no6
  intro k
  induction k with
  | zero => intro i c x P m _ _ _ _ _ h; omega
  | succ k ih =>
    intro i c x P m hP hE hQ hx hi hk
    by_cases e : i = n
    · unfold L8_season_58 E8_season_58 zsn
      rw [if_pos (z_let (by omega) (by omega)), if_pos (show n ≤ i by omega)]
      exact ⟨fun q => absurd (z_let (by omega) (by omega)) q, rfl, hQ, zeqb.refl P, hP, fun _ _ _ => rfl, fun _ _ => rfl, fun _ _ => rfl⟩
    · have hlt : ¬ nI n ≤ nI i := z_lef (by omega) (by omega)
      obtain ⟨d1, d1'⟩ := z8_draws (m := m) h1 (by omega)
      rw [hx, ← hE.ng] at d1
      rw [← hE.ng] at d1'
      have M1 : ∀ j, j ≠ 46 → ax_up m 74 46 (zsd x) 74 j = m 74 j := fun j hj => by rw [z_up, if_neg (fun q => hj q.2)]
      have K1 : ∀ a, a ≠ 74 → ax_up m 74 46 (zsd x) a = m a := fun a ha => z_upr ha
      have X1 : ax_up m 74 46 (zsd x) 74 46 = zsd x := by rw [z_up, if_pos ⟨rfl, rfl⟩]
      generalize ax_up m 74 46 (zsd x) = m1 at M1 K1 X1 d1
      have o1 : m1 74 3 = nI s.no := by rw [M1 3 (by omega)]; exact hE.no
      obtain ⟨d2, d2'⟩ := z8_draws (m := m1) h2 (by omega)
      rw [X1, ← o1] at d2
      rw [← o1] at d2'
      have M2 : ∀ j, j ≠ 46 → ax_up m1 74 46 (zsd (zsd x)) 74 j = m 74 j := fun j hj => by rw [z_up, if_neg (fun q => hj q.2)]; exact M1 j hj
      have K2 : ∀ a, a ≠ 74 → ax_up m1 74 46 (zsd (zsd x)) a = m a := fun a ha => (z_upr ha).trans (K1 a ha)
      have X2 : ax_up m1 74 46 (zsd (zsd x)) 74 46 = zsd (zsd x) := by rw [z_up, if_pos ⟨rfl, rfl⟩]
      generalize ax_up m1 74 46 (zsd (zsd x)) = m2 at M2 K2 X2 d2
      have o2 : m2 74 3 = nI s.no := by rw [M2 3 (by omega)]; exact hE.no
      obtain ⟨d3, d3'⟩ := z8_draws (m := m2) h2 (by omega)
      rw [X2, ← o2] at d3
      rw [← o2] at d3'
      have M3 : ∀ j, j ≠ 46 → ax_up m2 74 46 (zsd (zsd (zsd x))) 74 j = m 74 j := fun j hj => by rw [z_up, if_neg (fun q => hj q.2)]; exact M2 j hj
      have K3 : ∀ a, a ≠ 74 → ax_up m2 74 46 (zsd (zsd (zsd x))) a = m a := fun a ha => (z_upr ha).trans (K2 a ha)
      have X3 : ax_up m2 74 46 (zsd (zsd (zsd x))) 74 46 = zsd (zsd (zsd x)) := by rw [z_up, if_pos ⟨rfl, rfl⟩]
      generalize ax_up m2 74 46 (zsd (zsd (zsd x))) = m3 at M3 K3 X3 d3
      have E3 : zE m3 s := hE.same (M3 2 (by omega)) (M3 3 (by omega)) (M3 4 (by omega)) (M3 5 (by omega)) (K3 76 (by omega))
      have Q3 : zQ m3 0 s P := by unfold zQ; rw [K3 75 (by omega)]; exact hQ
      rw [hE.ng] at d1
      rw [o1] at d2
      rw [o2] at d3
      have l1 := zdrw_lt (x := zsd x) h1
      have l2 := zdrw_lt (x := zsd (zsd x)) h2
      have l3 := zdrw_lt (x := zsd (zsd (zsd x))) h2
      unfold zsn
      rw [if_neg (show ¬ n ≤ i by omega)]
      generalize zdrw (zsd x) s.ng = b at l1 d1
      generalize zdrw (zsd (zsd x)) s.no = p at l2 d2
      generalize zdrw (zsd (zsd (zsd x))) s.no = q at l3 d3
      rw [← hE.ng] at d1
      rw [← o1] at d2
      rw [← o2] at d3
      rw [L8_season_s d1 d2 d3, if_neg hlt]
      have ES := @E8_season_s m k w (nI n) v3 v4 (nI c) (nI i) _ _ _ _ _ _ d1 d2 d3 d1' d2' d3'
      have c1 : (nI p = nI q) ↔ p = q := z_neq (by omega) (by omega)
      rw [show F8_canCross (nI b) (nI p) (nI q) 0 0 m3 = _ from z8_can (i := 0) (j := 0) hs hP E3 Q3 l1 l2 l3 (by omega) (by omega), show nI i + 1 = nI (i + 1) by rw [z_lit 1, nI_add], show nI c + 1 = nI (c + 1) by rw [z_lit 1, nI_add]] at ES ⊢
      simp only [c1] at ES ⊢
      have dc : D8_canCross (nI b) (nI p) (nI q) 0 0 m3 := z8_dcan hs E3 l1 l2 l3
      obtain ⟨s1, s2, s3, s4⟩ := z8_sws hs E3 Q3 l1 l2 l3
      generalize F8_swaps (nI b) (nI p) (nI q) m3 = R at s2 s3 s4 ES
      by_cases hpq : p = q
      · rw [if_pos hpq, if_pos hpq] at ES ⊢
        rw [if_neg (show ¬ (decide (p ≠ q) && zcan s P b p q 0 0) = true by simp [hpq])]
        obtain ⟨i1, i2, i3, i4, i5, i6, i7, i8⟩ := ih (i + 1) c _ P m3 hP E3 Q3 X3 (by omega) (by omega)
        exact ⟨ES (fun _ => ⟨fun q => absurd hpq q, i1⟩), i2, i3, i4, i5, fun a ha hb => (i6 a ha hb).trans (K3 a hb), fun j hj => (i7 j hj).trans (M3 j hj), fun j hj => (i8 j hj).trans (by rw [K3 75 (by omega)])⟩
      · rw [if_neg hpq, if_neg hpq] at ES ⊢
        rw [decide_eq_true hpq, Bool.true_and]
        cases hc : zcan s P b p q 0 0 with
        | false =>
          rw [hc, if_pos (show zb false = 0 from rfl), if_pos (show zb false = 0 from rfl)] at ES
          rw [if_pos (show zb false = 0 from rfl), if_pos (show zb false = 0 from rfl)]
          obtain ⟨i1, i2, i3, i4, i5, i6, i7, i8⟩ := ih (i + 1) c _ P m3 hP E3 Q3 X3 (by omega) (by omega)
          exact ⟨ES (fun _ => ⟨fun _ => ⟨dc, fun q => absurd rfl q⟩, i1⟩), i2, i3, i4, i5, fun a ha hb => (i6 a ha hb).trans (K3 a hb), fun j hj => (i7 j hj).trans (M3 j hj), fun j hj => (i8 j hj).trans (by rw [K3 75 (by omega)])⟩
        | true =>
          rw [hc, if_neg (show ¬ zb true = 0 by decide), if_neg (show ¬ zb true = 0 by decide)] at ES
          rw [if_neg (show ¬ zb true = 0 by decide), if_neg (show ¬ zb true = 0 by decide), if_pos rfl]
          obtain ⟨i1, i2, i3, i4, i5, i6, i7, i8⟩ := ih (i + 1) (c + 1) (zsd (zsd (zsd x))) _ R (hP.sw hs l1) (E3.k s3) s2 (by rw [s3 74 (by omega)]; exact X3) (by omega) (by omega)
          exact ⟨ES (fun _ => ⟨fun _ => ⟨dc, fun _ => s1⟩, i1⟩), i2, i3, fun a d ha => (i4 a d ha).trans (zeqb.sw (zeqb.refl P) a d ha), i5, fun a ha hb => (i6 a ha hb).trans ((s3 a ha).trans (K3 a hb)), fun j hj => (i7 j hj).trans ((congrFun (s3 74 (by omega)) j).trans (M3 j hj)), fun j hj => (i8 j hj).trans ((s4 j hj).trans (by rw [K3 75 (by omega)]))⟩
theorem zsn_v (hs : zW s) (h1 : 0 < s.ng) : ∀ (k i c : Nat) (x : Int32) (P : zP), zV s P → zV s (zsn s n k i c x P).2 := by
  intro k
  induction k with
  | zero => intro i c x P hP; exact hP
  | succ k ih =>
    intro i c x P hP
    unfold zsn
    by_cases e : n ≤ i
    · rw [if_pos e]; exact hP
    · rw [if_neg e]
      by_cases e2 : (decide (zdrw (zsd (zsd x)) s.no ≠ zdrw (zsd (zsd (zsd x))) s.no) && zcan s P (zdrw (zsd x) s.ng) (zdrw (zsd (zsd x)) s.no) (zdrw (zsd (zsd (zsd x))) s.no) 0 0) = true
      · rw [if_pos e2]; exact ih _ _ _ _ (hP.sw hs (zdrw_lt h1))
      · rw [if_neg e2]; exact ih _ _ _ _ hP
theorem zok29 (h : zI m) : OK29 zI m := by
  obtain ⟨T, hT, h7, h8⟩ := id h
  have hw := hT.w
  have n6 := hw.no6
  have n4 := hw.ng4
  intro a1 a2 a3
  have i2 : F7_within a2 1 100 m = zb (zwi a2 1 100) := z7_in
  have i3 : F7_within a3 0 1 m = zb (zwi a3 0 1) := z7_in
  have j2 : ∀ m', F8_in a2.toInt64 1 100 m' = zb (zwi a2 1 100) := fun m' => z8_in 1 100 rfl rfl
  have j3 : ∀ m', F8_in a3.toInt64 0 1 m' = zb (zwi a3 0 1) := fun m' => z8_in 0 1 rfl rfl
  cases e2 : zwi a2 1 100 with
  | false =>
    have e7 : F7_season a1 a2 a3 m = (-1, m) := by unfold F7_season; rw [i2, e2]; rfl
    have e8 : F8_season a1 a2 a3 m = (-1, m) := by unfold F8_season; rw [j2, e2]; rfl
    rw [e7, e8]
    refine ⟨?_, ?_, rfl, h⟩
    · unfold D7_season; rw [i2, e2]; exact fun q => absurd rfl q
    · unfold D8_season; rw [j2, e2]; exact fun q => absurd rfl q
  | true =>
    cases e3 : zwi a3 0 1 with
    | false =>
      have e7 : F7_season a1 a2 a3 m = (-1, m) := by unfold F7_season; rw [i2, e2, i3, e3]; rfl
      have e8 : F8_season a1 a2 a3 m = (-1, m) := by unfold F8_season; rw [j2, e2, j3, e3]; rfl
      rw [e7, e8]
      refine ⟨?_, ?_, rfl, h⟩
      · unfold D7_season; rw [i3, e3]; exact fun _ q => absurd rfl q
      · unfold D8_season; rw [j3, e3]; exact fun _ q => absurd rfl q
    | true =>
      by_cases h1 : 0 < T.s.ng
      · by_cases h2 : 0 < T.s.no
        · obtain ⟨n, n1, n2, rfl⟩ := zwi_t (lo := 1) (hi := 100) e2 (by omega)
          have g1 : ¬ nI T.s.ng ≤ 0 := z_lef (b := 0) (by omega) (by omega)
          have g2 : (0 : Int32) < nI T.s.no := (z_nlt (a := 0) (by omega) (by omega)).mpr h2
          have g3 : ¬ nI T.s.ng = 0 := fun e => g1 (by rw [e]; decide)
          have g4 : ¬ nI T.s.no = 0 := fun e => absurd g2 (by rw [e]; decide)
          obtain ⟨c1, c2⟩ := z7_copy (g := 10) hw h7.g (by omega)
          obtain ⟨s1, s2, s3, s4⟩ := z7_season (w := a1) (v3 := a3) hw h1 h2 n2 130 0 0 a1 T.P (F1_copyFrom 10 1 m) hT.v c1.x (by rw [c2 1 (by omega)]; exact h7.g.ng) (by rw [c2 1 (by omega)]; exact h7.g.no) (by omega) (by omega)
          have e7 : F7_season a1 (nI n) a3 m = K7_season_158 a1 (nI n) a3 ((L7_season_64 130 a1 (nI n) a3 (nI 0) a1 (nI 0) (F1_copyFrom 10 1 m)).1) ((L7_season_64 130 a1 (nI n) a3 (nI 0) a1 (nI 0) (F1_copyFrom 10 1 m)).2.1) ((L7_season_64 130 a1 (nI n) a3 (nI 0) a1 (nI 0) (F1_copyFrom 10 1 m)).2.2.1) (L7_season_64 130 a1 (nI n) a3 (nI 0) a1 (nI 0) (F1_copyFrom 10 1 m)).2.2.2 := by
            unfold F7_season
            rw [i2, e2, i3, e3, h7.g.ng, h7.g.no, if_neg (show ¬ zb true = 0 by decide), if_neg (show ¬ zb true = 0 by decide), if_neg g1, if_pos g2]; rfl
          rw [e7]
          have k7 : ∀ c, (c < 10 ∨ 10 + 8 < c) → (L7_season_64 130 a1 (nI n) a3 (nI 0) a1 (nI 0) (F1_copyFrom 10 1 m)).2.2.2 c = m c := fun c hc => (s4 c hc).trans (c2 c hc)
          obtain ⟨c0, s3'⟩ := s3
          have hv := zsn_v (n := n) hw h1 130 0 0 a1 T.P hT.v
          obtain ⟨t1, t2⟩ := z7_goals hw (P := (zsn T.s n 130 0 0 a1 T.P).2.set 0 0 c0) hv.x s3' 64 0 (by omega) (by omega)
          have t1' : D1_atGoals 10 (L7_season_64 130 a1 (nI n) a3 (nI 0) a1 (nI 0) (F1_copyFrom 10 1 m)).2.2.2 := t1
          have t2' : F1_atGoals 10 (L7_season_64 130 a1 (nI n) a3 (nI 0) a1 (nI 0) (F1_copyFrom 10 1 m)).2.2.2 = nI (zcnt (zat (zsn T.s n 130 0 0 a1 T.P).2) T.s.no) := t2
          have d7 : D7_season a1 (nI n) a3 m := fun _ _ _ _ => ⟨s1, fun _ => t1'⟩
          refine ⟨d7, ?_⟩
          unfold K7_season_158
          rw [s2, t2']
          generalize (L7_season_64 130 a1 (nI n) a3 (nI 0) a1 (nI 0) (F1_copyFrom 10 1 m)).2.2.2 = m1 at k7
          have h7' : z7 m1 T := h7.of (fun c _ hc => k7 c (by unfold zsc at hc; omega))
          have h8' : z8 m1 T := h8.keep (fun c hc => k7 c (by omega))
          have em : (if a3 = 0 then (nI (zsn T.s n 130 0 0 a1 T.P).1, m1) else (nI (zcnt (zat (zsn T.s n 130 0 0 a1 T.P).2) T.s.no), m1)) = ((if a3 = 0 then nI (zsn T.s n 130 0 0 a1 T.P).1 else nI (zcnt (zat (zsn T.s n 130 0 0 a1 T.P).2) T.s.no)), m1) := by by_cases q : a3 = 0 <;> simp [q]
          rw [em]
          dsimp only
          obtain ⟨d1, d2⟩ := z8_code hw hT.v h8'.e h8'.q
          have MU : ∀ j, j ≠ 46 → ax_up m1 74 46 a1 74 j = m1 74 j := fun j hj => by rw [z_up, if_neg (fun q => hj q.2)]
          have KU : ∀ a, a ≠ 74 → ax_up m1 74 46 a1 a = m1 a := fun a ha => z_upr ha
          obtain ⟨i1, i2', i3', i4, i5, i6, i7, i8⟩ := z8_season (w := a1) (v3 := a3) (v4 := F8_codeNow m1) hw h1 h2 n2 130 0 0 a1 T.P (ax_up m1 74 46 a1) hT.v (h8'.e.same (MU 2 (by omega)) (MU 3 (by omega)) (MU 4 (by omega)) (MU 5 (by omega)) (KU 76 (by omega))) (by unfold zQ; rw [KU 75 (by omega)]; exact h8'.q) (by rw [z_up, if_pos ⟨rfl, rfl⟩]) (by omega) (by omega)
          have e8 : F8_season a1 (nI n) a3 m1 = K8_season_135 a1 (nI n) a3 (F8_codeNow m1) ((L8_season_58 130 a1 (nI n) a3 (F8_codeNow m1) (nI 0) (nI 0) (ax_up m1 74 46 a1)).1) ((L8_season_58 130 a1 (nI n) a3 (F8_codeNow m1) (nI 0) (nI 0) (ax_up m1 74 46 a1)).2.1) (L8_season_58 130 a1 (nI n) a3 (F8_codeNow m1) (nI 0) (nI 0) (ax_up m1 74 46 a1)).2.2 := by
            unfold F8_season
            rw [j2, e2, j3, e3, h8'.e.ng, h8'.e.no, if_neg (show ¬ zb true = 0 by decide), if_neg (show ¬ zb true = 0 by decide), if_neg g3, if_neg g4]; rfl
          have ED : (HK8_season_135 a1 (nI n) a3 (F8_codeNow m1) ((L8_season_58 130 a1 (nI n) a3 (F8_codeNow m1) (nI 0) (nI 0) (ax_up m1 74 46 a1)).1) ((L8_season_58 130 a1 (nI n) a3 (F8_codeNow m1) (nI 0) (nI 0) (ax_up m1 74 46 a1)).2.1) (L8_season_58 130 a1 (nI n) a3 (F8_codeNow m1) (nI 0) (nI 0) (ax_up m1 74 46 a1)).2.2) → D8_season a1 (nI n) a3 m1 := fun q => fun _ _ _ _ => ⟨d1, i1, q⟩
          rw [e8]
          have x6 : ∀ a, a ≠ 75 → a ≠ 74 → (L8_season_58 130 a1 (nI n) a3 (F8_codeNow m1) (nI 0) (nI 0) (ax_up m1 74 46 a1)).2.2 a = m1 a := fun a h1 h2 => (i6 a h1 h2).trans (KU a h2)
          have x7 : ∀ j, j ≠ 46 → (L8_season_58 130 a1 (nI n) a3 (F8_codeNow m1) (nI 0) (nI 0) (ax_up m1 74 46 a1)).2.2 74 j = m1 74 j := fun j hj => (i7 j hj).trans (MU j hj)
          have x8 : ∀ j, 33 ≤ j → (L8_season_58 130 a1 (nI n) a3 (F8_codeNow m1) (nI 0) (nI 0) (ax_up m1 74 46 a1)).2.2 75 j = m1 75 j := fun j hj => (i8 j hj).trans (by rw [KU 75 (by omega)])
          unfold K8_season_135
          rw [i2']
          generalize (L8_season_58 130 a1 (nI n) a3 (F8_codeNow m1) (nI 0) (nI 0) (ax_up m1 74 46 a1)) = R at i3' ED x6 x7 x8
          have E2 : zE R.2.2 T.s := h8'.e.same (x7 2 (by omega)) (x7 3 (by omega)) (x7 4 (by omega)) (x7 5 (by omega)) (x6 76 (by omega) (by omega))
          obtain ⟨u1, u2⟩ := z8_goals hw hv E2 i3' 64 0 (by omega) (by omega)
          have u2' : F8_atGoals R.2.2 = nI (zcnt (zat (zsn T.s n 130 0 0 a1 T.P).2) T.s.no) := u2
          rw [u2', d2] at *
          obtain ⟨y1, y2, y3, y4⟩ := z8_stands hw hT.v E2 i3' i4
          have em2 : (if a3 = 0 then (nI (zsn T.s n 130 0 0 a1 T.P).1, F8_stand (nI (zcode T.P.bk T.s.no)) R.2.2) else (nI (zcnt (zat (zsn T.s n 130 0 0 a1 T.P).2) T.s.no), F8_stand (nI (zcode T.P.bk T.s.no)) R.2.2)) = ((if a3 = 0 then nI (zsn T.s n 130 0 0 a1 T.P).1 else nI (zcnt (zat (zsn T.s n 130 0 0 a1 T.P).2) T.s.no)), F8_stand (nI (zcode T.P.bk T.s.no)) R.2.2) := by by_cases q : a3 = 0 <;> simp [q]
          rw [em2]
          refine ⟨ED ⟨u1, y1⟩, rfl, ?_⟩
          dsimp only
          refine zI.step hT h7' (fun c hc => (y3 c (by omega)).trans (x6 c (by omega) (by omega))) ?_
          have := z8.now (P := T.P) h8' hw (m' := F8_stand (nI (zcode T.P.bk T.s.no)) R.2.2) (fun k hk => by rw [y3 74 (by omega)]; exact x7 k (by unfold zsl at hk; omega)) (fun c hc _ _ => (y3 c (by omega)).trans (x6 c (by omega) (by omega))) (fun k hk _ => (y4 k hk).trans (x8 k hk)) y2
          exact this
        · have h0 : T.s.no = 0 := by omega
          have e7 : F7_season a1 a2 a3 m = (-2, m) := by
            unfold F7_season; rw [i2, e2, i3, e3, h7.g.ng, h7.g.no, h0, if_neg (show ¬ zb true = 0 by decide), if_neg (show ¬ zb true = 0 by decide), if_neg (show ¬ nI T.s.ng ≤ 0 from z_lef (b := 0) (by omega) (by omega)), if_neg (show ¬ (0 : Int32) < nI 0 by decide)]
          have e8 : F8_season a1 a2 a3 m = (-2, m) := by
            unfold F8_season; rw [j2, e2, j3, e3, h8.e.ng, h8.e.no, h0, if_neg (show ¬ zb true = 0 by decide), if_neg (show ¬ zb true = 0 by decide), if_neg (show ¬ nI T.s.ng = 0 from fun e => absurd ((z_neq (b := 0) (by omega) (by omega)).mp e) (by omega)), if_pos (show nI 0 = 0 from rfl)]
          rw [e7, e8]
          refine ⟨?_, ?_, rfl, h⟩
          · unfold D7_season; rw [h7.g.no, h0]; exact fun _ _ _ q => absurd q (by decide)
          · exact fun _ _ _ q => absurd (show m 74 3 = 0 by rw [h8.e.no, h0]; rfl) q
      · have h0 : T.s.ng = 0 := by omega
        have e7 : F7_season a1 a2 a3 m = (-2, m) := by
          unfold F7_season; rw [i2, e2, i3, e3, h7.g.ng, h0, if_neg (show ¬ zb true = 0 by decide), if_neg (show ¬ zb true = 0 by decide), if_pos (show nI 0 ≤ 0 by decide)]
        have e8 : F8_season a1 a2 a3 m = (-2, m) := by
          unfold F8_season; rw [j2, e2, j3, e3, h8.e.ng, h0, if_neg (show ¬ zb true = 0 by decide), if_neg (show ¬ zb true = 0 by decide), if_pos (show nI 0 = 0 from rfl)]
        rw [e7, e8]
        refine ⟨?_, ?_, rfl, h⟩
        · unfold D7_season; rw [h7.g.ng, h0]; exact fun _ _ q => absurd (by decide) q
        · exact fun _ _ q => absurd (show m 74 2 = 0 by rw [h8.e.ng, h0]; rfl) q
end ZM
