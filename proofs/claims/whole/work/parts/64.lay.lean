/-! PURE: who has an errand; the reference's tables of them -/
theorem zbits_s (f : Nat → Bool) (n : Nat) : zbits f (n + 1) = zbits f n + (if f n = true then 2 ^ n else 0) := rfl
theorem zbits_tb (f : Nat → Bool) : ∀ n q, (zbits f n).testBit q = (decide (q < n) && f q)
  | 0, q => by
    show (0 : Nat).testBit q = _
    rw [Nat.zero_testBit, decide_eq_false (by omega)]; rfl
  | n + 1, q => by
    have ih := zbits_tb f n q
    unfold zbits
    cases e : f n with
    | false =>
      rw [if_neg (by simp), Nat.add_zero, ih]
      by_cases w : q = n
      · rw [w, e, Bool.and_false, Bool.and_false]
      · congr 1; rw [decide_eq_decide]; omega
    | true =>
      have h1 := Nat.two_pow_add_eq_or_of_lt (zbits_lt f n) 1
      rw [Nat.mul_one] at h1
      rw [if_pos rfl, Nat.add_comm, h1, Nat.testBit_or, Nat.testBit_two_pow, ih]
      by_cases w : q = n
      · rw [w, e, decide_eq_true rfl, decide_eq_true (show n < n + 1 by omega)]; rfl
      · rw [decide_eq_false (fun x => w x.symm), Bool.false_or]
        congr 1; rw [decide_eq_decide]; omega
theorem zbits_ext {f g : Nat → Bool} : ∀ n, (∀ p, p < n → f p = g p) → zbits f n = zbits g n
  | 0, _ => rfl
  | n + 1, h => by
    unfold zbits
    rw [zbits_ext n (fun p hp => h p (by omega)), h n (by omega)]
theorem zget_app : ∀ (l : List Nat) (p k : Nat), k ≤ l.length → (l ++ [p]).getD k 0 = if k < l.length then l.getD k 0 else p
  | [], p, k, h => by
    have : k = 0 := Nat.le_zero.mp h
    subst this; rfl
  | a :: l, p, 0, _ => (if_pos (Nat.zero_lt_succ _)).symm
  | a :: l, p, k + 1, h => by
    have ih := zget_app l p k (Nat.le_of_succ_le_succ h)
    show (l ++ [p]).getD k 0 = if k + 1 < l.length + 1 then l.getD k 0 else p
    rw [ih]
    by_cases w : k < l.length
    · rw [if_pos w, if_pos (by omega)]
    · rw [if_neg w, if_neg (by omega)]
theorem zflt_s (f : Nat → Bool) (p : Nat) : (List.range (p + 1)).filter f = if f p = true then (List.range p).filter f ++ [p] else (List.range p).filter f := by
  rw [List.range_succ, List.filter_append]
  cases e : f p with
  | true => rw [if_pos rfl, List.filter_cons_of_pos e]; rfl
  | false => rw [if_neg (by simp), List.filter_cons_of_neg (by rw [e]; simp)]; simp
theorem zflt_l (f : Nat → Bool) (p : Nat) : ((List.range p).filter f).length ≤ p := by
  have := List.length_filter_le f (List.range p)
  rwa [List.length_range] at this
theorem zflt_e {f g : Nat → Bool} : ∀ n, (∀ p, p < n → f p = g p) → (List.range n).filter f = (List.range n).filter g
  | 0, _ => rfl
  | n + 1, h => by rw [zflt_s, zflt_s, zflt_e n (fun p hp => h p (by omega)), h n (by omega)]
theorem zflt_k {f : Nat → Bool} {n : Nat} : ∀ k, (∀ p, n ≤ p → p < n + k → f p = false) → (List.range (n + k)).filter f = (List.range n).filter f ∧ zbits f (n + k) = zbits f n
  | 0, _ => ⟨rfl, rfl⟩
  | k + 1, h => by
    obtain ⟨i1, i2⟩ := zflt_k k (fun p h1 h2 => h p h1 (by omega))
    have e := h (n + k) (by omega) (by omega)
    refine ⟨?_, ?_⟩
    · rw [← Nat.add_assoc, zflt_s, e, if_neg (by simp), i1]
    · rw [← Nat.add_assoc, zbits_s, e, if_neg (by simp), Nat.add_zero]; exact i2
def zerr (P : zP) (wo x y p : Nat) : Bool := !(wo.testBit p) && decide (P.bk p = x ∧ P.gl p = y)
/-- the first sides' people, and the second side's, with a new one on side sd (2: with none) -/
def zFi (s : zS) (P : zP) (b wo sd p : Nat) : Bool := (decide (p < s.no) && zerr P wo (s.fs b) (s.sc b) p) || decide (p = 6 ∧ sd = 0)
def zSe (s : zS) (P : zP) (b wo sd p : Nat) : Bool := (decide (p < s.no) && zerr P wo (s.sc b) (s.fs b) p) || decide (p = 6 ∧ sd = 1)
section ZU
variable {m m0 : ax_M} {g : Nat} {s : zS} {P : zP} {b p q : Nat}
theorem zK.e (h : zK m0 m) (hE : zE m0 s) : zE m s := hE.same (h.2.2 2 (by omega) (by omega)) (h.2.2 3 (by omega) (by omega)) (h.2.2 4 (by omega) (by omega)) (h.2.2 5 (by omega) (by omega)) h.2.1
theorem zK.qq (h : zK m0 m) (hQ : zQ m0 0 s P) : zQ m 0 s P := by unfold zQ; rw [h.1]; exact hQ
theorem z8_err {x y : Nat} (hs : zW s) (hP : zV s P) (hQ : zQ m 0 s P) (hp : p < s.no) (hx : x < 4) (hy : y < 4) : D8_hasErrand (nI p) (nI x) (nI y) m ∧ F8_hasErrand (nI p) (nI x) (nI y) m = zb (decide (P.bk p = x ∧ P.gl p = y)) := by
  have h1 := hP.bk hp
  have h2 := hP.gl hp
  have h3 := hs.nb4
  unfold D8_hasErrand F8_hasErrand
  rw [z8_bank hs hQ hp, z8_goal hs hQ hp]
  have c1 : (nI (P.bk p) = nI x) ↔ P.bk p = x := z_neq (by omega) (by omega)
  have c2 : (nI (P.gl p) = nI y) ↔ P.gl p = y := z_neq (by omega) (by omega)
  simp only [c1, c2]
  refine ⟨⟨z8_dbank hs hp, fun _ => z8_v4 (c := 3) hs hp (by omega)⟩, ?_⟩
  by_cases e1 : P.bk p = x <;> by_cases e2 : P.gl p = y <;> simp [e1, e2, zb]
theorem z8_l13 {wo : Nat} {v3 v4 : Int32} (hs : zW s) (hP : zV s P) (hE0 : zE m0 s) (hQ0 : zQ m0 0 s P) (hb : b < s.ng) (hwo : wo < 2 ^ 31) : ∀ n p m, p ≤ s.no → s.no - p < n → zLay m0 m ((List.range p).filter (zerr P wo (s.fs b) (s.sc b))) (zbits (zerr P wo (s.sc b) (s.fs b)) p) → E8_layPairs_13 n (nI b) (nI wo) v3 v4 (nI p) m ∧ zLay m0 (L8_layPairs_13 n (nI b) (nI wo) v3 v4 (nI p) m).2 ((List.range s.no).filter (zerr P wo (s.fs b) (s.sc b))) (zbits (zerr P wo (s.sc b) (s.fs b)) s.no) ∧ ∀ d, d ≠ 74 → d ≠ 84 → (L8_layPairs_13 n (nI b) (nI wo) v3 v4 (nI p) m).2 d = m d := by
  have a1 := hs.no6
  have a2 := hs.nb4
  have b1 := hs.fs hb
  have b2 := hs.sc hb
  intro n
  induction n with
  | zero => intro p m _ h; omega
  | succ n ih =>
    intro p m hp hn hL
    have hE := hL.1.e hE0
    unfold E8_layPairs_13 L8_layPairs_13
    rw [hE.no]
    by_cases e : p = s.no
    · rw [if_pos (z_let (by omega) (by omega))]
      exact ⟨fun w => absurd (z_let (by omega) (by omega)) w, by rw [← e]; exact hL, fun _ _ _ => rfl⟩
    · have hlt : ¬ nI s.no ≤ nI p := z_lef (by omega) (by omega)
      have hp' : p < s.no := by omega
      have hh : (if ((nI wo >>> (nI p &&& (31 : Int32))) &&& 1) = 0 then (1 : Int32) else 0) = zb (!wo.testBit p) := by
        have := z_tb (t := wo) (q := p) (by omega) hwo
        cases w : wo.testBit p with
        | true => rw [if_neg (fun x => by rw [this.mp x] at w; cases w)]; rfl
        | false => rw [if_pos (this.mpr w)]; rfl
      obtain ⟨d1, d2⟩ := z8_err (x := s.fs b) (y := s.sc b) hs hP (hL.1.qq hQ0) hp' (by omega) (by omega)
      have hlen := zflt_l (zerr P wo (s.fs b) (s.sc b)) p
      have z35 := hL.2.1
      rw [if_neg hlt, hh, z8_first hs hE hb, z8_second hs hE hb, d2, nI_1]
      -- the second half of a turn, from any memory that still has the people
      have half : ∀ M, zE M s → zQ M 0 s P → M 74 36 = nI (zbits (zerr P wo (s.sc b) (s.fs b)) p) → D8_hasErrand (nI p) (M 76 (Int32.toNatClampNeg ((2 * nI b) + 1))) (M 76 (Int32.toNatClampNeg (2 * nI b))) M ∧ (M 74 36) ||| (if zb (!wo.testBit p) = 0 then (0 : Int32) else if (F8_hasErrand (nI p) (M 76 (Int32.toNatClampNeg ((2 * nI b) + 1))) (M 76 (Int32.toNatClampNeg (2 * nI b))) M) = 0 then (0 : Int32) else (1 : Int32) <<< (nI p &&& (31 : Int32))) = nI (zbits (zerr P wo (s.sc b) (s.fs b)) (p + 1)) := fun M hE hQ h36 => by
        obtain ⟨d3, d4⟩ := z8_err (x := s.sc b) (y := s.fs b) hs hP hQ hp' (by omega) (by omega)
        rw [z8_first hs hE hb, z8_second hs hE hb, d4, h36]
        refine ⟨d3, ?_⟩
        rw [zbits_s]
        have hz : nI (zbits (zerr P wo (s.sc b) (s.fs b)) p) ||| (0 : Int32) = nI (zbits (zerr P wo (s.sc b) (s.fs b)) p) := by
          rw [z_lit 0, z_or, Nat.or_zero]
        cases w1 : wo.testBit p with
        | true =>
          have : zerr P wo (s.sc b) (s.fs b) p = false := by unfold zerr; rw [w1]; rfl
          rw [this, if_pos (show zb (!true) = 0 from rfl), if_neg (by simp), hz, Nat.add_zero]
        | false =>
          have h0 : zerr P wo (s.sc b) (s.fs b) p = decide (P.bk p = s.sc b ∧ P.gl p = s.fs b) := by unfold zerr; rw [w1]; rfl
          rw [h0, if_neg (show ¬ zb (!false) = 0 by decide)]
          cases w2 : decide (P.bk p = s.sc b ∧ P.gl p = s.fs b) with
          | false => rw [if_pos (show zb false = 0 from rfl), if_neg (by simp), hz, Nat.add_zero]
          | true => rw [if_neg (show ¬ zb true = 0 by decide), if_pos rfl, z_bit (by omega)]
      -- one turn, as a whole
      have turn : ∀ M, zLay m0 M ((List.range (p + 1)).filter (zerr P wo (s.fs b) (s.sc b))) (zbits (zerr P wo (s.sc b) (s.fs b)) p) → (∀ d, d ≠ 74 → d ≠ 84 → M d = m d) → ∀ X, X = nI (zbits (zerr P wo (s.sc b) (s.fs b)) (p + 1)) → E8_layPairs_13 n (nI b) (nI wo) v3 v4 (nI (p + 1)) (ax_up M 74 36 X) ∧ zLay m0 (L8_layPairs_13 n (nI b) (nI wo) v3 v4 (nI (p + 1)) (ax_up M 74 36 X)).2 ((List.range s.no).filter (zerr P wo (s.fs b) (s.sc b))) (zbits (zerr P wo (s.sc b) (s.fs b)) s.no) ∧ ∀ d, d ≠ 74 → d ≠ 84 → (L8_layPairs_13 n (nI b) (nI wo) v3 v4 (nI (p + 1)) (ax_up M 74 36 X)).2 d = m d := fun M hM hfr X hX => by
        obtain ⟨k1, k2, k3, k4⟩ := hM
        obtain ⟨i1, i2, i3⟩ := ih (p + 1) (ax_up M 74 36 X) (by omega) (by omega) ⟨⟨by rw [z_upr (by omega)]; exact k1.1, by rw [z_upr (by omega)]; exact k1.2.1, fun j h1 h2 => by rw [z_up, if_neg (by omega)]; exact k1.2.2 j h1 h2⟩, by rw [z_up, if_neg (by omega)]; exact k2, by rw [z_up, if_pos ⟨rfl, rfl⟩]; exact hX, by rw [z_upr (by omega)]; exact k4⟩
        exact ⟨i1, i2, fun d h1 h2 => by rw [i3 d h1 h2, z_upr h1, hfr d h1 h2]⟩
      have vf := z8_vf hs hb
      have vs := z8_vs hs hb
      by_cases eA : zerr P wo (s.fs b) (s.sc b) p = true
      · have w1 : wo.testBit p = false := by
          unfold zerr at eA
          cases w : wo.testBit p with
          | false => rfl
          | true => rw [w] at eA; cases eA
        have w2 : decide (P.bk p = s.fs b ∧ P.gl p = s.sc b) = true := by
          unfold zerr at eA; rw [w1] at eA; exact eA
        have n1 : ¬ zb (!wo.testBit p) = 0 := by rw [w1]; decide
        have n2 : ¬ zb (decide (P.bk p = s.fs b ∧ P.gl p = s.sc b)) = 0 := by rw [w2]; decide
        have ff := zflt_s (zerr P wo (s.fs b) (s.sc b)) p
        rw [if_pos eA] at ff
        generalize hl : (List.range p).filter (zerr P wo (s.fs b) (s.sc b)) = l at *
        rw [if_neg n1, if_neg n2, z35, z_ncl (by omega)]
        have e35 : ax_up m 84 l.length (nI p) 74 35 + 1 = nI (l.length + 1) := by rw [z_upr (by omega), z35, nI_1]
        rw [e35]
        have hM : zLay m0 (ax_up (ax_up m 84 l.length (nI p)) 74 35 (nI (l.length + 1))) ((List.range (p + 1)).filter (zerr P wo (s.fs b) (s.sc b))) (zbits (zerr P wo (s.sc b) (s.fs b)) p) := by
          obtain ⟨k1, k2, k3, k4⟩ := hL
          refine ⟨⟨by rw [z_upr (by omega), z_upr (by omega)]; exact k1.1, by rw [z_upr (by omega), z_upr (by omega)]; exact k1.2.1, fun j h1 h2 => by rw [z_up, if_neg (by omega), z_upr (by omega)]; exact k1.2.2 j h1 h2⟩, ?_, ?_, fun k hk => ?_⟩
          · rw [z_up, if_pos ⟨rfl, rfl⟩, ff, List.length_append]; rfl
          · rw [z_up, if_neg (by omega), z_upr (by omega)]; exact k3
          · rw [ff, List.length_append] at hk
            have hk' : k ≤ l.length := by simp at hk; omega
            rw [z_upr (by omega), z_up, ff, zget_app l p k hk']
            by_cases w : k < l.length
            · rw [if_neg (by omega), if_pos w]; exact k4 k w
            · rw [if_pos ⟨rfl, by omega⟩, if_neg w]
        have hfr : ∀ d, d ≠ 74 → d ≠ 84 → ax_up (ax_up m 84 l.length (nI p)) 74 35 (nI (l.length + 1)) d = m d := fun d h1 h2 => by rw [z_upr h1, z_upr h2]
        obtain ⟨x1, x2⟩ := half _ (hM.1.e hE0) (hM.1.qq hQ0) hM.2.2.1
        obtain ⟨t1, t2, t3⟩ := turn _ hM hfr _ x2
        exact ⟨fun _ => ⟨fun _ => ⟨vf, vs, d1, fun _ => z_vp (by omega) (by omega)⟩, fun _ => ⟨vs, vf, x1⟩, t1⟩, t2, t3⟩
      · have ff := zflt_s (zerr P wo (s.fs b) (s.sc b)) p
        rw [if_neg eA] at ff
        have em : (if zb (!wo.testBit p) = 0 then m else (if zb (decide (P.bk p = s.fs b ∧ P.gl p = s.sc b)) = 0 then m else (ax_up (ax_up m 84 (Int32.toNatClampNeg (m 74 35)) (nI p)) 74 35 (((ax_up m 84 (Int32.toNatClampNeg (m 74 35)) (nI p)) 74 35) + 1)))) = m := by
          unfold zerr at eA
          cases w1 : wo.testBit p with
          | true => rw [if_pos (show zb (!true) = 0 from rfl)]
          | false =>
            rw [if_neg (show ¬ zb (!false) = 0 by decide)]
            cases w2 : decide (P.bk p = s.fs b ∧ P.gl p = s.sc b) with
            | false => rw [if_pos (show zb false = 0 from rfl)]
            | true => rw [w1, w2] at eA; exact absurd rfl eA
        rw [em]
        obtain ⟨x1, x2⟩ := half m hE (hL.1.qq hQ0) hL.2.2.1
        rw [← ff] at hL
        obtain ⟨t1, t2, t3⟩ := turn m hL (fun _ _ _ => rfl) _ x2
        refine ⟨fun _ => ⟨fun _ => ⟨vf, vs, d1, fun _ => ?_⟩, fun _ => ⟨vs, vf, x1⟩, t1⟩, t2, t3⟩
        rw [z35]; exact z_vp (by omega) (by omega)
theorem z8_lay {wo sd : Nat} {v3 hv : Int32} {c : Nat → Nat → Option Nat} (hs : zW s) (hP : zV s P) (hE0 : zE m s) (hQ0 : zQ m 0 s P) (hb : b < s.ng) (hwo : wo < 2 ^ 31) (h30 : v3 = 0 ↔ sd = 0) (h31 : v3 = 1 ↔ sd = 1) (hx : ∀ p q x, c p q = some x → x ≤ 6) (hS : ∀ p q, zFi s P b wo sd p = true → (zbits (zSe s P b wo sd) 7).testBit q = false → c p q = none) (hw : zHw m c ((List.range 7).filter (zFi s P b wo sd)) (zbits (zSe s P b wo sd) 7) (nI b) hv) : D8_layPairs (nI b) (nI wo) v3 hv m ∧ (F8_layPairs (nI b) (nI wo) v3 hv m).1 = nI (zfv c ((List.range 7).filter (zFi s P b wo sd)) 0) ∧ zLay m (F8_layPairs (nI b) (nI wo) v3 hv m).2 ((List.range 7).filter (zFi s P b wo sd)) (zbits (zSe s P b wo sd) 7) ∧ zBs c ((List.range 7).filter (zFi s P b wo sd)) (F8_layPairs (nI b) (nI wo) v3 hv m).2 0 ∧ ∀ d, d ≠ 74 → d ≠ 84 → d ≠ 85 → (F8_layPairs (nI b) (nI wo) v3 hv m).2 d = m d := by
  have a1 := hs.no6
  have i0 : zLay m (ax_up (ax_up m 74 35 0) 74 36 0) ((List.range 0).filter (zerr P wo (s.fs b) (s.sc b))) (zbits (zerr P wo (s.sc b) (s.fs b)) 0) := ⟨⟨by rw [z_upr (by omega), z_upr (by omega)], by rw [z_upr (by omega), z_upr (by omega)], fun j h1 h2 => by rw [z_up, if_neg (by omega), z_up, if_neg (by omega)]⟩, by rw [z_up, if_neg (by omega), z_up, if_pos ⟨rfl, rfl⟩]; rfl, by rw [z_up, if_pos ⟨rfl, rfl⟩]; rfl, fun k hk => by cases hk⟩
  obtain ⟨l1, l2, l3⟩ := z8_l13 (v3 := v3) (v4 := hv) hs hP hE0 hQ0 hb hwo 130 0 _ (by omega) (by omega) i0
  rw [show nI 0 = (0 : Int32) from rfl] at l1 l2 l3
  unfold D8_layPairs F8_layPairs
  have l3' : ∀ d, d ≠ 74 → d ≠ 84 → (L8_layPairs_13 130 (nI b) (nI wo) v3 hv 0 (ax_up (ax_up m 74 35 0) 74 36 0)).2 d = m d := fun d h1 h2 => by rw [l3 d h1 h2, z_upr h1, z_upr h1]
  generalize (L8_layPairs_13 130 (nI b) (nI wo) v3 hv 0 (ax_up (ax_up m 74 35 0) 74 36 0)) = R at *
  have fi6 : (List.range 7).filter (zFi s P b wo sd) = if sd = 0 then (List.range s.no).filter (zerr P wo (s.fs b) (s.sc b)) ++ [6] else (List.range s.no).filter (zerr P wo (s.fs b) (s.sc b)) := by
    rw [zflt_s]
    have e1 : (List.range 6).filter (zFi s P b wo sd) = (List.range s.no).filter (zerr P wo (s.fs b) (s.sc b)) := by
      have := (zflt_k (f := zFi s P b wo sd) (n := s.no) (6 - s.no) (fun p h1 h2 => by
        unfold zFi; rw [decide_eq_false (by omega), decide_eq_false (by omega)]; rfl)).1
      rw [show s.no + (6 - s.no) = 6 by omega] at this
      rw [this]
      apply zflt_e
      intro p hp
      unfold zFi; rw [decide_eq_true hp, decide_eq_false (show ¬ (p = 6 ∧ sd = 0) by omega), Bool.true_and, Bool.or_false]
    have e2 : zFi s P b wo sd 6 = decide (sd = 0) := by
      unfold zFi; rw [decide_eq_false (show ¬ 6 < s.no by omega)]; simp
    rw [e1, e2]
    by_cases w : sd = 0
    · rw [if_pos w, if_pos (decide_eq_true w)]
    · rw [if_neg w, if_neg (by simp [w])]
  have se6 : zbits (zSe s P b wo sd) 7 = zbits (zerr P wo (s.sc b) (s.fs b)) s.no + (if sd = 1 then 64 else 0) := by
    have e1 : zbits (zSe s P b wo sd) 6 = zbits (zerr P wo (s.sc b) (s.fs b)) s.no := by
      have := (zflt_k (f := zSe s P b wo sd) (n := s.no) (6 - s.no) (fun p h1 h2 => by
        unfold zSe; rw [decide_eq_false (by omega), decide_eq_false (by omega)]; rfl)).2
      rw [show s.no + (6 - s.no) = 6 by omega] at this
      rw [this]
      apply zbits_ext
      intro p hp
      unfold zSe; rw [decide_eq_true hp, decide_eq_false (show ¬ (p = 6 ∧ sd = 1) by omega), Bool.true_and, Bool.or_false]
    have e2 : zSe s P b wo sd 6 = decide (sd = 1) := by
      unfold zSe; rw [decide_eq_false (show ¬ 6 < s.no by omega)]; simp
    rw [zbits_s, e1, e2]
    by_cases w : sd = 1
    · rw [if_pos w, if_pos (decide_eq_true w)]
    · rw [if_neg w, if_neg (by simp [w])]
  have hl7 : ((List.range 7).filter (zFi s P b wo sd)).length ≤ 7 := zflt_l _ 7
  have hS7 : zbits (zSe s P b wo sd) 7 < 128 := zbits_lt _ 7
  have hlen := zflt_l (zerr P wo (s.fs b) (s.sc b)) s.no
  have hsb := zbits_lt (zerr P wo (s.sc b) (s.fs b)) s.no
  have hsb6 : zbits (zerr P wo (s.sc b) (s.fs b)) s.no < 2 ^ 6 := Nat.lt_of_lt_of_le hsb (Nat.pow_le_pow_right (by decide) a1)
  have hSf : ∀ p q, p ∈ (List.range 7).filter (zFi s P b wo sd) → (zbits (zSe s P b wo sd) 7).testBit q = false → c p q = none := fun p q hp hq => hS p q (List.mem_filter.mp hp).2 hq
  -- the memory that the search begins with
  have key : ∀ M, zLay m M ((List.range 7).filter (zFi s P b wo sd)) (zbits (zSe s P b wo sd) 7) → (∀ d, d ≠ 74 → d ≠ 84 → M d = m d) → HK8_layPairs_191 (nI b) (nI wo) v3 hv R.1 M ∧ (K8_layPairs_191 (nI b) (nI wo) v3 hv R.1 M).1 = nI (zfv c ((List.range 7).filter (zFi s P b wo sd)) 0) ∧ zLay m (K8_layPairs_191 (nI b) (nI wo) v3 hv R.1 M).2 ((List.range 7).filter (zFi s P b wo sd)) (zbits (zSe s P b wo sd) 7) ∧ zBs c ((List.range 7).filter (zFi s P b wo sd)) (K8_layPairs_191 (nI b) (nI wo) v3 hv R.1 M).2 0 ∧ ∀ d, d ≠ 74 → d ≠ 84 → d ≠ 85 → (K8_layPairs_191 (nI b) (nI wo) v3 hv R.1 M).2 d = m d := fun M hM hfr => by
    obtain ⟨k1, k2, k3, k4⟩ := z8_dp (v2 := nI wo) (v3 := v3) (v5 := R.1) hx hS7 hl7 hSf hw hM
    exact ⟨k1, k2, hM.up (fun d h1 _ => k3 d h1), k4, fun d h1 h2 h3 => by rw [k3 d h3, hfr d h1 h2]⟩
  unfold HK8_layPairs_146 K8_layPairs_146 HK8_layPairs_171 K8_layPairs_171
  obtain ⟨k1, k2, k3, k4⟩ := l2
  by_cases w0 : sd = 0
  · have v0 := h30.mpr w0
    have nv1 : ¬ v3 = 1 := fun w => by have := h31.mp w; omega
    rw [if_pos v0, if_neg nv1, k2, z_ncl (by omega), z_upr (show 74 ≠ 84 by omega), k2, nI_1]
    rw [if_pos w0] at fi6
    rw [if_neg (show ¬ sd = 1 by omega), Nat.add_zero] at se6
    generalize hl : (List.range s.no).filter (zerr P wo (s.fs b) (s.sc b)) = l at *
    have hM : zLay m (ax_up (ax_up (ax_up R.2 84 l.length 6) 74 35 (nI (l.length + 1))) 74 36 ((ax_up (ax_up R.2 84 l.length 6) 74 35 (nI (l.length + 1))) 74 36 ||| 0)) ((List.range 7).filter (zFi s P b wo sd)) (zbits (zSe s P b wo sd) 7) := by
      refine ⟨⟨by rw [z_upr (by omega), z_upr (by omega), z_upr (by omega)]; exact k1.1, by rw [z_upr (by omega), z_upr (by omega), z_upr (by omega)]; exact k1.2.1, fun j h1 h2 => by rw [z_up, if_neg (by omega), z_up, if_neg (by omega), z_upr (by omega)]; exact k1.2.2 j h1 h2⟩, ?_, ?_, fun k hk => ?_⟩
      · rw [z_up, if_neg (by omega), z_up, if_pos ⟨rfl, rfl⟩, fi6, List.length_append]; rfl
      · rw [z_up, if_pos ⟨rfl, rfl⟩, z_up, if_neg (by omega), z_upr (by omega), k3, se6, z_lit 0, z_or, Nat.or_zero]
      · rw [fi6, List.length_append] at hk
        have hk' : k ≤ l.length := by simp at hk; omega
        rw [z_upr (by omega), z_upr (by omega), z_up, fi6, zget_app l 6 k hk']
        by_cases w : k < l.length
        · rw [if_neg (by omega), if_pos w]; exact k4 k w
        · rw [if_pos ⟨rfl, by omega⟩, if_neg w]; rfl
    obtain ⟨t1, t2, t3, t4, t5⟩ := key _ hM (fun d h1 h2 => by rw [z_upr h1, z_upr h1, z_upr h2, l3' d h1 h2])
    exact ⟨⟨l1, fun _ => z_vp (by omega) (by omega), t1⟩, t2, t3, t4, t5⟩
  · have nv0 : ¬ v3 = 0 := fun w => w0 (h30.mp w)
    rw [if_neg nv0]
    rw [if_neg w0] at fi6
    have ex : (R.2 74 36) ||| (if v3 = 1 then (64 : Int32) else 0) = nI (zbits (zSe s P b wo sd) 7) := by
      rw [k3, se6]
      by_cases w1 : sd = 1
      · rw [if_pos (h31.mpr w1), if_pos w1, z_lit 64, z_or]
        congr 1
        have h1 := Nat.two_pow_add_eq_or_of_lt hsb6 1
        rw [Nat.or_comm, Nat.add_comm]; exact h1.symm
      · rw [if_neg (fun w => w1 (h31.mp w)), if_neg w1, z_lit 0, z_or, Nat.or_zero, Nat.add_zero]
    rw [ex]
    have hM : zLay m (ax_up R.2 74 36 (nI (zbits (zSe s P b wo sd) 7))) ((List.range 7).filter (zFi s P b wo sd)) (zbits (zSe s P b wo sd) 7) := by
      refine ⟨⟨by rw [z_upr (by omega)]; exact k1.1, by rw [z_upr (by omega)]; exact k1.2.1, fun j h1 h2 => by rw [z_up, if_neg (by omega)]; exact k1.2.2 j h1 h2⟩, ?_, ?_, fun k hk => ?_⟩
      · rw [z_up, if_neg (by omega), fi6]; exact k2
      · rw [z_up, if_pos ⟨rfl, rfl⟩]
      · rw [fi6] at hk ⊢
        rw [z_upr (by omega)]; exact k4 k hk
    obtain ⟨t1, t2, t3, t4, t5⟩ := key _ hM (fun d h1 h2 => by rw [z_upr h1, l3' d h1 h2])
    exact ⟨⟨l1, fun w => absurd w nv0, t1⟩, t2, t3, t4, t5⟩
end ZU
