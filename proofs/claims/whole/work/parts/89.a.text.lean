/-! PURE: the lines one after the other -/
section ZR1
variable {m m0 : ax_M} {d : Nat → Nat} {n i : Nat} {D : zD}
theorem zbN_inr {lo hi : Nat} {k : Nat → Nat → Nat → zR} {r : zD × Nat} (hi' : i ≤ n) (h : zbN d n lo hi i k = Sum.inr r) : ∃ v a e, lo ≤ v ∧ v ≤ hi ∧ i < e ∧ e ≤ n ∧ k v a e = Sum.inr r := by
  obtain ⟨p1, p2, p3, p4, p5⟩ := zNu_p (d := d) (lo := lo) (hi := hi) hi'
  unfold zbN at h
  by_cases w : (zNu d n lo hi i).1 = 0
  · obtain ⟨q1, q2, q3, q4⟩ := p5 w
    rw [if_pos w] at h
    exact ⟨_, _, _, q2, q3, q4, p3, h⟩
  · rw [if_neg w] at h; cases h
theorem zbS_inr {k : Nat → zR} {r : zD × Nat} (hi' : i ≤ n) (h : zbS d n i k = Sum.inr r) : ∃ e, i < e ∧ e ≤ n ∧ k e = Sum.inr r := by
  obtain ⟨p1, p2, p3, p4, p5, p6, p7, p8⟩ := zTk_p (d := d) hi'
  unfold zbS at h
  by_cases w : (zSc d n i).1 = 0
  · rw [if_pos w] at h
    refine ⟨(zTk d n i).2.1, p6 ?_, p3, h⟩
    unfold zSc at w
    dsimp only at w
    by_cases w5 : (zTk d n i).2.2 = 5
    · rw [if_pos w5] at w; omega
    · rw [if_neg w5] at w
      by_cases w3 : (zTk d n i).2.2 = 3
      · omega
      · rw [if_neg w3] at w; omega
  · rw [if_neg w] at h; cases h
theorem zbK_inr {k : Nat → Nat → zR} {r : zD × Nat} (hi' : i ≤ n) (h : zbK d n i k = Sum.inr r) : ∃ v e, v ≤ 4 ∧ i ≤ e ∧ e ≤ n ∧ k v e = Sum.inr r := by
  obtain ⟨p1, p2, p3, p4, p5, p6, p7, p8⟩ := zTk_p (d := d) hi'
  unfold zbK at h
  by_cases w5 : (zTk d n i).2.2 = 5
  · rw [if_pos w5] at h; cases h
  · rw [if_neg w5] at h
    split at h
    · rename_i w
      exact ⟨_, _, by omega, by omega, p3, h⟩
    · cases h
theorem zfin_inr {r : zD × Nat} (hi' : i ≤ n) (h : zfin d n D i = Sum.inr r) : r.1 = D ∧ i < r.2 ∧ r.2 ≤ n := by
  obtain ⟨e, h1, h2, h3⟩ := zbS_inr hi' h
  have h4 : (D, e) = r := Sum.inr.inj h3
  subst h4
  exact ⟨rfl, h1, h2⟩
theorem zDW.wbanks {v : Nat} (h : zDW D) (h1 : 2 ≤ v) (h2 : v ≤ 4) : zDW (D.banks v) := ⟨⟨h1, h2, h.1.2.2⟩, h.2⟩
theorem zDW.wstone {v : Nat} (h : zDW D) (h1 : 1 ≤ v) (h2 : v ≤ 9) : zDW (D.stone v) := ⟨⟨h.1.1, h.1.2.1, h.1.2.2.1, h.1.2.2.2.1, h1, h2, h.1.2.2.2.2.2.2⟩, h.2⟩
theorem zDW.wheap {k v : Nat} (h : zDW D) (h2 : v ≤ 20) : zDW (D.heap k v) := by
  obtain ⟨⟨a1, a2, a3, a4, a5, a6, a7, a8⟩, b, c, e, f⟩ := h
  refine ⟨⟨a1, a2, a3, a4, a5, a6, a7, ?_⟩, ?_, ?_, ?_, f⟩
  · show (if 0 = 1 ∧ 0 = k then v else D.P 0 0) = 0
    rw [if_neg (by omega)]; exact a8
  · intro x hx
    show (if 1 = 1 ∧ x = k then v else D.P 1 x) ≤ 20
    have := b x hx
    split
    · exact h2
    · exact this
  · intro x hx
    have := c x hx
    refine ⟨this.1, this.2.1, this.2.2.1, ?_⟩
    show (if 2 = 1 ∧ x = k then v else D.P 2 x) ≤ 20
    rw [if_neg (by omega)]; exact this.2.2.2
  · intro x hx
    have q := e x hx
    have s : ∀ f, f ≠ 1 → (D.heap k v).P f x = D.P f x := fun f hf => if_neg (fun z => hf z.1)
    refine ⟨?_, ?_, ?_, ?_, ?_⟩
    · show (D.heap k v).P 3 x ≤ 4; rw [s 3 (by omega)]; exact q.1
    · show 1 ≤ (D.heap k v).P 4 x; rw [s 4 (by omega)]; exact q.2.1
    · show (D.heap k v).P 4 x ≤ 99; rw [s 4 (by omega)]; exact q.2.2.1
    · show (D.heap k v).P 5 x < 4; rw [s 5 (by omega)]; exact q.2.2.2.1
    · show (D.heap k v).P 6 x < 4; rw [s 6 (by omega)]; exact q.2.2.2.2
theorem zDW.wbridge {f c v : Nat} (h : zDW D) (hn : D.s.ng < 4) (hf : f < 4) (hc : c < 4) (hne : c ≠ f) (h2 : v ≤ 20) : zDW (D.bridge f c v) := by
  obtain ⟨⟨a1, a2, a3, a4, a5, a6, a7, a8⟩, b, cc, e, g⟩ := h
  have s : ∀ q x, q ≠ 2 → (D.bridge f c v).P q x = D.P q x := fun q x hq => if_neg (fun z => hq z.1)
  refine ⟨⟨a1, a2, by show D.s.ng + 1 ≤ 4; omega, a4, a5, a6, a7, ?_⟩, ?_, ?_, ?_, g⟩
  · show (D.bridge f c v).P 0 0 = 0; rw [s 0 0 (by omega)]; exact a8
  · intro x hx
    show (D.bridge f c v).P 1 x ≤ 20; rw [s 1 x (by omega)]; exact b x hx
  · intro x hx
    have hx' : x < D.s.ng + 1 := hx
    show (if x = D.s.ng then f else D.s.fs x) < 4 ∧ (if x = D.s.ng then c else D.s.sc x) < 4 ∧ (if x = D.s.ng then f else D.s.fs x) ≠ (if x = D.s.ng then c else D.s.sc x) ∧ (if 2 = 2 ∧ x = D.s.ng then v else D.P 2 x) ≤ 20
    by_cases w : x = D.s.ng
    · rw [if_pos w, if_pos w, if_pos ⟨rfl, w⟩]; exact ⟨hf, hc, fun z => hne z.symm, h2⟩
    · rw [if_neg w, if_neg w, if_neg (fun z => w z.2)]; exact cc x (by omega)
  · intro x hx
    have q := e x hx
    refine ⟨?_, ?_, ?_, ?_, ?_⟩
    · show (D.bridge f c v).P 3 x ≤ 4; rw [s 3 x (by omega)]; exact q.1
    · show 1 ≤ (D.bridge f c v).P 4 x; rw [s 4 x (by omega)]; exact q.2.1
    · show (D.bridge f c v).P 4 x ≤ 99; rw [s 4 x (by omega)]; exact q.2.2.1
    · show (D.bridge f c v).P 5 x < 4; rw [s 5 x (by omega)]; exact q.2.2.2.1
    · show (D.bridge f c v).P 6 x < 4; rw [s 6 x (by omega)]; exact q.2.2.2.2
theorem zDW.wone {k w b g : Nat} (h : zDW D) (hn : D.s.no < 6) (hk : k ≤ 4) (hw : 1 ≤ w) (hw2 : w ≤ 99) (hb : b < 4) (hg : g < 4) : zDW (D.one k w b g) := by
  obtain ⟨⟨a1, a2, a3, a4, a5, a6, a7, a8⟩, bb, cc, e, gg⟩ := h
  have sP : ∀ f x, (D.one k w b g).P f x = if f = 6 ∧ x = D.s.no then g else if f = 5 ∧ x = D.s.no then b else if f = 4 ∧ x = D.s.no then w else if f = 3 ∧ x = D.s.no then k else D.P f x := fun _ _ => rfl
  have s : ∀ f x, f < 3 → (D.one k w b g).P f x = D.P f x := fun f x hf => by rw [sP, if_neg (by omega), if_neg (by omega), if_neg (by omega), if_neg (by omega)]
  have s' : ∀ f x, x ≠ D.s.no → (D.one k w b g).P f x = D.P f x := fun f x hf => by rw [sP, if_neg (by omega), if_neg (by omega), if_neg (by omega), if_neg (by omega)]
  refine ⟨⟨a1, a2, a3, by show D.s.no + 1 ≤ 6; omega, a5, a6, a7, ?_⟩, ?_, ?_, ?_, gg⟩
  · show (D.one k w b g).P 0 0 = 0; rw [s 0 0 (by omega)]; exact a8
  · intro x hx
    show (D.one k w b g).P 1 x ≤ 20; rw [s 1 x (by omega)]; exact bb x hx
  · intro x hx
    have q := cc x hx
    refine ⟨q.1, q.2.1, q.2.2.1, ?_⟩
    show (D.one k w b g).P 2 x ≤ 20; rw [s 2 x (by omega)]; exact q.2.2.2
  · intro x hx
    have hx' : x < D.s.no + 1 := hx
    show (D.one k w b g).P 3 x ≤ 4 ∧ 1 ≤ (D.one k w b g).P 4 x ∧ (D.one k w b g).P 4 x ≤ 99 ∧ (D.one k w b g).P 5 x < 4 ∧ (D.one k w b g).P 6 x < 4
    by_cases y : x = D.s.no
    · have e3 : (D.one k w b g).P 3 x = k := by rw [sP, if_neg (by omega), if_neg (by omega), if_neg (by omega), if_pos ⟨rfl, y⟩]
      have e4 : (D.one k w b g).P 4 x = w := by rw [sP, if_neg (by omega), if_neg (by omega), if_pos ⟨rfl, y⟩]
      have e5 : (D.one k w b g).P 5 x = b := by rw [sP, if_neg (by omega), if_pos ⟨rfl, y⟩]
      have e6 : (D.one k w b g).P 6 x = g := by rw [sP, if_pos ⟨rfl, y⟩]
      rw [e3, e4, e5, e6]; exact ⟨hk, hw, hw2, hb, hg⟩
    · rw [s' 3 x y, s' 4 x y, s' 5 x y, s' 6 x y]; exact e x (by omega)
theorem zDW.wmeet {b p q : Nat} (h : zDW D) (hn : D.dn < 8) (hb : b < 4) (hp : p < 6) (hq : q < 6) (hne : q ≠ p) : zDW (D.meet b p q) := by
  obtain ⟨⟨a1, a2, a3, a4, a5, a6, a7, a8⟩, bb, cc, e, gg⟩ := h
  refine ⟨⟨a1, a2, a3, a4, a5, a6, by show D.dn + 1 ≤ 8; omega, a8⟩, bb, cc, e, fun x hx => ?_⟩
  have hx' : x < D.dn + 1 := hx
  show zdy D.dy D.dn b p q (3 * x) < 4 ∧ zdy D.dy D.dn b p q (3 * x + 1) < 6 ∧ zdy D.dy D.dn b p q (3 * x + 2) < 6 ∧ zdy D.dy D.dn b p q (3 * x + 1) ≠ zdy D.dy D.dn b p q (3 * x + 2)
  unfold zdy
  by_cases w : x = D.dn
  · subst w
    simp
    exact ⟨hb, hp, hq, fun z => hne z.symm⟩
  · rw [if_neg (by omega), if_neg (by omega), if_neg (by omega), if_neg (by omega), if_neg (by omega), if_neg (by omega), if_neg (by omega), if_neg (by omega), if_neg (by omega)]
    exact gg x (by omega)
/-- a good line goes on, and leaves a good draft -/
theorem zLn_inr {K a e : Nat} {r : zD × Nat} (hW : zDW D) (he : e ≤ n) (h : zLn d n D K a e (zfin d n) = Sum.inr r) : e < r.2 ∧ r.2 ≤ n ∧ zDW r.1 := by
  unfold zLn at h
  split at h
  · unfold zlB at h
    split at h
    · cases h
    · obtain ⟨v, _, e1, a1, a2, a3, a4, a5⟩ := zbN_inr he h
      obtain ⟨f1, f2, f3⟩ := zfin_inr a4 a5
      exact ⟨by omega, f3, by rw [f1]; exact hW.wbanks a1 a2⟩
  split at h
  · unfold zlS at h
    split at h
    · cases h
    · obtain ⟨v, _, e1, a1, a2, a3, a4, a5⟩ := zbN_inr he h
      obtain ⟨f1, f2, f3⟩ := zfin_inr a4 a5
      exact ⟨by omega, f3, by rw [f1]; exact hW.wstone a1 a2⟩
  split at h
  · unfold zlH at h
    obtain ⟨v, _, e1, a1, a2, a3, a4, a5⟩ := zbN_inr he h
    split at a5
    · cases a5
    · obtain ⟨v2, _, e2, b1, b2, b3, b4, b5⟩ := zbN_inr a4 a5
      obtain ⟨f1, f2, f3⟩ := zfin_inr b4 b5
      exact ⟨by omega, f3, by rw [f1]; exact hW.wheap b2⟩
  split at h
  · unfold zlG at h
    split at h
    · cases h
    · rename_i g4
      obtain ⟨v, _, e1, a1, a2, a3, a4, a5⟩ := zbN_inr he h
      obtain ⟨v2, _, e2, b1, b2, b3, b4, b5⟩ := zbN_inr a4 a5
      split at b5
      · cases b5
      · rename_i ne
        obtain ⟨v3, _, e3, c1, c2, c3, c4, c5⟩ := zbN_inr b4 b5
        obtain ⟨f1, f2, f3⟩ := zfin_inr c4 c5
        exact ⟨by omega, f3, by rw [f1]; exact hW.wbridge (by omega) (by omega) (by omega) ne c2⟩
  split at h
  · unfold zlO at h
    split at h
    · cases h
    · rename_i g4
      obtain ⟨v, e1, a1, a3, a4, a5⟩ := zbK_inr he h
      obtain ⟨v2, _, e2, b1, b2, b3, b4, b5⟩ := zbN_inr a4 a5
      obtain ⟨v3, _, e3, c1, c2, c3, c4, c5⟩ := zbN_inr b4 b5
      obtain ⟨v4, _, e4, d1, d2, d3, d4, d5⟩ := zbN_inr c4 c5
      obtain ⟨f1, f2, f3⟩ := zfin_inr d4 d5
      exact ⟨by omega, f3, by rw [f1]; exact hW.wone (by omega) a1 b1 b2 (by omega) (by omega)⟩
  split at h
  · unfold zlM at h
    split at h
    · cases h
    · rename_i g4
      obtain ⟨v, _, e1, a1, a2, a3, a4, a5⟩ := zbN_inr he h
      obtain ⟨v2, _, e2, b1, b2, b3, b4, b5⟩ := zbN_inr a4 a5
      obtain ⟨v3, _, e3, c1, c2, c3, c4, c5⟩ := zbN_inr b4 b5
      split at c5
      · cases c5
      · rename_i ne
        obtain ⟨f1, f2, f3⟩ := zfin_inr c4 c5
        exact ⟨by omega, f3, by rw [f1]; exact hW.wmeet (by omega) (by omega) (by omega) (by omega) ne⟩
  cases h
/-- all lines -/
def zTx (d : Nat → Nat) (n : Nat) : Nat → zD → Nat → Nat → zR
  | 0, D, _, c => Sum.inr (D, c)
  | k + 1, D, i, c => if (zTk d n i).2.2 = 5 then Sum.inl (1, (zTk d n i).1) else if (zTk d n i).2.2 = 4 then Sum.inr (D, c) else match zLn d n D (zTk d n i).2.2 (zTk d n i).1 (zTk d n i).2.1 (zfin d n) with
    | Sum.inl x => Sum.inl x
    | Sum.inr y => zTx d n k y.1 y.2 (c + 1)
theorem zTx_w : ∀ k D i c, i ≤ n → zDW D → ∀ r : zD × Nat, zTx d n k D i c = Sum.inr r → zDW r.1
  | 0, D, i, c, _, hW, r, h => by
    have h4 : (D, c) = r := Sum.inr.inj h
    subst h4; exact hW
  | k + 1, D, i, c, hi, hW, r, h => by
    obtain ⟨p1, p2, p3, p4, p5, p6, p7, p8⟩ := zTk_p (d := d) hi
    unfold zTx at h
    split at h
    · cases h
    split at h
    · have h4 : (D, c) = r := Sum.inr.inj h
      subst h4; exact hW
    cases e : zLn d n D (zTk d n i).2.2 (zTk d n i).1 (zTk d n i).2.1 (zfin d n) with
    | inl x => rw [e] at h; cases h
    | inr y =>
      rw [e] at h
      obtain ⟨q1, q2, q3⟩ := zLn_inr hW p3 e
      exact zTx_w k y.1 y.2 (c + 1) q2 q3 r h
def z4Rt (m0 : ax_M) (d : Nat → Nat) (n : Nat) (L : Int32 × Int32 × ax_M) : zR → Prop
  | Sum.inl x => L.2.2 41 6 = nI x.1 ∧ L.2.2 41 7 = nI x.2 ∧ 0 < x.1 ∧ x.1 < 10 ∧ z4X m0 L.2.2
  | Sum.inr y => z4Q m0 d n y.1 L.2.2 ∧ L.2.2 41 6 = 0 ∧ L.1 = nI y.2
theorem z4_text (hn : n ≤ 320) (hd : ∀ i, i < n → d i < 256) : ∀ k c i D m, n - i < k → i ≤ n → c ≤ i → zDW D → z4Q m0 d n D m → m 41 6 = 0 → m 41 3 = nI i → E4_takeText_44 k (nI c) (nI c) m ∧ z4Rt m0 d n (L4_takeText_44 k (nI c) (nI c) m) (zTx d n k D i c)
  | 0, _, _, _, _, h, _, _, _, _, _, _ => absurd h (by omega)
  | k + 1, c, i, D, m, hk, hi, hc, hW, hQ, h6, h3 => by
    obtain ⟨p1, p2, p3, p4, p5, p6, p7, p8⟩ := zTk_p (d := d) hi
    obtain ⟨t1, t2, t3, t4, t5⟩ := z4_tok hn hd hQ.2.1 h6 h3 hi
    have c0 : ¬ (320 : Int32) < nI c := fun z => absurd ((z_nlt (a := 320) (by omega) (by omega)).mp z) (by omega)
    have hQ1 := hQ.f t2
    unfold E4_takeText_44 L4_takeText_44 zTx
    rw [if_neg c0]
    by_cases w5 : (zTk d n i).2.2 = 5
    · obtain ⟨u1, u2⟩ := t4 w5
      have n6 : ¬ (F4_takeToken m) 41 6 = 0 := by rw [u1]; decide
      rw [if_neg n6, if_pos w5]
      exact ⟨fun _ => ⟨t1, fun z => absurd z n6⟩, u1, u2, by show 0 < 1; omega, by show 1 < 10; omega, hQ1.2.2⟩
    · obtain ⟨u1, u2, u3⟩ := t5 w5
      rw [if_pos u1, if_neg w5, u3]
      by_cases w4 : (zTk d n i).2.2 = 4
      · have q4 : nI (zTk d n i).2.2 = 4 := by rw [w4]; rfl
        rw [if_pos q4, if_pos w4]
        exact ⟨fun _ => ⟨t1, fun _ z => absurd q4 z⟩, hQ1, u1, rfl⟩
      · have q4 : ¬ nI (zTk d n i).2.2 = 4 := fun z => w4 ((z_neq (b := 4) (by omega) (by omega)).mp z)
        rw [if_neg q4, if_neg w4]
        obtain ⟨l1, l2⟩ := z4_line (K := (zTk d n i).2.2) (a := (zTk d n i).1) (e := (zTk d n i).2.1) hW hn hd hQ1 u1 u3 (by omega) u2 t3 p2 p3
        cases e : zLn d n D (zTk d n i).2.2 (zTk d n i).1 (zTk d n i).2.1 (zfin d n) with
        | inl x =>
          rw [e] at l2
          obtain ⟨b1, b2, b3, b4, b5⟩ := l2
          have n6 : ¬ (F4_takeLine (F4_takeToken m)) 41 6 = 0 := by rw [b1]; exact nI_ne0 b3 (by omega)
          rw [if_neg n6]
          exact ⟨fun _ => ⟨t1, fun _ _ => ⟨l1, fun z => absurd z n6⟩⟩, b1, b2, b3, b4, b5⟩
        | inr y =>
          rw [e] at l2
          obtain ⟨b1, b2, b3, b4⟩ := l2
          obtain ⟨q1, q2, q3⟩ := zLn_inr hW p3 e
          rw [if_pos b2, nI_1]
          obtain ⟨r1, r2⟩ := z4_text hn hd k (c + 1) y.2 y.1 _ (by omega) q2 (by omega) q3 b1 b2 b3
          exact ⟨fun _ => ⟨t1, fun _ _ => ⟨l1, fun _ => r1⟩⟩, r2⟩
def z8Rt (m0 : ax_M) (d : Nat → Nat) (n : Nat) (L : Int32 × ax_M) : zR → Prop
  | Sum.inl x => L.2 74 24 = nI x.1 ∧ L.2 74 25 = nI x.2 ∧ 0 < x.1 ∧ x.1 < 10 ∧ z8X m0 L.2
  | Sum.inr y => z8Q m0 d n y.1 L.2 ∧ L.2 74 24 = 0 ∧ L.2 74 27 = nI n ∧ L.1 = nI y.2
theorem z8_text (hn : n ≤ 320) (hd : ∀ i, i < n → d i < 256) : ∀ k c i D m, n - i + 1 < k → i ≤ n → zDW D → z8Q m0 d n D m → z8S m d n i → E8_text_10 k (nI c) m ∧ z8Rt m0 d n (L8_text_10 k (nI c) m) (zTx d n k D i c)
  | 0, _, _, _, _, h, _, _, _, _ => absurd h (by omega)
  | k + 1, c, i, D, m, hk, hi, hW, hQ, hS => by
    obtain ⟨p1, p2, p3, p4, p5, p6, p7, p8⟩ := zTk_p (d := d) hi
    unfold E8_text_10 L8_text_10 zTx
    by_cases w5 : (zTk d n i).2.2 = 5
    · obtain ⟨u1, u2⟩ := hS.2.1 w5
      have n6 : ¬ m 74 24 = 0 := by rw [u1]; decide
      rw [if_neg n6, if_pos w5]
      exact ⟨fun z => absurd z n6, u1, u2, by show 0 < 1; omega, by show 1 < 10; omega, hQ.2.2.2.2⟩
    · obtain ⟨u1, u2, u3, u4⟩ := hS.2.2 w5
      rw [if_pos u1, if_neg w5, u3]
      by_cases w4 : (zTk d n i).2.2 = 4
      · rw [if_pos w4, if_pos (show (0 : Int32) = 0 from rfl), if_pos w4]
        exact ⟨fun _ z => absurd rfl z, hQ, u1, by rw [← p7 w4]; exact hS.1, rfl⟩
      · have q4 : ¬ nI (zTk d n i).2.2 = 0 := nI_ne0 (by omega) (by omega)
        rw [if_neg w4, if_neg q4, if_neg w4]
        obtain ⟨l1, l2⟩ := z8_line hW hn hd hi hQ hS w5
        cases e : zLn d n D (zTk d n i).2.2 (zTk d n i).1 (zTk d n i).2.1 (zfin d n) with
        | inl x =>
          rw [e] at l2
          obtain ⟨b1, b2, b3, b4, b5⟩ := l2
          have n6 : ¬ (F8_readLine m) 74 24 = 0 := by rw [b1]; exact nI_ne0 b3 (by omega)
          obtain ⟨k', rfl⟩ : ∃ k', k = k' + 1 := ⟨k - 1, by omega⟩
          unfold E8_text_10 L8_text_10
          rw [if_neg n6]
          exact ⟨fun _ _ => ⟨l1, fun z => absurd z n6⟩, b1, b2, b3, b4, b5⟩
        | inr y =>
          rw [e] at l2
          obtain ⟨b1, b2, b3, b4, b5, b6, b7⟩ := l2
          obtain ⟨q1, q2, q3⟩ := zLn_inr hW p3 e
          rw [nI_1]
          obtain ⟨r1, r2⟩ := z8_text hn hd k (c + 1) y.2 y.1 _ (by omega) q2 q3 ⟨b1, b2, b3, b4, b5⟩ b6
          exact ⟨fun _ _ => ⟨l1, r1⟩, r2⟩
end ZR1
