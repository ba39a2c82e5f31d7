/-! PURE: the lines of a text, and how the class takes them -/
def zD : Type := zS × zP × (Bool × Bool) × (Nat × (Nat → Nat))
def zD.s (D : zD) : zS := D.1
def zD.P (D : zD) : zP := D.2.1
def zD.tb (D : zD) : Bool := D.2.2.1.1
def zD.ts (D : zD) : Bool := D.2.2.1.2
def zD.dn (D : zD) : Nat := D.2.2.2.1
def zD.dy (D : zD) : Nat → Nat := D.2.2.2.2
abbrev zR : Type := Sum (Nat × Nat) (zD × Nat)
def zS.setNb (s : zS) (v : Nat) : zS := ((v, s.ng, s.no, s.sw), s.fs, s.sc)
def zS.setSw (s : zS) (v : Nat) : zS := ((s.nb, s.ng, s.no, v), s.fs, s.sc)
def zS.addB (s : zS) (f c : Nat) : zS := ((s.nb, s.ng + 1, s.no, s.sw), (fun b => if b = s.ng then f else s.fs b), (fun b => if b = s.ng then c else s.sc b))
def zS.addO (s : zS) : zS := ((s.nb, s.ng, s.no + 1, s.sw), s.fs, s.sc)
def zD.banks (D : zD) (v : Nat) : zD := (D.s.setNb v, D.P, (true, D.ts), (D.dn, D.dy))
def zD.stone (D : zD) (v : Nat) : zD := (D.s.setSw v, D.P, (D.tb, true), (D.dn, D.dy))
def zD.heap (D : zD) (k v : Nat) : zD := (D.s, D.P.set 1 k v, (D.tb, D.ts), (D.dn, D.dy))
def zD.bridge (D : zD) (f c v : Nat) : zD := (D.s.addB f c, D.P.set 2 D.s.ng v, (D.tb, D.ts), (D.dn, D.dy))
def zD.one (D : zD) (k w b g : Nat) : zD := (D.s.addO, (((D.P.set 3 D.s.no k).set 4 D.s.no w).set 5 D.s.no b).set 6 D.s.no g, (D.tb, D.ts), (D.dn, D.dy))
def zD.meet (D : zD) (b p q : Nat) : zD := (D.s, D.P, (D.tb, D.ts), (D.dn + 1, zdy D.dy D.dn b p q))
/-- a number, then the rest; a semicolon, then the rest -/
def zbN (d : Nat → Nat) (n lo hi i : Nat) (k : Nat → Nat → Nat → zR) : zR := if (zNu d n lo hi i).1 = 0 then k (zNu d n lo hi i).2.2.1 (zNu d n lo hi i).2.1 (zNu d n lo hi i).2.2.2 else Sum.inl ((zNu d n lo hi i).1, (zNu d n lo hi i).2.1)
def zbS (d : Nat → Nat) (n i : Nat) (k : Nat → zR) : zR := if (zSc d n i).1 = 0 then k (zSc d n i).2.2 else Sum.inl ((zSc d n i).1, (zSc d n i).2.1)
/-- a kind, then the rest -/
def zbK (d : Nat → Nat) (n i : Nat) (k : Nat → Nat → zR) : zR := if (zTk d n i).2.2 = 5 then Sum.inl (1, (zTk d n i).1) else if 6 ≤ znm d (zTk d n i).2.2 (zTk d n i).1 (zTk d n i).2.1 ∧ znm d (zTk d n i).2.2 (zTk d n i).1 (zTk d n i).2.1 < 11 then k (znm d (zTk d n i).2.2 (zTk d n i).1 (zTk d n i).2.1 - 6) (zTk d n i).2.1 else Sum.inl (2, (zTk d n i).1)
def zlB (d : Nat → Nat) (n : Nat) (D : zD) (p0 i : Nat) (k : zD → Nat → zR) : zR := if D.tb = true then Sum.inl (4, p0) else zbN d n 2 4 i (fun v _ e => k (D.banks v) e)
def zlS (d : Nat → Nat) (n : Nat) (D : zD) (p0 i : Nat) (k : zD → Nat → zR) : zR := if D.ts = true then Sum.inl (4, p0) else zbN d n 1 9 i (fun v _ e => k (D.stone v) e)
def zlH (d : Nat → Nat) (n : Nat) (D : zD) (_ i : Nat) (k : zD → Nat → zR) : zR := zbN d n 0 3 i (fun b a e => if 0 < D.P.hp b then Sum.inl (4, a) else zbN d n 1 20 e (fun v _ e2 => k (D.heap b v) e2))
def zlG (d : Nat → Nat) (n : Nat) (D : zD) (p0 i : Nat) (k : zD → Nat → zR) : zR := if 4 ≤ D.s.ng then Sum.inl (5, p0) else zbN d n 0 3 i (fun f _ e => zbN d n 0 3 e (fun c a e2 => if c = f then Sum.inl (4, a) else zbN d n 0 20 e2 (fun v _ e3 => k (D.bridge f c v) e3)))
def zlO (d : Nat → Nat) (n : Nat) (D : zD) (p0 i : Nat) (k : zD → Nat → zR) : zR := if 6 ≤ D.s.no then Sum.inl (5, p0) else zbK d n i (fun x e => zbN d n 1 99 e (fun w _ e2 => zbN d n 0 3 e2 (fun b _ e3 => zbN d n 0 3 e3 (fun g _ e4 => k (D.one x w b g) e4))))
def zlM (d : Nat → Nat) (n : Nat) (D : zD) (p0 i : Nat) (k : zD → Nat → zR) : zR := if 8 ≤ D.dn then Sum.inl (5, p0) else zbN d n 0 3 i (fun b _ e => zbN d n 0 5 e (fun p _ e2 => zbN d n 0 5 e2 (fun q a e3 => if q = p then Sum.inl (4, a) else k (D.meet b p q) e3)))
/-- a draft's own bounds -/
def zDW (D : zD) : Prop := (2 ≤ D.s.nb ∧ D.s.nb ≤ 4 ∧ D.s.ng ≤ 4 ∧ D.s.no ≤ 6 ∧ 1 ≤ D.s.sw ∧ D.s.sw ≤ 9 ∧ D.dn ≤ 8 ∧ D.P.cr = 0) ∧ (∀ k, k < 4 → D.P.hp k ≤ 20) ∧ (∀ b, b < D.s.ng → D.s.fs b < 4 ∧ D.s.sc b < 4 ∧ D.s.fs b ≠ D.s.sc b ∧ D.P.pl b ≤ 20) ∧ (∀ p, p < D.s.no → D.P.kd p ≤ 4 ∧ 1 ≤ D.P.wt p ∧ D.P.wt p ≤ 99 ∧ D.P.bk p < 4 ∧ D.P.gl p < 4) ∧ (∀ i, i < D.dn → D.dy (3 * i) < 4 ∧ D.dy (3 * i + 1) < 6 ∧ D.dy (3 * i + 2) < 6 ∧ D.dy (3 * i + 1) ≠ D.dy (3 * i + 2))
section ZL2
variable {m m0 : ax_M} {d : Nat → Nat} {n i : Nat} {D : zD}
/-- the class's draft -/
def z4D (m : ax_M) (D : zD) : Prop := zG m 44 D.s D.P ∧ m 41 8 = zb D.tb ∧ m 41 9 = zb D.ts ∧ m 53 1 = nI D.dn ∧ ∀ i, i < 3 * D.dn → m 54 i = nI (D.dy i)
def z4X (m m' : ax_M) : Prop := ∀ c, c ≠ 41 → ¬ (44 ≤ c ∧ c ≤ 54) → m' c = m c
/-- the class in the midst of a line: its draft, the tape, what has not changed -/
def z4Q (m0 : ax_M) (d : Nat → Nat) (n : Nat) (D : zD) (m : ax_M) : Prop := z4D m D ∧ z4T m n d ∧ z4X m0 m
/-- how a line ends -/
def z4O (m0 : ax_M) (d : Nat → Nat) (n : Nat) (m : ax_M) : zR → Prop
  | Sum.inl x => m 41 6 = nI x.1 ∧ m 41 7 = nI x.2 ∧ 0 < x.1 ∧ x.1 < 10 ∧ z4X m0 m
  | Sum.inr x => z4Q m0 d n x.1 m ∧ m 41 6 = 0 ∧ m 41 3 = nI x.2 ∧ x.2 ≤ n
theorem z4Q.f {m' : ax_M} (h : z4Q m0 d n D m) (hF : z4F m m') : z4Q m0 d n D m' := by
  obtain ⟨⟨g1, g2, g3, g4, g5⟩, hT, hX⟩ := h
  refine ⟨⟨g1.same (fun c _ _ => hF.1 c (by omega)), by rw [hF.2.1]; exact g2, by rw [hF.2.2]; exact g3, by rw [hF.1 53 (by omega)]; exact g4, by rw [hF.1 54 (by omega)]; exact g5⟩, hF.t hT, fun c h1 h2 => by rw [hF.1 c h1]; exact hX c h1 h2⟩
/-- a number of the class, and what it does with it -/
theorem z4_bN {lo hi : Nat} {κ : Int32 → ax_M → ax_M} {δ : Int32 → ax_M → Prop} {k : Nat → Nat → Nat → zR} (hn : n ≤ 320) (hd : ∀ i, i < n → d i < 256) (hl : lo < 1000) (hh : hi < 1000) (hi' : i ≤ n) (hQ : z4Q m0 d n D m) (h6 : m 41 6 = 0) (h3 : m 41 3 = nI i) (hs : ∀ x M, M 41 6 ≠ 0 → δ x M ∧ κ x M = M) (hk : ∀ v a e M, lo ≤ v → v ≤ hi → a ≤ n → e ≤ n → z4Q m0 d n D M → M 41 6 = 0 → M 41 3 = nI e → M 41 5 = nI a → δ (nI v) M ∧ z4O m0 d n (κ (nI v) M) (k v a e)) : D4_takeNumber (nI lo) (nI hi) m ∧ δ (F4_takeNumber (nI lo) (nI hi) m).1 (F4_takeNumber (nI lo) (nI hi) m).2 ∧ z4O m0 d n (κ (F4_takeNumber (nI lo) (nI hi) m).1 (F4_takeNumber (nI lo) (nI hi) m).2) (zbN d n lo hi i k) := by
  obtain ⟨a1, a2, a3, a4⟩ := z4_num hn hd hQ.2.1 h6 h3 hi' hl hh
  obtain ⟨p1, p2, p3, p4, p5⟩ := zNu_p (d := d) (lo := lo) (hi := hi) hi'
  have hQ' := hQ.f a2
  refine ⟨a1, ?_⟩
  unfold zbN
  by_cases w : (zNu d n lo hi i).1 = 0
  · obtain ⟨b1, b2, b3, b4⟩ := a3 w
    obtain ⟨q1, q2, q3, q4⟩ := p5 w
    rw [if_pos w, b1]
    exact hk _ _ _ _ q2 q3 p2 p3 hQ' b2 b3 b4
  · obtain ⟨b1, b2⟩ := a4 w
    have h0 : (F4_takeNumber (nI lo) (nI hi) m).2 41 6 ≠ 0 := by rw [b1]; exact nI_ne0 (by omega) (by omega)
    obtain ⟨c1, c2⟩ := hs (F4_takeNumber (nI lo) (nI hi) m).1 _ h0
    rw [if_neg w, c2]
    exact ⟨c1, b1, b2, by show 0 < (zNu d n lo hi i).1; omega, by show (zNu d n lo hi i).1 < 10; omega, hQ'.2.2⟩
theorem z4_bS {κ : ax_M → ax_M} {k : Nat → zR} (hn : n ≤ 320) (hd : ∀ i, i < n → d i < 256) (hi' : i ≤ n) (hQ : z4Q m0 d n D m) (h6 : m 41 6 = 0) (h3 : m 41 3 = nI i) (hs : ∀ M, M 41 6 ≠ 0 → κ M = M) (hk : ∀ e M, e ≤ n → z4Q m0 d n D M → M 41 6 = 0 → M 41 3 = nI e → z4O m0 d n (κ M) (k e)) : D4_takeSemicolon m ∧ z4O m0 d n (κ (F4_takeSemicolon m)) (zbS d n i k) := by
  obtain ⟨a1, a2, a3, a4⟩ := z4_semi hn hd hQ.2.1 h6 h3 hi'
  obtain ⟨p1, p2, p3, p4, p5, p6, p7, p8⟩ := zTk_p (d := d) hi'
  have hQ' := hQ.f a2
  refine ⟨a1, ?_⟩
  unfold zbS
  by_cases w : (zSc d n i).1 = 0
  · obtain ⟨b1, b2⟩ := a3 w
    rw [if_pos w]
    exact hk _ _ p3 hQ' b1 b2
  · obtain ⟨b1, b2⟩ := a4 w
    have hle : (zSc d n i).1 ≤ 2 := by unfold zSc; dsimp only; split <;> (try split) <;> omega
    have h0 : (F4_takeSemicolon m) 41 6 ≠ 0 := by rw [b1]; exact nI_ne0 (by omega) (by omega)
    rw [if_neg w, hs _ h0]
    exact ⟨b1, b2, by show 0 < (zSc d n i).1; omega, by show (zSc d n i).1 < 10; omega, hQ'.2.2⟩
/-- the first fault of the class at a place -/
theorem z4_bF {f a : Nat} (hQ : z4Q m0 d n D m) (h6 : m 41 6 = 0) (h0 : 0 < f) (h1 : f < 10) : (F4_fail (nI f) (nI a) m) 41 6 ≠ 0 ∧ z4O m0 d n (F4_fail (nI f) (nI a) m) (Sum.inl (f, a)) := by
  rw [z4_fail0 h6]
  have e6 : (ax_up (ax_up m 41 6 (nI f)) 41 7 (nI a)) 41 6 = nI f := by rw [z_up, if_neg (by omega), z_up, if_pos ⟨rfl, rfl⟩]
  refine ⟨by rw [e6]; exact nI_ne0 h0 (by omega), e6, by rw [z_up, if_pos ⟨rfl, rfl⟩], h0, h1, fun c c1 c2 => by rw [z_upr c1, z_upr c1]; exact hQ.2.2 c c1 c2⟩
/-- the line ends with a semicolon -/
def zfin (d : Nat → Nat) (n : Nat) (D : zD) (e : Nat) : zR := zbS d n e (fun e' => Sum.inr (D, e'))
theorem z4D.bank {v : Nat} (h : z4D m D) : z4D (ax_up (ax_up m 44 0 (nI v)) 41 8 1) (D.banks v) := by
  obtain ⟨⟨h0, h1, h2, h3, h4, h5, h6, h7, h8, h9, h10, h11, h12⟩, g2, g3, g4, g5⟩ := h
  refine ⟨⟨?_, ?_, ?_, ?_, ?_, ?_, ?_, ?_, ?_, ?_, ?_, ?_, ?_⟩, ?_, ?_, ?_, ?_⟩
  · rw [z_upr (by omega), z_up, if_pos ⟨rfl, rfl⟩]; rfl
  · rw [z_upr (by omega), z_up, if_neg (by omega)]; exact h1
  · rw [z_upr (by omega), z_up, if_neg (by omega)]; exact h2
  · rw [z_upr (by omega), z_up, if_neg (by omega)]; exact h3
  · rw [z_upr (by omega), z_up, if_neg (by omega)]; exact h4
  · rw [z_upr (by omega), z_upr (by omega)]; exact h5
  · rw [z_upr (by omega), z_upr (by omega)]; exact h6
  · rw [z_upr (by omega), z_upr (by omega)]; exact h7
  · rw [z_upr (by omega), z_upr (by omega)]; exact h8
  · rw [z_upr (by omega), z_upr (by omega)]; exact h9
  · rw [z_upr (by omega), z_upr (by omega)]; exact h10
  · rw [z_upr (by omega), z_upr (by omega)]; exact h11
  · rw [z_upr (by omega), z_upr (by omega)]; exact h12
  · rw [z_up, if_pos ⟨rfl, rfl⟩]; rfl
  · rw [z_up, if_neg (by omega), z_upr (by omega)]; exact g3
  · rw [z_upr (by omega), z_upr (by omega)]; exact g4
  · rw [z_upr (by omega), z_upr (by omega)]; exact g5
theorem z4D.stn {v : Nat} (h : z4D m D) : z4D (ax_up (ax_up m 44 3 (nI v)) 41 9 1) (D.stone v) := by
  obtain ⟨⟨h0, h1, h2, h3, h4, h5, h6, h7, h8, h9, h10, h11, h12⟩, g2, g3, g4, g5⟩ := h
  refine ⟨⟨?_, ?_, ?_, ?_, ?_, ?_, ?_, ?_, ?_, ?_, ?_, ?_, ?_⟩, ?_, ?_, ?_, ?_⟩
  · rw [z_upr (by omega), z_up, if_neg (by omega)]; exact h0
  · rw [z_upr (by omega), z_up, if_neg (by omega)]; exact h1
  · rw [z_upr (by omega), z_up, if_neg (by omega)]; exact h2
  · rw [z_upr (by omega), z_up, if_pos ⟨rfl, rfl⟩]; rfl
  · rw [z_upr (by omega), z_up, if_neg (by omega)]; exact h4
  · rw [z_upr (by omega), z_upr (by omega)]; exact h5
  · rw [z_upr (by omega), z_upr (by omega)]; exact h6
  · rw [z_upr (by omega), z_upr (by omega)]; exact h7
  · rw [z_upr (by omega), z_upr (by omega)]; exact h8
  · rw [z_upr (by omega), z_upr (by omega)]; exact h9
  · rw [z_upr (by omega), z_upr (by omega)]; exact h10
  · rw [z_upr (by omega), z_upr (by omega)]; exact h11
  · rw [z_upr (by omega), z_upr (by omega)]; exact h12
  · rw [z_up, if_neg (by omega), z_upr (by omega)]; exact g2
  · rw [z_up, if_pos ⟨rfl, rfl⟩]; rfl
  · rw [z_upr (by omega), z_upr (by omega)]; exact g4
  · rw [z_upr (by omega), z_upr (by omega)]; exact g5
theorem z4D.hp {k v : Nat} (h : z4D m D) : z4D (ax_up m 45 k (nI v)) (D.heap k v) := by
  obtain ⟨g1, g2, g3, g4, g5⟩ := h
  refine ⟨g1.set1, ?_, ?_, ?_, ?_⟩
  · rw [z_upr (by omega)]; exact g2
  · rw [z_upr (by omega)]; exact g3
  · rw [z_upr (by omega)]; exact g4
  · rw [z_upr (by omega)]; exact g5
theorem z4D.brg {f c v : Nat} (h : z4D m D) (hn : D.s.ng < 4) : F1_addBridge 44 (nI f) (nI c) (nI v) m = ax_up (ax_up (ax_up (ax_up m 46 D.s.ng (nI f)) 47 D.s.ng (nI c)) 48 D.s.ng (nI v)) 44 1 (nI (D.s.ng + 1)) ∧ z4D (F1_addBridge 44 (nI f) (nI c) (nI v) m) (D.bridge f c v) := by
  have q := h.1.ng
  have ea : F1_addBridge 44 (nI f) (nI c) (nI v) m = ax_up (ax_up (ax_up (ax_up m 46 D.s.ng (nI f)) 47 D.s.ng (nI c)) 48 D.s.ng (nI v)) 44 1 (nI (D.s.ng + 1)) := by
    unfold F1_addBridge K1_addBridge_33
    rw [q, if_pos (show nI D.s.ng < 4 from (z_nlt (b := 4) (by omega) (by omega)).mpr hn), z_put hn (by omega), z_upr (show 44 ≠ 44 + 2 by omega), q, z_put hn (by omega), z_upr (show 44 ≠ 44 + 3 by omega), z_upr (show 44 ≠ 44 + 2 by omega), q, z_put hn (by omega), z_upr (show 44 ≠ 44 + 4 by omega), z_upr (show 44 ≠ 44 + 3 by omega), z_upr (show 44 ≠ 44 + 2 by omega), q, nI_1]
  refine ⟨ea, ?_⟩
  rw [ea]
  obtain ⟨⟨h0, h1, h2, h3, h4, h5, h6, h7, h8, h9, h10, h11, h12⟩, g2, g3, g4, g5⟩ := h
  refine ⟨⟨?_, ?_, ?_, ?_, ?_, ?_, ?_, ?_, ?_, ?_, ?_, ?_, ?_⟩, ?_, ?_, ?_, ?_⟩
  · rw [z_up, if_neg (by omega), z_upr (by omega), z_upr (by omega), z_upr (by omega)]; exact h0
  · rw [z_up, if_pos ⟨rfl, rfl⟩]; rfl
  · rw [z_up, if_neg (by omega), z_upr (by omega), z_upr (by omega), z_upr (by omega)]; exact h2
  · rw [z_up, if_neg (by omega), z_upr (by omega), z_upr (by omega), z_upr (by omega)]; exact h3
  · rw [z_up, if_neg (by omega), z_upr (by omega), z_upr (by omega), z_upr (by omega)]; exact h4
  · rw [z_upr (by omega), z_upr (by omega), z_upr (by omega), z_upr (by omega)]; exact h5
  · intro b hb
    have hb' : b < D.s.ng + 1 := hb
    rw [z_upr (by omega), z_upr (by omega), z_upr (by omega), z_up]
    show _ = nI (if b = D.s.ng then f else D.s.fs b)
    by_cases w : b = D.s.ng
    · rw [if_pos ⟨rfl, w⟩, if_pos w]
    · rw [if_neg (fun x => w x.2), if_neg w]; exact h6 b (by omega)
  · intro b hb
    have hb' : b < D.s.ng + 1 := hb
    rw [z_upr (by omega), z_upr (by omega), z_up]
    show _ = nI (if b = D.s.ng then c else D.s.sc b)
    by_cases w : b = D.s.ng
    · rw [if_pos ⟨rfl, w⟩, if_pos w]
    · rw [if_neg (fun x => w x.2), if_neg w, z_upr (by omega)]; exact h7 b (by omega)
  · intro b hb
    have hb' : b < D.s.ng + 1 := hb
    rw [z_upr (by omega), z_up]
    show _ = nI (if 2 = 2 ∧ b = D.s.ng then v else D.P 2 b)
    by_cases w : b = D.s.ng
    · rw [if_pos ⟨rfl, w⟩, if_pos ⟨rfl, w⟩]
    · rw [if_neg (fun x => w x.2), if_neg (fun x => w x.2), z_upr (by omega), z_upr (by omega)]; exact h8 b (by omega)
  · rw [z_upr (by omega), z_upr (by omega), z_upr (by omega), z_upr (by omega)]; exact h9
  · rw [z_upr (by omega), z_upr (by omega), z_upr (by omega), z_upr (by omega)]; exact h10
  · rw [z_upr (by omega), z_upr (by omega), z_upr (by omega), z_upr (by omega)]; exact h11
  · rw [z_upr (by omega), z_upr (by omega), z_upr (by omega), z_upr (by omega)]; exact h12
  · rw [z_upr (by omega), z_upr (by omega), z_upr (by omega), z_upr (by omega)]; exact g2
  · rw [z_upr (by omega), z_upr (by omega), z_upr (by omega), z_upr (by omega)]; exact g3
  · rw [z_upr (by omega), z_upr (by omega), z_upr (by omega), z_upr (by omega)]; exact g4
  · rw [z_upr (by omega), z_upr (by omega), z_upr (by omega), z_upr (by omega)]; exact g5
theorem z4D.one {k w b g : Nat} (h : z4D m D) (hn : D.s.no < 6) : F1_addOne 44 (nI k) (nI w) (nI b) (nI g) m = ax_up (ax_up (ax_up (ax_up (ax_up m 49 D.s.no (nI k)) 50 D.s.no (nI w)) 51 D.s.no (nI b)) 52 D.s.no (nI g)) 44 2 (nI (D.s.no + 1)) ∧ z4D (F1_addOne 44 (nI k) (nI w) (nI b) (nI g) m) (D.one k w b g) := by
  have q := h.1.no
  have ea : F1_addOne 44 (nI k) (nI w) (nI b) (nI g) m = ax_up (ax_up (ax_up (ax_up (ax_up m 49 D.s.no (nI k)) 50 D.s.no (nI w)) 51 D.s.no (nI b)) 52 D.s.no (nI g)) 44 2 (nI (D.s.no + 1)) := by
    unfold F1_addOne K1_addOne_34 K1_addOne_59
    rw [q, if_pos (show nI D.s.no < 6 from (z_nlt (b := 6) (by omega) (by omega)).mpr hn), z_put hn (by omega), z_upr (show 44 ≠ 44 + 5 by omega), q, z_put hn (by omega), z_upr (show 44 ≠ 44 + 6 by omega), z_upr (show 44 ≠ 44 + 5 by omega), q, z_put hn (by omega), z_upr (show 44 ≠ 44 + 7 by omega), z_upr (show 44 ≠ 44 + 6 by omega), z_upr (show 44 ≠ 44 + 5 by omega), q, z_put hn (by omega), z_upr (show 44 ≠ 44 + 8 by omega), z_upr (show 44 ≠ 44 + 7 by omega), z_upr (show 44 ≠ 44 + 6 by omega), z_upr (show 44 ≠ 44 + 5 by omega), q, nI_1]
  refine ⟨ea, ?_⟩
  rw [ea]
  obtain ⟨⟨h0, h1, h2, h3, h4, h5, h6, h7, h8, h9, h10, h11, h12⟩, g2, g3, g4, g5⟩ := h
  have sP : ∀ f x, (D.one k w b g).P f x = if f = 6 ∧ x = D.s.no then g else if f = 5 ∧ x = D.s.no then b else if f = 4 ∧ x = D.s.no then w else if f = 3 ∧ x = D.s.no then k else D.P f x := fun _ _ => rfl
  refine ⟨⟨?_, ?_, ?_, ?_, ?_, ?_, ?_, ?_, ?_, ?_, ?_, ?_, ?_⟩, ?_, ?_, ?_, ?_⟩
  · rw [z_up, if_neg (by omega), z_upr (by omega), z_upr (by omega), z_upr (by omega), z_upr (by omega)]; exact h0
  · rw [z_up, if_neg (by omega), z_upr (by omega), z_upr (by omega), z_upr (by omega), z_upr (by omega)]; exact h1
  · rw [z_up, if_pos ⟨rfl, rfl⟩]; rfl
  · rw [z_up, if_neg (by omega), z_upr (by omega), z_upr (by omega), z_upr (by omega), z_upr (by omega)]; exact h3
  · rw [z_up, if_neg (by omega), z_upr (by omega), z_upr (by omega), z_upr (by omega), z_upr (by omega)]
    show _ = nI ((D.one k w b g).P 0 0)
    rw [sP, if_neg (by omega), if_neg (by omega), if_neg (by omega), if_neg (by omega)]; exact h4
  · intro x hx
    rw [z_upr (by omega), z_upr (by omega), z_upr (by omega), z_upr (by omega), z_upr (by omega)]
    show _ = nI ((D.one k w b g).P 1 x)
    rw [sP, if_neg (by omega), if_neg (by omega), if_neg (by omega), if_neg (by omega)]; exact h5 x hx
  · rw [z_upr (by omega), z_upr (by omega), z_upr (by omega), z_upr (by omega), z_upr (by omega)]; exact h6
  · rw [z_upr (by omega), z_upr (by omega), z_upr (by omega), z_upr (by omega), z_upr (by omega)]; exact h7
  · intro x hx
    rw [z_upr (by omega), z_upr (by omega), z_upr (by omega), z_upr (by omega), z_upr (by omega)]
    show _ = nI ((D.one k w b g).P 2 x)
    rw [sP, if_neg (by omega), if_neg (by omega), if_neg (by omega), if_neg (by omega)]; exact h8 x hx
  · intro x hx
    have hx' : x < D.s.no + 1 := hx
    rw [z_upr (by omega), z_upr (by omega), z_upr (by omega), z_upr (by omega), z_up]
    show _ = nI ((D.one k w b g).P 3 x)
    rw [sP, if_neg (show ¬ (3 = 6 ∧ x = D.s.no) by omega), if_neg (show ¬ (3 = 5 ∧ x = D.s.no) by omega), if_neg (show ¬ (3 = 4 ∧ x = D.s.no) by omega)]
    by_cases y : x = D.s.no
    · rw [if_pos ⟨rfl, y⟩, if_pos ⟨rfl, y⟩]
    · rw [if_neg (fun z => y z.2), if_neg (fun z => y z.2)]; exact h9 x (by omega)
  · intro x hx
    have hx' : x < D.s.no + 1 := hx
    rw [z_upr (by omega), z_upr (by omega), z_upr (by omega), z_up]
    show _ = nI ((D.one k w b g).P 4 x)
    rw [sP, if_neg (show ¬ (4 = 6 ∧ x = D.s.no) by omega), if_neg (show ¬ (4 = 5 ∧ x = D.s.no) by omega)]
    by_cases y : x = D.s.no
    · rw [if_pos ⟨rfl, y⟩, if_pos ⟨rfl, y⟩]
    · rw [if_neg (fun z => y z.2), if_neg (fun z => y z.2), if_neg (by omega), z_upr (by omega)]; exact h10 x (by omega)
  · intro x hx
    have hx' : x < D.s.no + 1 := hx
    rw [z_upr (by omega), z_upr (by omega), z_up]
    show _ = nI ((D.one k w b g).P 5 x)
    rw [sP, if_neg (show ¬ (5 = 6 ∧ x = D.s.no) by omega)]
    by_cases y : x = D.s.no
    · rw [if_pos ⟨rfl, y⟩, if_pos ⟨rfl, y⟩]
    · rw [if_neg (fun z => y z.2), if_neg (fun z => y z.2), if_neg (by omega), if_neg (by omega), z_upr (by omega), z_upr (by omega)]; exact h11 x (by omega)
  · intro x hx
    have hx' : x < D.s.no + 1 := hx
    rw [z_upr (by omega), z_up]
    show _ = nI ((D.one k w b g).P 6 x)
    rw [sP]
    by_cases y : x = D.s.no
    · rw [if_pos ⟨rfl, y⟩, if_pos ⟨rfl, y⟩]
    · rw [if_neg (fun z => y z.2), if_neg (fun z => y z.2), if_neg (by omega), if_neg (by omega), if_neg (by omega), z_upr (by omega), z_upr (by omega), z_upr (by omega)]; exact h12 x (by omega)
  · rw [z_upr (by omega), z_upr (by omega), z_upr (by omega), z_upr (by omega), z_upr (by omega)]; exact g2
  · rw [z_upr (by omega), z_upr (by omega), z_upr (by omega), z_upr (by omega), z_upr (by omega)]; exact g3
  · rw [z_upr (by omega), z_upr (by omega), z_upr (by omega), z_upr (by omega), z_upr (by omega)]; exact g4
  · rw [z_upr (by omega), z_upr (by omega), z_upr (by omega), z_upr (by omega), z_upr (by omega)]; exact g5
theorem z4D.mt {b p q : Nat} (h : z4D m D) (hn : D.dn < 8) : z4D (F0_append 53 (nI b) (nI p) (nI q) m) (D.meet b p q) ∧ ∀ c, c ≠ 53 → c ≠ 54 → F0_append 53 (nI b) (nI p) (nI q) m c = m c := by
  obtain ⟨g1, g2, g3, g4, g5⟩ := h
  have ea := z7_app (x := nI b) (y := nI p) (z := nI q) g4 hn
  have ef : ∀ c, c ≠ 53 → c ≠ 54 → F0_append 53 (nI b) (nI p) (nI q) m c = m c := fun c h1 h2 => by
    rw [ea, z_upr h1, z_upr h2, z_upr h2, z_upr h2]
  refine ⟨⟨g1.same (fun c _ _ => ef c (by omega) (by omega)), by rw [ef 41 (by omega) (by omega)]; exact g2, by rw [ef 41 (by omega) (by omega)]; exact g3, by rw [ea, z_up, if_pos ⟨rfl, rfl⟩]; rfl, fun i hi => ?_⟩, ef⟩
  rw [ea, z_upr (by omega)]
  exact zdy_m g5 i hi
end ZL2
