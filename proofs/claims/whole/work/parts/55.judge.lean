/-! PURE: told days -/
/-- the told pairs from i on: the first that can not, and where all stand then -/
def zjd (s : zS) (n : Nat) (d : Nat → Nat) : Nat → Nat → zP → Option Nat × zP
  | 0, _, P => (none, P)
  | k + 1, i, P => if n ≤ i then (none, P) else if zcan s P (d (3 * i)) (d (3 * i + 1)) (d (3 * i + 2)) 0 0 = true then zjd s n d k (i + 1) (zsw s P (d (3 * i)) (d (3 * i + 1)) (d (3 * i + 2))) else (some i, P)
/-- the told pairs from i on without those of x -/
def zlt (s : zS) (n : Nat) (d : Nat → Nat) (x : Nat) : Nat → Nat → Nat → zP → Nat × zP
  | 0, _, c, P => (c, P)
  | k + 1, i, c, P => if n ≤ i then (c, P) else if d (3 * i + 1) = x ∨ d (3 * i + 2) = x then zlt s n d x k (i + 1) c P else if zcan s P (d (3 * i)) (d (3 * i + 1)) (d (3 * i + 2)) 0 0 = true then zlt s n d x k (i + 1) (c + 1) (zsw s P (d (3 * i)) (d (3 * i + 1)) (d (3 * i + 2))) else zlt s n d x k (i + 1) c P
section ZL
variable {m : ax_M} {g : Nat} {s : zS} {P : zP} {b p q n : Nat} {d : Nat → Nat}
def z7D (m : ax_M) (n : Nat) (d : Nat → Nat) : Prop := m 39 1 = nI n ∧ ∀ i, i < 3 * n → m 40 i = nI (d i)
def z8D (m : ax_M) (n : Nat) (d : Nat → Nat) : Prop := m 74 7 = nI n ∧ ∀ i, i < 3 * n → m 77 i = nI (d i)
theorem z7D.at (h : z7D m n d) (hn : n ≤ 8) {i : Nat} (hi : i < n) : F0_bridgeAt 39 (nI i) m = nI (d (3 * i)) ∧ F0_aheadAt 39 (nI i) m = nI (d (3 * i + 1)) ∧ F0_otherAt 39 (nI i) m = nI (d (3 * i + 2)) := by
  unfold F0_bridgeAt F0_aheadAt F0_otherAt
  refine ⟨?_, ?_, ?_⟩
  · rw [z_lit 3, pk_mul, z_at (by omega) (by omega)]; exact h.2 _ (by omega)
  · rw [z_lit 3, pk_mul, z_lit 1, nI_add, z_at (by omega) (by omega)]; exact h.2 _ (by omega)
  · rw [z_lit 3, pk_mul, z_lit 2, nI_add, z_at (by omega) (by omega)]; exact h.2 _ (by omega)
theorem z8D.at (h : z8D m n d) (hn : n ≤ 8) {i : Nat} (hi : i < n) : m 77 (Int32.toNatClampNeg (3 * nI i)) = nI (d (3 * i)) ∧ m 77 (Int32.toNatClampNeg ((3 * nI i) + 1)) = nI (d (3 * i + 1)) ∧ m 77 (Int32.toNatClampNeg ((3 * nI i) + 2)) = nI (d (3 * i + 2)) := by
  refine ⟨?_, ?_, ?_⟩
  · rw [z_lit 3, pk_mul, z_ncl (by omega)]; exact h.2 _ (by omega)
  · rw [z_lit 3, pk_mul, z_lit 1, nI_add, z_ncl (by omega)]; exact h.2 _ (by omega)
  · rw [z_lit 3, pk_mul, z_lit 2, nI_add, z_ncl (by omega)]; exact h.2 _ (by omega)
theorem z8D_v {i : Nat} (hi : i < 8) : vp_in (3 * nI i) 24 ∧ vp_in ((3 * nI i) + 1) 24 ∧ vp_in ((3 * nI i) + 2) 24 := by
  refine ⟨?_, ?_, ?_⟩
  · rw [z_lit 3, pk_mul]; exact z_vp (by omega) (by omega)
  · rw [z_lit 3, pk_mul, z_lit 1, nI_add]; exact z_vp (by omega) (by omega)
  · rw [z_lit 3, pk_mul, z_lit 2, nI_add]; exact z_vp (by omega) (by omega)
theorem z7D.k (h : z7D m n d) {m' : ax_M} (e : ∀ c, (c < 10 ∨ 10 + 8 < c) → m' c = m c) : z7D m' n d := by
  unfold z7D; rw [e 39 (by omega), e 40 (by omega)]; exact h
theorem z8D.k (h : z8D m n d) {m' : ax_M} (e : ∀ c, c ≠ 75 → m' c = m c) : z8D m' n d := by
  unfold z8D; rw [e 74 (by omega), e 77 (by omega)]; exact h
theorem z7_judge (hs : zW s) (hd : zDay s n d) : ∀ (k i : Nat) (P : zP) (m : ax_M), zV s P → zGx m 10 s P → z7D m n d → i ≤ n → n - i < k → E7_judge_13 k (nI i) m ∧ (L7_judge_13 k (nI i) m).1 = (zjd s n d k i P).1.map nI ∧ (∀ c, (c < 10 ∨ 10 + 8 < c) → (L7_judge_13 k (nI i) m).2.2 c = m c) := by
  have a1 := hd.1
  intro k
  induction k with
  | zero => intro i P m _ _ _ _ h; omega
  | succ k ih =>
    intro i P m hP hG hD hi hn
    unfold L7_judge_13 E7_judge_13 zjd
    rw [hD.1]
    by_cases e : i = n
    · rw [if_pos (z_let (by omega) (by omega)), if_pos (show n ≤ i by omega)]
      exact ⟨fun q => absurd (z_let (by omega) (by omega)) q, rfl, fun _ _ => rfl⟩
    · have hlt : ¬ nI n ≤ nI i := z_lef (by omega) (by omega)
      obtain ⟨d1, d2, d3, d4⟩ := hd.2 i (by omega)
      obtain ⟨x1, x2, x3⟩ := hD.at a1 (show i < n by omega)
      obtain ⟨g1, g2, g3⟩ := z7_pg hs hP hG d1 d2 d3
      rw [if_neg hlt, if_neg (show ¬ n ≤ i by omega), x1, x2, x3, g1, decide_eq_true d4, Bool.true_and, show nI i + 1 = nI (i + 1) by rw [z_lit 1, nI_add]]
      rw [decide_eq_true d4, Bool.true_and] at g2
      generalize F1_passesAndGoes 10 (nI (d (3 * i))) (nI (d (3 * i + 1))) (nI (d (3 * i + 2))) m = R at g2 g3
      cases hc : zcan s P (d (3 * i)) (d (3 * i + 1)) (d (3 * i + 2)) 0 0 with
      | false => exact ⟨fun _ q => absurd rfl q, rfl, g3⟩
      | true =>
        rw [hc, if_pos rfl] at g2
        obtain ⟨i1, i2, i3⟩ := ih (i + 1) _ R.2 (hP.sw hs d1) g2 (hD.k g3) (by omega) (by omega)
        refine ⟨fun _ _ => i1, i2, fun c hc => ?_⟩
        exact (i3 c hc).trans (g3 c hc)
theorem z8_judge {w : Int32} (hs : zW s) (hd : zDay s n d) : ∀ (k i : Nat) (P : zP) (m : ax_M), zV s P → zE m s → zQ m 0 s P → z8D m n d → i ≤ n → n - i + 1 < k → E8_judge_10 k w (-4) (nI i) m ∧ (L8_judge_10 k w (-4) (nI i) m).1 = ((zjd s n d k i P).1.map nI).getD (-4) ∧ (∃ P', zeqb P P' ∧ zQ (L8_judge_10 k w (-4) (nI i) m).2.2 0 s P') ∧ (∀ c, c ≠ 75 → (L8_judge_10 k w (-4) (nI i) m).2.2 c = m c) ∧ (∀ j, 33 ≤ j → (L8_judge_10 k w (-4) (nI i) m).2.2 75 j = m 75 j) := by
  have a1 := hd.1
  intro k
  induction k with
  | zero => intro i P m _ _ _ _ _ h; omega
  | succ k ih =>
    intro i P m hP hE hQ hD hi hn
    unfold L8_judge_10 E8_judge_10 zjd
    rw [hD.1]
    by_cases e : i = n
    · rw [if_pos (z_let (by omega) (by omega)), if_pos (show n ≤ i by omega)]
      exact ⟨fun q => absurd (z_let (by omega) (by omega)) q, rfl, ⟨P, zeqb.refl P, hQ⟩, fun _ _ => rfl, fun _ _ => rfl⟩
    · have hlt : ¬ nI n ≤ nI i := z_lef (by omega) (by omega)
      obtain ⟨d1, d2, d3, d4⟩ := hd.2 i (by omega)
      obtain ⟨x1, x2, x3⟩ := hD.at a1 (show i < n by omega)
      obtain ⟨v1, v2, v3⟩ := z8D_v (show i < 8 by omega)
      rw [if_neg hlt, if_neg (show ¬ n ≤ i by omega), if_pos rfl, x1, x2, x3, show F8_canCross (nI (d (3 * i))) (nI (d (3 * i + 1))) (nI (d (3 * i + 2))) 0 0 m = _ from z8_can (i := 0) (j := 0) hs hP hE hQ d1 d2 d3 (by omega) (by omega), show nI i + 1 = nI (i + 1) by rw [z_lit 1, nI_add]]
      have dc : D8_canCross (nI (d (3 * i))) (nI (d (3 * i + 1))) (nI (d (3 * i + 2))) 0 0 m := z8_dcan hs hE d1 d2 d3
      obtain ⟨s1, s2, s3, s4⟩ := z8_sws hs hE hQ d1 d2 d3
      cases hc : zcan s P (d (3 * i)) (d (3 * i + 1)) (d (3 * i + 2)) 0 0 with
      | false =>
        rw [if_pos (show zb false = 0 from rfl), if_pos (show zb false = 0 from rfl)]
        have hk : ∃ k', k = k' + 1 := ⟨k - 1, by omega⟩
        obtain ⟨k', rfl⟩ := hk
        have hne : ¬ nI i = -4 := fun q => by
          have := z_eq.mp q
          rw [z_nti (by omega)] at this
          have h4 : (-4 : Int32).toInt = -4 := rfl
          omega
        have eE : E8_judge_10 (k' + 1) w (nI i) (nI (i + 1)) m := by
          unfold E8_judge_10
          exact fun _ q => absurd q hne
        have eL : L8_judge_10 (k' + 1) w (nI i) (nI (i + 1)) m = (nI i, nI (i + 1), m) := by
          unfold L8_judge_10
          rw [if_neg hne]
          by_cases e : m 74 7 ≤ nI (i + 1)
          · rw [if_pos e]
          · rw [if_neg e]
        rw [eL]
        exact ⟨fun _ _ => ⟨v1, v2, v3, dc, fun q => absurd rfl q, eE⟩, rfl, ⟨P, zeqb.refl P, hQ⟩, fun _ _ => rfl, fun _ _ => rfl⟩
      | true =>
        rw [if_neg (show ¬ zb true = 0 by decide), if_neg (show ¬ zb true = 0 by decide), if_pos rfl]
        generalize F8_swaps (nI (d (3 * i))) (nI (d (3 * i + 1))) (nI (d (3 * i + 2))) m = R at s2 s3 s4
        obtain ⟨i1, i2, ⟨P', i3, i3'⟩, i4, i5⟩ := ih (i + 1) _ R (hP.sw hs d1) (hE.k s3) s2 (hD.k s3) (by omega) (by omega)
        refine ⟨fun _ _ => ⟨v1, v2, v3, dc, fun _ => ⟨v1, v2, v3, s1⟩, i1⟩, i2, ⟨P', fun a c ha => ?_, i3'⟩, fun c hc => (i4 c hc).trans (s3 c hc), fun j hj => (i5 j hj).trans (s4 j hj)⟩
        exact (i3 a c ha).trans (zeqb.sw (zeqb.refl P) a c ha)
theorem z8.np {T : zT} {m' : ax_M} (h : z8 m T) (hs : zW T.s) (hQ : zQ m' 0 T.s T.P) (h1 : ∀ c, c ≠ 75 → m' c = m c) (h2 : ∀ j, 33 ≤ j → m' 75 j = m 75 j) : z8 m' T := by
  have := z8.now (P := T.P) h hs (fun k _ => by rw [h1 74 (by omega)]) (fun c _ _ _ => h1 c (by omega)) (fun k hk _ => h2 k hk) hQ
  exact this
theorem zok26 (h : zI m) : OK26 zI m := by
  obtain ⟨T, hT, h7, h8⟩ := id h
  have hw := hT.w
  have n8 := hT.day.1
  obtain ⟨c1, c2⟩ := z7_copy (g := 10) hw h7.g (by omega)
  have D7 : z7D (F1_copyFrom 10 1 m) T.dn T.dy := by
    unfold z7D; rw [c2 39 (by omega), c2 40 (by omega)]; exact h7.2.2.2.1
  obtain ⟨j1, j2, j3⟩ := z7_judge hw hT.day 64 0 T.P _ hT.v c1.x D7 (by omega) (by omega)
  refine ⟨j1, ?_⟩
  have e7 : F7_judge m = ((((zjd T.s T.dn T.dy 64 0 T.P).1.map nI).getD (-4)), (L7_judge_13 64 0 (F1_copyFrom 10 1 m)).2.2) := by
    unfold F7_judge
    rw [show (L7_judge_13 64 0 (F1_copyFrom 10 1 m)).1 = _ from j2]
    cases (zjd T.s T.dn T.dy 64 0 T.P).1 <;> rfl
  rw [e7]
  dsimp only
  have k7 : ∀ c, (c < 10 ∨ 10 + 8 < c) → (L7_judge_13 64 0 (F1_copyFrom 10 1 m)).2.2 c = m c := fun c hc => (j3 c hc).trans (c2 c hc)
  generalize (L7_judge_13 64 0 (F1_copyFrom 10 1 m)).2.2 = m1 at k7
  have h7' : z7 m1 T := h7.of (fun c _ hc => k7 c (by unfold zsc at hc; omega))
  have h8' : z8 m1 T := h8.keep (fun c hc => k7 c (by omega))
  obtain ⟨d1, d2⟩ := z8_code hw hT.v h8'.e h8'.q
  obtain ⟨i1, i2, ⟨P', i3, i3'⟩, i4, i5⟩ := z8_judge (w := F8_codeNow m1) hw hT.day 64 0 T.P m1 hT.v h8'.e h8'.q h8'.2.2.2.1 (by omega) (by omega)
  unfold D8_judge F8_judge K8_judge_109
  rw [show (L8_judge_10 64 (F8_codeNow m1) (-4) 0 m1).1 = _ from i2]
  have i1' : E8_judge_10 64 (F8_codeNow m1) (-4) 0 m1 := i1
  have x3 : zQ (L8_judge_10 64 (F8_codeNow m1) (-4) 0 m1).2.2 0 T.s P' := i3'
  have x4 : ∀ c, c ≠ 75 → (L8_judge_10 64 (F8_codeNow m1) (-4) 0 m1).2.2 c = m1 c := i4
  have x5 : ∀ j, 33 ≤ j → (L8_judge_10 64 (F8_codeNow m1) (-4) 0 m1).2.2 75 j = m1 75 j := i5
  generalize (L8_judge_10 64 (F8_codeNow m1) (-4) 0 m1).2.2 = m2 at x3 x4 x5
  rw [d2] at i1' ⊢
  obtain ⟨s1, s2, s3, s4⟩ := z8_stands hw hT.v (h8'.e.k x4) x3 i3
  refine ⟨⟨d1, i1', s1⟩, rfl, ?_⟩
  exact zI.step hT h7' (fun c hc => (s3 c (by omega)).trans (x4 c (by omega))) (h8'.np hw s2 (fun c hc => (s3 c hc).trans (x4 c hc)) (fun j hj => (s4 j hj).trans (x5 j hj)))
theorem z7_late {x : Nat} (hs : zW s) (hd : zDay s n d) (hx : x < s.no) : ∀ (k i c : Nat) (P : zP) (m : ax_M), zV s P → zGx m 10 s P → z7D m n d → i ≤ n → n - i < k → E7_late_28 k (nI x) (nI c) (nI i) m ∧ (L7_late_28 k (nI x) (nI c) (nI i) m).1 = nI (zlt s n d x k i c P).1 ∧ (∀ c', (c' < 10 ∨ 10 + 8 < c') → (L7_late_28 k (nI x) (nI c) (nI i) m).2.2 c' = m c') := by
  have a1 := hd.1
  have a2 := hs.no6
  intro k
  induction k with
  | zero => intro i c P m _ _ _ _ h; omega
  | succ k ih =>
    intro i c P m hP hG hD hi hn
    unfold L7_late_28 E7_late_28 zlt
    rw [hD.1]
    by_cases e : i = n
    · rw [if_pos (z_let (by omega) (by omega)), if_pos (show n ≤ i by omega)]
      exact ⟨fun q => absurd (z_let (by omega) (by omega)) q, rfl, fun _ _ => rfl⟩
    · have hlt : ¬ nI n ≤ nI i := z_lef (by omega) (by omega)
      obtain ⟨d1, d2, d3, d4⟩ := hd.2 i (by omega)
      obtain ⟨x1, x2, x3⟩ := hD.at a1 (show i < n by omega)
      obtain ⟨g1, g2, g3⟩ := z7_pg hs hP hG d1 d2 d3
      have c1 : (nI (d (3 * i + 1)) = nI x) ↔ d (3 * i + 1) = x := z_neq (by omega) (by omega)
      have c2 : (nI (d (3 * i + 2)) = nI x) ↔ d (3 * i + 2) = x := z_neq (by omega) (by omega)
      rw [if_neg hlt, if_neg (show ¬ n ≤ i by omega), x1, x2, x3, g1, decide_eq_true d4, Bool.true_and, show nI i + 1 = nI (i + 1) by rw [z_lit 1, nI_add], show nI c + 1 = nI (c + 1) by rw [z_lit 1, nI_add]]
      simp only [c1, c2]
      rw [decide_eq_true d4, Bool.true_and] at g2
      generalize F1_passesAndGoes 10 (nI (d (3 * i))) (nI (d (3 * i + 1))) (nI (d (3 * i + 2))) m = R at g2 g3
      by_cases q1 : d (3 * i + 1) = x
      · rw [if_pos q1, if_pos q1, if_pos (Or.inl q1)]
        obtain ⟨i1, i2, i3⟩ := ih (i + 1) c P m hP hG hD (by omega) (by omega)
        exact ⟨fun _ => i1, i2, i3⟩
      · rw [if_neg q1, if_neg q1]
        by_cases q2 : d (3 * i + 2) = x
        · rw [if_pos q2, if_pos q2, if_pos (Or.inr q2)]
          obtain ⟨i1, i2, i3⟩ := ih (i + 1) c P m hP hG hD (by omega) (by omega)
          exact ⟨fun _ => i1, i2, i3⟩
        · rw [if_neg q2, if_neg q2, if_neg (show ¬ (d (3 * i + 1) = x ∨ d (3 * i + 2) = x) from fun q => q.elim q1 q2)]
          cases hc : zcan s P (d (3 * i)) (d (3 * i + 1)) (d (3 * i + 2)) 0 0 with
          | false =>
            rw [hc] at g2
            rw [if_pos (show zb false = 0 from rfl)]
            obtain ⟨i1, i2, i3⟩ := ih (i + 1) c P R.2 hP g2 (hD.k g3) (by omega) (by omega)
            exact ⟨fun _ => i1, i2, fun c' hc' => (i3 c' hc').trans (g3 c' hc')⟩
          | true =>
            rw [hc, if_pos rfl] at g2
            rw [if_neg (show ¬ zb true = 0 by decide), if_pos rfl]
            obtain ⟨i1, i2, i3⟩ := ih (i + 1) (c + 1) _ R.2 (hP.sw hs d1) g2 (hD.k g3) (by omega) (by omega)
            exact ⟨fun _ => i1, i2, fun c' hc' => (i3 c' hc').trans (g3 c' hc')⟩
theorem z8_late {x : Nat} {w : Int32} (hs : zW s) (hd : zDay s n d) (hx : x < s.no) : ∀ (k i c : Nat) (P : zP) (m : ax_M), zV s P → zE m s → zQ m 0 s P → z8D m n d → i ≤ n → n - i < k → E8_late_20 k (nI x) w (nI c) (nI i) m ∧ (L8_late_20 k (nI x) w (nI c) (nI i) m).1 = nI (zlt s n d x k i c P).1 ∧ (∃ P', zeqb P P' ∧ zQ (L8_late_20 k (nI x) w (nI c) (nI i) m).2.2 0 s P') ∧ (∀ a, a ≠ 75 → (L8_late_20 k (nI x) w (nI c) (nI i) m).2.2 a = m a) ∧ (∀ j, 33 ≤ j → (L8_late_20 k (nI x) w (nI c) (nI i) m).2.2 75 j = m 75 j) := by
  have a1 := hd.1
  have a2 := hs.no6
  intro k
  induction k with
  | zero => intro i c P m _ _ _ _ _ h; omega
  | succ k ih =>
    intro i c P m hP hE hQ hD hi hn
    unfold L8_late_20 E8_late_20 zlt
    rw [hD.1]
    by_cases e : i = n
    · rw [if_pos (z_let (by omega) (by omega)), if_pos (show n ≤ i by omega)]
      exact ⟨fun q => absurd (z_let (by omega) (by omega)) q, rfl, ⟨P, zeqb.refl P, hQ⟩, fun _ _ => rfl, fun _ _ => rfl⟩
    · have hlt : ¬ nI n ≤ nI i := z_lef (by omega) (by omega)
      obtain ⟨d1, d2, d3, d4⟩ := hd.2 i (by omega)
      obtain ⟨x1, x2, x3⟩ := hD.at a1 (show i < n by omega)
      obtain ⟨v1, v2, v3⟩ := z8D_v (show i < 8 by omega)
      have c1 : (nI (d (3 * i + 1)) = nI x) ↔ d (3 * i + 1) = x := z_neq (by omega) (by omega)
      have c2 : (nI (d (3 * i + 2)) = nI x) ↔ d (3 * i + 2) = x := z_neq (by omega) (by omega)
      rw [if_neg hlt, if_neg (show ¬ n ≤ i by omega), x1, x2, x3, show F8_canCross (nI (d (3 * i))) (nI (d (3 * i + 1))) (nI (d (3 * i + 2))) 0 0 m = _ from z8_can (i := 0) (j := 0) hs hP hE hQ d1 d2 d3 (by omega) (by omega), show nI i + 1 = nI (i + 1) by rw [z_lit 1, nI_add], show nI c + 1 = nI (c + 1) by rw [z_lit 1, nI_add]]
      have dc : D8_canCross (nI (d (3 * i))) (nI (d (3 * i + 1))) (nI (d (3 * i + 2))) 0 0 m := z8_dcan hs hE d1 d2 d3
      obtain ⟨s1, s2, s3, s4⟩ := z8_sws hs hE hQ d1 d2 d3
      simp only [c1, c2]
      generalize F8_swaps (nI (d (3 * i))) (nI (d (3 * i + 1))) (nI (d (3 * i + 2))) m = R at s2 s3 s4
      have hq : ∀ {A : Prop}, (if d (3 * i + 1) = x then (0 : Int32) else if d (3 * i + 2) = x then (0 : Int32) else 1) = 0 → (d (3 * i + 1) = x ∨ d (3 * i + 2) = x) := fun {A} h => by
        by_cases q1 : d (3 * i + 1) = x
        · exact Or.inl q1
        · rw [if_neg q1] at h
          by_cases q2 : d (3 * i + 2) = x
          · exact Or.inr q2
          · rw [if_neg q2] at h; exact absurd h (by decide)
      by_cases qq : d (3 * i + 1) = x ∨ d (3 * i + 2) = x
      · have h0 : (if d (3 * i + 1) = x then (0 : Int32) else if d (3 * i + 2) = x then (0 : Int32) else 1) = 0 := by
          by_cases q1 : d (3 * i + 1) = x
          · rw [if_pos q1]
          · rw [if_neg q1, if_pos (qq.resolve_left q1)]
        rw [if_pos h0, if_pos h0, if_pos qq]
        obtain ⟨i1, i2, i3, i4, i5⟩ := ih (i + 1) c P m hP hE hQ hD (by omega) (by omega)
        exact ⟨fun _ => ⟨v2, fun _ => v3, fun q => absurd h0 q, i1⟩, i2, i3, i4, i5⟩
      · have h0 : ¬ (if d (3 * i + 1) = x then (0 : Int32) else if d (3 * i + 2) = x then (0 : Int32) else 1) = 0 := fun h => qq (hq (A := True) h)
        rw [if_neg h0, if_neg h0, if_neg qq]
        cases hc : zcan s P (d (3 * i)) (d (3 * i + 1)) (d (3 * i + 2)) 0 0 with
        | false =>
          rw [if_pos (show zb false = 0 from rfl), if_pos (show zb false = 0 from rfl)]
          obtain ⟨i1, i2, i3, i4, i5⟩ := ih (i + 1) c P m hP hE hQ hD (by omega) (by omega)
          exact ⟨fun _ => ⟨v2, fun _ => v3, fun _ => ⟨v1, v2, v3, dc, fun q => absurd rfl q⟩, i1⟩, i2, i3, i4, i5⟩
        | true =>
          rw [if_neg (show ¬ zb true = 0 by decide), if_neg (show ¬ zb true = 0 by decide), if_pos rfl]
          obtain ⟨i1, i2, ⟨P', i3, i3'⟩, i4, i5⟩ := ih (i + 1) (c + 1) _ R (hP.sw hs d1) (hE.k s3) s2 (hD.k s3) (by omega) (by omega)
          refine ⟨fun _ => ⟨v2, fun _ => v3, fun _ => ⟨v1, v2, v3, dc, fun _ => ⟨v1, v2, v3, s1⟩⟩, i1⟩, i2, ⟨P', fun a c ha => ?_, i3'⟩, fun c hc => (i4 c hc).trans (s3 c hc), fun j hj => (i5 j hj).trans (s4 j hj)⟩
          exact (i3 a c ha).trans (zeqb.sw (zeqb.refl P) a c ha)
theorem zok27 (h : zI m) : OK27 zI m := by
  obtain ⟨T, hT, h7, h8⟩ := id h
  have hw := hT.w
  have n6 := hw.no6
  have n8 := hT.day.1
  intro a1
  cases e1 : zin a1 T.s.no with
  | false =>
    have e7 : F7_late a1 m = (-1, m) := by unfold F7_late; rw [z7_hasOne hw h7.g, e1]; rfl
    have e8 : F8_late a1 m = (-1, m) := by unfold F8_late; rw [z8_isOne hw h8.e, e1]; rfl
    rw [e7, e8]
    refine ⟨?_, ?_, rfl, h⟩
    · unfold D7_late; rw [z7_hasOne hw h7.g, e1]; exact fun q => absurd rfl q
    · unfold D8_late; rw [z8_isOne hw h8.e, e1]; exact fun q => absurd rfl q
  | true =>
    obtain ⟨x, hx, rfl⟩ := zin_t e1 (by omega)
    obtain ⟨c1, c2⟩ := z7_copy (g := 10) hw h7.g (by omega)
    have D7 : z7D (F1_copyFrom 10 1 m) T.dn T.dy := by
      unfold z7D; rw [c2 39 (by omega), c2 40 (by omega)]; exact h7.2.2.2.1
    obtain ⟨j1, j2, j3⟩ := z7_late hw hT.day hx 64 0 0 T.P _ hT.v c1.x D7 (by omega) (by omega)
    have e7 : F7_late (nI x) m = (nI (zlt T.s T.dn T.dy x 64 0 0 T.P).1, (L7_late_28 64 (nI x) 0 0 (F1_copyFrom 10 1 m)).2.2) := by
      unfold F7_late
      rw [z7_hasOne hw h7.g, e1, if_neg (show ¬ zb true = 0 by decide), show (L7_late_28 64 (nI x) 0 0 (F1_copyFrom 10 1 m)).1 = _ from j2]
    refine ⟨fun _ => j1, ?_⟩
    rw [e7]
    dsimp only
    have k7 : ∀ c, (c < 10 ∨ 10 + 8 < c) → (L7_late_28 64 (nI x) 0 0 (F1_copyFrom 10 1 m)).2.2 c = m c := fun c hc => (j3 c hc).trans (c2 c hc)
    generalize (L7_late_28 64 (nI x) 0 0 (F1_copyFrom 10 1 m)).2.2 = m1 at k7
    have h7' : z7 m1 T := h7.of (fun c _ hc => k7 c (by unfold zsc at hc; omega))
    have h8' : z8 m1 T := h8.keep (fun c hc => k7 c (by omega))
    obtain ⟨d1, d2⟩ := z8_code hw hT.v h8'.e h8'.q
    obtain ⟨i1, i2, ⟨P', i3, i3'⟩, i4, i5⟩ := z8_late (w := F8_codeNow m1) hw hT.day hx 64 0 0 T.P m1 hT.v h8'.e h8'.q h8'.2.2.2.1 (by omega) (by omega)
    unfold D8_late F8_late K8_late_160
    rw [z8_isOne hw h8'.e, e1, if_neg (show ¬ zb true = 0 by decide), show (L8_late_20 64 (nI x) (F8_codeNow m1) 0 0 m1).1 = _ from i2]
    have i1' : E8_late_20 64 (nI x) (F8_codeNow m1) 0 0 m1 := i1
    have x3 : zQ (L8_late_20 64 (nI x) (F8_codeNow m1) 0 0 m1).2.2 0 T.s P' := i3'
    have x4 : ∀ c, c ≠ 75 → (L8_late_20 64 (nI x) (F8_codeNow m1) 0 0 m1).2.2 c = m1 c := i4
    have x5 : ∀ j, 33 ≤ j → (L8_late_20 64 (nI x) (F8_codeNow m1) 0 0 m1).2.2 75 j = m1 75 j := i5
    generalize (L8_late_20 64 (nI x) (F8_codeNow m1) 0 0 m1).2.2 = m2 at x3 x4 x5
    rw [d2] at i1' ⊢
    obtain ⟨s1, s2, s3, s4⟩ := z8_stands hw hT.v (h8'.e.k x4) x3 i3
    refine ⟨fun _ => ⟨d1, i1', s1⟩, rfl, ?_⟩
    exact zI.step hT h7' (fun c hc => (s3 c (by omega)).trans (x4 c (by omega))) (h8'.np hw s2 (fun c hc => (s3 c hc).trans (x4 c hc)) (fun j hj => (s4 j hj).trans (x5 j hj)))
end ZL
