/-! PURE: what a pair costs, in both -/
noncomputable def zwc (s : zS) (P : zP) (b : Nat) (hv : Bool) (p q : Nat) : Option Nat := if zgo1 s P b p q = true then (if hv = true then (zbal (zlo s P b p q)).map (fun x => x.1 + x.2) else if zlev s P b p q 0 0 = true then some 0 else none) else none
noncomputable def zcb (s : zS) (P : zP) (b wo : Nat) (hv : Bool) (p q : Nat) : Option Nat := if zFi s P b wo 2 p = true ∧ zSe s P b wo 2 q = true then zwc s P b hv p q else none
section ZV1
variable {m m0 : ax_M} {g : Nat} {s : zS} {P : zP} {b p q : Nat}
theorem zFi2 {wo : Nat} : zFi s P b wo 2 p = true ↔ p < s.no ∧ zerr P wo (s.fs b) (s.sc b) p = true := by
  unfold zFi; simp
theorem zSe2 {wo : Nat} : zSe s P b wo 2 p = true ↔ p < s.no ∧ zerr P wo (s.sc b) (s.fs b) p = true := by
  unfold zSe; simp
theorem zerr0 {x y : Nat} : zerr P 0 x y p = true ↔ P.bk p = x ∧ P.gl p = y := by
  unfold zerr; rw [Nat.zero_testBit]; simp
theorem zcb_6 {wo : Nat} {hv : Bool} (hz : ∀ p q, p < s.no → q < s.no → zmn (zlo s P b p q) (zbal (zlo s P b p q))) : ∀ p q x, zcb s P b wo hv p q = some x → x ≤ 6 := fun p q x h => by
  unfold zcb at h
  split at h
  · rename_i h1
    have hp := (zFi2.mp h1.1).1
    have hq := (zSe2.mp h1.2).1
    unfold zwc at h
    split at h
    · split at h
      · rcases hz p q hp hq with ⟨e, _⟩ | ⟨i, j, e, o, _⟩
        · rw [e] at h; cases h
        · have := zlo_le o
          rw [e] at h
          simp only [Option.map_some, Option.some.injEq] at h
          omega
      · split at h
        · cases h; omega
        · cases h
    · cases h
  · cases h
/-- the class's cost of two -/
theorem z7_es {hv : Bool} (hs : zW s) (hP : zV s P) (hG : zG m g s P) (hb : b < s.ng) (hp : p < 7) (hq : q < 7) : D1_errandStones g (nI b) (nI p) (nI q) (zb hv) m ∧ F1_errandStones g (nI b) (nI p) (nI q) (zb hv) m = zeo (zcb s P b 0 hv p q) := by
  have n6 := hs.no6
  have n4 := hs.nb4
  unfold D1_errandStones F1_errandStones
  rw [z7_hasOne hs hG, z7_hasOne hs hG]
  by_cases hp' : p < s.no
  · rw [zin_i hp' (by omega)]
    by_cases hq' : q < s.no
    · rw [zin_i hq' (by omega), z7_pair hs hP hG hb hp' hq', z7_goal hs hG hp', z7_goal hs hG hq', z7_first hs hG hb, z7_second hs hG hb, z7_exile hs hP hG hb hp' hq', show F1_isLevel g (nI b) (nI p) (nI q) 0 0 m = _ from z7_level (i := 0) (j := 0) hs hP hG hb hp' hq' (by omega) (by omega)]
      obtain ⟨l1, l2, l3⟩ := z7_load hs hP hG hb hp' hq'
      have g1 := hP.gl hp'
      have g2 := hP.gl hq'
      have f1 := hs.fs hb
      have f2 := hs.sc hb
      have f3 := hs.ne hb
      have c1 : (nI (P.gl p) = nI (s.sc b)) ↔ P.gl p = s.sc b := z_neq (by omega) (by omega)
      have c2 : (nI (P.gl q) = nI (s.fs b)) ↔ P.gl q = s.fs b := z_neq (by omega) (by omega)
      refine ⟨fun _ _ _ _ _ _ _ => l1, ?_⟩
      rw [if_neg (show ¬ zb true = 0 by decide), if_neg (show ¬ zb true = 0 by decide), l2]
      simp only [c1, c2]
      have hfi : (zFi s P b 0 2 p = true ∧ zSe s P b 0 2 q = true) ↔ ((P.bk p = s.fs b ∧ P.bk q = s.sc b) ∧ P.gl p = s.sc b ∧ P.gl q = s.fs b) := by
        rw [zFi2, zSe2, zerr0, zerr0]
        exact ⟨fun h => ⟨⟨h.1.2.1, h.2.2.1⟩, h.1.2.2, h.2.2.2⟩, fun h => ⟨⟨hp', h.1.1, h.2.1⟩, ⟨hq', h.1.2, h.2.2⟩⟩⟩
      unfold zcb
      by_cases e1 : P.bk p = s.fs b ∧ P.bk q = s.sc b
      · have e1' : (decide (p ≠ q) && zpair s P b p q) = true := by
          unfold zpair
          rw [decide_eq_true e1, Bool.and_true, decide_eq_true_eq]
          intro w
          rw [w] at e1
          exact f3 (e1.1.symm.trans e1.2)
        rw [e1', if_neg (show ¬ zb true = 0 by decide)]
        by_cases e2 : P.gl p = s.sc b
        · rw [if_pos e2]
          by_cases e3 : P.gl q = s.fs b
          · rw [if_pos e3, if_pos (hfi.mpr ⟨e1, e2, e3⟩)]
            unfold zwc
            cases zgo1 s P b p q with
            | false => rw [if_neg (show ¬ zb (!false) = 0 by decide), if_neg (by simp)]; rfl
            | true =>
              rw [if_pos (show zb (!true) = 0 from rfl), if_pos rfl]
              cases hv with
              | false =>
                rw [if_pos (show zb false = 0 from rfl)]
                cases zlev s P b p q 0 0 <;> rfl
              | true =>
                rw [if_neg (show ¬ zb true = 0 by decide), if_pos rfl]
                rcases l3 with ⟨e, _⟩ | ⟨i, j, e, o, _⟩
                · rw [e, if_neg (show ¬ (0 : Int32) ≤ zen7 none by decide)]; rfl
                · have := zlo_le o
                  rw [e, if_pos (show (0 : Int32) ≤ zen7 (some (i, j)) from z_let (a := 0) (b := 10 * i + j) (by omega) (by omega))]
                  show nI (10 * i + j) / 10 + (nI (10 * i + j) - nI (10 * i + j) / 10 * 10) = nI (i + j)
                  rw [z_lit 10, pk_rem (by omega) (by omega) (by omega), pk_div (by omega) (by omega) (by omega), nI_add]
                  congr 1; omega
          · rw [if_neg e3, if_neg (fun w => e3 (hfi.mp w).2.2)]; rfl
        · rw [if_neg e2, if_neg (fun w => e2 (hfi.mp w).2.1)]; rfl
      · have e1' : (decide (p ≠ q) && zpair s P b p q) = false := by
          unfold zpair
          rw [decide_eq_false e1, Bool.and_false]
        rw [e1', if_pos (show zb false = 0 from rfl), if_neg (fun w => e1 (hfi.mp w).1)]; rfl
    · have hz : zin (nI q) s.no = false := by
        cases w : zin (nI q) s.no with
        | false => rfl
        | true => obtain ⟨i, h1, h2⟩ := zin_t w (by omega); rw [z_neq (by omega) (by omega)] at h2; omega
      rw [hz, if_neg (show ¬ zb true = 0 by decide), if_pos (show zb false = 0 from rfl)]
      refine ⟨fun _ w => absurd rfl w, ?_⟩
      unfold zcb
      rw [if_neg (fun w => hq' (zSe2.mp w.2).1)]; rfl
  · have hz : zin (nI p) s.no = false := by
      cases w : zin (nI p) s.no with
      | false => rfl
      | true => obtain ⟨i, h1, h2⟩ := zin_t w (by omega); rw [z_neq (by omega) (by omega)] at h2; omega
    rw [hz, if_pos (show zb false = 0 from rfl)]
    refine ⟨fun w => absurd rfl w, ?_⟩
    unfold zcb
    rw [if_neg (fun w => hp' (zFi2.mp w.1).1)]; rfl
theorem z2_g13 {hv : Bool} (hs : zW s) (hP : zV s P) (hb : b < s.ng) (hp : p < 7) : ∀ n q m, q ≤ 7 → 7 - q < n → zG m 1 s P → E2_gather_13 1 n (nI b) (zb hv) (nI p) (nI q) m ∧ (∀ d, d ≠ 56 → (L2_gather_13 1 n (nI b) (zb hv) (nI p) (nI q) m).2 d = m d) ∧ (∀ i, (i < p * 7 + q ∨ p * 7 + 7 ≤ i) → (L2_gather_13 1 n (nI b) (zb hv) (nI p) (nI q) m).2 56 i = m 56 i) ∧ (∀ q', q ≤ q' → q' < 7 → (L2_gather_13 1 n (nI b) (zb hv) (nI p) (nI q) m).2 56 (p * 7 + q') = zeo (zcb s P b 0 hv p q')) := by
  intro n
  induction n with
  | zero => intro q m _ h; omega
  | succ n ih =>
    intro q m hq hn hG
    unfold E2_gather_13 L2_gather_13
    by_cases e : q = 7
    · subst e
      rw [if_pos (show (7 : Int32) ≤ nI 7 by decide)]
      exact ⟨fun w => absurd (show (7 : Int32) ≤ nI 7 by decide) w, fun _ _ => rfl, fun _ _ => rfl, fun q' h1 h2 => by omega⟩
    · have hlt : ¬ (7 : Int32) ≤ nI q := z_lef (a := 7) (by omega) (by omega)
      obtain ⟨d1, d2⟩ := z7_es (hv := hv) hs hP hG hb hp (show q < 7 by omega)
      rw [if_neg hlt, d2, show nI p * 7 + nI q = nI (p * 7 + q) by rw [z_lit 7, pk_mul, nI_add], z_put (by omega) (by omega), nI_1]
      obtain ⟨i1, i2, i3, i4⟩ := ih (q + 1) (ax_up m 56 (p * 7 + q) (zeo (zcb s P b 0 hv p q))) (by omega) (by omega) (hG.same (fun c _ _ => z_upr (by omega)))
      refine ⟨fun _ => ⟨d1, i1⟩, fun d hd => by rw [i2 d hd, z_upr hd], fun i hi => by rw [i3 i (by omega), z_up, if_neg (by omega)], fun q' h1 h2 => ?_⟩
      by_cases w : q' = q
      · rw [w, i3 _ (by omega), z_up, if_pos ⟨rfl, rfl⟩]
      · exact i4 q' (by omega) h2
theorem z2_g3 {hv : Bool} (hs : zW s) (hP : zV s P) (hb : b < s.ng) : ∀ n p m, p ≤ 7 → 7 - p < n → zG m 1 s P → E2_gather_3 1 n (nI b) (zb hv) (nI p) m ∧ (∀ d, d ≠ 56 → (L2_gather_3 1 n (nI b) (zb hv) (nI p) m).2 d = m d) ∧ (∀ i, i < p * 7 → (L2_gather_3 1 n (nI b) (zb hv) (nI p) m).2 56 i = m 56 i) ∧ (∀ p' q', p ≤ p' → p' < 7 → q' < 7 → (L2_gather_3 1 n (nI b) (zb hv) (nI p) m).2 56 (p' * 7 + q') = zeo (zcb s P b 0 hv p' q')) := by
  intro n
  induction n with
  | zero => intro q m _ h; omega
  | succ n ih =>
    intro p m hp hn hG
    unfold E2_gather_3 L2_gather_3
    by_cases e : p = 7
    · subst e
      rw [if_pos (show (7 : Int32) ≤ nI 7 by decide)]
      exact ⟨fun w => absurd (show (7 : Int32) ≤ nI 7 by decide) w, fun _ _ => rfl, fun _ _ => rfl, fun p' q' h1 h2 => by omega⟩
    · have hlt : ¬ (7 : Int32) ≤ nI p := z_lef (a := 7) (by omega) (by omega)
      obtain ⟨d1, d2, d3, d4⟩ := z2_g13 (hv := hv) hs hP hb (show p < 7 by omega) 64 0 m (by omega) (by omega) hG
      rw [show nI 0 = (0 : Int32) from rfl] at d1 d2 d3 d4
      rw [if_neg hlt, nI_1]
      generalize (L2_gather_13 1 64 (nI b) (zb hv) (nI p) 0 m).2 = m1 at *
      obtain ⟨i1, i2, i3, i4⟩ := ih (p + 1) m1 (by omega) (by omega) (hG.same (fun c _ _ => d2 c (by omega)))
      refine ⟨fun _ => ⟨d1, i1⟩, fun d hd => by rw [i2 d hd, d2 d hd], fun i hi => by rw [i3 i (by omega), d3 i (by omega)], fun p' q' h1 h2 h3 => ?_⟩
      by_cases w : p' = p
      · rw [w, i3 _ (by omega), d4 q' (by omega) h3]
      · exact i4 p' q' (by omega) h2 h3
theorem z2_gather {hv : Bool} (hs : zW s) (hP : zV s P) (hG : zG m 1 s P) (hb : b < s.ng) : D2_gather 1 (nI b) (zb hv) m ∧ (∀ d, d ≠ 56 → F2_gather 1 (nI b) (zb hv) m d = m d) ∧ zC56 (F2_gather 1 (nI b) (zb hv) m) (zcb s P b 0 hv) := by
  obtain ⟨d1, d2, d3, d4⟩ := z2_g3 (hv := hv) hs hP hb 64 0 m (by omega) (by omega) hG
  exact ⟨d1, d2, fun p q hp hq => d4 p q (by omega) hp hq⟩
theorem z2_lv {c : Nat → Nat → Option Nat} {x : Nat} (hx : x < 7) : ∀ n y m, y ≤ 7 → 7 - y < n → zC56 m (fun p q => if (p = x ∧ q < y) ∨ (q = x ∧ p < y) then none else c p q) → E2_leaveOut_2 n (nI x) (nI y) m ∧ (∀ d, d ≠ 56 → (L2_leaveOut_2 n (nI x) (nI y) m).2 d = m d) ∧ zC56 (L2_leaveOut_2 n (nI x) (nI y) m).2 (fun p q => if p = x ∨ q = x then none else c p q) := by
  intro n
  induction n with
  | zero => intro q m _ h; omega
  | succ n ih =>
    intro y m hy hn h56
    unfold E2_leaveOut_2 L2_leaveOut_2
    by_cases e : y = 7
    · subst e
      rw [if_pos (show (7 : Int32) ≤ nI 7 by decide)]
      refine ⟨fun w => absurd (show (7 : Int32) ≤ nI 7 by decide) w, fun _ _ => rfl, fun p q hp hq => ?_⟩
      refine (h56 p q hp hq).trans ?_
      dsimp only
      by_cases w : p = x ∨ q = x
      · rw [if_pos w, if_pos (by omega)]
      · rw [if_neg w, if_neg (by omega)]
    · have hlt : ¬ (7 : Int32) ≤ nI y := z_lef (a := 7) (by omega) (by omega)
      rw [if_neg hlt, show nI x * 7 + nI y = nI (x * 7 + y) by rw [z_lit 7, pk_mul, nI_add], show nI y * 7 + nI x = nI (y * 7 + x) by rw [z_lit 7, pk_mul, nI_add], z_put (by omega) (by omega), z_put (by omega) (by omega), nI_1]
      obtain ⟨i1, i2, i3⟩ := ih (y + 1) (ax_up (ax_up m 56 (x * 7 + y) (-1)) 56 (y * 7 + x) (-1)) (by omega) (by omega) (fun p q hp hq => by
        rw [z_up, z_up]
        dsimp only
        by_cases w1 : p = y ∧ q = x
        · rw [if_pos ⟨rfl, by rw [w1.1, w1.2]⟩, if_pos (by omega)]; rfl
        · rw [if_neg (by omega)]
          by_cases w2 : p = x ∧ q = y
          · rw [if_pos ⟨rfl, by rw [w2.1, w2.2]⟩, if_pos (by omega)]; rfl
          · rw [if_neg (by omega), h56 p q hp hq]
            dsimp only
            by_cases w : (p = x ∧ q < y) ∨ (q = x ∧ p < y)
            · rw [if_pos w, if_pos (by omega)]
            · rw [if_neg w, if_neg (by omega)])
      exact ⟨fun _ => i1, fun d hd => by rw [i2 d hd, z_upr hd, z_upr hd], i3⟩
theorem z2_leave {hv : Bool} {x : Nat} (hx : x < 7) (h56 : zC56 m (zcb s P b 0 hv)) : D2_leaveOut (nI x) m ∧ (∀ d, d ≠ 56 → F2_leaveOut (nI x) m d = m d) ∧ zC56 (F2_leaveOut (nI x) m) (zcb s P b (2 ^ x) hv) := by
  obtain ⟨d1, d2, d3⟩ := z2_lv (c := zcb s P b 0 hv) hx 64 0 m (by omega) (by omega) (fun p q hp hq => by rw [h56 p q hp hq]; dsimp only; rw [if_neg (by omega)])
  refine ⟨d1, d2, fun p q hp hq => (d3 p q hp hq).trans ?_⟩
  congr 1
  have ez : ∀ y z r, zerr P (2 ^ x) y z r = true ↔ (r ≠ x ∧ zerr P 0 y z r = true) := fun y z r => by
    rw [zerr0]; unfold zerr
    rw [Nat.testBit_two_pow]
    simp only [Bool.and_eq_true, Bool.not_eq_true', decide_eq_false_iff_not, decide_eq_true_eq]
    exact ⟨fun h => ⟨fun w => h.1 w.symm, h.2⟩, fun h => ⟨fun w => h.1 w.symm, h.2⟩⟩
  unfold zcb
  simp only [zFi2, zSe2, ez]
  by_cases w : p = x ∨ q = x
  · rw [if_pos w, if_neg]
    rintro ⟨⟨_, h1, _⟩, _, h2, _⟩
    omega
  · rw [if_neg w]
    by_cases w2 : (p < s.no ∧ zerr P 0 (s.fs b) (s.sc b) p = true) ∧ q < s.no ∧ zerr P 0 (s.sc b) (s.fs b) q = true
    · rw [if_pos w2, if_pos ⟨⟨w2.1.1, by omega, w2.1.2⟩, w2.2.1, by omega, w2.2.2⟩]
    · rw [if_neg w2, if_neg]
      rintro ⟨⟨h1, _, h2⟩, h3, _, h4⟩
      exact w2 ⟨⟨h1, h2⟩, h3, h4⟩
/-- the reference's worth of two that are people -/
theorem z8_wo {hv : Bool} (hs : zW s) (hP : zV s P) (hE : zE m s) (hQ : zQ m 0 s P) (hb : b < s.ng) (hp : p < s.no) (hq : q < s.no) (hz : zmn (zlo s P b p q) (zbal (zlo s P b p q))) : D8_worthOf (nI b) (nI p) (nI q) (zb hv) m ∧ F8_worthOf (nI b) (nI p) (nI q) (zb hv) m = zew (zwc s P b hv p q) := by
  obtain ⟨r1, r2⟩ := z8_bal hs hP hE hQ hb hp hq
  unfold D8_worthOf F8_worthOf
  rw [z8_may hs hP hE hQ hb hp hq, show F8_isLevel (nI b) (nI p) (nI q) 0 0 m = _ from z8_level (i := 0) (j := 0) hs hP hE hQ hb hp hq (by omega) (by omega), r2]
  refine ⟨⟨z8_dmay hs hb hp hq, fun _ => ⟨fun _ => z8_dlevel hs hb hp hq, fun _ => r1⟩⟩, ?_⟩
  unfold zwc
  cases zgo1 s P b p q with
  | false => rw [if_pos (show zb false = 0 from rfl), if_neg (by simp)]; rfl
  | true =>
    rw [if_neg (show ¬ zb true = 0 by decide), if_pos rfl]
    cases hv with
    | false =>
      rw [if_pos (show zb false = 0 from rfl), if_neg (show ¬ false = true by simp)]
      cases zlev s P b p q 0 0 with
      | false => rfl
      | true => rfl
    | true =>
      rw [if_neg (show ¬ zb true = 0 by decide), if_pos rfl]
      rcases hz with ⟨e, _⟩ | ⟨i, j, e, o, _⟩
      · rw [e]; rfl
      · have := zlo_le o
        rw [e]
        have hne : ¬ zen8 (some (i, j)) = -4 := fun w => by
          have := z_eq.mp w
          rw [show zen8 (some (i, j)) = nI (10 * i + j) from rfl, z_nti (by omega)] at this
          have h4 : (-4 : Int32).toInt = -4 := rfl
          omega
        rw [if_neg hne]
        show 1000 - nI (10 * i + j) / 10 - (nI (10 * i + j) - nI (10 * i + j) / 10 * 10) = nI (1000 - (i + j))
        rw [z_lit 10, pk_rem (by omega) (by omega) (by omega), pk_div (by omega) (by omega) (by omega), z_lit 1000, pk_sub (by omega), pk_sub (by omega)]
        congr 1; omega
theorem zHw_b {wo : Nat} {hv : Bool} (hs : zW s) (hP : zV s P) (hE : zE m s) (hQ : zQ m 0 s P) (hb : b < s.ng) (hz : ∀ p q, p < s.no → q < s.no → zmn (zlo s P b p q) (zbal (zlo s P b p q))) : zHw m (zcb s P b wo hv) ((List.range 7).filter (zFi s P b wo 2)) (zbits (zSe s P b wo 2) 7) (nI b) (zb hv) := fun m' hK p q hp hq hS => by
  have h1 := (List.mem_filter.mp hp).2
  rw [zbits_tb, Bool.and_eq_true] at hS
  have hp' := (zFi2.mp h1).1
  have hq' := (zSe2.mp hS.2).1
  have := z8_wo (hv := hv) hs hP (hK.e hE) (hK.qq hQ) hb hp' hq' (hz p q hp' hq')
  refine ⟨this.1, this.2.trans ?_⟩
  unfold zcb
  rw [if_pos ⟨h1, hS.2⟩]
theorem zcb_S {wo : Nat} {hv : Bool} (hs : zW s) : ∀ p q, zFi s P b wo 2 p = true → (zbits (zSe s P b wo 2) 7).testBit q = false → zcb s P b wo hv p q = none := fun p q _ h => by
  have n6 := hs.no6
  unfold zcb
  rw [if_neg]
  rintro ⟨_, h2⟩
  have h3 := (zSe2.mp h2).1
  rw [zbits_tb, h2, Bool.and_true, decide_eq_false_iff_not] at h
  omega
end ZV1
