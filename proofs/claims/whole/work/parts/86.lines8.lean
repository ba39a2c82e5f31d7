/-! PURE: the reference's lines: heap, bridge, one, meet -/
section ZO2
variable {m m0 : ax_M} {d : Nat → Nat} {n i p0 : Nat} {D : zD}
theorem z8B.o {f a : Nat} (h : z8B m f a) (hX : z8X m0 m) : z8O m0 d n m (Sum.inl (f, a)) := ⟨h.1, h.2.1, h.2.2.1, h.2.2.2, hX⟩
theorem z8B.f {f a : Nat} {m' : ax_M} (h : z8B m f a) (e : ∀ j, 24 ≤ j → j ≤ 25 → m' 74 j = m 74 j) : z8B m' f a := ⟨by rw [e 24 (by omega) (by omega)]; exact h.1, by rw [e 25 (by omega) (by omega)]; exact h.2.1, h.2.2⟩
/-- a place to write to that the draft does not speak of -/
theorem z8d.x {c j : Nat} {x : Int32} (h : z8d m D) (hW : zDW D) (hc : (c = 78 ∧ (4 * D.s.no ≤ j ∧ j < 24)) ∨ (c = 78 ∧ 28 + D.s.ng ≤ j ∧ j < 32) ∨ (c = 79 ∧ 2 * D.s.ng ≤ j) ∨ (c = 80 ∧ 3 * D.dn ≤ j) ∨ (c = 74 ∧ 18 ≤ j ∧ j ≤ 20)) : z8d (ax_up m c j x) D := by
  obtain ⟨⟨q11, q12, q13, q14, q15, q16⟩, q17, ⟨z1, z2, z3, z4, z5, z6, z7⟩, qE, qY⟩ := h
  have hg := hW.1.2.2.1
  have ho := hW.1.2.2.2.1
  have e74 : ∀ k, 11 ≤ k → k ≤ 17 → ax_up m c j x 74 k = m 74 k := fun k k1 k2 => by rw [z_up, if_neg (by omega)]
  have e78 : ∀ k, (k < 4 * D.s.no ∨ (24 ≤ k ∧ k < 28 + D.s.ng) ∨ k = 32) → ax_up m c j x 78 k = m 78 k := fun k hk => by rw [z_up, if_neg (by omega)]
  refine ⟨⟨by rw [e74 11 (by omega) (by omega)]; exact q11, by rw [e74 12 (by omega) (by omega)]; exact q12, by rw [e74 13 (by omega) (by omega)]; exact q13, by rw [e74 14 (by omega) (by omega)]; exact q14, by rw [e74 15 (by omega) (by omega)]; exact q15, by rw [e74 16 (by omega) (by omega)]; exact q16⟩, by rw [e74 17 (by omega) (by omega)]; exact q17, ⟨?_, fun k hk => ?_, fun k hk => ?_, fun k hk => ?_, fun k hk => ?_, fun k hk => ?_, fun k hk => ?_⟩, fun b hb => ?_, fun k hk => ?_⟩
  · show ax_up m c j x 78 (0 + 32) = _; rw [e78 _ (by omega)]; exact z1
  · show ax_up m c j x 78 (0 + (24 + k)) = _; rw [e78 _ (by omega)]; exact z2 k hk
  · show ax_up m c j x 78 (0 + (28 + k)) = _; rw [e78 _ (by omega)]; exact z3 k hk
  · show ax_up m c j x 78 (0 + 4 * k) = _; rw [e78 _ (by omega)]; exact z4 k hk
  · show ax_up m c j x 78 (0 + (4 * k + 1)) = _; rw [e78 _ (by omega)]; exact z5 k hk
  · show ax_up m c j x 78 (0 + (4 * k + 2)) = _; rw [e78 _ (by omega)]; exact z6 k hk
  · show ax_up m c j x 78 (0 + (4 * k + 3)) = _; rw [e78 _ (by omega)]; exact z7 k hk
  · rw [z_up, if_neg (by omega), z_up, if_neg (by omega)]; exact qE b hb
  · rw [z_up, if_neg (by omega)]; exact qY k hk
theorem z8_heap (hW : zDW D) (hn : n ≤ 320) (hd : ∀ i, i < n → d i < 256) (hi' : i ≤ n) (hQ : z8Q m0 d n D m) (hP : z8P m p0 i) : (D8_step m ∧ D8_bank ((F8_step m) 74 17) (F8_step m) ∧ D8_other 1 20 0 (ax_up (F8_bank ((F8_step m) 74 17) (F8_step m)).2 74 17 (((F8_bank ((F8_step m) 74 17) (F8_step m)).2 74 17) ||| ((1 : Int32) <<< (((F8_bank ((F8_step m) 74 17) (F8_step m)).1) &&& (31 : Int32))))) ∧ vp_in (24 + ((F8_bank ((F8_step m) 74 17) (F8_step m)).1)) 33) ∧ z8O m0 d n (ax_up (F8_other 1 20 0 (ax_up (F8_bank ((F8_step m) 74 17) (F8_step m)).2 74 17 (((F8_bank ((F8_step m) 74 17) (F8_step m)).2 74 17) ||| ((1 : Int32) <<< (((F8_bank ((F8_step m) 74 17) (F8_step m)).1) &&& (31 : Int32)))))).2 78 (Int32.toNatClampNeg (24 + ((F8_bank ((F8_step m) 74 17) (F8_step m)).1))) ((F8_other 1 20 0 (ax_up (F8_bank ((F8_step m) 74 17) (F8_step m)).2 74 17 (((F8_bank ((F8_step m) 74 17) (F8_step m)).2 74 17) ||| ((1 : Int32) <<< (((F8_bank ((F8_step m) 74 17) (F8_step m)).1) &&& (31 : Int32)))))).1)) (zlH d n D p0 i (fun D e => Sum.inr (D, e))) := by
  obtain ⟨hD, ⟨hb, hg, ho, hH, nB, nG, nO⟩, hT, hN, hX⟩ := hQ
  obtain ⟨s1, s2, s3⟩ := z8_step hn hd hT hP.1 hP.2.2 hi'
  have G1 := s2.gg
  generalize F8_step m = m1 at *
  have D1 := G1.dd hD
  have T1 := s2.t hT
  have X1 := G1.x hX
  have H1 : z8h m1 hb hg ho := ⟨by rw [s2.2 18 (by omega)]; exact hH.1, by rw [s2.2 19 (by omega)]; exact hH.2.1, by rw [s2.2 20 (by omega)]; exact hH.2.2.1, hH.2.2.2⟩
  obtain ⟨H, h17, hH16, hHb⟩ := D1.2.1
  have hbit : ∀ v, H.testBit v = true → v < 4 := fun v hv => by
    apply Classical.byContradiction
    intro w
    have : H.testBit v = false := Nat.testBit_lt_two_pow (Nat.lt_of_lt_of_le hH16 (show 2 ^ 4 ≤ 2 ^ v from Nat.pow_le_pow_right (by decide) (by omega)))
    rw [this] at hv; cases hv
  rw [h17]
  have t := z8_bk (m := m1) (m0 := m0) (S := H) (κ := fun x M => ax_up (F8_other 1 20 0 (ax_up M 74 17 ((M 74 17) ||| ((1 : Int32) <<< (x &&& (31 : Int32)))))).2 78 (Int32.toNatClampNeg (24 + x)) ((F8_other 1 20 0 (ax_up M 74 17 ((M 74 17) ||| ((1 : Int32) <<< (x &&& (31 : Int32)))))).1)) (δ := fun x M => D8_other 1 20 0 (ax_up M 74 17 ((M 74 17) ||| ((1 : Int32) <<< (x &&& (31 : Int32))))) ∧ vp_in (24 + x) 33) (k := fun b a e => if 0 < D.P.hp b then Sum.inl (4, a) else zbN d n 1 20 e (fun v _ e2 => Sum.inr (D.heap b v, e2))) hn hd (by omega) hi' T1 s3 H1 (fun M f a hG hB => by
      have B2 := hB.up (c := 74) (j := 17) (x := (M 74 17) ||| ((1 : Int32) <<< (nI 0 &&& (31 : Int32)))) (by omega)
      obtain ⟨o1, o2⟩ := B2.ot (lo := 1) (hi := 20) (S := 0)
      refine ⟨⟨o1, z_vp (a := 24) (by omega) (by omega)⟩, ?_⟩
      rw [o2]
      exact (B2.up (by omega)).o (((hG.x X1).up (by omega)).up (by omega))) (fun v a e _ hv => by
      have h4 := hbit v hv
      rw [hHb v h4, decide_eq_true_eq] at hv
      rw [if_pos hv]) (fun b a e M hb3 hnb he hG hS' hh => by
      have hz : ¬ 0 < D.P.hp b := fun w => hnb ⟨by omega, by rw [hHb b (by omega)]; exact decide_eq_true w⟩
      have e17 : M 74 17 = nI H := by rw [hG.2 17 (by omega) (by omega)]; exact h17
      have hor : H ||| 2 ^ b < 16 := Nat.or_lt_two_pow (n := 4) hH16 (Nat.pow_lt_pow_right (by decide) (by omega))
      rw [if_neg hz, e17, z_tor (by omega), show 24 + nI b = nI (24 + b) by rw [z_lit 24, nI_add], z_ncl (by omega)]
      generalize hM2 : ax_up M 74 17 (nI (H ||| 2 ^ b)) = M2
      have S2 : z8S M2 d n e := by rw [← hM2]; exact hS'.up (by omega)
      have T2 : z8T M2 n d := by rw [← hM2]; exact (hG.t T1).x (by omega)
      have N2 : z8N M2 := by rw [← hM2]; exact (hG.nn (G1.nn hN)).x (by omega)
      have X2 : z8X m0 M2 := by rw [← hM2]; exact (hG.x X1).up (by omega)
      have ne17 : ∀ j, j ≠ 17 → M2 74 j = M 74 j := fun j hj => by rw [← hM2, z_up, if_neg (by omega)]
      have e17' : M2 74 17 = nI (H ||| 2 ^ b) := by rw [← hM2, z_up, if_pos ⟨rfl, rfl⟩]
      have ne74 : ∀ c, c ≠ 74 → M2 c = M c := fun c hc => by rw [← hM2, z_upr hc]
      have DM := hG.dd D1
      have t := z8_bN (m := M2) (m0 := m0) (lo := 1) (hi := 20) (S := 0) (κ := fun x M => ax_up M 78 (24 + b) x) (δ := fun _ _ => True) (k := fun v _ e2 => Sum.inr (D.heap b v, e2)) hn hd (by omega) (by omega) (by omega) he T2 S2 (fun M f a hF hB => ⟨trivial, (hB.up (by omega)).o ((hF.gg.x X2).up (by omega))⟩) (fun v a e _ hv => by rw [Nat.zero_testBit] at hv; cases hv) (fun v a e M3 hv1 hv2 _ he hF hS3 => ⟨trivial, by
        obtain ⟨⟨q11, q12, q13, q14, q15, q16⟩, q17, ⟨z1, z2, z3, z4, z5, z6, z7⟩, qE, qY⟩ := DM
        have sl : ∀ j, j ≠ 17 → (j < 24 ∨ 29 < j) → (ax_up M3 78 (24 + b) (nI v)) 74 j = M 74 j := fun j j1 j2 => by rw [z_upr (by omega), hF.2 j j2, ne17 j j1]
        have hc : ∀ c, c ≠ 74 → c ≠ 78 → (ax_up M3 78 (24 + b) (nI v)) c = M c := fun c c1 c2 => by rw [z_upr c2, hF.1 c c1, ne74 c c1]
        have pg : ∀ j, (ax_up M3 78 (24 + b) (nI v)) 78 j = if j = 24 + b then nI v else M 78 j := fun j => by
          rw [z_up]
          by_cases w : j = 24 + b
          · rw [if_pos ⟨rfl, w⟩, if_pos w]
          · rw [if_neg (fun x => w x.2), if_neg w, hF.1 78 (by omega), ne74 78 (by omega)]
        have hpS : ∀ k, (D.heap b v).P.hp k = if k = b then v else D.P.hp k := fun k => by
          show (if 1 = 1 ∧ k = b then v else D.P 1 k) = _
          by_cases w : k = b
          · rw [if_pos ⟨rfl, w⟩, if_pos w]
          · rw [if_neg (fun x => w x.2), if_neg w]; rfl
        have ho6 := hW.1.2.2.2.1
        refine ⟨⟨⟨?_, ?_, ?_, ?_, ?_, ?_⟩, ⟨H ||| 2 ^ b, ?_, hor, fun k hk => ?_⟩, ⟨?_, fun k hk => ?_, fun k hk => ?_, fun k hk => ?_, fun k hk => ?_, fun k hk => ?_, fun k hk => ?_⟩, ?_, ?_⟩, ⟨zmx hb b, hg, ho, ⟨?_, ?_, ?_, hh.2.2.2⟩, zmx_h nB (fun x => ?_), nG, nO⟩, (hF.t T2).x (by omega), (hF.gg.nn N2).x (by omega), (hF.gg.x X2).up (by omega), hS3.up (by omega), he⟩
        · rw [sl 11 (by omega) (by omega)]; exact q11
        · rw [sl 12 (by omega) (by omega)]; exact q12
        · rw [sl 13 (by omega) (by omega)]; exact q13
        · rw [sl 14 (by omega) (by omega)]; exact q14
        · rw [sl 15 (by omega) (by omega)]; exact q15
        · rw [sl 16 (by omega) (by omega)]; exact q16
        · rw [z_upr (by omega), hF.2 17 (by omega), e17']
        · rw [Nat.testBit_or, Nat.testBit_two_pow, hHb k hk, hpS k]
          by_cases w : k = b
          · rw [if_pos w, decide_eq_true (show b = k by omega), decide_eq_true (show 0 < v by omega), Bool.or_true]
          · rw [if_neg w, decide_eq_false (show ¬ b = k by omega), Bool.or_false]
        · show (ax_up M3 78 (24 + b) (nI v)) 78 (0 + 32) = _; rw [pg, if_neg (by omega)]; exact z1
        · show (ax_up M3 78 (24 + b) (nI v)) 78 (0 + (24 + k)) = _
          rw [pg, hpS k]
          by_cases w : k = b
          · rw [if_pos (by omega), if_pos w]
          · rw [if_neg (by omega), if_neg w]; exact z2 k hk
        · show (ax_up M3 78 (24 + b) (nI v)) 78 (0 + (28 + k)) = _; rw [pg, if_neg (by omega)]; exact z3 k hk
        · have hk' : k < D.s.no := hk
          show (ax_up M3 78 (24 + b) (nI v)) 78 (0 + 4 * k) = _; rw [pg, if_neg (by omega)]; exact z4 k hk
        · have hk' : k < D.s.no := hk
          show (ax_up M3 78 (24 + b) (nI v)) 78 (0 + (4 * k + 1)) = _; rw [pg, if_neg (by omega)]; exact z5 k hk
        · have hk' : k < D.s.no := hk
          show (ax_up M3 78 (24 + b) (nI v)) 78 (0 + (4 * k + 2)) = _; rw [pg, if_neg (by omega)]; exact z6 k hk
        · have hk' : k < D.s.no := hk
          show (ax_up M3 78 (24 + b) (nI v)) 78 (0 + (4 * k + 3)) = _; rw [pg, if_neg (by omega)]; exact z7 k hk
        · rw [hc 79 (by omega) (by omega)]; exact qE
        · rw [hc 80 (by omega) (by omega)]; exact qY
        · rw [sl 18 (by omega) (by omega)]; exact hh.1
        · rw [sl 19 (by omega) (by omega)]; exact hh.2.1
        · rw [sl 20 (by omega) (by omega)]; exact hh.2.2.1
        · unfold zNB
          rw [hpS x]
          constructor
          · rintro (⟨y1, y2⟩ | y | y)
            · by_cases w : x = b
              · exact Or.inr w
              · rw [if_neg w] at y2; exact Or.inl (Or.inl ⟨y1, y2⟩)
            · exact Or.inl (Or.inr (Or.inl y))
            · exact Or.inl (Or.inr (Or.inr y))
          · rintro ((⟨y1, y2⟩ | y | y) | y)
            · refine Or.inl ⟨y1, ?_⟩
              by_cases w : x = b
              · rw [if_pos w]; omega
              · rw [if_neg w]; exact y2
            · exact Or.inr (Or.inl y)
            · exact Or.inr (Or.inr y)
            · exact Or.inl ⟨by omega, by rw [if_pos y]; omega⟩⟩)
      exact ⟨⟨t.1, z_vp (by omega) (by omega)⟩, t.2.2⟩)
  exact ⟨⟨s1, t.1, t.2.1.1, t.2.1.2⟩, t.2.2⟩
/-- whether there is room, and the step behind the name -/
theorem z8_room {c L : Nat} (hc : c ≤ L) (hL : L < 100) (hn : n ≤ 320) (hd : ∀ i, i < n → d i < 256) (hi' : i ≤ n) (hQ : z8Q m0 d n D m) (hP : z8P m p0 i) : D8_hasRoom (nI c) (nI L) m ∧ ((c = L ∧ (F8_hasRoom (nI c) (nI L) m).1 = 0 ∧ z8B (F8_hasRoom (nI c) (nI L) m).2 5 p0 ∧ z8X m0 (F8_hasRoom (nI c) (nI L) m).2) ∨ (c < L ∧ (zTk d n i).2.2 = 5 ∧ (F8_hasRoom (nI c) (nI L) m).1 = 0 ∧ z8B (F8_hasRoom (nI c) (nI L) m).2 1 (zTk d n i).1 ∧ z8X m0 (F8_hasRoom (nI c) (nI L) m).2) ∨ (c < L ∧ (zTk d n i).2.2 ≠ 5 ∧ (F8_hasRoom (nI c) (nI L) m).1 = 1 ∧ z8Q m0 d n D (F8_hasRoom (nI c) (nI L) m).2 ∧ z8S (F8_hasRoom (nI c) (nI L) m).2 d n i)) := by
  obtain ⟨hD, ⟨hb, hg, ho, hH, nB, nG, nO⟩, hT, hN, hX⟩ := hQ
  have cc : (nI c = nI L) ↔ c = L := z_neq (by omega) (by omega)
  unfold D8_hasRoom F8_hasRoom
  simp only [cc]
  by_cases w : c = L
  · obtain ⟨f1, f2⟩ := z8_brk (c := 5) hP rfl (f := 5) (by omega) (by omega)
    rw [if_pos w]
    obtain ⟨d1, d2⟩ := f1.st
    rw [d2, if_neg (show ¬ (F8_fails 5 m) 74 24 = 0 by rw [f1.1]; decide)]
    exact ⟨d1, Or.inl ⟨w, rfl, f1, f2.x hX⟩⟩
  · rw [if_neg w]
    obtain ⟨s1, s2, s3⟩ := z8_step hn hd hT hP.1 hP.2.2 hi'
    refine ⟨s1, Or.inr ?_⟩
    have G1 := s2.gg
    by_cases w5 : (zTk d n i).2.2 = 5
    · obtain ⟨u1, u2⟩ := s3.2.1 w5
      rw [if_neg (show ¬ (F8_step m) 74 24 = 0 by rw [u1]; decide)]
      exact Or.inl ⟨by omega, w5, rfl, ⟨u1, u2, by omega, by omega⟩, G1.x hX⟩
    · obtain ⟨u1, u2⟩ := s3.2.2 w5
      rw [if_pos u1]
      exact Or.inr ⟨by omega, w5, rfl, ⟨G1.dd hD, ⟨hb, hg, ho, ⟨(s2.2 18 (by omega)).trans hH.1, (s2.2 19 (by omega)).trans hH.2.1, (s2.2 20 (by omega)).trans hH.2.2.1, hH.2.2.2⟩, nB, nG, nO⟩, s2.t hT, G1.nn hN, G1.x hX⟩, s3⟩
theorem z8_bridge (hW : zDW D) (hn : n ≤ 320) (hd : ∀ i, i < n → d i < 256) (hi' : i ≤ n) (hQ : z8Q m0 d n D m) (hP : z8P m p0 i) : D8_readBridge m ∧ z8O m0 d n (F8_readBridge m) (zlG d n D p0 i (fun D e => Sum.inr (D, e))) := by
  have hg4 := hW.1.2.2.1
  have q11 := hQ.1.1.1
  obtain ⟨r1, r2⟩ := z8_room (c := D.s.ng) (L := 4) hg4 (by omega) hn hd hi' hQ hP
  rw [show nI 4 = (4 : Int32) from rfl] at r1 r2
  unfold D8_readBridge F8_readBridge zlG
  rw [q11]
  rcases r2 with ⟨w, e1, e2, e3⟩ | ⟨w, w5, e1, e2, e3⟩ | ⟨w, w5, e1, e2, e3⟩
  · rw [e1, if_pos rfl, if_pos (by omega)]
    exact ⟨⟨r1, fun x => absurd rfl x⟩, e2.o e3⟩
  · rw [e1, if_pos rfl, if_neg (by omega), zbN_5 w5]
    exact ⟨⟨r1, fun x => absurd rfl x⟩, e2.o e3⟩
  · rw [e1, if_neg (by decide), if_neg (by omega)]
    generalize (F8_hasRoom (nI D.s.ng) 4 m).2 = m1 at *
    obtain ⟨D1, ⟨hb, hg, ho, hH, nB, nG, nO⟩, T1, N1, X1⟩ := e2
    have c11 : ∀ M, z8G m1 M → M 74 11 = nI D.s.ng := fun M hG => by rw [hG.2 11 (by omega) (by omega)]; exact D1.1.1
    have ix : 2 * nI D.s.ng = nI (2 * D.s.ng) := by rw [z_lit 2, pk_mul]
    have ix1 : nI (2 * D.s.ng) + 1 = nI (2 * D.s.ng + 1) := nI_1 _
    have ix2 : 28 + nI D.s.ng = nI (28 + D.s.ng) := by rw [z_lit 28, nI_add]
    rw [D1.1.1, ix, z_ncl (by omega)]
    -- the last number, where it broke before
    have tail : ∀ (M : ax_M) (x : Int32) (f a : Nat), M 74 11 = nI D.s.ng → z8X m0 M → z8B M f a → HK8_readBridge_57 x (nI (2 * D.s.ng + 1)) M ∧ z8O m0 d n (K8_readBridge_57 x (nI (2 * D.s.ng + 1)) M) (Sum.inl (f, a)) := fun M x f a h11 hX hB => by
      unfold HK8_readBridge_57 K8_readBridge_57 K8_readBridge_78
      rw [z_ncl (by omega), z_upr (show 74 ≠ 79 by omega), h11, ix2, z_ncl (by omega)]
      have B2 := hB.up (c := 79) (j := 2 * D.s.ng + 1) (x := x) (by omega)
      obtain ⟨o1, o2⟩ := B2.ot (lo := 0) (hi := 20) (S := 0)
      rw [o2]
      exact ⟨⟨z_vp (by omega) (by omega), o1, z_vp (by omega) (by omega)⟩, ((B2.up (by omega)).up (by omega)).o (((hX.up (by omega)).up (by omega)).up (by omega))⟩
    have tail2 : ∀ (M : ax_M) (f a : Nat), M 74 11 = nI D.s.ng → z8X m0 M → z8B M f a → HK8_readBridge_28 M ∧ z8O m0 d n (K8_readBridge_28 M) (Sum.inl (f, a)) := fun M f a h11 hX hB => by
      unfold HK8_readBridge_28 K8_readBridge_28
      rw [h11, ix, ix1]
      obtain ⟨o1, y, o2⟩ := hB.bk (S := (1 : Int32) <<< ((M 79 (Int32.toNatClampNeg (nI (2 * D.s.ng)))) &&& (31 : Int32)))
      rw [o2]
      obtain ⟨t1, t2⟩ := tail (ax_up M 74 18 y) 0 f a (by rw [z_up, if_neg (by omega)]; exact h11) (hX.up (by omega)) (hB.up (by omega))
      exact ⟨⟨z_vp (by omega) (by omega), o1, t1⟩, t2⟩
    have t := z8_bk (m := m1) (m0 := m0) (S := 0) (κ := fun x M => K8_readBridge_28 (ax_up M 79 (2 * D.s.ng) x)) (δ := fun x M => vp_in (nI (2 * D.s.ng)) 8 ∧ HK8_readBridge_28 (ax_up M 79 (2 * D.s.ng) x)) (k := fun f _ e => zbN d n 0 3 e (fun c a e2 => if c = f then Sum.inl (4, a) else zbN d n 0 20 e2 (fun v _ e3 => Sum.inr (D.bridge f c v, e3)))) hn hd (by omega) hi' T1 e3 hH (fun M f a hG hB => by
        obtain ⟨t1, t2⟩ := tail2 (ax_up M 79 (2 * D.s.ng) (nI 0)) f a (by rw [z_upr (by omega)]; exact c11 M hG) ((hG.x X1).up (by omega)) (hB.up (by omega))
        exact ⟨⟨z_vp (by omega) (by omega), t1⟩, t2⟩) (fun v a e _ hv => by rw [Nat.zero_testBit] at hv; cases hv) (fun f a e M hf _ he hG hS' hh => by
        have h11 : (ax_up M 79 (2 * D.s.ng) (nI f)) 74 11 = nI D.s.ng := by rw [z_upr (by omega)]; exact c11 M hG
        have h79 : (ax_up M 79 (2 * D.s.ng) (nI f)) 79 (2 * D.s.ng) = nI f := by rw [z_up, if_pos ⟨rfl, rfl⟩]
        unfold HK8_readBridge_28 K8_readBridge_28
        rw [h11, ix, ix1, z_ncl (by omega), h79]
        have e2f : (1 : Int32) <<< (nI f &&& (31 : Int32)) = nI (2 ^ f) := by
          have h2 : (2 : Nat) ^ f < 2 ^ 32 := Nat.pow_lt_pow_right (by decide) (by omega)
          rw [z_lit 1, z_shl (by omega) (by omega), Nat.one_mul]
        rw [e2f]
        have hh2 : z8h (ax_up M 79 (2 * D.s.ng) (nI f)) (zmx hb f) hg ho := ⟨by rw [z_upr (by omega)]; exact hh.1, by rw [z_upr (by omega)]; exact hh.2.1, by rw [z_upr (by omega)]; exact hh.2.2.1, hh.2.2.2⟩
        have DM : z8d (ax_up M 79 (2 * D.s.ng) (nI f)) D := (hG.dd D1).x hW (by omega)
        have TM : z8T (ax_up M 79 (2 * D.s.ng) (nI f)) n d := (hG.t T1).x (by omega)
        have NM : z8N (ax_up M 79 (2 * D.s.ng) (nI f)) := (hG.nn N1).x (by omega)
        have XM : z8X m0 (ax_up M 79 (2 * D.s.ng) (nI f)) := (hG.x X1).up (by omega)
        have SM : z8S (ax_up M 79 (2 * D.s.ng) (nI f)) d n e := hS'.up (by omega)
        generalize ax_up M 79 (2 * D.s.ng) (nI f) = M2 at *
        have h2f : (2 : Nat) ^ f < 2 ^ 31 := Nat.pow_lt_pow_right (by decide) (by omega)
        have t := z8_bk (m := M2) (m0 := m0) (S := 2 ^ f) (κ := fun x M => K8_readBridge_57 x (nI (2 * D.s.ng + 1)) M) (δ := fun x M => HK8_readBridge_57 x (nI (2 * D.s.ng + 1)) M) (k := fun c a e2 => if c = f then Sum.inl (4, a) else zbN d n 0 20 e2 (fun v _ e3 => Sum.inr (D.bridge f c v, e3))) hn hd h2f he TM SM hh2 (fun M f' a hG hB => tail M (nI 0) f' a (by rw [hG.2 11 (by omega) (by omega)]; exact h11) (hG.x XM) hB) (fun v a e _ hv => by
          rw [Nat.testBit_two_pow, decide_eq_true_eq] at hv
          rw [if_pos hv.symm]) (fun c a e2 M3 hc hnc he2 hG3 hS3 hh3 => by
          have hcf : ¬ c = f := fun x => hnc ⟨by omega, by rw [x]; exact Nat.testBit_two_pow_self⟩
          rw [if_neg hcf]
          unfold HK8_readBridge_57 K8_readBridge_57 K8_readBridge_78
          have g11 : M3 74 11 = nI D.s.ng := by rw [hG3.2 11 (by omega) (by omega)]; exact h11
          have g79 : M3 79 (2 * D.s.ng) = nI f := by rw [hG3.1 79 (by omega)]; exact h79
          rw [z_ncl (by omega), z_upr (show 74 ≠ 79 by omega), g11, ix2, z_ncl (by omega)]
          have D4 : z8d (ax_up M3 79 (2 * D.s.ng + 1) (nI c)) D := (hG3.dd DM).x hW (by omega)
          have T4 : z8T (ax_up M3 79 (2 * D.s.ng + 1) (nI c)) n d := (hG3.t TM).x (by omega)
          have N4 : z8N (ax_up M3 79 (2 * D.s.ng + 1) (nI c)) := (hG3.nn NM).x (by omega)
          have X4 : z8X m0 (ax_up M3 79 (2 * D.s.ng + 1) (nI c)) := (hG3.x XM).up (by omega)
          have S4 : z8S (ax_up M3 79 (2 * D.s.ng + 1) (nI c)) d n e2 := hS3.up (by omega)
          have k79a : (ax_up M3 79 (2 * D.s.ng + 1) (nI c)) 79 (2 * D.s.ng) = nI f := by rw [z_up, if_neg (by omega)]; exact g79
          have k79b : (ax_up M3 79 (2 * D.s.ng + 1) (nI c)) 79 (2 * D.s.ng + 1) = nI c := by rw [z_up, if_pos ⟨rfl, rfl⟩]
          have k11 : (ax_up M3 79 (2 * D.s.ng + 1) (nI c)) 74 11 = nI D.s.ng := by rw [z_upr (by omega)]; exact g11
          have kh : z8h (ax_up M3 79 (2 * D.s.ng + 1) (nI c)) (zmx (zmx hb f) c) hg ho := ⟨by rw [z_upr (by omega)]; exact hh3.1, by rw [z_upr (by omega)]; exact hh3.2.1, by rw [z_upr (by omega)]; exact hh3.2.2.1, hh3.2.2.2⟩
          generalize ax_up M3 79 (2 * D.s.ng + 1) (nI c) = M4 at *
          have t := z8_bN (m := M4) (m0 := m0) (lo := 0) (hi := 20) (S := 0) (κ := fun x M => ax_up (ax_up M 78 (28 + D.s.ng) x) 74 11 ((ax_up M 78 (28 + D.s.ng) x) 74 11 + 1)) (δ := fun _ _ => True) (k := fun v _ e3 => Sum.inr (D.bridge f c v, e3)) hn hd (by omega) (by omega) (by omega) he2 T4 S4 (fun M f' a hF hB => ⟨trivial, ((hB.up (by omega)).up (by omega)).o (((hF.gg.x X4).up (by omega)).up (by omega))⟩) (fun v a e _ hv => by rw [Nat.zero_testBit] at hv; cases hv) (fun v a e3 M5 _ hv _ he3 hF hS5 => ⟨trivial, by
            have e11 : (ax_up M5 78 (28 + D.s.ng) (nI v)) 74 11 + 1 = nI (D.s.ng + 1) := by rw [z_upr (by omega), hF.2 11 (by omega), k11, nI_1]
            rw [e11]
            have D5 : z8d (ax_up M5 78 (28 + D.s.ng) (nI v)) D := (hF.gg.dd D4).x hW (by omega)
            obtain ⟨⟨q11', q12, q13, q14, q15, q16⟩, q17, ⟨z1, z2, z3, z4, z5, z6, z7⟩, qE, qY⟩ := D5
            have sl : ∀ j, j ≠ 11 → (ax_up (ax_up M5 78 (28 + D.s.ng) (nI v)) 74 11 (nI (D.s.ng + 1))) 74 j = (ax_up M5 78 (28 + D.s.ng) (nI v)) 74 j := fun j hj => by rw [z_up, if_neg (by omega)]
            have hc' : ∀ x, x ≠ 74 → (ax_up (ax_up M5 78 (28 + D.s.ng) (nI v)) 74 11 (nI (D.s.ng + 1))) x = (ax_up M5 78 (28 + D.s.ng) (nI v)) x := fun x hx => z_upr hx
            have h18 : ∀ j, 18 ≤ j → j ≤ 20 → (ax_up (ax_up M5 78 (28 + D.s.ng) (nI v)) 74 11 (nI (D.s.ng + 1))) 74 j = M4 74 j := fun j j1 j2 => by rw [sl j (by omega), z_upr (by omega), hF.2 j (by omega)]
            refine ⟨⟨⟨?_, ?_, ?_, ?_, ?_, ?_⟩, ?_, ⟨?_, ?_, fun b hb' => ?_, ?_, ?_, ?_, ?_⟩, fun b hb' => ?_, ?_⟩, ⟨zmx (zmx hb f) c, hg, ho, ⟨?_, ?_, ?_, kh.2.2.2⟩, zmx_h (N := fun x => zNB D x ∨ x = f) (zmx_h nB (fun x => Iff.rfl)) (fun x => ?_), nG, nO⟩, ((hF.t T4).x (by omega)).x (by omega), ((hF.gg.nn N4).x (by omega)).x (by omega), ((hF.gg.x X4).up (by omega)).up (by omega), (hS5.up (by omega)).up (by omega), he3⟩
            · rw [z_up, if_pos ⟨rfl, rfl⟩]; rfl
            · rw [sl 12 (by omega)]; exact q12
            · rw [sl 13 (by omega)]; exact q13
            · rw [sl 14 (by omega)]; exact q14
            · rw [sl 15 (by omega)]; exact q15
            · rw [sl 16 (by omega)]; exact q16
            · rw [sl 17 (by omega)]; exact q17
            · rw [hc' 78 (by omega)]; exact z1
            · rw [hc' 78 (by omega)]; exact z2
            · have hb2 : b < D.s.ng + 1 := hb'
              show (ax_up (ax_up M5 78 (28 + D.s.ng) (nI v)) 74 11 (nI (D.s.ng + 1))) 78 (0 + (28 + b)) = nI (if 2 = 2 ∧ b = D.s.ng then v else D.P 2 b)
              rw [hc' 78 (by omega)]
              by_cases y : b = D.s.ng
              · rw [if_pos ⟨rfl, y⟩, z_up, if_pos ⟨rfl, by omega⟩]
              · rw [if_neg (fun x => y x.2)]; exact z3 b (by omega)
            · rw [hc' 78 (by omega)]; exact z4
            · rw [hc' 78 (by omega)]; exact z5
            · rw [hc' 78 (by omega)]; exact z6
            · rw [hc' 78 (by omega)]; exact z7
            · have hb2 : b < D.s.ng + 1 := hb'
              show _ = nI (if b = D.s.ng then f else D.s.fs b) ∧ _ = nI (if b = D.s.ng then c else D.s.sc b)
              rw [hc' 79 (by omega)]
              by_cases y : b = D.s.ng
              · rw [if_pos y, if_pos y, y, z_upr (show 79 ≠ 78 by omega), hF.1 79 (by omega)]
                exact ⟨k79a, k79b⟩
              · rw [if_neg y, if_neg y]; exact qE b (by omega)
            · rw [hc' 80 (by omega)]; exact qY
            · rw [h18 18 (by omega) (by omega)]; exact kh.1
            · rw [h18 19 (by omega) (by omega)]; exact kh.2.1
            · rw [h18 20 (by omega) (by omega)]; exact kh.2.2.1
            · unfold zNB
              constructor
              · rintro (y | ⟨b, b1, b2⟩ | y)
                · exact Or.inl (Or.inl (Or.inl y))
                · have b1' : b < D.s.ng + 1 := b1
                  have b2' : (if b = D.s.ng then f else D.s.fs b) = x ∨ (if b = D.s.ng then c else D.s.sc b) = x := b2
                  by_cases w' : b = D.s.ng
                  · rw [if_pos w', if_pos w'] at b2'
                    rcases b2' with u | u
                    · exact Or.inl (Or.inr u.symm)
                    · exact Or.inr u.symm
                  · rw [if_neg w', if_neg w'] at b2'
                    exact Or.inl (Or.inl (Or.inr (Or.inl ⟨b, by omega, b2'⟩)))
                · exact Or.inl (Or.inl (Or.inr (Or.inr y)))
              · rintro (((y | ⟨b, b1, b2⟩ | y) | y) | y)
                · exact Or.inl y
                · refine Or.inr (Or.inl ⟨b, by show b < D.s.ng + 1; omega, ?_⟩)
                  show (if b = D.s.ng then f else D.s.fs b) = x ∨ (if b = D.s.ng then c else D.s.sc b) = x
                  rw [if_neg (by omega), if_neg (by omega)]; exact b2
                · exact Or.inr (Or.inr y)
                · refine Or.inr (Or.inl ⟨D.s.ng, by show D.s.ng < D.s.ng + 1; omega, Or.inl ?_⟩)
                  show (if D.s.ng = D.s.ng then f else D.s.fs D.s.ng) = x
                  rw [if_pos rfl, y]
                · refine Or.inr (Or.inl ⟨D.s.ng, by show D.s.ng < D.s.ng + 1; omega, Or.inr ?_⟩)
                  show (if D.s.ng = D.s.ng then c else D.s.sc D.s.ng) = x
                  rw [if_pos rfl, y]⟩)
          exact ⟨⟨z_vp (by omega) (by omega), t.1, z_vp (by omega) (by omega)⟩, t.2.2⟩)
        exact ⟨⟨z_vp (by omega) (by omega), z_vp (by omega) (by omega), t.1, t.2.1⟩, t.2.2⟩)
    exact ⟨⟨r1, fun _ => ⟨t.1, t.2.1.1, t.2.1.2⟩⟩, t.2.2⟩
end ZO2
