/-! PURE: the reference's lines: one, meet; any line -/
section ZP2
variable {m m0 : ax_M} {d : Nat → Nat} {n i p0 : Nat} {D : zD}
theorem z8_one (hW : zDW D) (hn : n ≤ 320) (hd : ∀ i, i < n → d i < 256) (hi' : i ≤ n) (hQ : z8Q m0 d n D m) (hP : z8P m p0 i) : D8_readOne m ∧ z8O m0 d n (F8_readOne m) (zlO d n D p0 i (fun D e => Sum.inr (D, e))) := by
  have ho6 := hW.1.2.2.2.1
  have q12 := hQ.1.1.2.1
  obtain ⟨p1, p2, p3, p4, p5, p6, p7, p8⟩ := zTk_p (d := d) hi'
  obtain ⟨r1, r2⟩ := z8_room (c := D.s.no) (L := 6) ho6 (by omega) hn hd hi' hQ hP
  rw [show nI 6 = (6 : Int32) from rfl] at r1 r2
  unfold D8_readOne F8_readOne zlO
  rw [q12]
  rcases r2 with ⟨w, e1, e2, e3⟩ | ⟨w, w5, e1, e2, e3⟩ | ⟨w, w5, e1, e2, e3⟩
  · rw [e1, if_pos rfl, if_pos (by omega)]
    exact ⟨⟨r1, fun x => absurd rfl x⟩, e2.o e3⟩
  · rw [e1, if_pos rfl, if_neg (by omega)]
    unfold zbK
    rw [if_pos w5]
    exact ⟨⟨r1, fun x => absurd rfl x⟩, e2.o e3⟩
  · rw [e1, if_neg (show ¬ (1 : Int32) = 0 by decide), if_neg (show ¬ 6 ≤ D.s.no by omega)]
    generalize (F8_hasRoom (nI D.s.no) 6 m).2 = m1 at *
    obtain ⟨D1, ⟨hb, hg, ho, hH, nB, nG, nO⟩, T1, N1, X1⟩ := e2
    obtain ⟨u1, u2, u3, u4⟩ := e3.2.2 w5
    obtain ⟨nm1, nm2⟩ := z8_name (d := d) (K := (zTk d n i).2.2) hn T1 N1 u3 (by omega) u2 e3.1 p2 p3
    have hz := znm_le (d := d) (K := (zTk d n i).2.2) (a := (zTk d n i).1) (e := (zTk d n i).2.1)
    rw [nm2]
    unfold zbK
    rw [if_neg w5]
    generalize znm d (zTk d n i).2.2 (zTk d n i).1 (zTk d n i).2.1 = z at *
    by_cases wz : 6 ≤ z ∧ z < 11
    · have ek : (if z < 11 then nI z else -4) - 6 = nI (z - 6) := by rw [if_pos wz.2, z_lit 6, pk_sub wz.1]
      rw [ek, if_pos (show (0 : Int32) ≤ nI (z - 6) from nI_pos' (by omega)), if_pos wz]
      obtain ⟨s1, s2, s3⟩ := z8_step hn hd T1 u1 u2 p3
      have G1 := s2.gg
      have i12 : (F8_step m1) 74 12 = nI D.s.no := by rw [s2.2 12 (by omega)]; exact D1.1.2.1
      have ix : 4 * nI D.s.no = nI (4 * D.s.no) := by rw [z_lit 4, pk_mul]
      have ixk : ∀ k, nI (4 * D.s.no) + nI k = nI (4 * D.s.no + k) := fun k => nI_add _ _
      rw [i12, ix, z_ncl (by omega)]
      -- the tails, where it broke before
      have tail3 : ∀ (M : ax_M) (f a : Nat) (y : Int32), M 74 12 = nI D.s.no → z8X m0 M → z8B M f a → HK8_readOne_87 y M ∧ z8O m0 d n (K8_readOne_87 y M) (Sum.inl (f, a)) := fun M f a y h12 hX hB => by
        unfold HK8_readOne_87 K8_readOne_87 K8_readOne_105
        obtain ⟨o1, y', o2⟩ := hB.bk (S := 0)
        rw [o2, h12, ix, show nI (4 * D.s.no) + 3 = nI (4 * D.s.no + 3) from ixk 3, z_ncl (by omega)]
        exact ⟨⟨o1, z_vp (by omega) (by omega)⟩, (((hB.up (by omega)).up (by omega)).up (by omega)).o (((hX.up (by omega)).up (by omega)).up (by omega))⟩
      have tail2 : ∀ (M : ax_M) (f a : Nat) (y : Int32), M 74 12 = nI D.s.no → z8X m0 M → z8B M f a → HK8_readOne_69 y M ∧ z8O m0 d n (K8_readOne_69 y M) (Sum.inl (f, a)) := fun M f a y h12 hX hB => by
        unfold HK8_readOne_69 K8_readOne_69
        obtain ⟨o1, y', o2⟩ := hB.bk (S := 0)
        rw [o2, h12, ix, show nI (4 * D.s.no) + 2 = nI (4 * D.s.no + 2) from ixk 2, z_ncl (by omega)]
        obtain ⟨t1, t2⟩ := tail3 (ax_up (ax_up M 74 18 y') 78 (4 * D.s.no + 2) 0) f a y (by rw [z_upr (by omega), z_up, if_neg (by omega)]; exact h12) ((hX.up (by omega)).up (by omega)) ((hB.up (by omega)).up (by omega))
        exact ⟨⟨o1, z_vp (by omega) (by omega), t1⟩, t2⟩
      have tail1 : ∀ (M : ax_M) (f a : Nat) (y : Int32), M 74 12 = nI D.s.no → z8X m0 M → z8B M f a → HK8_readOne_48 y M ∧ z8O m0 d n (K8_readOne_48 y M) (Sum.inl (f, a)) := fun M f a y h12 hX hB => by
        unfold HK8_readOne_48 K8_readOne_48
        obtain ⟨o1, o2⟩ := hB.ot (lo := 1) (hi := 99) (S := 0)
        rw [o2, h12, ix, show nI (4 * D.s.no) + 1 = nI (4 * D.s.no + 1) from ixk 1, z_ncl (by omega)]
        obtain ⟨t1, t2⟩ := tail2 (ax_up M 78 (4 * D.s.no + 1) 1) f a y (by rw [z_upr (by omega)]; exact h12) (hX.up (by omega)) (hB.up (by omega))
        exact ⟨⟨o1, z_vp (by omega) (by omega), t1⟩, t2⟩
      -- behind the kind
      have D2 : z8d (ax_up (F8_step m1) 78 (4 * D.s.no) (nI (z - 6))) D := (G1.dd D1).x hW (by omega)
      have T2 : z8T (ax_up (F8_step m1) 78 (4 * D.s.no) (nI (z - 6))) n d := (s2.t T1).x (by omega)
      have N2 : z8N (ax_up (F8_step m1) 78 (4 * D.s.no) (nI (z - 6))) := (G1.nn N1).x (by omega)
      have X2 : z8X m0 (ax_up (F8_step m1) 78 (4 * D.s.no) (nI (z - 6))) := (G1.x X1).up (by omega)
      have S2 : z8S (ax_up (F8_step m1) 78 (4 * D.s.no) (nI (z - 6))) d n (zTk d n i).2.1 := s3.up (by omega)
      have k78 : (ax_up (F8_step m1) 78 (4 * D.s.no) (nI (z - 6))) 78 (4 * D.s.no) = nI (z - 6) := by rw [z_up, if_pos ⟨rfl, rfl⟩]
      have k12 : (ax_up (F8_step m1) 78 (4 * D.s.no) (nI (z - 6))) 74 12 = nI D.s.no := by rw [z_upr (by omega)]; exact i12
      have kh : z8h (ax_up (F8_step m1) 78 (4 * D.s.no) (nI (z - 6))) hb hg ho := ⟨by rw [z_upr (by omega), s2.2 18 (by omega)]; exact hH.1, by rw [z_upr (by omega), s2.2 19 (by omega)]; exact hH.2.1, by rw [z_upr (by omega), s2.2 20 (by omega)]; exact hH.2.2.1, hH.2.2.2⟩
      generalize ax_up (F8_step m1) 78 (4 * D.s.no) (nI (z - 6)) = m2 at *
      have dk : HK8_readOne_48 (nI (z - 6)) m2 ∧ z8O m0 d n (K8_readOne_48 (nI (z - 6)) m2) (zbN d n 1 99 (zTk d n i).2.1 (fun w _ e2 => zbN d n 0 3 e2 (fun b _ e3 => zbN d n 0 3 e3 (fun g _ e4 => Sum.inr (D.one (z - 6) w b g, e4))))) := by
        unfold HK8_readOne_48 K8_readOne_48
        rw [k12, ix, show nI (4 * D.s.no) + 1 = nI (4 * D.s.no + 1) from ixk 1, z_ncl (by omega)]
        have t := z8_bN (m := m2) (m0 := m0) (lo := 1) (hi := 99) (S := 0) (κ := fun x M => K8_readOne_69 (nI (z - 6)) (ax_up M 78 (4 * D.s.no + 1) x)) (δ := fun x M => vp_in (nI (4 * D.s.no + 1)) 33 ∧ HK8_readOne_69 (nI (z - 6)) (ax_up M 78 (4 * D.s.no + 1) x)) (k := fun w _ e2 => zbN d n 0 3 e2 (fun b _ e3 => zbN d n 0 3 e3 (fun g _ e4 => Sum.inr (D.one (z - 6) w b g, e4)))) hn hd (by omega) (by omega) (by omega) p3 T2 S2 (fun M f a hF hB => by
            obtain ⟨t1, t2⟩ := tail2 (ax_up M 78 (4 * D.s.no + 1) (nI 1)) f a (nI (z - 6)) (by rw [z_upr (by omega), hF.2 12 (by omega)]; exact k12) ((hF.gg.x X2).up (by omega)) (hB.up (by omega))
            exact ⟨⟨z_vp (by omega) (by omega), t1⟩, t2⟩) (fun v a e _ hv => by rw [Nat.zero_testBit] at hv; cases hv) (fun wt a e2 M hw1 hw2 _ he2 hF hS3 => by
            have D3 : z8d (ax_up M 78 (4 * D.s.no + 1) (nI wt)) D := (hF.gg.dd D2).x hW (by omega)
            have T3 : z8T (ax_up M 78 (4 * D.s.no + 1) (nI wt)) n d := (hF.t T2).x (by omega)
            have N3 : z8N (ax_up M 78 (4 * D.s.no + 1) (nI wt)) := (hF.gg.nn N2).x (by omega)
            have X3 : z8X m0 (ax_up M 78 (4 * D.s.no + 1) (nI wt)) := (hF.gg.x X2).up (by omega)
            have S3 : z8S (ax_up M 78 (4 * D.s.no + 1) (nI wt)) d n e2 := hS3.up (by omega)
            have l0 : (ax_up M 78 (4 * D.s.no + 1) (nI wt)) 78 (4 * D.s.no) = nI (z - 6) := by rw [z_up, if_neg (by omega), hF.1 78 (by omega)]; exact k78
            have l1 : (ax_up M 78 (4 * D.s.no + 1) (nI wt)) 78 (4 * D.s.no + 1) = nI wt := by rw [z_up, if_pos ⟨rfl, rfl⟩]
            have l12 : (ax_up M 78 (4 * D.s.no + 1) (nI wt)) 74 12 = nI D.s.no := by rw [z_upr (by omega), hF.2 12 (by omega)]; exact k12
            have lh : z8h (ax_up M 78 (4 * D.s.no + 1) (nI wt)) hb hg ho := ⟨by rw [z_upr (by omega), hF.2 18 (by omega)]; exact kh.1, by rw [z_upr (by omega), hF.2 19 (by omega)]; exact kh.2.1, by rw [z_upr (by omega), hF.2 20 (by omega)]; exact kh.2.2.1, kh.2.2.2⟩
            generalize ax_up M 78 (4 * D.s.no + 1) (nI wt) = m3 at *
            unfold HK8_readOne_69 K8_readOne_69
            rw [l12, ix, show nI (4 * D.s.no) + 2 = nI (4 * D.s.no + 2) from ixk 2, z_ncl (by omega)]
            have t := z8_bk (m := m3) (m0 := m0) (S := 0) (κ := fun x M => K8_readOne_87 (nI (z - 6)) (ax_up M 78 (4 * D.s.no + 2) x)) (δ := fun x M => vp_in (nI (4 * D.s.no + 2)) 33 ∧ HK8_readOne_87 (nI (z - 6)) (ax_up M 78 (4 * D.s.no + 2) x)) (k := fun b _ e3 => zbN d n 0 3 e3 (fun g _ e4 => Sum.inr (D.one (z - 6) wt b g, e4))) hn hd (by omega) he2 T3 S3 lh (fun M f a hG hB => by
                obtain ⟨t1, t2⟩ := tail3 (ax_up M 78 (4 * D.s.no + 2) (nI 0)) f a (nI (z - 6)) (by rw [z_upr (by omega), hG.2 12 (by omega) (by omega)]; exact l12) ((hG.x X3).up (by omega)) (hB.up (by omega))
                exact ⟨⟨z_vp (by omega) (by omega), t1⟩, t2⟩) (fun v a e _ hv => by rw [Nat.zero_testBit] at hv; cases hv) (fun b a e3 M hb3 _ he3 hG hS4 hh4 => by
                have D4 : z8d (ax_up M 78 (4 * D.s.no + 2) (nI b)) D := (hG.dd D3).x hW (by omega)
                have T4 : z8T (ax_up M 78 (4 * D.s.no + 2) (nI b)) n d := (hG.t T3).x (by omega)
                have N4 : z8N (ax_up M 78 (4 * D.s.no + 2) (nI b)) := (hG.nn N3).x (by omega)
                have X4 : z8X m0 (ax_up M 78 (4 * D.s.no + 2) (nI b)) := (hG.x X3).up (by omega)
                have S4 : z8S (ax_up M 78 (4 * D.s.no + 2) (nI b)) d n e3 := hS4.up (by omega)
                have j0 : (ax_up M 78 (4 * D.s.no + 2) (nI b)) 78 (4 * D.s.no) = nI (z - 6) := by rw [z_up, if_neg (by omega), hG.1 78 (by omega)]; exact l0
                have j1 : (ax_up M 78 (4 * D.s.no + 2) (nI b)) 78 (4 * D.s.no + 1) = nI wt := by rw [z_up, if_neg (by omega), hG.1 78 (by omega)]; exact l1
                have j2 : (ax_up M 78 (4 * D.s.no + 2) (nI b)) 78 (4 * D.s.no + 2) = nI b := by rw [z_up, if_pos ⟨rfl, rfl⟩]
                have j12 : (ax_up M 78 (4 * D.s.no + 2) (nI b)) 74 12 = nI D.s.no := by rw [z_upr (by omega), hG.2 12 (by omega) (by omega)]; exact l12
                have jh : z8h (ax_up M 78 (4 * D.s.no + 2) (nI b)) (zmx hb b) hg ho := ⟨by rw [z_upr (by omega)]; exact hh4.1, by rw [z_upr (by omega)]; exact hh4.2.1, by rw [z_upr (by omega)]; exact hh4.2.2.1, hh4.2.2.2⟩
                generalize ax_up M 78 (4 * D.s.no + 2) (nI b) = m4 at *
                unfold HK8_readOne_87 K8_readOne_87 K8_readOne_105
                rw [j12, ix, show nI (4 * D.s.no) + 3 = nI (4 * D.s.no + 3) from ixk 3, z_ncl (by omega)]
                have t := z8_bk (m := m4) (m0 := m0) (S := 0) (κ := fun x M => ax_up (ax_up M 78 (4 * D.s.no + 3) x) 74 12 ((ax_up M 78 (4 * D.s.no + 3) x) 74 12 + 1)) (δ := fun _ _ => True) (k := fun g _ e4 => Sum.inr (D.one (z - 6) wt b g, e4)) hn hd (by omega) he3 T4 S4 jh (fun M f a hG hB => ⟨trivial, ((hB.up (by omega)).up (by omega)).o (((hG.x X4).up (by omega)).up (by omega))⟩) (fun v a e _ hv => by rw [Nat.zero_testBit] at hv; cases hv) (fun g a e4 M5 hg3 _ he4 hG5 hS5 hh5 => ⟨trivial, by
                  have e12 : (ax_up M5 78 (4 * D.s.no + 3) (nI g)) 74 12 + 1 = nI (D.s.no + 1) := by rw [z_upr (by omega), hG5.2 12 (by omega) (by omega), j12, nI_1]
                  rw [e12]
                  have D5 : z8d (ax_up M5 78 (4 * D.s.no + 3) (nI g)) D := (hG5.dd D4).x hW (by omega)
                  obtain ⟨⟨q11, q12', q13, q14, q15, q16⟩, q17, ⟨z1, z2, z3, z4, z5, z6, z7⟩, qE, qY⟩ := D5
                  have sl : ∀ j, j ≠ 12 → (ax_up (ax_up M5 78 (4 * D.s.no + 3) (nI g)) 74 12 (nI (D.s.no + 1))) 74 j = (ax_up M5 78 (4 * D.s.no + 3) (nI g)) 74 j := fun j hj => by rw [z_up, if_neg (by omega)]
                  have hc' : ∀ x, x ≠ 74 → (ax_up (ax_up M5 78 (4 * D.s.no + 3) (nI g)) 74 12 (nI (D.s.no + 1))) x = (ax_up M5 78 (4 * D.s.no + 3) (nI g)) x := fun x hx => z_upr hx
                  have old : ∀ j, j ≠ 4 * D.s.no + 3 → (ax_up M5 78 (4 * D.s.no + 3) (nI g)) 78 j = m4 78 j := fun j hj => by rw [z_up, if_neg (fun x => hj x.2), hG5.1 78 (by omega)]
                  have sP : ∀ f x, (D.one (z - 6) wt b g).P f x = if f = 6 ∧ x = D.s.no then g else if f = 5 ∧ x = D.s.no then b else if f = 4 ∧ x = D.s.no then wt else if f = 3 ∧ x = D.s.no then (z - 6) else D.P f x := fun _ _ => rfl
                  have sPo : ∀ f x, x ≠ D.s.no → (D.one (z - 6) wt b g).P f x = D.P f x := fun f x hx => by rw [sP, if_neg (fun y => hx y.2), if_neg (fun y => hx y.2), if_neg (fun y => hx y.2), if_neg (fun y => hx y.2)]
                  have sPl : ∀ f x, f < 3 → (D.one (z - 6) wt b g).P f x = D.P f x := fun f x hf => by rw [sP, if_neg (by omega), if_neg (by omega), if_neg (by omega), if_neg (by omega)]
                  have s3' : (D.one (z - 6) wt b g).P 3 D.s.no = z - 6 := by rw [sP, if_neg (by omega), if_neg (by omega), if_neg (by omega), if_pos ⟨rfl, rfl⟩]
                  have s4' : (D.one (z - 6) wt b g).P 4 D.s.no = wt := by rw [sP, if_neg (by omega), if_neg (by omega), if_pos ⟨rfl, rfl⟩]
                  have s5' : (D.one (z - 6) wt b g).P 5 D.s.no = b := by rw [sP, if_neg (by omega), if_pos ⟨rfl, rfl⟩]
                  have s6' : (D.one (z - 6) wt b g).P 6 D.s.no = g := by rw [sP, if_pos ⟨rfl, rfl⟩]
                  have hpe : ∀ k, (D.one (z - 6) wt b g).P.hp k = D.P.hp k := fun k => sPl 1 k (by omega)
                  obtain ⟨H, H1, H2, H3⟩ := q17
                  refine ⟨⟨⟨?_, ?_, ?_, ?_, ?_, ?_⟩, ⟨H, ?_, H2, fun k hk => by rw [hpe k]; exact H3 k hk⟩, ⟨?_, fun k hk => ?_, fun k hk => ?_, fun k hk => ?_, fun k hk => ?_, fun k hk => ?_, fun k hk => ?_⟩, ?_, ?_⟩, ⟨zmx (zmx hb b) g, hg, ho, ⟨?_, ?_, ?_, hh5.2.2.2⟩, zmx_h (N := fun x => zNB D x ∨ x = b) (zmx_h nB (fun x => Iff.rfl)) (fun x => ?_), nG, nO⟩, ((hG5.t T4).x (by omega)).x (by omega), ((hG5.nn N4).x (by omega)).x (by omega), ((hG5.x X4).up (by omega)).up (by omega), (hS5.up (by omega)).up (by omega), he4⟩
                  · rw [sl 11 (by omega)]; exact q11
                  · rw [z_up, if_pos ⟨rfl, rfl⟩]; rfl
                  · rw [sl 13 (by omega)]; exact q13
                  · rw [sl 14 (by omega)]; exact q14
                  · rw [sl 15 (by omega)]; exact q15
                  · rw [sl 16 (by omega)]; exact q16
                  · rw [sl 17 (by omega)]; exact H1
                  · show (ax_up (ax_up M5 78 (4 * D.s.no + 3) (nI g)) 74 12 (nI (D.s.no + 1))) 78 (0 + 32) = nI ((D.one (z - 6) wt b g).P 0 0)
                    rw [hc' 78 (by omega), sPl 0 0 (by omega)]; exact z1
                  · show (ax_up (ax_up M5 78 (4 * D.s.no + 3) (nI g)) 74 12 (nI (D.s.no + 1))) 78 (0 + (24 + k)) = nI ((D.one (z - 6) wt b g).P 1 k)
                    rw [hc' 78 (by omega), sPl 1 k (by omega)]; exact z2 k hk
                  · show (ax_up (ax_up M5 78 (4 * D.s.no + 3) (nI g)) 74 12 (nI (D.s.no + 1))) 78 (0 + (28 + k)) = nI ((D.one (z - 6) wt b g).P 2 k)
                    rw [hc' 78 (by omega), sPl 2 k (by omega)]; exact z3 k hk
                  · have hk' : k < D.s.no + 1 := hk
                    show (ax_up (ax_up M5 78 (4 * D.s.no + 3) (nI g)) 74 12 (nI (D.s.no + 1))) 78 (0 + 4 * k) = nI ((D.one (z - 6) wt b g).P 3 k)
                    rw [hc' 78 (by omega)]
                    by_cases y : k = D.s.no
                    · rw [y, s3', Nat.zero_add, old _ (by omega)]; exact j0
                    · rw [sPo 3 k y]; exact z4 k (by omega)
                  · have hk' : k < D.s.no + 1 := hk
                    show (ax_up (ax_up M5 78 (4 * D.s.no + 3) (nI g)) 74 12 (nI (D.s.no + 1))) 78 (0 + (4 * k + 1)) = nI ((D.one (z - 6) wt b g).P 4 k)
                    rw [hc' 78 (by omega)]
                    by_cases y : k = D.s.no
                    · rw [y, s4', Nat.zero_add, old _ (by omega)]; exact j1
                    · rw [sPo 4 k y]; exact z5 k (by omega)
                  · have hk' : k < D.s.no + 1 := hk
                    show (ax_up (ax_up M5 78 (4 * D.s.no + 3) (nI g)) 74 12 (nI (D.s.no + 1))) 78 (0 + (4 * k + 2)) = nI ((D.one (z - 6) wt b g).P 5 k)
                    rw [hc' 78 (by omega)]
                    by_cases y : k = D.s.no
                    · rw [y, s5', Nat.zero_add, old _ (by omega)]; exact j2
                    · rw [sPo 5 k y]; exact z6 k (by omega)
                  · have hk' : k < D.s.no + 1 := hk
                    show (ax_up (ax_up M5 78 (4 * D.s.no + 3) (nI g)) 74 12 (nI (D.s.no + 1))) 78 (0 + (4 * k + 3)) = nI ((D.one (z - 6) wt b g).P 6 k)
                    rw [hc' 78 (by omega)]
                    by_cases y : k = D.s.no
                    · rw [y, s6', Nat.zero_add, z_up, if_pos ⟨rfl, rfl⟩]
                    · rw [sPo 6 k y]; exact z7 k (by omega)
                  · rw [hc' 79 (by omega)]; exact qE
                  · rw [hc' 80 (by omega)]; exact qY
                  · rw [sl 18 (by omega), z_upr (by omega)]; exact hh5.1
                  · rw [sl 19 (by omega), z_upr (by omega)]; exact hh5.2.1
                  · rw [sl 20 (by omega), z_upr (by omega)]; exact hh5.2.2.1
                  · unfold zNB
                    rw [hpe x]
                    have bke : ∀ q, (D.one (z - 6) wt b g).P.bk q = if q = D.s.no then b else D.P.bk q := fun q => by
                      show (D.one (z - 6) wt b g).P 5 q = _
                      by_cases y : q = D.s.no
                      · rw [y, s5', if_pos rfl]
                      · rw [sPo 5 q y, if_neg y]; rfl
                    have gle : ∀ q, (D.one (z - 6) wt b g).P.gl q = if q = D.s.no then g else D.P.gl q := fun q => by
                      show (D.one (z - 6) wt b g).P 6 q = _
                      by_cases y : q = D.s.no
                      · rw [y, s6', if_pos rfl]
                      · rw [sPo 6 q y, if_neg y]; rfl
                    constructor
                    · rintro (y | y | ⟨q, q1, q2⟩)
                      · exact Or.inl (Or.inl (Or.inl y))
                      · exact Or.inl (Or.inl (Or.inr (Or.inl y)))
                      · have q1' : q < D.s.no + 1 := q1
                        rw [bke q, gle q] at q2
                        by_cases y : q = D.s.no
                        · rw [if_pos y, if_pos y] at q2
                          rcases q2 with u | u
                          · exact Or.inl (Or.inr u.symm)
                          · exact Or.inr u.symm
                        · rw [if_neg y, if_neg y] at q2
                          exact Or.inl (Or.inl (Or.inr (Or.inr ⟨q, by omega, q2⟩)))
                    · rintro (((y | y | ⟨q, q1, q2⟩) | y) | y)
                      · exact Or.inl y
                      · exact Or.inr (Or.inl y)
                      · refine Or.inr (Or.inr ⟨q, by show q < D.s.no + 1; omega, ?_⟩)
                        rw [bke q, gle q, if_neg (by omega), if_neg (by omega)]; exact q2
                      · refine Or.inr (Or.inr ⟨D.s.no, by show D.s.no < D.s.no + 1; omega, Or.inl ?_⟩)
                        rw [bke, if_pos rfl, y]
                      · refine Or.inr (Or.inr ⟨D.s.no, by show D.s.no < D.s.no + 1; omega, Or.inr ?_⟩)
                        rw [gle, if_pos rfl, y]⟩)
                exact ⟨⟨z_vp (by omega) (by omega), t.1, z_vp (by omega) (by omega)⟩, t.2.2⟩)
            exact ⟨⟨z_vp (by omega) (by omega), t.1, t.2.1.1, t.2.1.2⟩, t.2.2⟩)
        exact ⟨⟨t.1, t.2.1.1, t.2.1.2⟩, t.2.2⟩
      exact ⟨⟨r1, fun _ => ⟨nm1, fun _ => ⟨s1, z_vp (by omega) (by omega), dk.1⟩⟩⟩, dk.2⟩
    · have hneg : ¬ (0 : Int32) ≤ (if z < 11 then nI z else -4) - 6 := by
        by_cases y : z < 11
        · rw [if_pos y]
          intro x
          have : (nI z - 6).toInt = (z : Int) - 6 := pk_sub_toInt (a := z) (b := 6) (by omega) (by omega)
          rw [z_le, this, show (0 : Int32).toInt = 0 from rfl] at x
          omega
        · rw [if_neg y]; decide
      rw [if_neg hneg, if_neg wz]
      have P1 : z8P m1 (zTk d n i).1 (zTk d n i).2.1 := ⟨u1, e3.1, u2⟩
      obtain ⟨f1, f2⟩ := z8_brk (c := 2) P1 rfl (f := 2) (by omega) (by omega)
      exact ⟨⟨r1, fun _ => ⟨nm1, fun x => absurd x hneg⟩⟩, f1.o (f2.x X1)⟩
end ZP2
