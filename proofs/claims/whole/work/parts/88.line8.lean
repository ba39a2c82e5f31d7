/-! PURE: the reference's lines: meet; any line -/
section ZQ2
variable {m m0 : ax_M} {d : Nat → Nat} {n i p0 : Nat} {D : zD}
theorem z8_meet (hW : zDW D) (hn : n ≤ 320) (hd : ∀ i, i < n → d i < 256) (hi' : i ≤ n) (hQ : z8Q m0 d n D m) (hP : z8P m p0 i) : D8_readMeet m ∧ z8O m0 d n (F8_readMeet m) (zlM d n D p0 i (fun D e => Sum.inr (D, e))) := by
  have hd8 := hW.1.2.2.2.2.2.2.1
  have q13 := hQ.1.1.2.2.1
  obtain ⟨r1, r2⟩ := z8_room (c := D.dn) (L := 8) hd8 (by omega) hn hd hi' hQ hP
  rw [show nI 8 = (8 : Int32) from rfl] at r1 r2
  unfold D8_readMeet F8_readMeet zlM
  rw [q13]
  rcases r2 with ⟨w, e1, e2, e3⟩ | ⟨w, w5, e1, e2, e3⟩ | ⟨w, w5, e1, e2, e3⟩
  · rw [e1, if_pos (show (0 : Int32) = 0 from rfl), if_pos (show 8 ≤ D.dn by omega)]
    exact ⟨⟨r1, fun x => absurd rfl x⟩, e2.o e3⟩
  · rw [e1, if_pos (show (0 : Int32) = 0 from rfl), if_neg (show ¬ 8 ≤ D.dn by omega), zbN_5 w5]
    exact ⟨⟨r1, fun x => absurd rfl x⟩, e2.o e3⟩
  · rw [e1, if_neg (show ¬ (1 : Int32) = 0 by decide), if_neg (show ¬ 8 ≤ D.dn by omega)]
    generalize (F8_hasRoom (nI D.dn) 8 m).2 = m1 at *
    obtain ⟨D1, ⟨hb, hg, ho, hH, nB, nG, nO⟩, T1, N1, X1⟩ := e2
    have i13 : m1 74 13 = nI D.dn := D1.1.2.2.1
    have ix : 3 * nI D.dn = nI (3 * D.dn) := by rw [z_lit 3, pk_mul]
    have ix1 : nI (3 * D.dn) + 1 = nI (3 * D.dn + 1) := nI_1 _
    have ix2 : nI (3 * D.dn) + 2 = nI (3 * D.dn + 2) := nI_add _ 2
    have tail3 : ∀ (M : ax_M) (f a : Nat) (v x : Int32), z8X m0 M → z8B M f a → HK8_readMeet_102 v x (nI (3 * D.dn + 2)) M ∧ z8O m0 d n (K8_readMeet_102 v x (nI (3 * D.dn + 2)) M) (Sum.inl (f, a)) := fun M f a v x hX hB => by
      unfold HK8_readMeet_102 K8_readMeet_102
      exact ⟨z_vp (by omega) (by omega), ((hB.up (by omega)).up (by omega)).o ((hX.up (by omega)).up (by omega))⟩
    have tail2 : ∀ (M : ax_M) (f a : Nat) (v : Int32), M 74 13 = nI D.dn → z8X m0 M → z8B M f a → HK8_readMeet_71 v M ∧ z8O m0 d n (K8_readMeet_71 v M) (Sum.inl (f, a)) := fun M f a v h13 hX hB => by
      unfold HK8_readMeet_71 K8_readMeet_71
      rw [h13, ix, ix1, ix2]
      obtain ⟨o1, y, o2⟩ := hB.on (S := (1 : Int32) <<< ((M 80 (Int32.toNatClampNeg (nI (3 * D.dn + 1)))) &&& (31 : Int32)))
      rw [o2]
      obtain ⟨t1, t2⟩ := tail3 (ax_up M 74 20 y) f a v 0 (hX.up (by omega)) (hB.up (by omega))
      exact ⟨⟨z_vp (by omega) (by omega), o1, t1⟩, t2⟩
    have tail1 : ∀ (M : ax_M) (f a : Nat) (v : Int32), M 74 13 = nI D.dn → z8X m0 M → z8B M f a → HK8_readMeet_53 v M ∧ z8O m0 d n (K8_readMeet_53 v M) (Sum.inl (f, a)) := fun M f a v h13 hX hB => by
      unfold HK8_readMeet_53 K8_readMeet_53
      obtain ⟨o1, y, o2⟩ := hB.on (S := 0)
      rw [o2, h13, ix, ix1, z_ncl (by omega)]
      obtain ⟨t1, t2⟩ := tail2 (ax_up (ax_up M 74 20 y) 80 (3 * D.dn + 1) 0) f a v (by rw [z_upr (by omega), z_up, if_neg (by omega)]; exact h13) ((hX.up (by omega)).up (by omega)) ((hB.up (by omega)).up (by omega))
      exact ⟨⟨o1, z_vp (by omega) (by omega), t1⟩, t2⟩
    have t := z8_bN (m := m1) (m0 := m0) (lo := 0) (hi := 3) (S := 0) (κ := fun x M => K8_readMeet_38 x (if x ≤ (M 74 19) then (M 74 19 : Int32) else x) M) (δ := fun x M => HK8_readMeet_38 x (if x ≤ (M 74 19) then (M 74 19 : Int32) else x) M) (k := fun b _ e => zbN d n 0 5 e (fun p _ e2 => zbN d n 0 5 e2 (fun q a e3 => if q = p then Sum.inl (4, a) else Sum.inr (D.meet b p q, e3)))) hn hd (by omega) (by omega) (by omega) hi' T1 e3 (fun M f a hF hB => by
        unfold HK8_readMeet_38 K8_readMeet_38
        have h13 : ∀ y, (ax_up M 74 19 y) 74 13 = nI D.dn := fun y => by rw [z_up, if_neg (by omega), hF.2 13 (by omega)]; exact i13
        rw [h13, ix, z_ncl (by omega)]
        obtain ⟨t1, t2⟩ := tail1 (ax_up (ax_up M 74 19 (if nI 0 ≤ (M 74 19) then (M 74 19 : Int32) else nI 0)) 80 (3 * D.dn) (nI 0)) f a (nI 0) (by rw [z_upr (by omega)]; exact h13 _) (((hF.gg.x X1).up (by omega)).up (by omega)) ((hB.up (by omega)).up (by omega))
        exact ⟨⟨z_vp (by omega) (by omega), t1⟩, t2⟩) (fun v a e _ hv => by rw [Nat.zero_testBit] at hv; cases hv) (fun b a e M _ hb3 _ he hF hS' => by
        unfold HK8_readMeet_38 K8_readMeet_38
        have e19 : M 74 19 = nI hg - 1 := by rw [hF.2 19 (by omega)]; exact hH.2.1
        have hg4 := hH.2.2.2.2.1
        rw [e19, zmx_i (by omega) (by omega)]
        have h13 : (ax_up M 74 19 (nI (zmx hg b) - 1)) 74 13 = nI D.dn := by rw [z_up, if_neg (by omega), hF.2 13 (by omega)]; exact i13
        rw [h13, ix, z_ncl (by omega)]
        have D2 : z8d (ax_up (ax_up M 74 19 (nI (zmx hg b) - 1)) 80 (3 * D.dn) (nI b)) D := ((hF.gg.dd D1).x hW (by omega)).x hW (by omega)
        have T2 : z8T (ax_up (ax_up M 74 19 (nI (zmx hg b) - 1)) 80 (3 * D.dn) (nI b)) n d := ((hF.t T1).x (by omega)).x (by omega)
        have N2 : z8N (ax_up (ax_up M 74 19 (nI (zmx hg b) - 1)) 80 (3 * D.dn) (nI b)) := ((hF.gg.nn N1).x (by omega)).x (by omega)
        have X2 : z8X m0 (ax_up (ax_up M 74 19 (nI (zmx hg b) - 1)) 80 (3 * D.dn) (nI b)) := ((hF.gg.x X1).up (by omega)).up (by omega)
        have S2 : z8S (ax_up (ax_up M 74 19 (nI (zmx hg b) - 1)) 80 (3 * D.dn) (nI b)) d n e := (hS'.up (by omega)).up (by omega)
        have k13 : (ax_up (ax_up M 74 19 (nI (zmx hg b) - 1)) 80 (3 * D.dn) (nI b)) 74 13 = nI D.dn := by rw [z_upr (by omega)]; exact h13
        have k80 : (ax_up (ax_up M 74 19 (nI (zmx hg b) - 1)) 80 (3 * D.dn) (nI b)) 80 (3 * D.dn) = nI b := by rw [z_up, if_pos ⟨rfl, rfl⟩]
        have kh : z8h (ax_up (ax_up M 74 19 (nI (zmx hg b) - 1)) 80 (3 * D.dn) (nI b)) hb (zmx hg b) ho := ⟨by rw [z_upr (by omega), z_up, if_neg (by omega), hF.2 18 (by omega)]; exact hH.1, by rw [z_upr (by omega), z_up, if_pos ⟨rfl, rfl⟩], by rw [z_upr (by omega), z_up, if_neg (by omega), hF.2 20 (by omega)]; exact hH.2.2.1, hH.2.2.2.1, by unfold zmx; split <;> omega, hH.2.2.2.2.2⟩
        generalize ax_up (ax_up M 74 19 (nI (zmx hg b) - 1)) 80 (3 * D.dn) (nI b) = m2 at *
        unfold HK8_readMeet_53 K8_readMeet_53
        rw [k13, ix, ix1, z_ncl (by omega)]
        have t := z8_on (m := m2) (m0 := m0) (S := 0) (κ := fun x M => K8_readMeet_71 (nI b) (ax_up M 80 (3 * D.dn + 1) x)) (δ := fun x M => vp_in (nI (3 * D.dn + 1)) 24 ∧ HK8_readMeet_71 (nI b) (ax_up M 80 (3 * D.dn + 1) x)) (k := fun p _ e2 => zbN d n 0 5 e2 (fun q a e3 => if q = p then Sum.inl (4, a) else Sum.inr (D.meet b p q, e3))) hn hd (by omega) he T2 S2 kh (fun M f a hG hB => by
            obtain ⟨t1, t2⟩ := tail2 (ax_up M 80 (3 * D.dn + 1) (nI 0)) f a (nI b) (by rw [z_upr (by omega), hG.2 13 (by omega) (by omega)]; exact k13) ((hG.x X2).up (by omega)) (hB.up (by omega))
            exact ⟨⟨z_vp (by omega) (by omega), t1⟩, t2⟩) (fun v a e _ hv => by rw [Nat.zero_testBit] at hv; cases hv) (fun p a e2 M hp5 _ he2 hG hS3 hh3 => by
            have D3 : z8d (ax_up M 80 (3 * D.dn + 1) (nI p)) D := (hG.dd D2).x hW (by omega)
            have T3 : z8T (ax_up M 80 (3 * D.dn + 1) (nI p)) n d := (hG.t T2).x (by omega)
            have N3 : z8N (ax_up M 80 (3 * D.dn + 1) (nI p)) := (hG.nn N2).x (by omega)
            have X3 : z8X m0 (ax_up M 80 (3 * D.dn + 1) (nI p)) := (hG.x X2).up (by omega)
            have S3 : z8S (ax_up M 80 (3 * D.dn + 1) (nI p)) d n e2 := hS3.up (by omega)
            have l13 : (ax_up M 80 (3 * D.dn + 1) (nI p)) 74 13 = nI D.dn := by rw [z_upr (by omega), hG.2 13 (by omega) (by omega)]; exact k13
            have l0 : (ax_up M 80 (3 * D.dn + 1) (nI p)) 80 (3 * D.dn) = nI b := by rw [z_up, if_neg (by omega), hG.1 80 (by omega)]; exact k80
            have l1 : (ax_up M 80 (3 * D.dn + 1) (nI p)) 80 (3 * D.dn + 1) = nI p := by rw [z_up, if_pos ⟨rfl, rfl⟩]
            have lh : z8h (ax_up M 80 (3 * D.dn + 1) (nI p)) hb (zmx hg b) (zmx ho p) := ⟨by rw [z_upr (by omega)]; exact hh3.1, by rw [z_upr (by omega)]; exact hh3.2.1, by rw [z_upr (by omega)]; exact hh3.2.2.1, hh3.2.2.2⟩
            generalize ax_up M 80 (3 * D.dn + 1) (nI p) = m3 at *
            unfold HK8_readMeet_71 K8_readMeet_71
            have e2p : (1 : Int32) <<< (nI p &&& (31 : Int32)) = nI (2 ^ p) := by
              have h2 : (2 : Nat) ^ p < 2 ^ 32 := Nat.pow_lt_pow_right (by decide) (by omega)
              rw [z_lit 1, z_shl (by omega) (by omega), Nat.one_mul]
            rw [l13, ix, ix1, ix2, z_ncl (show 3 * D.dn + 1 < 2147483648 by omega), l1, e2p]
            have h2p : (2 : Nat) ^ p < 2 ^ 31 := Nat.pow_lt_pow_right (by decide) (by omega)
            have t := z8_on (m := m3) (m0 := m0) (S := 2 ^ p) (κ := fun x M => K8_readMeet_102 (nI b) x (nI (3 * D.dn + 2)) M) (δ := fun x M => HK8_readMeet_102 (nI b) x (nI (3 * D.dn + 2)) M) (k := fun q a e3 => if q = p then Sum.inl (4, a) else Sum.inr (D.meet b p q, e3)) hn hd h2p he2 T3 S3 lh (fun M f a hG hB => tail3 M f a (nI b) (nI 0) (hG.x X3) hB) (fun v a e _ hv => by
              rw [Nat.testBit_two_pow, decide_eq_true_eq] at hv
              rw [if_pos hv.symm]) (fun q a e3 M5 hq5 hnq he3 hG5 hS5 hh5 => by
              have hqp : ¬ q = p := fun x => hnq ⟨by omega, by rw [x]; exact Nat.testBit_two_pow_self⟩
              rw [if_neg hqp]
              unfold HK8_readMeet_102 K8_readMeet_102
              rw [z_ncl (show 3 * D.dn + 2 < 2147483648 by omega)]
              have e13 : (ax_up M5 80 (3 * D.dn + 2) (nI q)) 74 13 + 1 = nI (D.dn + 1) := by rw [z_upr (by omega), hG5.2 13 (by omega) (by omega), l13, nI_1]
              rw [e13]
              refine ⟨z_vp (by omega) (by omega), ?_⟩
              have D5 : z8d (ax_up M5 80 (3 * D.dn + 2) (nI q)) D := (hG5.dd D3).x hW (by omega)
              obtain ⟨⟨q11, q12, q13', q14, q15, q16⟩, q17, qP, qE, qY⟩ := D5
              have sl : ∀ j, j ≠ 13 → (ax_up (ax_up M5 80 (3 * D.dn + 2) (nI q)) 74 13 (nI (D.dn + 1))) 74 j = (ax_up M5 80 (3 * D.dn + 2) (nI q)) 74 j := fun j hj => by rw [z_up, if_neg (by omega)]
              have hc' : ∀ x, x ≠ 74 → (ax_up (ax_up M5 80 (3 * D.dn + 2) (nI q)) 74 13 (nI (D.dn + 1))) x = (ax_up M5 80 (3 * D.dn + 2) (nI q)) x := fun x hx => z_upr hx
              have dye : ∀ j, (D.meet b p q).dy j = if j = 3 * D.dn then b else if j = 3 * D.dn + 1 then p else if j = 3 * D.dn + 2 then q else D.dy j := fun j => rfl
              have dyo : ∀ j, j < 3 * D.dn → (D.meet b p q).dy j = D.dy j := fun j hj => by rw [dye, if_neg (by omega), if_neg (by omega), if_neg (by omega)]
              have dy0 : (D.meet b p q).dy (3 * D.dn) = b := by rw [dye, if_pos rfl]
              have dy1 : (D.meet b p q).dy (3 * D.dn + 1) = p := by rw [dye, if_neg (by omega), if_pos rfl]
              have dy2 : (D.meet b p q).dy (3 * D.dn + 2) = q := by rw [dye, if_neg (by omega), if_neg (by omega), if_pos rfl]
              refine ⟨⟨⟨?_, ?_, ?_, ?_, ?_, ?_⟩, ?_, ?_, ?_, fun j hj => ?_⟩, ⟨hb, zmx hg b, zmx (zmx ho p) q, ⟨?_, ?_, ?_, hh5.2.2.2⟩, nB, zmx_h nG (fun x => ?_), zmx_h (N := fun x => zNO D x ∨ x = p) (zmx_h nO (fun x => Iff.rfl)) (fun x => ?_)⟩, ((hG5.t T3).x (by omega)).x (by omega), ((hG5.nn N3).x (by omega)).x (by omega), ((hG5.x X3).up (by omega)).up (by omega), (hS5.up (by omega)).up (by omega), he3⟩
              · rw [sl 11 (by omega)]; exact q11
              · rw [sl 12 (by omega)]; exact q12
              · rw [z_up, if_pos ⟨rfl, rfl⟩]; rfl
              · rw [sl 14 (by omega)]; exact q14
              · rw [sl 15 (by omega)]; exact q15
              · rw [sl 16 (by omega)]; exact q16
              · rw [sl 17 (by omega)]; exact q17
              · rw [hc' 78 (by omega)]; exact qP
              · rw [hc' 79 (by omega)]; exact qE
              · have hj' : j < 3 * (D.dn + 1) := hj
                rw [hc' 80 (by omega)]
                by_cases y2 : j = 3 * D.dn + 2
                · rw [y2, dy2, z_up, if_pos ⟨rfl, rfl⟩]
                · by_cases y1 : j = 3 * D.dn + 1
                  · rw [y1, dy1, z_up, if_neg (by omega), hG5.1 80 (by omega)]; exact l1
                  · by_cases y0 : j = 3 * D.dn
                    · rw [y0, dy0, z_up, if_neg (by omega), hG5.1 80 (by omega)]; exact l0
                    · rw [dyo j (by omega)]; exact qY j (by omega)
              · rw [sl 18 (by omega), z_upr (by omega)]; exact hh5.1
              · rw [sl 19 (by omega), z_upr (by omega)]; exact hh5.2.1
              · rw [sl 20 (by omega), z_upr (by omega)]; exact hh5.2.2.1
              · unfold zNG
                constructor
                · rintro ⟨j, j1, j2⟩
                  have j1' : j < D.dn + 1 := j1
                  by_cases y : j = D.dn
                  · rw [y, dy0] at j2; exact Or.inr j2.symm
                  · rw [dyo _ (by omega)] at j2; exact Or.inl ⟨j, by omega, j2⟩
                · rintro (⟨j, j1, j2⟩ | y)
                  · exact ⟨j, by show j < D.dn + 1; omega, by rw [dyo _ (by omega)]; exact j2⟩
                  · exact ⟨D.dn, by show D.dn < D.dn + 1; omega, by rw [dy0, y]⟩
              · unfold zNO
                constructor
                · rintro ⟨j, j1, j2⟩
                  have j1' : j < D.dn + 1 := j1
                  by_cases y : j = D.dn
                  · rw [y, dy1, dy2] at j2
                    rcases j2 with u | u
                    · exact Or.inl (Or.inr u.symm)
                    · exact Or.inr u.symm
                  · rw [dyo _ (by omega), dyo _ (by omega)] at j2; exact Or.inl (Or.inl ⟨j, by omega, j2⟩)
                · rintro ((⟨j, j1, j2⟩ | y) | y)
                  · exact ⟨j, by show j < D.dn + 1; omega, by rw [dyo _ (by omega), dyo _ (by omega)]; exact j2⟩
                  · exact ⟨D.dn, by show D.dn < D.dn + 1; omega, Or.inl (by rw [dy1, y])⟩
                  · exact ⟨D.dn, by show D.dn < D.dn + 1; omega, Or.inr (by rw [dy2, y])⟩)
            exact ⟨⟨z_vp (by omega) (by omega), z_vp (by omega) (by omega), t.1, t.2.1⟩, t.2.2⟩)
        exact ⟨⟨z_vp (by omega) (by omega), t.1, t.2.1.1, t.2.1.2⟩, t.2.2⟩)
    exact ⟨⟨r1, fun _ => ⟨t.1, t.2.1⟩⟩, t.2.2⟩
/-- a line's end, behind what the line says -/
def zbd (d : Nat → Nat) (n : Nat) (r : zR) : zR := match r with
  | Sum.inl x => Sum.inl x
  | Sum.inr x => zfin d n x.1 x.2
theorem zbN_b {lo hi : Nat} {k : Nat → Nat → Nat → zR} : zbd d n (zbN d n lo hi i k) = zbN d n lo hi i (fun v a e => zbd d n (k v a e)) := by
  unfold zbN
  split <;> rfl
theorem zbK_b {k : Nat → Nat → zR} : zbd d n (zbK d n i k) = zbK d n i (fun v e => zbd d n (k v e)) := by
  unfold zbK
  split
  · rfl
  · split <;> rfl
theorem zLn_b {K a e : Nat} : zLn d n D K a e (zfin d n) = zbd d n (zLn d n D K a e (fun D e => Sum.inr (D, e))) := by
  unfold zLn
  split
  · unfold zlB; split
    · rfl
    · rw [zbN_b]; rfl
  · split
    · unfold zlS; split
      · rfl
      · rw [zbN_b]; rfl
    · split
      · unfold zlH
        rw [zbN_b]
        congr 1
        funext b a e
        split
        · rfl
        · rw [zbN_b]; rfl
      · split
        · unfold zlG; split
          · rfl
          · rw [zbN_b]
            congr 1
            funext f a e
            rw [zbN_b]
            congr 1
            funext c a e
            split
            · rfl
            · rw [zbN_b]; rfl
        · split
          · unfold zlO; split
            · rfl
            · rw [zbK_b]
              congr 1
              funext x e
              rw [zbN_b]
              congr 1
              funext w a e
              rw [zbN_b]
              congr 1
              funext b a e
              rw [zbN_b]; rfl
          · split
            · unfold zlM; split
              · rfl
              · rw [zbN_b]
                congr 1
                funext b a e
                rw [zbN_b]
                congr 1
                funext p a e
                rw [zbN_b]
                congr 1
                funext q a e
                split <;> rfl
            · rfl
theorem z8_tail {v : Int32} {r : zR} (hn : n ≤ 320) (hd : ∀ i, i < n → d i < 256) (h : z8O m0 d n m r) : HK8_readLine_114 v m ∧ z8O m0 d n (K8_readLine_114 v m) (zbd d n r) := by
  unfold HK8_readLine_114 K8_readLine_114 HK8_readLine_134 K8_readLine_134
  cases r with
  | inl x =>
    obtain ⟨a1, a2, a3, a4, a5⟩ := h
    have hB : z8B m x.1 x.2 := ⟨a1, a2, a3, a4⟩
    have n0 : ¬ m 74 24 = 0 := by rw [a1]; exact nI_ne0 a3 (by omega)
    rw [if_neg n0]
    obtain ⟨s1, s2⟩ := hB.st
    rw [s2]
    exact ⟨s1, hB.o a5⟩
  | inr x =>
    obtain ⟨hD, ⟨hb, hg, ho, hH, nB, nG, nO⟩, hT, hN, hX, hS, he⟩ := h
    obtain ⟨p1, p2, p3, p4, p5, p6, p7, p8⟩ := zTk_p (d := d) he
    show _ ∧ z8O m0 d n _ (zfin d n x.1 x.2)
    unfold zfin zbS zSc
    by_cases w5 : (zTk d n x.2).2.2 = 5
    · obtain ⟨u1, u2⟩ := hS.2.1 w5
      have hB : z8B m 1 (zTk d n x.2).1 := ⟨u1, u2, by omega, by omega⟩
      have n0 : ¬ m 74 24 = 0 := by rw [u1]; decide
      rw [if_neg n0]
      obtain ⟨s1, s2⟩ := hB.st
      dsimp only
      rw [s2, if_pos w5, if_neg (by omega)]
      exact ⟨s1, hB.o hX⟩
    · obtain ⟨u1, u2, u3, u4⟩ := hS.2.2 w5
      have c3 : (m 74 28 = 3) ↔ (zTk d n x.2).2.2 = 3 := by
        rw [u3]
        by_cases y : (zTk d n x.2).2.2 = 4
        · rw [if_pos y]; exact ⟨fun z => absurd z (by decide), fun z => by omega⟩
        · rw [if_neg y]; exact z_neq (b := 3) (by omega) (by omega)
      dsimp only
      rw [if_pos u1, if_neg w5]
      by_cases w3 : (zTk d n x.2).2.2 = 3
      · rw [if_pos (c3.mpr w3), if_pos w3, if_pos rfl]
        obtain ⟨s1, s2, s3⟩ := z8_step hn hd hT u1 u2 p3
        exact ⟨s1, s2.gg.dd hD, ⟨hb, hg, ho, ⟨(s2.2 18 (by omega)).trans hH.1, (s2.2 19 (by omega)).trans hH.2.1, (s2.2 20 (by omega)).trans hH.2.2.1, hH.2.2.2⟩, nB, nG, nO⟩, s2.t hT, s2.gg.nn hN, s2.gg.x hX, s3, p3⟩
      · rw [if_neg (fun y => w3 (c3.mp y)), if_neg w3, if_neg (by omega)]
        obtain ⟨f1, f2⟩ := z8_brk (c := 2) (p0 := (zTk d n x.2).1) (i := (zTk d n x.2).2.1) ⟨u1, hS.1, u2⟩ rfl (f := 2) (by omega) (by omega)
        obtain ⟨s1, s2⟩ := f1.st
        rw [s2]
        exact ⟨s1, f1.o (f2.x hX)⟩
theorem z8_line (hW : zDW D) (hn : n ≤ 320) (hd : ∀ i, i < n → d i < 256) (hi' : i ≤ n) (hQ : z8Q m0 d n D m) (hS : z8S m d n i) (w5 : (zTk d n i).2.2 ≠ 5) : D8_readLine m ∧ z8O m0 d n (F8_readLine m) (zLn d n D (zTk d n i).2.2 (zTk d n i).1 (zTk d n i).2.1 (zfin d n)) := by
  obtain ⟨p1, p2, p3, p4, p5, p6, p7, p8⟩ := zTk_p (d := d) hi'
  obtain ⟨u1, u2, u3, u4⟩ := hS.2.2 w5
  obtain ⟨nm1, nm2⟩ := z8_name (d := d) (K := (zTk d n i).2.2) hn hQ.2.2.1 hQ.2.2.2.1 u3 (by omega) u2 hS.1 p2 p3
  have hz := znm_le (d := d) (K := (zTk d n i).2.2) (a := (zTk d n i).1) (e := (zTk d n i).2.1)
  have hP : z8P m (zTk d n i).1 (zTk d n i).2.1 := ⟨u1, hS.1, u2⟩
  rw [zLn_b]
  unfold D8_readLine F8_readLine zLn
  rw [nm2]
  generalize (zTk d n i).1 = a at *
  generalize (zTk d n i).2.1 = e at *
  generalize znm d (zTk d n i).2.2 a e = z at *
  have ein : F8_in (Int32.toInt64 (if z < 11 then nI z else -4)) 0 5 m = zb (decide (z ≤ 5)) := by
    rw [z8_in 0 5 rfl rfl]
    unfold zwi
    by_cases y : z < 11
    · rw [if_pos y, z_nti (by omega)]
      congr 1
      rw [decide_eq_decide]; omega
    · rw [if_neg y, decide_eq_false (show ¬ z ≤ 5 by omega)]; rfl
  rw [ein]
  by_cases w : z ≤ 5
  · rw [decide_eq_true w, if_neg (show ¬ zb true = 0 by decide), if_pos (show z < 11 by omega)]
    have cz : ∀ k, k < 10 → ((nI z = nI k) ↔ z = k) := fun k hk => z_neq (by omega) (by omega)
    have c2 : (nI z = 2) ↔ z = 2 := cz 2 (by omega)
    have c3 : (nI z = 3) ↔ z = 3 := cz 3 (by omega)
    have c4 : (nI z = 4) ↔ z = 4 := cz 4 (by omega)
    have c5 : (nI z = 5) ↔ z = 5 := cz 5 (by omega)
    simp only [c2, c3, c4, c5]
    have h2 := z8_heap hW hn hd p3 hQ hP
    have h3 := z8_bridge hW hn hd p3 hQ hP
    have h4 := z8_one hW hn hd p3 hQ hP
    have h5 := z8_meet hW hn hd p3 hQ hP
    by_cases w3 : z = 3
    · rw [if_pos w3, if_neg (by omega), if_neg (by omega), if_neg (by omega), if_pos w3]
      obtain ⟨t1, t2⟩ := z8_tail (v := nI z) hn hd h3.2
      exact ⟨⟨nm1, fun _ => ⟨⟨fun _ => h3.1, fun x => absurd w3 x⟩, t1⟩⟩, t2⟩
    · rw [if_neg w3]
      by_cases w4 : z = 4
      · rw [if_pos w4, if_neg (by omega), if_neg (by omega), if_neg (by omega), if_neg w3, if_pos w4]
        obtain ⟨t1, t2⟩ := z8_tail (v := nI z) hn hd h4.2
        exact ⟨⟨nm1, fun _ => ⟨⟨fun x => absurd x w3, fun _ => ⟨fun _ => h4.1, fun x => absurd w4 x⟩⟩, t1⟩⟩, t2⟩
      · rw [if_neg w4]
        by_cases w5' : z = 5
        · rw [if_pos w5', if_neg (by omega), if_neg (by omega), if_neg (by omega), if_neg w3, if_neg w4, if_pos w5']
          obtain ⟨t1, t2⟩ := z8_tail (v := nI z) hn hd h5.2
          exact ⟨⟨nm1, fun _ => ⟨⟨fun x => absurd x w3, fun _ => ⟨fun x => absurd x w4, fun _ => ⟨fun _ => h5.1, fun x => absurd w5' x⟩⟩⟩, t1⟩⟩, t2⟩
        · rw [if_neg w5']
          by_cases w2 : z = 2
          · rw [if_pos w2, if_neg (by omega), if_neg (by omega), if_pos w2]
            obtain ⟨t1, t2⟩ := z8_tail (v := nI z) hn hd h2.2
            exact ⟨⟨nm1, fun _ => ⟨⟨fun x => absurd x w3, fun _ => ⟨fun x => absurd x w4, fun _ => ⟨fun x => absurd x w5', fun _ => ⟨fun _ => h2.1, fun x => absurd w2 x⟩⟩⟩⟩, t1⟩⟩, t2⟩
          · rw [if_neg w2]
            have h1 := z8_once (nm := nI z) (b := z) rfl (by omega) hn hd p3 hQ hP
            obtain ⟨t1, t2⟩ := z8_tail (v := nI z) hn hd h1.2
            refine ⟨⟨nm1, fun _ => ⟨⟨fun x => absurd x w3, fun _ => ⟨fun x => absurd x w4, fun _ => ⟨fun x => absurd x w5', fun _ => ⟨fun x => absurd x w2, fun _ => h1.1⟩⟩⟩⟩, t1⟩⟩, ?_⟩
            by_cases w0 : z = 0
            · rw [if_pos w0]; rw [if_pos w0] at t2; exact t2
            · rw [if_neg w0, if_pos (show z = 1 by omega)]; rw [if_neg w0] at t2; exact t2
  · rw [decide_eq_false w, if_pos (show zb false = 0 from rfl), if_neg (show ¬ z = 0 by omega), if_neg (show ¬ z = 1 by omega), if_neg (show ¬ z = 2 by omega), if_neg (show ¬ z = 3 by omega), if_neg (show ¬ z = 4 by omega), if_neg (show ¬ z = 5 by omega)]
    obtain ⟨f1, f2⟩ := z8_brk (c := 2) hP rfl (f := 2) (by omega) (by omega)
    exact ⟨⟨nm1, fun x => absurd rfl x⟩, f1.o (f2.x hQ.2.2.2.2)⟩
end ZQ2
