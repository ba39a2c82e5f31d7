/-! the law: its loop -/
theorem lw_idx {j L k : Nat} (hL : L ≤ 3072) (hj : 6 * j + 6 ≤ L) (hk : k < 6) : vp_in (nI (6 * j) + nI k) L := by
  rw [nI_add]
  exact vp_in_nI (by omega) (by omega)
theorem lw_notgt {L j : Nat} (hL : L ≤ 3072) (hj : 6 * j + 6 ≤ L) : ¬ nI L - 6 < nI (6 * j) := by
  rw [show (6 : Int32) = nI 6 from rfl, pk_sub (by omega)]
  exact nI_nlt (by omega) (by omega)
theorem lw_gt {L j : Nat} (hL : L ≤ 3072) (hj : L < 6 * j + 6) (hjL : 6 * j ≤ L) : nI L - 6 < nI (6 * j) := by
  rw [Int32.lt_iff_toInt_lt, show (6 : Int32) = nI 6 from rfl, pk_sub_toInt (by omega) (by omega), nI_toInt (by omega)]
  omega
theorem lw_outX {nm : String} {L : Nat} {xs : Nat → Int32} (hL : L ≤ 3072) (j : Nat) (m : ax_M) (hj : L < 6 * j + 6) (hjL : 6 * j ≤ L) : ax_RX nm L xs 18 [some (.ref 2999), some (.ref 0), some (.ref 74), some (.int (nI (6 * j)))] [] SH m := by
  refine x_iload_n (eL_18 nm) rfl rfl ?_
  refine x_aload_n (eL_19 nm) rfl rfl ?_
  refine x_slen (v := nI L) (eL_20 nm) rfl ?_
  refine x_bipush (v := 6) (eL_21 nm) rfl ?_
  refine x_isub (eL_23 nm) ?_
  refine x_icmp_gt (eL_24 nm) (fun _ => ?_) (fun h => absurd (lw_gt hL hj hjL) h)
  refine x_iconst (v := 1) (eL_1413 nm) rfl ?_
  exact x_ret (eL_1414 nm)
theorem lw_loopX {nm : String} {L : Nat} {xs : Nat → Int32} (hL : L ≤ 3072) (I : ax_M → Prop) (hOK : ∀ m, I m → OKall I m) : ∀ (n j : Nat) (m : ax_M), L < 6 * j + 6 * n → 6 * j ≤ L → I m → ax_RX nm L xs 18 [some (.ref 2999), some (.ref 0), some (.ref 74), some (.int (nI (6 * j)))] [] SH m := by
  intro n
  induction n with
  | zero =>
    intro j m hn hjL hI
    exact lw_outX hL j m (by omega) hjL
  | succ n ih =>
    intro j m hn hjL hI
    by_cases hj : L < 6 * j + 6
    · exact lw_outX hL j m hj hjL
    · have hj : 6 * j + 6 ≤ L := by omega
      have hnext : ∀ m', I m' → ax_RX nm L xs 1407 [some (.ref 2999), some (.ref 0), some (.ref 74), some (.int (nI (6 * j)))] [] SH m' := by
        intro m' hI'
        have e : nI (6 * j) + 6 = nI (6 * (j + 1)) := by rw [show (6 : Int32) = nI 6 from rfl, nI_add]; rfl
        refine x_iinc (v := nI (6 * (j + 1))) (ls' := [some (.ref 2999), some (.ref 0), some (.ref 74), some (.int (nI (6 * (j + 1))))]) (eL_1407 nm) rfl e rfl rfl ?_
        refine x_goto (eL_1410 nm) ?_
        exact ih (j + 1) m' (by omega) (by omega) hI'
      have hO := hOK m hI
      have hv1 : vp_in (nI (6 * j) + 1) L := lw_idx (k := 1) hL hj (by decide)
      have hv2 : vp_in (nI (6 * j) + 2) L := lw_idx (k := 2) hL hj (by decide)
      have hv3 : vp_in (nI (6 * j) + 3) L := lw_idx (k := 3) hL hj (by decide)
      have hv4 : vp_in (nI (6 * j) + 4) L := lw_idx (k := 4) hL hj (by decide)
      have hv5 : vp_in (nI (6 * j) + 5) L := lw_idx (k := 5) hL hj (by decide)
      refine x_iload_n (eL_18 nm) rfl rfl ?_
      refine x_aload_n (eL_19 nm) rfl rfl ?_
      refine x_slen (v := nI L) (eL_20 nm) rfl ?_
      refine x_bipush (v := 6) (eL_21 nm) rfl ?_
      refine x_isub (eL_23 nm) ?_
      refine x_icmp_gt (eL_24 nm) (fun h => absurd h (lw_notgt hL hj)) (fun _ => ?_)
      refine x_aload_n (eL_27 nm) rfl rfl ?_
      refine x_iload_n (eL_28 nm) rfl rfl ?_
      refine x_sld (eL_29 nm) (vp_in_nI (by omega) (by omega)) ?_
      refine x_bipush (v := 63) (eL_30 nm) rfl ?_
      refine x_iand (eL_32 nm) ?_
      generalize xs (nI (6 * j)).toNatClampNeg &&& 63 = w
      by_cases h0 : w = 0
      · refine x_tabIn (off := 163) (tgt := 196) ⟨(eL_33 nm).1, (eL_33 nm).2, by decide⟩ (by rw [h0]; decide) (by rw [h0]; decide) (by rw [h0]; rfl) ?_
        have hq := (hO.1) (xs (nI (6 * j) + 1).toNatClampNeg) (xs (nI (6 * j) + 2).toNatClampNeg)
        exact lw_op0 (nI (6 * j)) (xs (nI (6 * j) + 1).toNatClampNeg) (xs (nI (6 * j) + 2).toNatClampNeg) m hv1 rfl hv2 rfl hq.1 hq.2.1 hq.2.2.1 (hnext _ hq.2.2.2)
      by_cases h1 : w = 1
      · refine x_tabIn (off := 216) (tgt := 249) ⟨(eL_33 nm).1, (eL_33 nm).2, by decide⟩ (by rw [h1]; decide) (by rw [h1]; decide) (by rw [h1]; rfl) ?_
        have hq := (hO.2.1) (xs (nI (6 * j) + 1).toNatClampNeg)
        exact lw_op1 (nI (6 * j)) (xs (nI (6 * j) + 1).toNatClampNeg) m hv1 rfl  hq.1 (hnext _ hq.2)
      by_cases h2 : w = 2
      · refine x_tabIn (off := 239) (tgt := 272) ⟨(eL_33 nm).1, (eL_33 nm).2, by decide⟩ (by rw [h2]; decide) (by rw [h2]; decide) (by rw [h2]; rfl) ?_
        have hq := hO.2.2.1
        exact lw_op2 (nI (6 * j))  m  hq.1 hq.2.1 hq.2.2.1 (hnext _ hq.2.2.2)
      by_cases h3 : w = 3
      · refine x_tabIn (off := 252) (tgt := 285) ⟨(eL_33 nm).1, (eL_33 nm).2, by decide⟩ (by rw [h3]; decide) (by rw [h3]; decide) (by rw [h3]; rfl) ?_
        have hq := hO.2.2.2.1
        exact lw_op3 (nI (6 * j))  m   hq.1 (hnext _ hq.2)
      by_cases h4 : w = 4
      · refine x_tabIn (off := 265) (tgt := 298) ⟨(eL_33 nm).1, (eL_33 nm).2, by decide⟩ (by rw [h4]; decide) (by rw [h4]; decide) (by rw [h4]; rfl) ?_
        have hq := (hO.2.2.2.2.1) (xs (nI (6 * j) + 1).toNatClampNeg)
        exact lw_op4 (nI (6 * j)) (xs (nI (6 * j) + 1).toNatClampNeg) m hv1 rfl  hq.1 (hnext _ hq.2)
      by_cases h5 : w = 5
      · refine x_tabIn (off := 288) (tgt := 321) ⟨(eL_33 nm).1, (eL_33 nm).2, by decide⟩ (by rw [h5]; decide) (by rw [h5]; decide) (by rw [h5]; rfl) ?_
        have hq := (hO.2.2.2.2.2.1) (xs (nI (6 * j) + 1).toNatClampNeg) (xs (nI (6 * j) + 2).toNatClampNeg)
        exact lw_op5 (nI (6 * j)) (xs (nI (6 * j) + 1).toNatClampNeg) (xs (nI (6 * j) + 2).toNatClampNeg) m hv1 rfl hv2 rfl hq.1 hq.2.1 (hnext _ hq.2.2)
      by_cases h6 : w = 6
      · refine x_tabIn (off := 321) (tgt := 354) ⟨(eL_33 nm).1, (eL_33 nm).2, by decide⟩ (by rw [h6]; decide) (by rw [h6]; decide) (by rw [h6]; rfl) ?_
        have hq := (hO.2.2.2.2.2.2.1) (xs (nI (6 * j) + 1).toNatClampNeg) (xs (nI (6 * j) + 2).toNatClampNeg)
        exact lw_op6 (nI (6 * j)) (xs (nI (6 * j) + 1).toNatClampNeg) (xs (nI (6 * j) + 2).toNatClampNeg) m hv1 rfl hv2 rfl hq.1 hq.2.1 (hnext _ hq.2.2)
      by_cases h7 : w = 7
      · refine x_tabIn (off := 354) (tgt := 387) ⟨(eL_33 nm).1, (eL_33 nm).2, by decide⟩ (by rw [h7]; decide) (by rw [h7]; decide) (by rw [h7]; rfl) ?_
        have hq := (hO.2.2.2.2.2.2.2.1) (xs (nI (6 * j) + 1).toNatClampNeg)
        exact lw_op7 (nI (6 * j)) (xs (nI (6 * j) + 1).toNatClampNeg) m hv1 rfl hq.1 hq.2.1 (hnext _ hq.2.2)
      by_cases h8 : w = 8
      · refine x_tabIn (off := 377) (tgt := 410) ⟨(eL_33 nm).1, (eL_33 nm).2, by decide⟩ (by rw [h8]; decide) (by rw [h8]; decide) (by rw [h8]; rfl) ?_
        have hq := (hO.2.2.2.2.2.2.2.2.1) (xs (nI (6 * j) + 1).toNatClampNeg) (xs (nI (6 * j) + 2).toNatClampNeg)
        exact lw_op8 (nI (6 * j)) (xs (nI (6 * j) + 1).toNatClampNeg) (xs (nI (6 * j) + 2).toNatClampNeg) m hv1 rfl hv2 rfl hq.1 hq.2.1 (hnext _ hq.2.2)
      by_cases h9 : w = 9
      · refine x_tabIn (off := 410) (tgt := 443) ⟨(eL_33 nm).1, (eL_33 nm).2, by decide⟩ (by rw [h9]; decide) (by rw [h9]; decide) (by rw [h9]; rfl) ?_
        have hq := (hO.2.2.2.2.2.2.2.2.2.1) (xs (nI (6 * j) + 1).toNatClampNeg) (xs (nI (6 * j) + 2).toNatClampNeg)
        exact lw_op9 (nI (6 * j)) (xs (nI (6 * j) + 1).toNatClampNeg) (xs (nI (6 * j) + 2).toNatClampNeg) m hv1 rfl hv2 rfl hq.1 hq.2.1 (hnext _ hq.2.2)
      by_cases h10 : w = 10
      · refine x_tabIn (off := 443) (tgt := 476) ⟨(eL_33 nm).1, (eL_33 nm).2, by decide⟩ (by rw [h10]; decide) (by rw [h10]; decide) (by rw [h10]; rfl) ?_
        have hq := (hO.2.2.2.2.2.2.2.2.2.2.1) (xs (nI (6 * j) + 1).toNatClampNeg) (xs (nI (6 * j) + 2).toNatClampNeg)
        exact lw_op10 (nI (6 * j)) (xs (nI (6 * j) + 1).toNatClampNeg) (xs (nI (6 * j) + 2).toNatClampNeg) m hv1 rfl hv2 rfl hq.1 hq.2.1 (hnext _ hq.2.2)
      by_cases h11 : w = 11
      · refine x_tabIn (off := 476) (tgt := 509) ⟨(eL_33 nm).1, (eL_33 nm).2, by decide⟩ (by rw [h11]; decide) (by rw [h11]; decide) (by rw [h11]; rfl) ?_
        have hq := (hO.2.2.2.2.2.2.2.2.2.2.2.1) (xs (nI (6 * j) + 1).toNatClampNeg) (xs (nI (6 * j) + 2).toNatClampNeg) (xs (nI (6 * j) + 3).toNatClampNeg)
        exact lw_op11 (nI (6 * j)) (xs (nI (6 * j) + 1).toNatClampNeg) (xs (nI (6 * j) + 2).toNatClampNeg) (xs (nI (6 * j) + 3).toNatClampNeg) m hv1 rfl hv2 rfl hv3 rfl hq.1 hq.2.1 (hnext _ hq.2.2)
      by_cases h12 : w = 12
      · refine x_tabIn (off := 519) (tgt := 552) ⟨(eL_33 nm).1, (eL_33 nm).2, by decide⟩ (by rw [h12]; decide) (by rw [h12]; decide) (by rw [h12]; rfl) ?_
        have hq := (hO.2.2.2.2.2.2.2.2.2.2.2.2.1) (xs (nI (6 * j) + 1).toNatClampNeg) (xs (nI (6 * j) + 2).toNatClampNeg)
        exact lw_op12 (nI (6 * j)) (xs (nI (6 * j) + 1).toNatClampNeg) (xs (nI (6 * j) + 2).toNatClampNeg) m hv1 rfl hv2 rfl hq.1 hq.2.1 hq.2.2.1 (hnext _ hq.2.2.2)
      by_cases h13 : w = 13
      · refine x_tabIn (off := 552) (tgt := 585) ⟨(eL_33 nm).1, (eL_33 nm).2, by decide⟩ (by rw [h13]; decide) (by rw [h13]; decide) (by rw [h13]; rfl) ?_
        have hq := (hO.2.2.2.2.2.2.2.2.2.2.2.2.2.1) (xs (nI (6 * j) + 1).toNatClampNeg) (xs (nI (6 * j) + 2).toNatClampNeg) (xs (nI (6 * j) + 3).toNatClampNeg) (xs (nI (6 * j) + 4).toNatClampNeg) (xs (nI (6 * j) + 5).toNatClampNeg)
        exact lw_op13 (nI (6 * j)) (xs (nI (6 * j) + 1).toNatClampNeg) (xs (nI (6 * j) + 2).toNatClampNeg) (xs (nI (6 * j) + 3).toNatClampNeg) (xs (nI (6 * j) + 4).toNatClampNeg) (xs (nI (6 * j) + 5).toNatClampNeg) m hv1 rfl hv2 rfl hv3 rfl hv4 rfl hv5 rfl hq.1 hq.2.1 (hnext _ hq.2.2)
      by_cases h14 : w = 14
      · refine x_tabIn (off := 615) (tgt := 648) ⟨(eL_33 nm).1, (eL_33 nm).2, by decide⟩ (by rw [h14]; decide) (by rw [h14]; decide) (by rw [h14]; rfl) ?_
        have hq := (hO.2.2.2.2.2.2.2.2.2.2.2.2.2.2.1) (xs (nI (6 * j) + 1).toNatClampNeg) (xs (nI (6 * j) + 2).toNatClampNeg) (xs (nI (6 * j) + 3).toNatClampNeg) (xs (nI (6 * j) + 4).toNatClampNeg) (xs (nI (6 * j) + 5).toNatClampNeg)
        exact lw_op14 (nI (6 * j)) (xs (nI (6 * j) + 1).toNatClampNeg) (xs (nI (6 * j) + 2).toNatClampNeg) (xs (nI (6 * j) + 3).toNatClampNeg) (xs (nI (6 * j) + 4).toNatClampNeg) (xs (nI (6 * j) + 5).toNatClampNeg) m hv1 rfl hv2 rfl hv3 rfl hv4 rfl hv5 rfl hq.1 hq.2.1 (hnext _ hq.2.2)
      by_cases h15 : w = 15
      · refine x_tabIn (off := 678) (tgt := 711) ⟨(eL_33 nm).1, (eL_33 nm).2, by decide⟩ (by rw [h15]; decide) (by rw [h15]; decide) (by rw [h15]; rfl) ?_
        have hq := (hO.2.2.2.2.2.2.2.2.2.2.2.2.2.2.2.1) (xs (nI (6 * j) + 1).toNatClampNeg) (xs (nI (6 * j) + 2).toNatClampNeg) (xs (nI (6 * j) + 3).toNatClampNeg) (xs (nI (6 * j) + 4).toNatClampNeg)
        exact lw_op15 (nI (6 * j)) (xs (nI (6 * j) + 1).toNatClampNeg) (xs (nI (6 * j) + 2).toNatClampNeg) (xs (nI (6 * j) + 3).toNatClampNeg) (xs (nI (6 * j) + 4).toNatClampNeg) m hv1 rfl hv2 rfl hv3 rfl hv4 rfl hq.1 hq.2.1 hq.2.2.1 (hnext _ hq.2.2.2)
      by_cases h16 : w = 16
      · refine x_tabIn (off := 731) (tgt := 764) ⟨(eL_33 nm).1, (eL_33 nm).2, by decide⟩ (by rw [h16]; decide) (by rw [h16]; decide) (by rw [h16]; rfl) ?_
        have hq := (hO.2.2.2.2.2.2.2.2.2.2.2.2.2.2.2.2.1) (xs (nI (6 * j) + 1).toNatClampNeg) (xs (nI (6 * j) + 2).toNatClampNeg)
        exact lw_op16 (nI (6 * j)) (xs (nI (6 * j) + 1).toNatClampNeg) (xs (nI (6 * j) + 2).toNatClampNeg) m hv1 rfl hv2 rfl hq.1 hq.2.1 hq.2.2.1 (hnext _ hq.2.2.2)
      by_cases h17 : w = 17
      · refine x_tabIn (off := 764) (tgt := 797) ⟨(eL_33 nm).1, (eL_33 nm).2, by decide⟩ (by rw [h17]; decide) (by rw [h17]; decide) (by rw [h17]; rfl) ?_
        have hq := (hO.2.2.2.2.2.2.2.2.2.2.2.2.2.2.2.2.2.1) (xs (nI (6 * j) + 1).toNatClampNeg) (xs (nI (6 * j) + 2).toNatClampNeg)
        exact lw_op17 (nI (6 * j)) (xs (nI (6 * j) + 1).toNatClampNeg) (xs (nI (6 * j) + 2).toNatClampNeg) m hv1 rfl hv2 rfl hq.1 hq.2.1 hq.2.2.1 (hnext _ hq.2.2.2)
      by_cases h18 : w = 18
      · refine x_tabIn (off := 797) (tgt := 830) ⟨(eL_33 nm).1, (eL_33 nm).2, by decide⟩ (by rw [h18]; decide) (by rw [h18]; decide) (by rw [h18]; rfl) ?_
        have hq := (hO.2.2.2.2.2.2.2.2.2.2.2.2.2.2.2.2.2.2.1) (xs (nI (6 * j) + 1).toNatClampNeg) (xs (nI (6 * j) + 2).toNatClampNeg)
        exact lw_op18 (nI (6 * j)) (xs (nI (6 * j) + 1).toNatClampNeg) (xs (nI (6 * j) + 2).toNatClampNeg) m hv1 rfl hv2 rfl hq.1 hq.2.1 hq.2.2.1 (hnext _ hq.2.2.2)
      by_cases h19 : w = 19
      · refine x_tabIn (off := 830) (tgt := 863) ⟨(eL_33 nm).1, (eL_33 nm).2, by decide⟩ (by rw [h19]; decide) (by rw [h19]; decide) (by rw [h19]; rfl) ?_
        have hq := (hO.2.2.2.2.2.2.2.2.2.2.2.2.2.2.2.2.2.2.2.1) (xs (nI (6 * j) + 1).toNatClampNeg) (xs (nI (6 * j) + 2).toNatClampNeg)
        exact lw_op19 (nI (6 * j)) (xs (nI (6 * j) + 1).toNatClampNeg) (xs (nI (6 * j) + 2).toNatClampNeg) m hv1 rfl hv2 rfl hq.1 hq.2.1 hq.2.2.1 (hnext _ hq.2.2.2)
      by_cases h20 : w = 20
      · refine x_tabIn (off := 863) (tgt := 896) ⟨(eL_33 nm).1, (eL_33 nm).2, by decide⟩ (by rw [h20]; decide) (by rw [h20]; decide) (by rw [h20]; rfl) ?_
        have hq := (hO.2.2.2.2.2.2.2.2.2.2.2.2.2.2.2.2.2.2.2.2.1) (xs (nI (6 * j) + 1).toNatClampNeg) (xs (nI (6 * j) + 2).toNatClampNeg) (xs (nI (6 * j) + 3).toNatClampNeg)
        exact lw_op20 (nI (6 * j)) (xs (nI (6 * j) + 1).toNatClampNeg) (xs (nI (6 * j) + 2).toNatClampNeg) (xs (nI (6 * j) + 3).toNatClampNeg) m hv1 rfl hv2 rfl hv3 rfl hq.1 hq.2.1 hq.2.2.1 (hnext _ hq.2.2.2)
      by_cases h21 : w = 21
      · refine x_tabIn (off := 906) (tgt := 939) ⟨(eL_33 nm).1, (eL_33 nm).2, by decide⟩ (by rw [h21]; decide) (by rw [h21]; decide) (by rw [h21]; rfl) ?_
        have hq := (hO.2.2.2.2.2.2.2.2.2.2.2.2.2.2.2.2.2.2.2.2.2.1) (xs (nI (6 * j) + 1).toNatClampNeg)
        exact lw_op21 (nI (6 * j)) (xs (nI (6 * j) + 1).toNatClampNeg) m hv1 rfl hq.1 hq.2.1 hq.2.2.1 (hnext _ hq.2.2.2)
      by_cases h22 : w = 22
      · refine x_tabIn (off := 929) (tgt := 962) ⟨(eL_33 nm).1, (eL_33 nm).2, by decide⟩ (by rw [h22]; decide) (by rw [h22]; decide) (by rw [h22]; rfl) ?_
        have hq := (hO.2.2.2.2.2.2.2.2.2.2.2.2.2.2.2.2.2.2.2.2.2.2.1) (xs (nI (6 * j) + 1).toNatClampNeg)
        exact lw_op22 (nI (6 * j)) (xs (nI (6 * j) + 1).toNatClampNeg) m hv1 rfl hq.1 hq.2.1 hq.2.2.1 (hnext _ hq.2.2.2)
      by_cases h23 : w = 23
      · refine x_tabIn (off := 952) (tgt := 985) ⟨(eL_33 nm).1, (eL_33 nm).2, by decide⟩ (by rw [h23]; decide) (by rw [h23]; decide) (by rw [h23]; rfl) ?_
        have hq := hO.2.2.2.2.2.2.2.2.2.2.2.2.2.2.2.2.2.2.2.2.2.2.2.1
        exact lw_op23 (nI (6 * j))  m  hq.1 hq.2.1 hq.2.2.1 (hnext _ hq.2.2.2)
      by_cases h24 : w = 24
      · refine x_tabIn (off := 965) (tgt := 998) ⟨(eL_33 nm).1, (eL_33 nm).2, by decide⟩ (by rw [h24]; decide) (by rw [h24]; decide) (by rw [h24]; rfl) ?_
        have hq := (hO.2.2.2.2.2.2.2.2.2.2.2.2.2.2.2.2.2.2.2.2.2.2.2.2.1) (xs (nI (6 * j) + 1).toNatClampNeg) (xs (nI (6 * j) + 2).toNatClampNeg) (xs (nI (6 * j) + 3).toNatClampNeg)
        exact lw_op24 (nI (6 * j)) (xs (nI (6 * j) + 1).toNatClampNeg) (xs (nI (6 * j) + 2).toNatClampNeg) (xs (nI (6 * j) + 3).toNatClampNeg) m hv1 rfl hv2 rfl hv3 rfl hq.1 hq.2.1 (hnext _ hq.2.2)
      by_cases h25 : w = 25
      · refine x_tabIn (off := 1008) (tgt := 1041) ⟨(eL_33 nm).1, (eL_33 nm).2, by decide⟩ (by rw [h25]; decide) (by rw [h25]; decide) (by rw [h25]; rfl) ?_
        have hq := (hO.2.2.2.2.2.2.2.2.2.2.2.2.2.2.2.2.2.2.2.2.2.2.2.2.2.1) (xs (nI (6 * j) + 1).toNatClampNeg)
        exact lw_op25 (nI (6 * j)) (xs (nI (6 * j) + 1).toNatClampNeg) m hv1 rfl  hq.1 (hnext _ hq.2)
      by_cases h26 : w = 26
      · refine x_tabIn (off := 1031) (tgt := 1064) ⟨(eL_33 nm).1, (eL_33 nm).2, by decide⟩ (by rw [h26]; decide) (by rw [h26]; decide) (by rw [h26]; rfl) ?_
        have hq := hO.2.2.2.2.2.2.2.2.2.2.2.2.2.2.2.2.2.2.2.2.2.2.2.2.2.2.1
        exact lw_op26 (nI (6 * j))  m  hq.1 hq.2.1 hq.2.2.1 (hnext _ hq.2.2.2)
      by_cases h27 : w = 27
      · refine x_tabIn (off := 1044) (tgt := 1077) ⟨(eL_33 nm).1, (eL_33 nm).2, by decide⟩ (by rw [h27]; decide) (by rw [h27]; decide) (by rw [h27]; rfl) ?_
        have hq := (hO.2.2.2.2.2.2.2.2.2.2.2.2.2.2.2.2.2.2.2.2.2.2.2.2.2.2.2.1) (xs (nI (6 * j) + 1).toNatClampNeg)
        exact lw_op27 (nI (6 * j)) (xs (nI (6 * j) + 1).toNatClampNeg) m hv1 rfl hq.1 hq.2.1 hq.2.2.1 (hnext _ hq.2.2.2)
      by_cases h28 : w = 28
      · refine x_tabIn (off := 1067) (tgt := 1100) ⟨(eL_33 nm).1, (eL_33 nm).2, by decide⟩ (by rw [h28]; decide) (by rw [h28]; decide) (by rw [h28]; rfl) ?_
        have hq := (hO.2.2.2.2.2.2.2.2.2.2.2.2.2.2.2.2.2.2.2.2.2.2.2.2.2.2.2.2.1) (xs (nI (6 * j) + 1).toNatClampNeg) (xs (nI (6 * j) + 2).toNatClampNeg) (xs (nI (6 * j) + 3).toNatClampNeg)
        exact lw_op28 (nI (6 * j)) (xs (nI (6 * j) + 1).toNatClampNeg) (xs (nI (6 * j) + 2).toNatClampNeg) (xs (nI (6 * j) + 3).toNatClampNeg) m hv1 rfl hv2 rfl hv3 rfl hq.1 hq.2.1 hq.2.2.1 (hnext _ hq.2.2.2)
      by_cases h29 : w = 29
      · refine x_tabIn (off := 1110) (tgt := 1143) ⟨(eL_33 nm).1, (eL_33 nm).2, by decide⟩ (by rw [h29]; decide) (by rw [h29]; decide) (by rw [h29]; rfl) ?_
        have hq := (hO.2.2.2.2.2.2.2.2.2.2.2.2.2.2.2.2.2.2.2.2.2.2.2.2.2.2.2.2.2.1) (xs (nI (6 * j) + 1).toNatClampNeg) (xs (nI (6 * j) + 2).toNatClampNeg) (xs (nI (6 * j) + 3).toNatClampNeg)
        exact lw_op29 (nI (6 * j)) (xs (nI (6 * j) + 1).toNatClampNeg) (xs (nI (6 * j) + 2).toNatClampNeg) (xs (nI (6 * j) + 3).toNatClampNeg) m hv1 rfl hv2 rfl hv3 rfl hq.1 hq.2.1 hq.2.2.1 (hnext _ hq.2.2.2)
      by_cases h30 : w = 30
      · refine x_tabIn (off := 1153) (tgt := 1186) ⟨(eL_33 nm).1, (eL_33 nm).2, by decide⟩ (by rw [h30]; decide) (by rw [h30]; decide) (by rw [h30]; rfl) ?_
        have hq := (hO.2.2.2.2.2.2.2.2.2.2.2.2.2.2.2.2.2.2.2.2.2.2.2.2.2.2.2.2.2.2.1) (xs (nI (6 * j) + 1).toNatClampNeg)
        exact lw_op30 (nI (6 * j)) (xs (nI (6 * j) + 1).toNatClampNeg) m hv1 rfl hq.1 hq.2.1 hq.2.2.1 (hnext _ hq.2.2.2)
      by_cases h31 : w = 31
      · refine x_tabIn (off := 1176) (tgt := 1209) ⟨(eL_33 nm).1, (eL_33 nm).2, by decide⟩ (by rw [h31]; decide) (by rw [h31]; decide) (by rw [h31]; rfl) ?_
        have hq := (hO.2.2.2.2.2.2.2.2.2.2.2.2.2.2.2.2.2.2.2.2.2.2.2.2.2.2.2.2.2.2.2.1) (xs (nI (6 * j) + 1).toNatClampNeg)
        exact lw_op31 (nI (6 * j)) (xs (nI (6 * j) + 1).toNatClampNeg) m hv1 rfl hq.1 hq.2.1 hq.2.2.1 (hnext _ hq.2.2.2)
      by_cases h32 : w = 32
      · refine x_tabIn (off := 1199) (tgt := 1232) ⟨(eL_33 nm).1, (eL_33 nm).2, by decide⟩ (by rw [h32]; decide) (by rw [h32]; decide) (by rw [h32]; rfl) ?_
        have hq := (hO.2.2.2.2.2.2.2.2.2.2.2.2.2.2.2.2.2.2.2.2.2.2.2.2.2.2.2.2.2.2.2.2.1) (xs (nI (6 * j) + 1).toNatClampNeg) (xs (nI (6 * j) + 2).toNatClampNeg) (xs (nI (6 * j) + 3).toNatClampNeg)
        exact lw_op32 (nI (6 * j)) (xs (nI (6 * j) + 1).toNatClampNeg) (xs (nI (6 * j) + 2).toNatClampNeg) (xs (nI (6 * j) + 3).toNatClampNeg) m hv1 rfl hv2 rfl hv3 rfl hq.1 hq.2.1 hq.2.2.1 (hnext _ hq.2.2.2)
      by_cases h33 : w = 33
      · refine x_tabIn (off := 1242) (tgt := 1275) ⟨(eL_33 nm).1, (eL_33 nm).2, by decide⟩ (by rw [h33]; decide) (by rw [h33]; decide) (by rw [h33]; rfl) ?_
        have hq := (hO.2.2.2.2.2.2.2.2.2.2.2.2.2.2.2.2.2.2.2.2.2.2.2.2.2.2.2.2.2.2.2.2.2.1) (xs (nI (6 * j) + 1).toNatClampNeg) (xs (nI (6 * j) + 2).toNatClampNeg) (xs (nI (6 * j) + 3).toNatClampNeg)
        exact lw_op33 (nI (6 * j)) (xs (nI (6 * j) + 1).toNatClampNeg) (xs (nI (6 * j) + 2).toNatClampNeg) (xs (nI (6 * j) + 3).toNatClampNeg) m hv1 rfl hv2 rfl hv3 rfl hq.1 hq.2.1 (hnext _ hq.2.2)
      by_cases h34 : w = 34
      · refine x_tabIn (off := 1285) (tgt := 1318) ⟨(eL_33 nm).1, (eL_33 nm).2, by decide⟩ (by rw [h34]; decide) (by rw [h34]; decide) (by rw [h34]; rfl) ?_
        have hq := (hO.2.2.2.2.2.2.2.2.2.2.2.2.2.2.2.2.2.2.2.2.2.2.2.2.2.2.2.2.2.2.2.2.2.2.1) (xs (nI (6 * j) + 1).toNatClampNeg) (xs (nI (6 * j) + 2).toNatClampNeg) (xs (nI (6 * j) + 3).toNatClampNeg) (xs (nI (6 * j) + 4).toNatClampNeg)
        exact lw_op34 (nI (6 * j)) (xs (nI (6 * j) + 1).toNatClampNeg) (xs (nI (6 * j) + 2).toNatClampNeg) (xs (nI (6 * j) + 3).toNatClampNeg) (xs (nI (6 * j) + 4).toNatClampNeg) m hv1 rfl hv2 rfl hv3 rfl hv4 rfl hq.1 hq.2.1 hq.2.2.1 (hnext _ hq.2.2.2)
      by_cases h35 : w = 35
      · refine x_tabIn (off := 1338) (tgt := 1371) ⟨(eL_33 nm).1, (eL_33 nm).2, by decide⟩ (by rw [h35]; decide) (by rw [h35]; decide) (by rw [h35]; rfl) ?_
        have hq := hO.2.2.2.2.2.2.2.2.2.2.2.2.2.2.2.2.2.2.2.2.2.2.2.2.2.2.2.2.2.2.2.2.2.2.2.1
        exact lw_op35 (nI (6 * j))  m   hq.1 (hnext _ hq.2)
      by_cases h36 : w = 36
      · refine x_tabIn (off := 1351) (tgt := 1384) ⟨(eL_33 nm).1, (eL_33 nm).2, by decide⟩ (by rw [h36]; decide) (by rw [h36]; decide) (by rw [h36]; rfl) ?_
        have hq := (hO.2.2.2.2.2.2.2.2.2.2.2.2.2.2.2.2.2.2.2.2.2.2.2.2.2.2.2.2.2.2.2.2.2.2.2.2) (xs (nI (6 * j) + 1).toNatClampNeg)
        exact lw_op36 (nI (6 * j)) (xs (nI (6 * j) + 1).toNatClampNeg) m hv1 rfl hq.1 hq.2.1 hq.2.2.1 (hnext _ hq.2.2.2)
      refine x_tabOut (tgt := 1407) ⟨(eL_33 nm).1, (eL_33 nm).2, by decide⟩ (ax_swout 36 (by decide) (fun k hk => by
        rcases (show k = 0 ∨ k = 1 ∨ k = 2 ∨ k = 3 ∨ k = 4 ∨ k = 5 ∨ k = 6 ∨ k = 7 ∨ k = 8 ∨ k = 9 ∨ k = 10 ∨ k = 11 ∨ k = 12 ∨ k = 13 ∨ k = 14 ∨ k = 15 ∨ k = 16 ∨ k = 17 ∨ k = 18 ∨ k = 19 ∨ k = 20 ∨ k = 21 ∨ k = 22 ∨ k = 23 ∨ k = 24 ∨ k = 25 ∨ k = 26 ∨ k = 27 ∨ k = 28 ∨ k = 29 ∨ k = 30 ∨ k = 31 ∨ k = 32 ∨ k = 33 ∨ k = 34 ∨ k = 35 ∨ k = 36 by omega) with rfl | rfl | rfl | rfl | rfl | rfl | rfl | rfl | rfl | rfl | rfl | rfl | rfl | rfl | rfl | rfl | rfl | rfl | rfl | rfl | rfl | rfl | rfl | rfl | rfl | rfl | rfl | rfl | rfl | rfl | rfl | rfl | rfl | rfl | rfl | rfl | rfl
        · exact h0
        · exact h1
        · exact h2
        · exact h3
        · exact h4
        · exact h5
        · exact h6
        · exact h7
        · exact h8
        · exact h9
        · exact h10
        · exact h11
        · exact h12
        · exact h13
        · exact h14
        · exact h15
        · exact h16
        · exact h17
        · exact h18
        · exact h19
        · exact h20
        · exact h21
        · exact h22
        · exact h23
        · exact h24
        · exact h25
        · exact h26
        · exact h27
        · exact h28
        · exact h29
        · exact h30
        · exact h31
        · exact h32
        · exact h33
        · exact h34
        · exact h35
        · exact h36)) ?_
      exact hnext m hI
