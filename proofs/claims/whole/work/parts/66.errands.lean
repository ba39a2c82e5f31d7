/-! PURE: errands, heaved, worth -/
theorem zrw7 : zrw 7 = List.range 7 := by decide
section ZW1
variable {m : ax_M} {T : zT} {b : Nat}
theorem z7_asks {a : Int32} (hT : zWF T) (h7 : z7 m T) : F7_asksOne a m = zb (zwi a 10 (9 + T.s.no : Nat)) := by
  have n6 := hT.w.no6
  unfold F7_asksOne
  rw [z7_hasOne hT.w h7.g]
  by_cases e : a < 10
  · rw [if_pos e]
    rw [z_lt, show (10 : Int32).toInt = 10 from rfl] at e
    unfold zwi
    rw [decide_eq_false (by omega)]; rfl
  · rw [if_neg e]
    rw [z_lt, show (10 : Int32).toInt = 10 from rfl] at e
    have lo := z_lo a
    have hi := z_hi a
    have es : (a - 10).toInt = a.toInt - 10 := by
      rw [z_sub, show (10 : Int32).toInt = 10 from rfl] <;> rw [show (10 : Int32).toInt = 10 from rfl] <;> omega
    have ez : zin (a - 10) T.s.no = zwi a 10 (9 + T.s.no : Nat) := by
      unfold zin zwi
      rw [es, decide_eq_decide]
      omega
    rw [ez]
    cases zwi a 10 (9 + T.s.no : Nat) <;> rfl
theorem z8_asks {a : Int32} (hT : zWF T) (h8 : z8 m T) {m' : ax_M} : F8_in (Int32.toInt64 a) 10 (Int32.toInt64 (9 + (m 74 3))) m' = zb (zwi a 10 (9 + T.s.no : Nat)) := by
  have n6 := hT.w.no6
  rw [h8.e.no]
  apply z8_in
  · rfl
  · rw [z_i64, z_lit 9, nI_add, z_nti (by omega)]
theorem z8_po {V : Nat} {m' : ax_M} (h : V ≤ 100000) : F8_pairsOf (nI V) m' = nI ((V + 999) / 1000) := by
  unfold F8_pairsOf
  rw [z_lit 1000, nI_add, z_lit 1, pk_sub (by omega), pk_div (by omega) (by omega) (by omega)]
  rfl
theorem zFl_nd {s : zS} {P : zP} {wo sd : Nat} : ((List.range 7).filter (zFi s P b wo sd)).Nodup := List.nodup_range.filter _
theorem zFl_7 {s : zS} {P : zP} {wo sd : Nat} : ∀ p, p ∈ (List.range 7).filter (zFi s P b wo sd) → p < 7 := fun p h => List.mem_range.mp (List.mem_filter.mp h).1
theorem zFl_d {s : zS} {P : zP} {wo : Nat} (hs : zW s) (hb : b < s.ng) : ∀ p, p ∈ (List.range 7).filter (zFi s P b wo 2) → (zbits (zSe s P b wo 2) 7).testBit p = false := fun p h => by
  have h1 := zFi2.mp (List.mem_filter.mp h).2
  rw [zbits_tb]
  cases e : zSe s P b wo 2 p with
  | false => rw [Bool.and_false]
  | true =>
    have h2 := zSe2.mp e
    have h3 := h1.2
    have h4 := h2.2
    unfold zerr at h3 h4
    simp only [Bool.and_eq_true, decide_eq_true_eq] at h3 h4
    exact absurd (h3.2.1.symm.trans h4.2.1) (hs.ne hb)
theorem zval {s : zS} {P : zP} {wo : Nat} {hv : Bool} : (∀ t, zfv (zcb s P b wo hv) ((List.range 7).filter (zFi s P b wo 2)) t = zfv (zcb s P b wo hv) (zrw 7) t) ∧ ∀ t r, zcf (zcb s P b wo hv) ((List.range 7).filter (zFi s P b wo 2)) t r = zcf (zcb s P b wo hv) (zrw 7) t r := by
  have h := fun t => zskip (c := zcb s P b wo hv) (f := zFi s P b wo 2) (List.range 7) List.nodup_range (fun p _ hf q => by
    unfold zcb
    rw [if_neg]
    rintro ⟨h1, _⟩
    rw [hf] at h1; cases h1) t
  rw [zrw7]
  exact ⟨fun t => (h t).1, fun t => (h t).2⟩
theorem z_pairs {hv : Bool} (hT : zWF T) (h7 : z7 m T) (h8 : z8 m T) (hb : b < T.s.ng) : ∃ V, V ≤ 7000 ∧ D2_gather 1 (nI b) (zb hv) m ∧ D2_solve (F2_gather 1 (nI b) (zb hv) m) ∧ (F2_solve (F2_gather 1 (nI b) (zb hv) m)) 55 3 = nI ((V + 999) / 1000) ∧ (F2_solve (F2_gather 1 (nI b) (zb hv) m)) 55 4 = nI (1000 * ((V + 999) / 1000) - V) ∧ (∀ p, p < 7 → D2_fellowOf (nI p) (F2_solve (F2_gather 1 (nI b) (zb hv) m))) ∧ D8_layPairs (nI b) 0 (-4) (zb hv) (F2_solve (F2_gather 1 (nI b) (zb hv) m)) ∧ (F8_layPairs (nI b) 0 (-4) (zb hv) (F2_solve (F2_gather 1 (nI b) (zb hv) m))).1 = nI V ∧ D8_tracePairs (nI b) (zb hv) (F8_layPairs (nI b) 0 (-4) (zb hv) (F2_solve (F2_gather 1 (nI b) (zb hv) m))).2 ∧ z8 (F2_solve (F2_gather 1 (nI b) (zb hv) m)) T ∧ zI (F8_tracePairs (nI b) (zb hv) (F8_layPairs (nI b) 0 (-4) (zb hv) (F2_solve (F2_gather 1 (nI b) (zb hv) m))).2) ∧ (∀ p, p < 7 → F2_fellowOf (nI p) (F2_solve (F2_gather 1 (nI b) (zb hv) m)) = F8_tracePairs (nI b) (zb hv) (F8_layPairs (nI b) 0 (-4) (zb hv) (F2_solve (F2_gather 1 (nI b) (zb hv) m))).2 86 p) ∧ zI (F2_solve (F2_gather 1 (nI b) (zb hv) m)) := by
  have hw := hT.w
  have hz : ∀ p q, p < T.s.no → q < T.s.no → zmn (zlo T.s T.P b p q) (zbal (zlo T.s T.P b p q)) := fun p q hp hq => (z7_load hw hT.v h7.g hb hp hq).2.2
  have hc6 := zcb_6 (b := b) (wo := 0) (hv := hv) hz
  obtain ⟨g1, g2, g3⟩ := z2_gather (hv := hv) hw hT.v h7.g hb
  obtain ⟨s1, s2, s3, s4, s5⟩ := z2_solve hc6 g3
  generalize F2_solve (F2_gather 1 (nI b) (zb hv) m) = m1 at *
  have fr : ∀ d, (d < 55 ∨ 58 < d) → m1 d = m d := fun d hd => by rw [s2 d (by omega) (by omega) (by omega), g2 d (by omega)]
  have h7' : z7 m1 T := h7.of (fun c _ hc => fr c (by unfold zsc at hc; omega))
  have h8' : z8 m1 T := h8.keep (fun c hc => fr c (by omega))
  obtain ⟨l1, l2, l3, l4, l5⟩ := z8_lay (m := m1) (wo := 0) (sd := 2) (v3 := -4) (hv := zb hv) hw hT.v h8'.e h8'.q hb (by omega) (by decide) (by decide) hc6 (zcb_S hw) (zHw_b hw hT.v h8'.e h8'.q hb hz)
  rw [show nI 0 = (0 : Int32) from rfl] at l1 l2 l3 l4 l5
  obtain ⟨v1, v2⟩ := zval (b := b) (s := T.s) (P := T.P) (wo := 0) (hv := hv)
  rw [v1] at l2
  have hV := zfv_le (c := zcb T.s T.P b 0 hv) (zrw 7) 0
  rw [zrw_l] at hV
  generalize (F8_layPairs (nI b) 0 (-4) (zb hv) m1) = R at *
  obtain ⟨t1, t2, t3⟩ := z8_trace (c := zcb T.s T.P b 0 hv) (b := nI b) (hv := zb hv) hc6 (zbits_lt _ 7) (zflt_l _ 7) (fun p q hp hq => zcb_S hw p q (List.mem_filter.mp hp).2 hq) (zHw_b hw hT.v h8'.e h8'.q hb hz) zFl_nd zFl_7 (zFl_d hw hb) l3 l4
  generalize F8_tracePairs (nI b) (zb hv) R.2 = m3 at *
  have h58 : ∀ r, r < 7 → m1 58 r = zeo (zcf (zcb T.s T.P b 0 hv) ((List.range 7).filter (zFi T.s T.P b 0 2)) 0 r) := fun r hr => by rw [v2]; exact s5 r hr
  have hfel := fun p (hp : p < 7) => z_fel (m7 := m1) (m8 := m3) h58 zFl_7 (fun r q h => ⟨(zcf_s _ _ _ _ h).2.1, (zcf_s _ _ _ _ h).1⟩) t3 hp
  have fr3 : ∀ d, d ≠ 74 → d ≠ 84 → d ≠ 85 → d ≠ 86 → m3 d = m1 d := fun d h1 h2 h3 h4 => by rw [t2 d h4, l5 d h1 h2 h3]
  have fr74 : ∀ j, j ≠ 35 → j ≠ 36 → m3 74 j = m1 74 j := fun j h1 h2 => by rw [t2 74 (by omega), l3.1.2.2 j h1 h2]
  refine ⟨zfv (zcb T.s T.P b 0 hv) (zrw 7) 0, by omega, g1, s1, s3, s4, fun p hp => (hfel p hp).1, l1, l2, t1, h8', ?_, fun p hp => (hfel p hp).2, ⟨T, hT, h7', h8'⟩⟩
  refine zI.step hT h7' (fun c hc => fr3 c (by omega) (by omega) (by omega) (by omega)) ?_
  exact h8'.of (fun k hk => fr74 k (by unfold zsl at hk; omega) (by unfold zsl at hk; omega)) (fun c h1 h2 h3 => fr3 c (by omega) (by unfold zsr at h3; omega) (by unfold zsr at h3; omega) (by unfold zsr at h3; omega))
theorem zok17 (h : zI m) : OK17 zI m := by
  obtain ⟨T, hT, h7, h8⟩ := id h
  have hw := hT.w
  have n4 := hw.ng4
  have n6 := hw.no6
  intro a1 a2
  cases e1 : zin a1 T.s.ng with
  | false =>
    have e7 : F7_errands a1 a2 m = (-1, m) := by unfold F7_errands; rw [z7_hasBridge hw h7.g, e1]; rfl
    have e8 : F8_errands a1 a2 m = (-1, m) := by unfold F8_errands; rw [z8_isBridge hw h8.e, e1]; rfl
    rw [e7, e8]
    refine ⟨?_, ?_, rfl, h⟩
    · unfold D7_errands; rw [z7_hasBridge hw h7.g, e1]; exact fun q => absurd rfl q
    · unfold D8_errands; rw [z8_isBridge hw h8.e, e1]; exact fun q => absurd rfl q
  | true =>
    obtain ⟨b, hb, rfl⟩ := zin_t e1 (by omega)
    obtain ⟨V, hV, p1, p2, p3, p4, p5, p6, p7, p8, p9, p10, p11, p12⟩ := z_pairs (hv := false) hT h7 h8 hb
    rw [show zb false = (0 : Int32) from rfl] at p1 p2 p3 p4 p5 p6 p7 p8 p9 p10 p11 p12
    by_cases e2 : a2 = 0
    · subst e2
      have e7 : F7_errands (nI b) 0 m = (nI ((V + 999) / 1000), F2_solve (F2_gather 1 (nI b) 0 m)) := by
        unfold F7_errands; rw [z7_hasBridge hw h7.g, e1, if_neg (show ¬ zb true = 0 by decide), if_pos rfl, if_pos rfl, p3]
      have d7 : D7_errands (nI b) 0 m := fun _ => ⟨fun _ => ⟨p1, p2, fun w => absurd rfl w⟩, fun w => absurd rfl w⟩
      rw [e7]
      dsimp only
      generalize F2_solve (F2_gather 1 (nI b) 0 m) = m1 at *
      have e8 : F8_errands (nI b) 0 m1 = (nI ((V + 999) / 1000), F8_tracePairs (nI b) 0 (F8_layPairs (nI b) 0 (-4) 0 m1).2) := by
        unfold F8_errands; rw [z8_isBridge hw p9.e, e1, if_neg (show ¬ zb true = 0 by decide), if_pos rfl, if_pos rfl, p7, z8_po (by omega)]
      have d8 : D8_errands (nI b) 0 m1 := fun _ => ⟨fun _ => ⟨p6, p8, fun w => absurd rfl w⟩, fun w => absurd rfl w⟩
      rw [e8]
      dsimp only
      exact ⟨d7, d8, rfl, p10⟩
    · cases e3 : zwi a2 10 (9 + T.s.no : Nat) with
      | false =>
        have e7 : F7_errands (nI b) a2 m = (-1, m) := by unfold F7_errands; rw [z7_hasBridge hw h7.g, e1, z7_asks hT h7, e3, if_neg (show ¬ zb true = 0 by decide), if_neg e2]; rfl
        have e8 : F8_errands (nI b) a2 m = (-1, m) := by unfold F8_errands; rw [z8_isBridge hw h8.e, e1, z8_asks hT h8, e3, if_neg (show ¬ zb true = 0 by decide), if_neg e2]; rfl
        rw [e7, e8]
        refine ⟨?_, ?_, rfl, h⟩
        · unfold D7_errands; rw [z7_asks hT h7, e3]; exact fun _ => ⟨fun w => absurd w e2, fun _ w => absurd rfl w⟩
        · unfold D8_errands; rw [z8_asks hT h8, e3]; exact fun _ => ⟨fun w => absurd w e2, fun _ w => absurd rfl w⟩
      | true =>
        obtain ⟨i, i1, i2, rfl⟩ := zwi_t (lo := 10) (hi := 9 + T.s.no) e3 (by omega)
        have ei : nI i - 10 = nI (i - 10) := by rw [z_lit 10, pk_sub (by omega)]
        have e7 : F7_errands (nI b) (nI i) m = (F2_fellowOf (nI (i - 10)) (F2_solve (F2_gather 1 (nI b) 0 m)), F2_solve (F2_gather 1 (nI b) 0 m)) := by
          unfold F7_errands; rw [z7_hasBridge hw h7.g, e1, z7_asks hT h7, e3, if_neg (show ¬ zb true = 0 by decide), if_neg e2, if_neg (show ¬ zb true = 0 by decide), if_neg e2, ei]
        have d7 : D7_errands (nI b) (nI i) m := fun _ => ⟨fun w => absurd w e2, fun _ _ => ⟨p1, p2, fun _ => by rw [ei]; exact p5 _ (by omega)⟩⟩
        rw [e7]
        dsimp only
        generalize F2_solve (F2_gather 1 (nI b) 0 m) = m1 at *
        have e8 : F8_errands (nI b) (nI i) m1 = (F8_tracePairs (nI b) 0 (F8_layPairs (nI b) 0 (-4) 0 m1).2 86 (i - 10), F8_tracePairs (nI b) 0 (F8_layPairs (nI b) 0 (-4) 0 m1).2) := by
          unfold F8_errands; rw [z8_isBridge hw p9.e, e1, z8_asks hT p9, e3, if_neg (show ¬ zb true = 0 by decide), if_neg e2, if_neg (show ¬ zb true = 0 by decide), if_neg e2, ei, z_ncl (by omega)]
        have d8 : D8_errands (nI b) (nI i) m1 := fun _ => ⟨fun w => absurd w e2, fun _ _ => ⟨p6, p8, fun _ => by rw [ei]; exact z_vp (by omega) (by omega)⟩⟩
        rw [e8]
        dsimp only
        exact ⟨d7, d8, p11 _ (by omega), p10⟩
theorem zok18 (h : zI m) : OK18 zI m := by
  obtain ⟨T, hT, h7, h8⟩ := id h
  have hw := hT.w
  have n4 := hw.ng4
  have n6 := hw.no6
  intro a1 a2
  have i2 : ∀ m', F7_within a2 0 1 m' = zb (zwi a2 0 1) := fun m' => z7_in
  have j2 : ∀ m', F8_in a2.toInt64 0 1 m' = zb (zwi a2 0 1) := fun m' => z8_in 0 1 rfl rfl
  cases e1 : zin a1 T.s.ng with
  | false =>
    have e7 : F7_heaved a1 a2 m = (-1, m) := by unfold F7_heaved; rw [z7_hasBridge hw h7.g, e1]; rfl
    have e8 : F8_heaved a1 a2 m = (-1, m) := by unfold F8_heaved; rw [z8_isBridge hw h8.e, e1]; rfl
    rw [e7, e8]
    refine ⟨?_, ?_, rfl, h⟩
    · unfold D7_heaved; rw [z7_hasBridge hw h7.g, e1]; exact fun q => absurd rfl q
    · unfold D8_heaved; rw [z8_isBridge hw h8.e, e1]; exact fun q => absurd rfl q
  | true =>
    obtain ⟨b, hb, rfl⟩ := zin_t e1 (by omega)
    obtain ⟨V, hV, p1, p2, p3, p4, p5, p6, p7, p8, p9, p10, p11, p12⟩ := z_pairs (hv := true) hT h7 h8 hb
    rw [show zb true = (1 : Int32) from rfl] at p1 p2 p3 p4 p5 p6 p7 p8 p9 p10 p11 p12
    cases e3 : zwi a2 0 1 with
    | true =>
      have e2 : a2 = 0 ∨ a2 = 1 := by
        obtain ⟨i, i1, i2, rfl⟩ := zwi_t (lo := 0) (hi := 1) e3 (by omega)
        rcases (show i = 0 ∨ i = 1 by omega) with rfl | rfl
        · exact Or.inl rfl
        · exact Or.inr rfl
      have d7 : D7_heaved (nI b) a2 m := fun _ => ⟨fun w => (by rw [i2, e3] at w; cases w), fun _ => ⟨p1, p2, fun w w2 => e2.elim (fun e => absurd e w) (fun e => absurd e w2)⟩⟩
      have e7 : F7_heaved (nI b) a2 m = (if a2 = 0 then nI ((V + 999) / 1000) else nI (1000 * ((V + 999) / 1000) - V), F2_solve (F2_gather 1 (nI b) 1 m)) := by
        unfold F7_heaved; rw [z7_hasBridge hw h7.g, e1, i2, e3, if_neg (show ¬ zb true = 0 by decide), if_neg (show ¬ zb true = 0 by decide), p3, p4]
        rcases e2 with rfl | rfl
        · rw [if_pos rfl, if_pos rfl]
        · rw [if_neg (show ¬ (1 : Int32) = 0 by decide), if_neg (show ¬ (1 : Int32) = 0 by decide), if_pos rfl]
      rw [e7]
      dsimp only
      generalize F2_solve (F2_gather 1 (nI b) 1 m) = m1 at *
      have e8 : F8_heaved (nI b) a2 m1 = (if a2 = 0 then nI ((V + 999) / 1000) else nI (1000 * ((V + 999) / 1000) - V), F8_tracePairs (nI b) 1 (F8_layPairs (nI b) 0 (-4) 1 m1).2) := by
        unfold F8_heaved; rw [z8_isBridge hw p9.e, e1, j2, e3, if_neg (show ¬ zb true = 0 by decide), if_neg (show ¬ zb true = 0 by decide), p7, z8_po (by omega), z_lit 1000, pk_mul, pk_sub (by omega)]
        rcases e2 with rfl | rfl
        · rw [if_pos rfl, if_pos rfl]
        · rw [if_neg (show ¬ (1 : Int32) = 0 by decide), if_neg (show ¬ (1 : Int32) = 0 by decide), if_pos rfl]
      have d8 : D8_heaved (nI b) a2 m1 := fun _ => ⟨fun w => (by rw [j2, e3] at w; cases w), fun _ => ⟨p6, p8, fun w w2 => e2.elim (fun e => absurd e w) (fun e => absurd e w2)⟩⟩
      rw [e8]
      dsimp only
      exact ⟨d7, d8, rfl, p10⟩
    | false =>
      have e20 : ¬ a2 = 0 := fun w => by rw [w] at e3; revert e3; decide
      have e21 : ¬ a2 = 1 := fun w => by rw [w] at e3; revert e3; decide
      cases e4 : zwi a2 10 (9 + T.s.no : Nat) with
      | false =>
        have e7 : F7_heaved (nI b) a2 m = (-1, m) := by unfold F7_heaved; rw [z7_hasBridge hw h7.g, e1, i2, e3, z7_asks hT h7, e4]; rfl
        have e8 : F8_heaved (nI b) a2 m = (-1, m) := by unfold F8_heaved; rw [z8_isBridge hw h8.e, e1, j2, e3, z8_asks hT h8, e4]; rfl
        rw [e7, e8]
        refine ⟨?_, ?_, rfl, h⟩
        · unfold D7_heaved; rw [i2, e3, z7_asks hT h7, e4]; exact fun _ => ⟨fun _ w => absurd rfl w, fun w => absurd rfl w⟩
        · unfold D8_heaved; rw [j2, e3, z8_asks hT h8, e4]; exact fun _ => ⟨fun _ w => absurd rfl w, fun w => absurd rfl w⟩
      | true =>
        obtain ⟨i, k1, k2, rfl⟩ := zwi_t (lo := 10) (hi := 9 + T.s.no) e4 (by omega)
        have ei : nI i - 10 = nI (i - 10) := by rw [z_lit 10, pk_sub (by omega)]
        have e7 : F7_heaved (nI b) (nI i) m = (F2_fellowOf (nI (i - 10)) (F2_solve (F2_gather 1 (nI b) 1 m)), F2_solve (F2_gather 1 (nI b) 1 m)) := by
          unfold F7_heaved; rw [z7_hasBridge hw h7.g, e1, i2, e3, z7_asks hT h7, e4, if_neg (show ¬ zb true = 0 by decide), if_pos (show zb false = 0 from rfl), if_neg (show ¬ zb true = 0 by decide), if_neg e20, if_neg e21, ei]
        have d7 : D7_heaved (nI b) (nI i) m := fun _ => ⟨fun _ _ => ⟨p1, p2, fun _ _ => by rw [ei]; exact p5 _ (by omega)⟩, fun _ => ⟨p1, p2, fun _ _ => by rw [ei]; exact p5 _ (by omega)⟩⟩
        rw [e7]
        dsimp only
        generalize F2_solve (F2_gather 1 (nI b) 1 m) = m1 at *
        have e8 : F8_heaved (nI b) (nI i) m1 = (F8_tracePairs (nI b) 1 (F8_layPairs (nI b) 0 (-4) 1 m1).2 86 (i - 10), F8_tracePairs (nI b) 1 (F8_layPairs (nI b) 0 (-4) 1 m1).2) := by
          unfold F8_heaved; rw [z8_isBridge hw p9.e, e1, j2, e3, z8_asks hT p9, e4, if_neg (show ¬ zb true = 0 by decide), if_pos (show zb false = 0 from rfl), if_neg (show ¬ zb true = 0 by decide), if_neg e20, if_neg e21, ei, z_ncl (by omega)]
        have d8 : D8_heaved (nI b) (nI i) m1 := fun _ => ⟨fun _ _ => ⟨p6, p8, fun _ _ => by rw [ei]; exact z_vp (by omega) (by omega)⟩, fun _ => ⟨p6, p8, fun _ _ => by rw [ei]; exact z_vp (by omega) (by omega)⟩⟩
        rw [e8]
        dsimp only
        exact ⟨d7, d8, p11 _ (by omega), p10⟩
end ZW1
