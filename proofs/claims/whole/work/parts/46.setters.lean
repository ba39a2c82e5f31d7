/-! PURE: calls that set one thing -/
theorem zV.set1 {s : zS} {P : zP} {k v : Nat} (h : zV s P) (hk : k < s.nb) (hv : v ≤ 20) : zV s (P.set 1 k v) := by
  obtain ⟨h1, h1b, h2, h3, h4, h5, h6⟩ := h
  refine ⟨?_, ?_, ?_, ?_, ?_, ?_, ?_⟩
  · intro k1 hk1
    show (if 1 = 1 ∧ k1 = k then v else P 1 k1) ≤ 20
    by_cases e : k1 = k
    · rw [if_pos ⟨rfl, e⟩]; exact hv
    · rw [if_neg (fun q => e q.2)]; exact h1 k1 hk1
  · intro k1 n1 hk1
    show (if 1 = 1 ∧ k1 = k then v else P 1 k1) = 0
    by_cases e : k1 = k
    · omega
    · rw [if_neg (fun q => e q.2)]; exact h1b k1 n1 hk1
  · exact h2
  · exact h3
  · exact h4
  · exact h5
  · exact h6
theorem zV.set2 {s : zS} {P : zP} {k v : Nat} (h : zV s P) (hv : v ≤ 20) : zV s (P.set 2 k v) := by
  obtain ⟨h1, h1b, h2, h3, h4, h5, h6⟩ := h
  refine ⟨?_, ?_, ?_, ?_, ?_, ?_, ?_⟩
  · exact h1
  · exact h1b
  · intro k1 hk1
    show (if 2 = 2 ∧ k1 = k then v else P 2 k1) ≤ 20
    by_cases e : k1 = k
    · rw [if_pos ⟨rfl, e⟩]; exact hv
    · rw [if_neg (fun q => e q.2)]; exact h2 k1 hk1
  · exact h3
  · exact h4
  · exact h5
  · exact h6
theorem zV.set4 {s : zS} {P : zP} {k v : Nat} (h : zV s P) (hv : 1 ≤ v ∧ v ≤ 99) : zV s (P.set 4 k v) := by
  obtain ⟨h1, h1b, h2, h3, h4, h5, h6⟩ := h
  refine ⟨?_, ?_, ?_, ?_, ?_, ?_, ?_⟩
  · exact h1
  · exact h1b
  · exact h2
  · exact h3
  · intro k1 hk1
    show 1 ≤ (if 4 = 4 ∧ k1 = k then v else P 4 k1) ∧ (if 4 = 4 ∧ k1 = k then v else P 4 k1) ≤ 99
    by_cases e : k1 = k
    · rw [if_pos ⟨rfl, e⟩]; exact hv
    · rw [if_neg (fun q => e q.2)]; exact h4 k1 hk1
  · exact h5
  · exact h6
theorem zV.set5 {s : zS} {P : zP} {k v : Nat} (h : zV s P) (hv : v < s.nb) : zV s (P.set 5 k v) := by
  obtain ⟨h1, h1b, h2, h3, h4, h5, h6⟩ := h
  refine ⟨?_, ?_, ?_, ?_, ?_, ?_, ?_⟩
  · exact h1
  · exact h1b
  · exact h2
  · exact h3
  · exact h4
  · intro k1 hk1
    show (if 5 = 5 ∧ k1 = k then v else P 5 k1) < s.nb
    by_cases e : k1 = k
    · rw [if_pos ⟨rfl, e⟩]; exact hv
    · rw [if_neg (fun q => e q.2)]; exact h5 k1 hk1
  · exact h6
theorem zV.set6 {s : zS} {P : zP} {k v : Nat} (h : zV s P) (hv : v < s.nb) : zV s (P.set 6 k v) := by
  obtain ⟨h1, h1b, h2, h3, h4, h5, h6⟩ := h
  refine ⟨?_, ?_, ?_, ?_, ?_, ?_, ?_⟩
  · exact h1
  · exact h1b
  · exact h2
  · exact h3
  · exact h4
  · exact h5
  · intro k1 hk1
    show (if 6 = 6 ∧ k1 = k then v else P 6 k1) < s.nb
    by_cases e : k1 = k
    · rw [if_pos ⟨rfl, e⟩]; exact hv
    · rw [if_neg (fun q => e q.2)]; exact h6 k1 hk1
theorem zV.set0 {s : zS} {P : zP} {v : Nat} (h : zV s P) : zV s (P.set 0 0 v) := h
theorem zok8 {m : ax_M} (h : zI m) : OK8 zI m := by
  obtain ⟨T, hT, h7, h8⟩ := id h
  intro a1 a2
  have hw := hT.w
  have g4 := hw.nb4
  have hi7 : F7_within a2 0 20 m = zb (zwi a2 0 20) := z7_in
  have hi8 : ∀ m', F8_in a2.toInt64 0 20 m' = zb (zwi a2 0 20) := fun m' => z8_in 0 20 rfl rfl
  cases e1 : zin a1 T.s.nb with
  | false =>
    have e7 : F7_heap a1 a2 m = (-1, m) := by unfold F7_heap; rw [z7_hasBank hw h7.g, e1]; rfl
    rw [e7]
    have e8 : F8_heap a1 a2 m = (-1, m) := by unfold F8_heap; rw [z8_isBank hw h8.e, e1]; rfl
    rw [e8]
    refine ⟨?_, rfl, h⟩
    unfold D8_heap
    rw [z8_isBank hw h8.e, e1]
    exact fun q => absurd rfl q
  | true =>
    obtain ⟨b, hb, rfl⟩ := zin_t e1 (by omega)
    cases e2 : zwi a2 0 20 with
    | false =>
      have e7 : F7_heap (nI b) a2 m = (-1, m) := by unfold F7_heap; rw [z7_hasBank hw h7.g, e1, hi7, e2]; rfl
      rw [e7]
      have e8 : F8_heap (nI b) a2 m = (-1, m) := by unfold F8_heap; rw [z8_isBank hw h8.e, e1, hi8, e2]; rfl
      rw [e8]
      refine ⟨?_, rfl, h⟩
      unfold D8_heap
      rw [z8_isBank hw h8.e, hi8, e2]
      exact fun _ q => absurd rfl q
    | true =>
      obtain ⟨v, hv1, hv2, rfl⟩ := zwi_t (lo := 0) (hi := 20) e2 (by omega)
      have e7 : F7_heap (nI b) (nI v) m = (nI (T.P.hp b), ax_up m 2 b (nI v)) := by
        unfold F7_heap; rw [z7_hasBank hw h7.g, e1, hi7, e2, z7_stones h7.g (by omega), F1_setStones, z_put (by omega) (by omega)]; rfl
      rw [e7]
      have h8' : z8 (ax_up m 2 b (nI v)) T := h8.keep (fun c hc => z_upr (by omega))
      have h7' : z7 (ax_up m 2 b (nI v)) (T.setP (T.P.set 1 b v)) := h7.now (fun c _ _ _ => z_upr (by omega)) (zG.set1 h7.g)
      have e8 : F8_heap (nI b) (nI v) (ax_up m 2 b (nI v)) = (nI (T.P.hp b), ax_up (ax_up m 2 b (nI v)) 75 (24 + b) (nI v)) := by
        unfold F8_heap; rw [z8_isBank hw h8'.e, e1, hi8, e2, z8_stones h8'.q (by omega), show ((24 : Int32) + nI b) = nI (24 + b) by rw [z_lit 24, nI_add], z_ncl (by omega)]; rfl
      rw [e8]
      refine ⟨?_, rfl, ?_⟩
      · unfold D8_heap
        exact fun _ _ => ⟨z8_vstones (by omega), z8_vstones (by omega)⟩
      · dsimp only
        refine zI.step (hT.setP (zV.set1 hT.v hb hv2) hT.cr) h7' (fun c hc => z_upr (by omega)) ?_
        exact h8'.now hw (fun k _ => by rw [z_upr (by omega)]) (fun c _ _ _ => z_upr (by omega)) (fun k _ _ => by rw [z_up, if_neg (by omega)]) (zQ.set1 hw h8'.q (by omega))
theorem zok9 {m : ax_M} (h : zI m) : OK9 zI m := by
  obtain ⟨T, hT, h7, h8⟩ := id h
  intro a1 a2
  have hw := hT.w
  have g4 := hw.ng4
  have hi7 : F7_within a2 0 20 m = zb (zwi a2 0 20) := z7_in
  have hi8 : ∀ m', F8_in a2.toInt64 0 20 m' = zb (zwi a2 0 20) := fun m' => z8_in 0 20 rfl rfl
  cases e1 : zin a1 T.s.ng with
  | false =>
    have e7 : F7_play a1 a2 m = (-1, m) := by unfold F7_play; rw [z7_hasBridge hw h7.g, e1]; rfl
    rw [e7]
    have e8 : F8_play a1 a2 m = (-1, m) := by unfold F8_play; rw [z8_isBridge hw h8.e, e1]; rfl
    rw [e8]
    refine ⟨?_, rfl, h⟩
    unfold D8_play
    rw [z8_isBridge hw h8.e, e1]
    exact fun q => absurd rfl q
  | true =>
    obtain ⟨b, hb, rfl⟩ := zin_t e1 (by omega)
    cases e2 : zwi a2 0 20 with
    | false =>
      have e7 : F7_play (nI b) a2 m = (-1, m) := by unfold F7_play; rw [z7_hasBridge hw h7.g, e1, hi7, e2]; rfl
      rw [e7]
      have e8 : F8_play (nI b) a2 m = (-1, m) := by unfold F8_play; rw [z8_isBridge hw h8.e, e1, hi8, e2]; rfl
      rw [e8]
      refine ⟨?_, rfl, h⟩
      unfold D8_play
      rw [z8_isBridge hw h8.e, hi8, e2]
      exact fun _ q => absurd rfl q
    | true =>
      obtain ⟨v, hv1, hv2, rfl⟩ := zwi_t (lo := 0) (hi := 20) e2 (by omega)
      have e7 : F7_play (nI b) (nI v) m = (nI (T.P.pl b), ax_up m 5 b (nI v)) := by
        unfold F7_play; rw [z7_hasBridge hw h7.g, e1, hi7, e2, z7_play hw h7.g hb, z_put (by omega) (by omega)]; rfl
      rw [e7]
      have h8' : z8 (ax_up m 5 b (nI v)) T := h8.keep (fun c hc => z_upr (by omega))
      have h7' : z7 (ax_up m 5 b (nI v)) (T.setP (T.P.set 2 b v)) := h7.now (fun c _ _ _ => z_upr (by omega)) (zG.set2 h7.g)
      have e8 : F8_play (nI b) (nI v) (ax_up m 5 b (nI v)) = (nI (T.P.pl b), ax_up (ax_up m 5 b (nI v)) 75 (28 + b) (nI v)) := by
        unfold F8_play; rw [z8_isBridge hw h8'.e, e1, hi8, e2, z8_play hw h8'.q hb, show ((28 : Int32) + nI b) = nI (28 + b) by rw [z_lit 28, nI_add], z_ncl (by omega)]; rfl
      rw [e8]
      refine ⟨?_, rfl, ?_⟩
      · unfold D8_play
        exact fun _ _ => ⟨z8_vplay hw hb, z8_vplay hw hb⟩
      · dsimp only
        refine zI.step (hT.setP (zV.set2 hT.v hv2) hT.cr) h7' (fun c hc => z_upr (by omega)) ?_
        exact h8'.now hw (fun k _ => by rw [z_upr (by omega)]) (fun c _ _ _ => z_upr (by omega)) (fun k _ _ => by rw [z_up, if_neg (by omega)]) (zQ.set2 hw h8'.q hb)
theorem zok10 {m : ax_M} (h : zI m) : OK10 zI m := by
  obtain ⟨T, hT, h7, h8⟩ := id h
  intro a1 a2
  have hw := hT.w
  have g4 := hw.no6
  have hi7 : F7_within a2 1 99 m = zb (zwi a2 1 99) := z7_in
  have hi8 : ∀ m', F8_in a2.toInt64 1 99 m' = zb (zwi a2 1 99) := fun m' => z8_in 1 99 rfl rfl
  cases e1 : zin a1 T.s.no with
  | false =>
    have e7 : F7_weigh a1 a2 m = (-1, m) := by unfold F7_weigh; rw [z7_hasOne hw h7.g, e1]; rfl
    rw [e7]
    have e8 : F8_weigh a1 a2 m = (-1, m) := by unfold F8_weigh; rw [z8_isOne hw h8.e, e1]; rfl
    rw [e8]
    refine ⟨?_, rfl, h⟩
    unfold D8_weigh
    rw [z8_isOne hw h8.e, e1]
    exact fun q => absurd rfl q
  | true =>
    obtain ⟨b, hb, rfl⟩ := zin_t e1 (by omega)
    cases e2 : zwi a2 1 99 with
    | false =>
      have e7 : F7_weigh (nI b) a2 m = (-1, m) := by unfold F7_weigh; rw [z7_hasOne hw h7.g, e1, hi7, e2]; rfl
      rw [e7]
      have e8 : F8_weigh (nI b) a2 m = (-1, m) := by unfold F8_weigh; rw [z8_isOne hw h8.e, e1, hi8, e2]; rfl
      rw [e8]
      refine ⟨?_, rfl, h⟩
      unfold D8_weigh
      rw [z8_isOne hw h8.e, hi8, e2]
      exact fun _ q => absurd rfl q
    | true =>
      obtain ⟨v, hv1, hv2, rfl⟩ := zwi_t (lo := 1) (hi := 99) e2 (by omega)
      have e7 : F7_weigh (nI b) (nI v) m = (nI (T.P.wt b), ax_up m 7 b (nI v)) := by
        unfold F7_weigh; rw [z7_hasOne hw h7.g, e1, hi7, e2, z7_weight hw h7.g hb, z_put (by omega) (by omega)]; rfl
      rw [e7]
      have h8' : z8 (ax_up m 7 b (nI v)) T := h8.keep (fun c hc => z_upr (by omega))
      have h7' : z7 (ax_up m 7 b (nI v)) (T.setP (T.P.set 4 b v)) := h7.now (fun c _ _ _ => z_upr (by omega)) (zG.set4 h7.g)
      have e8 : F8_weigh (nI b) (nI v) (ax_up m 7 b (nI v)) = (nI (T.P.wt b), ax_up (ax_up m 7 b (nI v)) 75 (4 * b + 1) (nI v)) := by
        unfold F8_weigh; rw [z8_isOne hw h8'.e, e1, hi8, e2, show ((4 : Int32) * nI b + 1) = nI (4 * b + 1) by rw [z_lit 4, z_lit 1, pk_mul, nI_add], z_ncl (by omega), h8'.q.wt hb]; rfl
      rw [e8]
      refine ⟨?_, rfl, ?_⟩
      · unfold D8_weigh
        exact fun _ _ => ⟨z8_v4 (c := 1) hw hb (by omega), z8_v4 (c := 1) hw hb (by omega)⟩
      · dsimp only
        refine zI.step (hT.setP (zV.set4 hT.v ⟨hv1, hv2⟩) hT.cr) h7' (fun c hc => z_upr (by omega)) ?_
        exact h8'.now hw (fun k _ => by rw [z_upr (by omega)]) (fun c _ _ _ => z_upr (by omega)) (fun k _ _ => by rw [z_up, if_neg (by omega)]) (zQ.set4 hw h8'.q hb)
theorem zok11 {m : ax_M} (h : zI m) : OK11 zI m := by
  obtain ⟨T, hT, h7, h8⟩ := id h
  intro a1 a2 a3
  have hw := hT.w
  have g4 := hw.no6
  have g5 := hw.nb4
  cases e1 : zin a1 T.s.no && zin a2 T.s.nb && zin a3 T.s.nb with
  | false =>
    have e7 : F7_send a1 a2 a3 m = (-1, m) := by
      unfold F7_send; rw [z7_hasOne hw h7.g, z7_hasBank hw h7.g, z7_hasBank hw h7.g]
      revert e1
      cases zin a1 T.s.no <;> cases zin a2 T.s.nb <;> cases zin a3 T.s.nb <;> intro e1 <;> first | rfl | cases e1
    rw [e7]
    have e8 : F8_send a1 a2 a3 m = (-1, m) := by
      unfold F8_send; rw [z8_isOne hw h8.e, z8_isBank hw h8.e, z8_isBank hw h8.e]
      revert e1
      cases zin a1 T.s.no <;> cases zin a2 T.s.nb <;> cases zin a3 T.s.nb <;> intro e1 <;> first | rfl | cases e1
    rw [e8]
    refine ⟨?_, rfl, h⟩
    unfold D8_send
    rw [z8_isOne hw h8.e, z8_isBank hw h8.e, z8_isBank hw h8.e, zb_n, zb_n, zb_n]
    intro q1 q2 q3
    rw [q1, q2, q3] at e1
    cases e1
  | true =>
    simp only [Bool.and_eq_true] at e1
    obtain ⟨⟨e1, e2⟩, e3⟩ := e1
    obtain ⟨p, hp, rfl⟩ := zin_t e1 (by omega)
    obtain ⟨k, hk, rfl⟩ := zin_t e2 (by omega)
    obtain ⟨l, hl, rfl⟩ := zin_t e3 (by omega)
    have e7 : F7_send (nI p) (nI k) (nI l) m = (nI (T.P.bk p), ax_up (ax_up m 8 p (nI k)) 9 p (nI l)) := by
      unfold F7_send; rw [z7_hasOne hw h7.g, z7_hasBank hw h7.g, z7_hasBank hw h7.g, e1, e2, e3, z7_bank hw h7.g hp, z_put (by omega) (by omega), z_put (by omega) (by omega)]; rfl
    rw [e7]
    have h8' : z8 (ax_up (ax_up m 8 p (nI k)) 9 p (nI l)) T := h8.keep (fun c hc => by rw [z_upr (by omega), z_upr (by omega)])
    have h7' : z7 (ax_up (ax_up m 8 p (nI k)) 9 p (nI l)) (T.setP ((T.P.set 5 p k).set 6 p l)) := h7.now (fun c _ _ _ => by rw [z_upr (by omega), z_upr (by omega)]) (zG.set6 (zG.set5 h7.g))
    have c2 : Int32.toNatClampNeg ((4 : Int32) * nI p + 2) = 4 * p + 2 := by rw [z_lit 4, z_lit 2, pk_mul, nI_add, z_ncl (by omega)]
    have c3 : Int32.toNatClampNeg ((4 : Int32) * nI p + 3) = 4 * p + 3 := by rw [z_lit 4, z_lit 3, pk_mul, nI_add, z_ncl (by omega)]
    have e8 : F8_send (nI p) (nI k) (nI l) (ax_up (ax_up m 8 p (nI k)) 9 p (nI l)) = (nI (T.P.bk p), ax_up (ax_up (ax_up (ax_up m 8 p (nI k)) 9 p (nI l)) 75 (4 * p + 2) (nI k)) 75 (4 * p + 3) (nI l)) := by
      unfold F8_send K8_send_60; rw [z8_isOne hw h8'.e, z8_isBank hw h8'.e, z8_isBank hw h8'.e, e1, e2, e3, c2, c3, h8'.q.bk hp]; rfl
    rw [e8]
    refine ⟨?_, rfl, ?_⟩
    · unfold D8_send
      exact fun _ _ _ => ⟨z8_v4 (c := 2) hw hp (by omega), z8_v4 (c := 2) hw hp (by omega), z8_v4 (c := 3) hw hp (by omega)⟩
    · dsimp only
      refine zI.step (hT.setP (zV.set6 (zV.set5 hT.v hk) hl) hT.cr) h7' (fun c hc => by rw [z_upr (by omega), z_upr (by omega)]) ?_
      exact h8'.now hw (fun k _ => by rw [z_upr (by omega), z_upr (by omega)]) (fun c _ _ _ => by rw [z_upr (by omega), z_upr (by omega)]) (fun k _ _ => by rw [z_up, if_neg (by omega), z_up, if_neg (by omega)]) (zQ.set6 hw (zQ.set5 hw h8'.q hp) hp)
