/-! PURE: calls that only tell, or set one thing -/
theorem z7.g {m : ax_M} {T : zT} (h : z7 m T) : zG m 1 T.s T.P := h.1
theorem z7.kp {m : ax_M} {T : zT} (h : z7 m T) {k : Nat} (hk : k < 2) : m 38 k = zb (T.kp k) := h.2.1 k hk
theorem z7.im {m : ax_M} {T : zT} (h : z7 m T) {k : Nat} (hk : k < 2) (hh : T.kp k = true) : zG m (20 + 9 * k) T.s (T.im k) := h.2.2.1 k hk hh
theorem z7.dn {m : ax_M} {T : zT} (h : z7 m T) : m 39 1 = nI T.dn := h.2.2.2.1.1
theorem z7.dy {m : ax_M} {T : zT} (h : z7 m T) {i : Nat} (hi : i < 3 * T.dn) : m 40 i = nI (T.dy i) := h.2.2.2.1.2 i hi
theorem z7.tn {m : ax_M} {T : zT} (h : z7 m T) : m 42 1 = nI T.tn := h.2.2.2.2.1.1
theorem z7.tp {m : ax_M} {T : zT} (h : z7 m T) {i : Nat} (hi : i < T.tn) : m 43 i = nI (T.tp i) := h.2.2.2.2.1.2 i hi
theorem z7.tf {m : ax_M} {T : zT} (h : z7 m T) : m 0 9 = nI T.tf := h.2.2.2.2.2.1.1
theorem z7.rf {m : ax_M} {T : zT} (h : z7 m T) : m 0 10 = nI T.rf := h.2.2.2.2.2.1.2
theorem z7.ln {m : ax_M} {T : zT} (h : z7 m T) {k : Nat} (hk : k < 4) : m 73 k = nI (T.ln k) := (h.2.2.2.2.2.2.1 k hk).1
theorem z7.sz {m : ax_M} {T : zT} (h : z7 m T) {k : Nat} (hk : k < 4) : m 72 k = nI (T.sz k) := (h.2.2.2.2.2.2.1 k hk).2
theorem z7.ce {m : ax_M} {T : zT} (h : z7 m T) {i : Nat} (hi : i < 160) : m 71 i = T.ce i := h.2.2.2.2.2.2.2.1 i hi
theorem z7.n {m : ax_M} {T : zT} (h : z7 m T) : zN m := h.2.2.2.2.2.2.2.2
theorem z8.e {m : ax_M} {T : zT} (h : z8 m T) : zE m T.s := h.1.1
theorem z8.q {m : ax_M} {T : zT} (h : z8 m T) : zQ m 0 T.s T.P := h.1.2
theorem z8.kp {m : ax_M} {T : zT} (h : z8 m T) {k : Nat} (hk : k < 2) : m 93 k = zb (T.kp k) := h.2.1 k hk
theorem z8.im {m : ax_M} {T : zT} (h : z8 m T) {k : Nat} (hk : k < 2) (hh : T.kp k = true) : zQ m (33 * (k + 1)) T.s (T.im k) := h.2.2.1 k hk hh
theorem z8.dn {m : ax_M} {T : zT} (h : z8 m T) : m 74 7 = nI T.dn := h.2.2.2.1.1
theorem z8.dy {m : ax_M} {T : zT} (h : z8 m T) {i : Nat} (hi : i < 3 * T.dn) : m 77 i = nI (T.dy i) := h.2.2.2.1.2 i hi
theorem z8.tn {m : ax_M} {T : zT} (h : z8 m T) : m 74 22 = nI T.tn := h.2.2.2.2.1.1
theorem z8.tp {m : ax_M} {T : zT} (h : z8 m T) {i : Nat} (hi : i < T.tn) : m 81 i = nI (T.tp i) := h.2.2.2.2.1.2 i hi
theorem z8.tf {m : ax_M} {T : zT} (h : z8 m T) : m 74 23 = nI T.tf := h.2.2.2.2.2.1.1
theorem z8.rf {m : ax_M} {T : zT} (h : z8 m T) : m 74 51 = nI T.rf := h.2.2.2.2.2.1.2
theorem z8.ln {m : ax_M} {T : zT} (h : z8 m T) {k : Nat} (hk : k < 4) : m 94 k = zLane (T.ln k) := (h.2.2.2.2.2.2.1 k hk).1
theorem z8.sz {m : ax_M} {T : zT} (h : z8 m T) {k : Nat} (hk : k < 4) : m 95 k = nI (T.sz k) := (h.2.2.2.2.2.2.1 k hk).2
theorem z8.ce {m : ax_M} {T : zT} (h : z8 m T) {i : Nat} (hi : i < 160) : m 96 i = T.ce i := h.2.2.2.2.2.2.2.1 i hi
theorem z8.cu {m : ax_M} {T : zT} (h : z8 m T) {i : Nat} (hi : i < 12) : m 82 i = mI 82 i := h.2.2.2.2.2.2.2.2.1 i hi
theorem z8.le {m : ax_M} {T : zT} (h : z8 m T) {i : Nat} (hi : i < 54) : m 83 i = mI 83 i := h.2.2.2.2.2.2.2.2.2 i hi
theorem zWF.w {T : zT} (h : zWF T) : zW T.s := h.1
theorem zWF.v {T : zT} (h : zWF T) : zV T.s T.P := h.2.1
theorem zWF.cr {T : zT} (h : zWF T) : T.P.cr ≤ 999 := h.2.2.1
theorem zWF.im {T : zT} (h : zWF T) {k : Nat} (hk : k < 2) (hh : T.kp k = true) : zV T.s (T.im k) ∧ (T.im k).cr ≤ 999 := h.2.2.2.1 k hk hh
theorem zWF.day {T : zT} (h : zWF T) : zDay T.s T.dn T.dy := h.2.2.2.2.1
theorem zWF.tape {T : zT} (h : zWF T) : zTape T.tn T.tp := h.2.2.2.2.2.1
theorem zWF.f {T : zT} (h : zWF T) : T.tf ≤ 6 ∧ T.rf ≤ 3 := h.2.2.2.2.2.2.1
theorem zWF.sh {T : zT} (h : zWF T) {k : Nat} (hk : k < 4) : T.ln k ≤ 3 ∧ T.sz k ≤ 40 := h.2.2.2.2.2.2.2 k hk
theorem zWF.setP {T : zT} {P : zP} (h : zWF T) (hv : zV T.s P) (hc : P.cr ≤ 999) : zWF (T.setP P) := ⟨h.1, hv, hc, h.2.2.2.1, h.2.2.2.2.1, h.2.2.2.2.2.1, h.2.2.2.2.2.2.1, h.2.2.2.2.2.2.2⟩
section ZD
variable {m : ax_M}
theorem zok3 (h : zI m) : OK3 zI m := by
  obtain ⟨T, hT, h7, h8⟩ := id h
  refine ⟨?_, h⟩
  show m 0 9 = m 74 23
  rw [h7.tf, h8.tf]
theorem zok35 (h : zI m) : OK35 zI m := by
  obtain ⟨T, hT, h7, h8⟩ := id h
  refine ⟨?_, h⟩
  show m 0 10 = m 74 51
  rw [h7.rf, h8.rf]
theorem zok4 (h : zI m) : OK4 zI m := by
  obtain ⟨T, hT, h7, h8⟩ := id h
  intro a1
  refine ⟨?_, h⟩
  unfold F7_rule F8_rule
  rw [h7.g.nb, h7.g.ng, h7.g.no, h7.g.sw, h7.g.cr, h8.e.nb, h8.e.ng, h8.e.no, h8.e.sw, z_lit 32, z_ncl (by omega), h8.q.cr]
theorem z_lt3 {a : Int32} (h : zwi a 0 2 = true) : a = 0 ∨ a = 1 ∨ a = 2 := by
  obtain ⟨i, h1, h2, rfl⟩ := zwi_t (lo := 0) (hi := 2) h (by omega)
  have : i = 0 ∨ i = 1 ∨ i = 2 := by omega
  rcases this with rfl | rfl | rfl
  · exact Or.inl rfl
  · exact Or.inr (Or.inl rfl)
  · exact Or.inr (Or.inr rfl)
theorem z_nlt3 {a : Int32} (h : zwi a 0 2 = false) : a ≠ 0 ∧ a ≠ 1 ∧ a ≠ 2 := by
  refine ⟨?_, ?_, ?_⟩ <;> (rintro rfl; exact absurd h (by decide))
theorem z_lt4 {a : Int32} (h : zwi a 0 3 = true) : a = 0 ∨ a = 1 ∨ a = 2 ∨ a = 3 := by
  obtain ⟨i, h1, h2, rfl⟩ := zwi_t (lo := 0) (hi := 3) h (by omega)
  have : i = 0 ∨ i = 1 ∨ i = 2 ∨ i = 3 := by omega
  rcases this with rfl | rfl | rfl | rfl
  · exact Or.inl rfl
  · exact Or.inr (Or.inl rfl)
  · exact Or.inr (Or.inr (Or.inl rfl))
  · exact Or.inr (Or.inr (Or.inr rfl))
theorem z_nlt4 {a : Int32} (h : zwi a 0 3 = false) : a ≠ 0 ∧ a ≠ 1 ∧ a ≠ 2 ∧ a ≠ 3 := by
  refine ⟨?_, ?_, ?_, ?_⟩ <;> (rintro rfl; exact absurd h (by decide))
theorem zok5 (h : zI m) : OK5 zI m := by
  obtain ⟨T, hT, h7, h8⟩ := id h
  intro a1 a2
  have hw := hT.w
  have g4 := hw.ng4
  have hin : F8_in a2.toInt64 0 2 m = zb (zwi a2 0 2) := z8_in 0 2 rfl rfl
  refine ⟨?_, ?_, h⟩
  · unfold D8_bridge
    rw [z8_isBridge hw h8.e, hin, zb_n, zb_n]
    intro e1 e2
    obtain ⟨b, hb, rfl⟩ := zin_t e1 (by omega)
    refine ⟨fun _ => z8_vplay hw hb, fun e => ?_⟩
    rcases z_lt3 e2 with rfl | rfl | rfl
    · rw [z_lit 2, z_lit 0, pk_mul, nI_add]; exact z_vp (by omega) (by omega)
    · rw [z_lit 2, z_lit 1, pk_mul, nI_add]; exact z_vp (by omega) (by omega)
    · exact absurd rfl e
  · unfold F7_bridge F8_bridge
    rw [z7_hasBridge hw h7.g, z8_isBridge hw h8.e, hin]
    cases e1 : zin a1 T.s.ng with
    | false => rfl
    | true =>
      obtain ⟨b, hb, rfl⟩ := zin_t e1 (by omega)
      cases e2 : zwi a2 0 2 with
      | false =>
        obtain ⟨n0, n1, n2⟩ := z_nlt3 e2
        rw [if_neg n0, if_neg n1, if_neg n2]; rfl
      | true =>
        rcases z_lt3 e2 with rfl | rfl | rfl
        · rw [z7_first hw h7.g hb, show ((2 : Int32) * nI b + 0) = nI (2 * b) by rw [z_lit 2, z_lit 0, pk_mul, nI_add]; rfl, z_ncl (by omega), h8.e.fs hb]; rfl
        · rw [z7_second hw h7.g hb, z8_second hw h8.e hb]; rfl
        · rw [z7_play hw h7.g hb, z8_play hw h8.q hb]; rfl
theorem zok6 (h : zI m) : OK6 zI m := by
  obtain ⟨T, hT, h7, h8⟩ := id h
  intro a1 a2
  have hw := hT.w
  have g4 := hw.no6
  have hin : F8_in a2.toInt64 0 3 m = zb (zwi a2 0 3) := z8_in 0 3 rfl rfl
  refine ⟨?_, ?_, h⟩
  · unfold D8_one
    rw [z8_isOne hw h8.e, hin, zb_n, zb_n]
    intro e1 e2
    obtain ⟨b, hb, rfl⟩ := zin_t e1 (by omega)
    obtain ⟨c, _, hc, rfl⟩ := zwi_t (lo := 0) (hi := 3) e2 (by omega)
    exact z8_v4 hw hb hc
  · unfold F7_one F8_one
    rw [z7_hasOne hw h7.g, z8_isOne hw h8.e, hin]
    cases e1 : zin a1 T.s.no with
    | false => rfl
    | true =>
      obtain ⟨b, hb, rfl⟩ := zin_t e1 (by omega)
      cases e2 : zwi a2 0 3 with
      | false =>
        obtain ⟨n0, n1, n2, n3⟩ := z_nlt4 e2
        rw [if_neg n0, if_neg n1, if_neg n2, if_neg n3]; rfl
      | true =>
        rcases z_lt4 e2 with rfl | rfl | rfl | rfl
        · rw [z7_kind hw h7.g hb, show ((4 : Int32) * nI b + 0) = nI (4 * b) by rw [z_lit 4, z_lit 0, pk_mul, nI_add]; rfl, z_ncl (by omega), h8.q.kd hb]; rfl
        · rw [z7_weight hw h7.g hb, show ((4 : Int32) * nI b + 1) = nI (4 * b + 1) by rw [z_lit 4, z_lit 1, pk_mul, nI_add], z_ncl (by omega), h8.q.wt hb]; rfl
        · rw [z7_bank hw h7.g hb, show ((4 : Int32) * nI b + 2) = nI (4 * b + 2) by rw [z_lit 4, z_lit 2, pk_mul, nI_add], z_ncl (by omega), h8.q.bk hb]; rfl
        · rw [z7_goal hw h7.g hb, z8_goal hw h8.q hb]; rfl
theorem zok7 (h : zI m) : OK7 zI m := by
  obtain ⟨T, hT, h7, h8⟩ := id h
  intro a1
  have hw := hT.w
  have g4 := hw.nb4
  refine ⟨?_, ?_, h⟩
  · unfold D8_stones
    rw [z8_isBank hw h8.e, zb_n]
    intro e1
    obtain ⟨b, hb, rfl⟩ := zin_t e1 (by omega)
    exact z8_vstones (by omega)
  · unfold F7_stones F8_stones
    rw [z7_hasBank hw h7.g, z8_isBank hw h8.e]
    cases e1 : zin a1 T.s.nb with
    | false => rfl
    | true =>
      obtain ⟨b, hb, rfl⟩ := zin_t e1 (by omega)
      rw [z7_stones h7.g (by omega), z8_stones h8.q (by omega)]
theorem zok13 (h : zI m) : OK13 zI m := by
  obtain ⟨T, hT, h7, h8⟩ := id h
  intro a1 a2 a3 a4 a5
  have hw := hT.w
  have hi4 : F8_in a4.toInt64 0 3 m = zb (zwi a4 0 3) := z8_in 0 3 rfl rfl
  have hi5 : F8_in a5.toInt64 0 3 m = zb (zwi a5 0 3) := z8_in 0 3 rfl rfl
  refine ⟨?_, ?_, h⟩
  · unfold D8_can
    rw [z8_two hw h8.e, zb_n]
    intro e1 _ _
    obtain ⟨x, y, z, hx, hy, hz, hn, rfl, rfl, rfl⟩ := ztwo_t hw e1
    exact z8_dcan hw h8.e hx hy hz
  · unfold F7_can F8_can
    rw [z7_asked hw h7.g, z8_two hw h8.e, hi4, hi5]
    cases e1 : ztwo T.s a1 a2 a3 with
    | false => rfl
    | true =>
      obtain ⟨x, y, z, hx, hy, hz, hn, rfl, rfl, rfl⟩ := ztwo_t hw e1
      cases e4 : zwi a4 0 3 with
      | false => rfl
      | true =>
        cases e5 : zwi a5 0 3 with
        | false => rfl
        | true =>
          obtain ⟨i, _, hi, rfl⟩ := zwi_t (lo := 0) (hi := 3) e4 (by omega)
          obtain ⟨j, _, hj, rfl⟩ := zwi_t (lo := 0) (hi := 3) e5 (by omega)
          rw [z7_passes hw hT.v h7.g hx hy hz (by omega) (by omega), z8_can hw hT.v h8.e h8.q hx hy hz (by omega) (by omega), decide_eq_true hn]
          rfl
end ZD
