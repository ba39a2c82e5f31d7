/-! PURE: sheets -/
theorem z_b8 (x : Int32) : (x <<< (24 &&& (31 : Int32))) >>> (24 &&& (31 : Int32)) = (Int32.toInt8 x).toInt32 := by
  have e1 := pk_shl x (24 &&& (31 : Int32)) 24 (by decide)
  have e2 := pk_shr (x <<< (24 &&& (31 : Int32))) (24 &&& (31 : Int32)) 24 (by decide)
  rw [z_eq, e2, Int.shiftRight_eq_div_pow]
  generalize x <<< (24 &&& (31 : Int32)) = y at e1 e2
  have hx : x.toInt = if 2 * x.toBitVec.toNat < 4294967296 then (x.toBitVec.toNat : Int) else (x.toBitVec.toNat : Int) - 4294967296 := by
    show x.toBitVec.toInt = _
    rw [BitVec.toInt_eq_toNat_cond]; rfl
  have hy : y.toInt = if 2 * y.toBitVec.toNat < 4294967296 then (y.toBitVec.toNat : Int) else (y.toBitVec.toNat : Int) - 4294967296 := by
    show y.toBitVec.toInt = _
    rw [BitVec.toInt_eq_toNat_cond]; rfl
  have hb : (Int32.toInt8 x).toInt32.toInt = x.toInt.bmod 256 := by
    rw [show (Int32.toInt8 x).toInt32.toInt = (Int32.toInt8 x).toInt from Int8.toInt_toInt32 _]
    exact Int32.toInt_toInt8 x
  rw [hb, hy, hx, e1]
  have hl : x.toBitVec.toNat < 4294967296 := x.toBitVec.isLt
  generalize x.toBitVec.toNat = u at hl
  rw [Int.bmod_def]
  show (if 2 * (u * 16777216 % 4294967296) < 4294967296 then ((u * 16777216 % 4294967296 : Nat) : Int) else ((u * 16777216 % 4294967296 : Nat) : Int) - 4294967296) / 16777216 = if (if 2 * u < 4294967296 then (u : Int) else (u : Int) - 4294967296) % 256 < 128 then (if 2 * u < 4294967296 then (u : Int) else (u : Int) - 4294967296) % 256 else (if 2 * u < 4294967296 then (u : Int) else (u : Int) - 4294967296) % 256 - 256
  have h1 : u * 16777216 % 4294967296 = (u % 256) * 16777216 := by
    rw [show 4294967296 = 256 * 16777216 from rfl, Nat.mul_mod_mul_right]
  have h2 : (if 2 * u < 4294967296 then (u : Int) else (u : Int) - 4294967296) % 256 = ((u % 256 : Nat) : Int) := by
    split <;> omega
  rw [h1, h2]
  have h3 : u % 256 < 256 := Nat.mod_lt _ (by omega)
  generalize u % 256 = r at h3
  by_cases hr : r < 128
  · rw [if_pos (by omega), if_pos (by omega), show ((r * 16777216 : Nat) : Int) = (r : Int) * 16777216 by omega, Int.mul_ediv_cancel _ (by decide)]
  · rw [if_neg (by omega), if_neg (by omega), show ((r * 16777216 : Nat) : Int) - 4294967296 = ((r : Int) - 256) * 16777216 by omega, Int.mul_ediv_cancel _ (by decide)]
theorem z_b16 (x : Int32) : (x <<< (16 &&& (31 : Int32))) >>> (16 &&& (31 : Int32)) = (Int32.toInt16 x).toInt32 := by
  have e1 := pk_shl x (16 &&& (31 : Int32)) 16 (by decide)
  have e2 := pk_shr (x <<< (16 &&& (31 : Int32))) (16 &&& (31 : Int32)) 16 (by decide)
  rw [z_eq, e2, Int.shiftRight_eq_div_pow]
  generalize x <<< (16 &&& (31 : Int32)) = y at e1 e2
  have hx : x.toInt = if 2 * x.toBitVec.toNat < 4294967296 then (x.toBitVec.toNat : Int) else (x.toBitVec.toNat : Int) - 4294967296 := by
    show x.toBitVec.toInt = _
    rw [BitVec.toInt_eq_toNat_cond]; rfl
  have hy : y.toInt = if 2 * y.toBitVec.toNat < 4294967296 then (y.toBitVec.toNat : Int) else (y.toBitVec.toNat : Int) - 4294967296 := by
    show y.toBitVec.toInt = _
    rw [BitVec.toInt_eq_toNat_cond]; rfl
  have hb : (Int32.toInt16 x).toInt32.toInt = x.toInt.bmod 65536 := by
    rw [show (Int32.toInt16 x).toInt32.toInt = (Int32.toInt16 x).toInt from Int16.toInt_toInt32 _]
    exact Int32.toInt_toInt16 x
  rw [hb, hy, hx, e1]
  have hl : x.toBitVec.toNat < 4294967296 := x.toBitVec.isLt
  generalize x.toBitVec.toNat = u at hl
  rw [Int.bmod_def]
  show (if 2 * (u * 65536 % 4294967296) < 4294967296 then ((u * 65536 % 4294967296 : Nat) : Int) else ((u * 65536 % 4294967296 : Nat) : Int) - 4294967296) / 65536 = if (if 2 * u < 4294967296 then (u : Int) else (u : Int) - 4294967296) % 65536 < 32768 then (if 2 * u < 4294967296 then (u : Int) else (u : Int) - 4294967296) % 65536 else (if 2 * u < 4294967296 then (u : Int) else (u : Int) - 4294967296) % 65536 - 65536
  have h1 : u * 65536 % 4294967296 = (u % 65536) * 65536 := by
    rw [show 4294967296 = 65536 * 65536 from rfl, Nat.mul_mod_mul_right]
  have h2 : (if 2 * u < 4294967296 then (u : Int) else (u : Int) - 4294967296) % 65536 = ((u % 65536 : Nat) : Int) := by
    split <;> omega
  rw [h1, h2]
  have h3 : u % 65536 < 65536 := Nat.mod_lt _ (by omega)
  generalize u % 65536 = r at h3
  by_cases hr : r < 32768
  · rw [if_pos (by omega), if_pos (by omega), show ((r * 65536 : Nat) : Int) = (r : Int) * 65536 by omega, Int.mul_ediv_cancel _ (by decide)]
  · rw [if_neg (by omega), if_neg (by omega), show ((r * 65536 : Nat) : Int) - 4294967296 = ((r : Int) - 65536) * 65536 by omega, Int.mul_ediv_cancel _ (by decide)]
theorem z_neq1 {n : Nat} (h : n < 1000000) : (nI n - 1 : Int32) = if n = 0 then -1 else nI (n - 1) := by
  by_cases e : n = 0
  · subst e; rfl
  · rw [if_neg e, z_lit 1, pk_sub (by omega)]
theorem z7_lane {m : ax_M} {T : zT} {k : Nat} (h7 : z7 m T) (hT : zWF T) (hk : k < 4) : F5_laneOf (nI k) m = if T.ln k = 0 then -1 else nI (T.ln k - 1) := by
  have := (hT.sh hk).1
  unfold F5_laneOf
  rw [z_at (by omega) (by omega), h7.ln hk, z_neq1 (by omega)]
theorem z7_size {m : ax_M} {T : zT} {k : Nat} (h7 : z7 m T) (hk : k < 4) : F5_sizeOf (nI k) m = nI (T.sz k) := by
  unfold F5_sizeOf
  rw [z_at (by omega) (by omega), h7.sz hk]
theorem z7_renew {k : Nat} {x y : Int32} (hk : k < 4) : ∀ (n i : Nat) (m : ax_M), i ≤ 40 → 40 - i < n → E5_renew_23 n (nI k) x y (nI i) m ∧ (∀ c, c ≠ 71 → (L5_renew_23 n (nI k) x y (nI i) m).2 c = m c) ∧ (∀ j, (L5_renew_23 n (nI k) x y (nI i) m).2 71 j = if 40 * k + i ≤ j ∧ j < 40 * k + 40 then 0 else m 71 j) := by
  intro n
  induction n with
  | zero => intro i m _ h; omega
  | succ n ih =>
    intro i m hi hn
    unfold L5_renew_23 E5_renew_23
    by_cases e : i = 40
    · subst e
      rw [if_pos (show (40 : Int32) ≤ nI 40 by decide)]
      exact ⟨fun q => absurd (show (40 : Int32) ≤ nI 40 by decide) q, fun c _ => rfl, fun j => by rw [if_neg (by omega)]⟩
    · have hlt : ¬ (40 : Int32) ≤ nI i := fun q => by have := (z_nle (a := 40) (by omega) (by omega)).mp q; omega
      have e1 : F7_put 71 160 (nI k * 40 + nI i) 0 m = ax_up m 71 (40 * k + i) 0 := by
        rw [show (nI k * 40 + nI i : Int32) = nI (40 * k + i) by rw [z_lit 40, pk_mul, nI_add, Nat.mul_comm]]
        exact z_put (by omega) (by omega)
      rw [if_neg hlt, e1, z_lit 1, nI_add]
      obtain ⟨i1, i2, i3⟩ := ih (i + 1) (ax_up m 71 (40 * k + i) 0) (by omega) (by omega)
      refine ⟨fun _ => i1, fun c hc => by rw [i2 c hc, z_upr hc], fun j => ?_⟩
      rw [i3 j, z_up]
      by_cases e2 : j = 40 * k + i
      · rw [if_neg (by omega), if_pos ⟨rfl, e2⟩, if_pos (by omega)]
      · rw [if_neg (show ¬ (71 = 71 ∧ j = 40 * k + i) by omega)]
        by_cases e3 : 40 * k + (i + 1) ≤ j ∧ j < 40 * k + 40
        · rw [if_pos e3, if_pos (by omega)]
        · rw [if_neg e3, if_neg (by omega)]
theorem z8_renew {k : Nat} {x y : Int32} (hk : k < 4) : ∀ (n i : Nat) (m : ax_M), i ≤ 40 → 40 - i < n → E8_sheet_56 n (nI k) x y (nI i) m ∧ (∀ c, c ≠ 96 → (L8_sheet_56 n (nI k) x y (nI i) m).2 c = m c) ∧ (∀ j, (L8_sheet_56 n (nI k) x y (nI i) m).2 96 j = if 40 * k + i ≤ j ∧ j < 40 * k + 40 then 0 else m 96 j) := by
  intro n
  induction n with
  | zero => intro i m _ h; omega
  | succ n ih =>
    intro i m hi hn
    unfold L8_sheet_56 E8_sheet_56
    by_cases e : i = 40
    · subst e
      rw [if_pos (show (40 : Int32) ≤ nI 40 by decide)]
      exact ⟨fun q => absurd (show (40 : Int32) ≤ nI 40 by decide) q, fun c _ => rfl, fun j => by rw [if_neg (by omega)]⟩
    · have hlt : ¬ (40 : Int32) ≤ nI i := fun q => by have := (z_nle (a := 40) (by omega) (by omega)).mp q; omega
      have e1 : (40 * nI k + nI i : Int32) = nI (40 * k + i) := by rw [z_lit 40, pk_mul, nI_add]
      rw [if_neg hlt, e1, z_ncl (by omega), z_lit 1, nI_add]
      obtain ⟨i1, i2, i3⟩ := ih (i + 1) (ax_up m 96 (40 * k + i) 0) (by omega) (by omega)
      refine ⟨fun _ => ⟨z_vp (by omega) (by omega), i1⟩, fun c hc => by rw [i2 c hc, z_upr hc], fun j => ?_⟩
      rw [show (0 : Int32) = nI 0 from rfl] at i3 ⊢
      rw [i3 j, z_up]
      by_cases e2 : j = 40 * k + i
      · rw [if_neg (by omega), if_pos ⟨rfl, e2⟩, if_pos (by omega)]
      · rw [if_neg (show ¬ (96 = 96 ∧ j = 40 * k + i) by omega)]
        by_cases e3 : 40 * k + (i + 1) ≤ j ∧ j < 40 * k + 40
        · rw [if_pos e3, if_pos (by omega)]
        · rw [if_neg e3, if_neg (by omega)]
def zshN (T : zT) (k l n : Nat) : zT := T.setSh (fun x => if x = k then l + 1 else T.ln x) (fun x => if x = k then n else T.sz x) (fun j => if 40 * k + 0 ≤ j ∧ j < 40 * k + 40 then 0 else T.ce j)
theorem zok32 {m : ax_M} (h : zI m) : OK32 zI m := by
  obtain ⟨T, hT, h7, h8⟩ := id h
  intro a1 a2 a3
  have i71 : F7_within a1 0 3 m = zb (zwi a1 0 3) := z7_in
  have i72 : F7_within a2 0 2 m = zb (zwi a2 0 2) := z7_in
  have i81 : ∀ m', F8_in (Int32.toInt64 a1) 0 3 m' = zb (zwi a1 0 3) := fun m' => z8_in 0 3 rfl rfl
  have i82 : ∀ m', F8_in (Int32.toInt64 a2) 0 2 m' = zb (zwi a2 0 2) := fun m' => z8_in 0 2 rfl rfl
  cases e1 : zwi a1 0 3 with
  | false =>
    have e7 : F7_sheet a1 a2 a3 m = (-1, m) := by unfold F7_sheet; rw [i71, e1]; rfl
    have e8 : F8_sheet a1 a2 a3 m = (-1, m) := by unfold F8_sheet; rw [i81, e1]; rfl
    rw [e7, e8]
    refine ⟨?_, ?_, rfl, h⟩
    · unfold D7_sheet; rw [i71, e1]; exact fun q => absurd rfl q
    · unfold D8_sheet; rw [i81, e1]; exact fun q => absurd rfl q
  | true =>
    cases e2 : zwi a2 0 2 with
    | false =>
      have e7 : F7_sheet a1 a2 a3 m = (-1, m) := by unfold F7_sheet; rw [i71, e1, i72, e2]; rfl
      have e8 : F8_sheet a1 a2 a3 m = (-1, m) := by unfold F8_sheet; rw [i81, e1, i82, e2]; rfl
      rw [e7, e8]
      refine ⟨?_, ?_, rfl, h⟩
      · unfold D7_sheet; rw [i72, e2]; exact fun _ q => absurd rfl q
      · unfold D8_sheet; rw [i82, e2]; exact fun _ q => absurd rfl q
    | true =>
      by_cases e3 : a3 ≤ 40
      · by_cases e4 : 0 ≤ a3
        · have e5 : zwi a3 0 40 = true := by
            unfold zwi
            rw [z_le] at e3 e4
            have x1 : (0 : Int32).toInt = 0 := rfl
            have x2 : (40 : Int32).toInt = 40 := rfl
            exact decide_eq_true (by omega)
          obtain ⟨k, _, hk, rfl⟩ := zwi_t (lo := 0) (hi := 3) e1 (by omega)
          obtain ⟨l, _, hl, rfl⟩ := zwi_t (lo := 0) (hi := 2) e2 (by omega)
          obtain ⟨n, _, hn, rfl⟩ := zwi_t (lo := 0) (hi := 40) e5 (by omega)
          have p1 : F7_put 73 4 (nI k) (nI l + 1) m = ax_up m 73 k (nI (l + 1)) := by rw [z_put (by omega) (by omega), z_lit 1, nI_add]
          have p2 : F7_put 72 4 (nI k) (nI n) (ax_up m 73 k (nI (l + 1))) = ax_up (ax_up m 73 k (nI (l + 1))) 72 k (nI n) := z_put (by omega) (by omega)
          have hf : F5_renew (nI k) (nI l) (nI n) m = (L5_renew_23 64 (nI k) (nI l) (nI n) (nI 0) (ax_up (ax_up m 73 k (nI (l + 1))) 72 k (nI n))).2 := by
            unfold F5_renew; rw [p1, p2]; rfl
          obtain ⟨r1, r2, r3⟩ := z7_renew (k := k) (x := nI l) (y := nI n) (by omega) 64 0 (ax_up (ax_up m 73 k (nI (l + 1))) 72 k (nI n)) (by omega) (by omega)
          rw [← hf] at r2 r3
          have e7 : F7_sheet (nI k) (nI l) (nI n) m = (1, F5_renew (nI k) (nI l) (nI n) m) := by
            unfold F7_sheet; rw [i71, e1, i72, e2, if_pos e3, if_pos e4]; rfl
          refine ⟨fun _ _ _ _ => by unfold D5_renew; rw [p1, p2]; exact r1, ?_⟩
          rw [e7]
          dsimp only
          have h8' : z8 (F5_renew (nI k) (nI l) (nI n) m) T := h8.keep (fun c hc => by rw [r2 c (by omega), z_upr (by omega), z_upr (by omega)])
          have h7' : z7 (F5_renew (nI k) (nI l) (nI n) m) (zshN T k l n) := by
            refine h7.shs (fun c _ _ hc => by rw [r2 c (by omega), z_upr (by omega), z_upr (by omega)]) (fun x hx => ?_) (fun i hi => ?_)
            · rw [r2 73 (by omega), r2 72 (by omega), z_upr (show (73 : Nat) ≠ 72 by omega), z_up, z_up, z_upr (show (72 : Nat) ≠ 73 by omega)]
              by_cases e : x = k
              · subst e; simp
              · simp only [e, and_false, if_false]; exact ⟨h7.ln hx, h7.sz hx⟩
            · rw [r3 i, z_upr (by omega), z_upr (by omega), h7.ce hi]
          clear hf r1 r2 r3
          generalize F5_renew (nI k) (nI l) (nI n) m = m1 at h8' h7'
          have c0 : Int32.toNatClampNeg (nI k) = k := z_ncl (by omega)
          obtain ⟨w1, w2, w3⟩ := z8_renew (k := k) (x := nI l) (y := nI n) (by omega) 64 0 (ax_up (ax_up m1 94 k (nI l)) 95 k (nI n)) (by omega) (by omega)
          have e8 : F8_sheet (nI k) (nI l) (nI n) m1 = (1, (L8_sheet_56 64 (nI k) (nI l) (nI n) (nI 0) (ax_up (ax_up m1 94 k (nI l)) 95 k (nI n))).2) := by
            unfold F8_sheet K8_sheet_53; rw [i81, e1, i82, e2, if_pos e3, if_pos e4, c0]; rfl
          rw [e8]
          refine ⟨?_, rfl, ?_⟩
          · unfold D8_sheet HK8_sheet_53
            rw [c0]
            exact fun _ _ _ _ => ⟨z_vp (by omega) (by omega), z_vp (by omega) (by omega), w1⟩
          · dsimp only
            refine zI.step (T' := zshN T k l n) (hT.setSh (fun x hx => ?_)) h7' (fun c hc => by rw [w2 c (by omega), z_upr (by omega), z_upr (by omega)]) ?_
            · by_cases e : x = k
              · rw [if_pos e, if_pos e]; omega
              · rw [if_neg e, if_neg e]; exact hT.sh hx
            · refine h8'.shs (fun k _ _ => by rw [w2 74 (by omega), z_upr (by omega), z_upr (by omega)]) (fun c _ _ _ hc => by rw [w2 c (by omega), z_upr (by omega), z_upr (by omega)]) (fun x hx => ?_) (fun i hi => ?_)
              · rw [w2 94 (by omega), w2 95 (by omega), z_upr (show (94 : Nat) ≠ 95 by omega), z_up, z_up, z_upr (show (95 : Nat) ≠ 94 by omega)]
                by_cases e : x = k
                · subst e
                  simp [zLane]
                · simp only [e, and_false, if_false]; exact ⟨h8'.ln hx, h8'.sz hx⟩
              · rw [w3 i, z_upr (by omega), z_upr (by omega), h8'.ce hi]
        · have e7 : F7_sheet a1 a2 a3 m = (-14, m) := by unfold F7_sheet; rw [i71, e1, i72, e2, if_pos e3, if_neg e4]; rfl
          have e8 : F8_sheet a1 a2 a3 m = (-14, m) := by unfold F8_sheet; rw [i81, e1, i82, e2, if_pos e3, if_neg e4]; rfl
          rw [e7, e8]
          exact ⟨fun _ _ _ q => absurd q e4, fun _ _ _ q => absurd q e4, rfl, h⟩
      · have e7 : F7_sheet a1 a2 a3 m = (-1, m) := by unfold F7_sheet; rw [i71, e1, i72, e2, if_neg e3]; rfl
        have e8 : F8_sheet a1 a2 a3 m = (-1, m) := by unfold F8_sheet; rw [i81, e1, i82, e2, if_neg e3]; rfl
        rw [e7, e8]
        exact ⟨fun _ _ q => absurd q e3, fun _ _ q => absurd q e3, rfl, h⟩
theorem zLane_n {n : Nat} (h : n ≤ 3) : zLane n = -4 ↔ n = 0 := by
  unfold zLane
  by_cases e : n = 0
  · rw [if_pos e]; exact ⟨fun _ => e, fun _ => rfl⟩
  · rw [if_neg e]
    constructor
    · intro q
      rcases (show n = 1 ∨ n = 2 ∨ n = 3 by omega) with rfl | rfl | rfl <;> exact absurd q (by decide)
    · exact fun q => absurd q e
theorem zok33 {m : ax_M} (h : zI m) : OK33 zI m := by
  obtain ⟨T, hT, h7, h8⟩ := id h
  intro a1 a2 a3
  have i71 : F7_within a1 0 3 m = zb (zwi a1 0 3) := z7_in
  have i81 : ∀ m', F8_in (Int32.toInt64 a1) 0 3 m' = zb (zwi a1 0 3) := fun m' => z8_in 0 3 rfl rfl
  cases e1 : zwi a1 0 3 with
  | false =>
    have e7 : F7_lay a1 a2 a3 m = (-1, m) := by unfold F7_lay; rw [i71, e1]; rfl
    have e8 : F8_lay a1 a2 a3 m = (-1, m) := by unfold F8_lay; rw [i81, e1]; rfl
    rw [e7, e8]
    refine ⟨?_, rfl, h⟩
    unfold D8_lay; rw [i81, e1]; exact fun q => absurd rfl q
  | true =>
    obtain ⟨k, _, hk, rfl⟩ := zwi_t (lo := 0) (hi := 3) e1 (by omega)
    obtain ⟨s1, s2⟩ := hT.sh (k := k) (by omega)
    have c0 : Int32.toNatClampNeg (nI k) = k := z_ncl (by omega)
    have hln := z7_lane h7 hT (k := k) (by omega)
    have hsz := z7_size h7 (k := k) (by omega)
    by_cases e2 : T.ln k = 0
    · have e7 : F7_lay (nI k) a2 a3 m = (-11, m) := by
        unfold F7_lay F5_faultAt; rw [i71, e1, hln, if_pos e2, if_neg (show ¬ (0 : Int32) ≤ -1 by decide)]; rfl
      have e8 : F8_lay (nI k) a2 a3 m = (-11, m) := by
        unfold F8_lay; rw [i81, e1, c0, h8.ln (by omega), e2]; rfl
      rw [e7, e8]
      refine ⟨?_, rfl, h⟩
      unfold D8_lay
      dsimp only
      rw [c0, h8.ln (by omega), e2]
      exact fun _ => ⟨z_vp (by omega) (by omega), fun q => absurd rfl q⟩
    · rw [if_neg e2] at hln
      have hl0 : (0 : Int32) ≤ nI (T.ln k - 1) := (z_nle (a := 0) (by omega) (by omega)).mpr (by omega)
      have hlz : ¬ zLane (T.ln k) = -4 := fun q => e2 ((zLane_n (by omega)).mp q)
      have i8 : ∀ m' : ax_M, m' 95 k = nI (T.sz k) → F8_in (Int32.toInt64 a2) 0 (Int32.toInt64 (m' 95 k - 1)) m' = zb (zin a2 (T.sz k)) := fun m' e => by rw [e]; exact z8_is (by omega)
      have ff : F5_faultAt (nI k) (F5_laneOf (nI k) m) a2 1 m = if zin a2 (T.sz k) = true then 0 else 2 := by
        unfold F5_faultAt
        rw [hln, hsz, if_pos hl0, if_pos rfl]
        have x1 : (nI (T.sz k) - 1).toInt = (T.sz k : Int) - 1 := by
          rw [z_sub, z_nti (by omega)]
          · rfl
          · rw [z_nti (by omega)]; show _ ≤ (T.sz k : Int) - 1; omega
          · rw [z_nti (by omega)]; show (T.sz k : Int) - 1 < _; omega
        have x0 : (0 : Int32).toInt = 0 := rfl
        by_cases q1 : a2 < 0
        · rw [if_pos q1, if_neg]
          intro q; rw [z_lt] at q1; have := of_decide_eq_true q; omega
        · rw [if_neg q1]
          by_cases q2 : a2 ≤ nI (T.sz k) - 1
          · rw [if_pos q2, if_pos]
            rw [z_lt] at q1; rw [z_le, x1] at q2
            exact decide_eq_true (by omega)
          · rw [if_neg q2, if_neg]
            intro q; rw [z_le, x1] at q2; have := of_decide_eq_true q; omega
      cases e3 : zin a2 (T.sz k) with
      | false =>
        have e7 : F7_lay (nI k) a2 a3 m = (-12, m) := by
          unfold F7_lay; rw [i71, e1, ff, e3]; rfl
        have e8 : F8_lay (nI k) a2 a3 m = (-12, m) := by
          unfold F8_lay; rw [i81, e1, c0, h8.ln (by omega), if_neg hlz, i8 m (h8.sz (by omega)), e3]; rfl
        rw [e7, e8]
        refine ⟨?_, rfl, h⟩
        unfold D8_lay
        dsimp only
        rw [c0, i8 m (h8.sz (by omega)), e3]
        exact fun _ => ⟨z_vp (by omega) (by omega), fun _ => ⟨z_vp (by omega) (by omega), fun q => absurd rfl q⟩⟩
      | true =>
        obtain ⟨i, hi, rfl⟩ := zin_t e3 (by omega)
        have x1 : (nI k * 40 + nI i : Int32) = nI (40 * k + i) := by rw [z_lit 40, pk_mul, nI_add, Nat.mul_comm]
        have x2 : Int32.toNatClampNeg (40 * nI k + nI i) = 40 * k + i := by rw [z_lit 40, pk_mul, nI_add, z_ncl (by omega)]
        have e7 : F7_lay (nI k) (nI i) a3 m = (1, ax_up m 71 (40 * k + i) (if T.ln k = 1 then a3.toInt8.toInt32 else if T.ln k = 2 then a3.toInt16.toInt32 else a3)) := by
          unfold F7_lay F5_setCell; rw [i71, e1, ff, e3, hln, x1, z_put (by omega) (by omega)]
          rcases (show T.ln k = 1 ∨ T.ln k = 2 ∨ T.ln k = 3 by omega) with e | e | e <;> rw [e] <;> rfl
        rw [e7]
        dsimp only
        have h8' : z8 (ax_up m 71 (40 * k + i) (if T.ln k = 1 then a3.toInt8.toInt32 else if T.ln k = 2 then a3.toInt16.toInt32 else a3)) T := h8.keep (fun c hc => z_upr (by omega))
        have h7' : z7 (ax_up m 71 (40 * k + i) (if T.ln k = 1 then a3.toInt8.toInt32 else if T.ln k = 2 then a3.toInt16.toInt32 else a3)) (T.setSh T.ln T.sz (fun j => if j = 40 * k + i then (if T.ln k = 1 then a3.toInt8.toInt32 else if T.ln k = 2 then a3.toInt16.toInt32 else a3) else T.ce j)) := by
          refine h7.shs (fun c _ _ hc => z_upr (by omega)) (fun x hx => ?_) (fun j hj => ?_)
          · rw [z_upr (by omega), z_upr (by omega)]; exact ⟨h7.ln hx, h7.sz hx⟩
          · rw [z_up, h7.ce hj]
            by_cases e : j = 40 * k + i
            · rw [if_pos ⟨rfl, e⟩, if_pos e]
            · rw [if_neg (fun q => e q.2), if_neg e]
        generalize hv : (if T.ln k = 1 then a3.toInt8.toInt32 else if T.ln k = 2 then a3.toInt16.toInt32 else a3) = v at h8' h7'
        generalize ax_up m 71 (40 * k + i) v = m1 at h8' h7'
        have e8 : F8_lay (nI k) (nI i) a3 m1 = (1, ax_up m1 96 (40 * k + i) v) := by
          unfold F8_lay K8_lay_100; rw [i81, e1, c0, h8'.ln (by omega), if_neg hlz, i8 m1 (h8'.sz (by omega)), e3, x2, z_b8, z_b16, ← hv]
          rcases (show T.ln k = 1 ∨ T.ln k = 2 ∨ T.ln k = 3 by omega) with e | e | e <;> rw [e] <;> rfl
        rw [e8]
        refine ⟨?_, rfl, ?_⟩
        · unfold D8_lay
          have : vp_in (40 * nI k + nI i) 160 := by rw [z_lit 40, pk_mul, nI_add]; exact z_vp (by omega) (by omega)
          exact fun _ => ⟨z_vp (by omega) (by omega), fun _ => ⟨z_vp (by omega) (by omega), fun _ => ⟨z_vp (by omega) (by omega), fun _ => z_vp (by omega) (by omega), this⟩⟩⟩
        · dsimp only
          refine zI.step (hT.setSh (fun x hx => hT.sh hx)) h7' (fun c hc => z_upr (by omega)) ?_
          refine h8'.shs (fun k _ _ => by rw [z_upr (by omega)]) (fun c _ _ _ hc => z_upr (by omega)) (fun x hx => ?_) (fun j hj => ?_)
          · rw [z_upr (by omega), z_upr (by omega)]; exact ⟨h8'.ln hx, h8'.sz hx⟩
          · rw [z_up, h8'.ce hj]
            by_cases e : j = 40 * k + i
            · rw [if_pos ⟨rfl, e⟩, if_pos e]
            · rw [if_neg (fun q => e q.2), if_neg e]
